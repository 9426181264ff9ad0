set_option maxRecDepth 100000 in
set_option maxHeartbeats 4000000 in
theorem k_X4_coinsInPurses_4 {p : Program} {l : Launch} {e : Env} {s : State} {m : MethodId} {args : Array Value} {below : List Frame} {meth : Method} {c : Code} {g : kG} (hX : Cok (p, l, e, { frames := 1, cells := 0, slots := 0, locals := 60 * 1 }, s, m, args, below, meth, c, cX4_coinsInPurses, 3, RX4, g, 1)) (hr : meth.sig.returnType = (some .int)) (N : Nat) (M : kMem) : ∀ (n : Nat) (a0 : Nat) (x1 : Int32) (x2 : Int32), GG (p, l, e, { frames := 1, cells := 0, slots := 0, locals := 60 * 1 }, s, m, args, below, meth, c, cX4_coinsInPurses, 3, RX4, g, 1) (fun b => MQ below (kQ g ((fun r : Int32 => (some (.int r), M)) b)) args s 0 0 (kZ g.2.2.1)) 0 0 (F_X4_coinsInPurses_4 N M n a0 x1 x2) 4 [(0, .ref a0), (1, .int x1), (2, .int x2)] [] M := by
  intro n
  induction n with
  | zero => intro _ _ _; exact g_none
  | succ n ih =>
    intro a0 x1 x2
    unfold F_X4_coinsInPurses_4
    refine g_iload_n 5 2 hX dX4_coinsInPurses_4 rfl rfl ?_
    refine g_aload_n 6 0 hX dX4_coinsInPurses_5 rfl rfl ?_
    refine r_X4_50 9 hX dX4_coinsInPurses_6 rfl ?_
    refine g_icmp_ge 30 12 hX dX4_coinsInPurses_9 (by decide) rfl (fun _ => ?_) (fun _ => ?_)
    · refine g_iload_n 31 1 hX dX4_coinsInPurses_30 rfl rfl ?_
      exact g_iret hX hr rfl (Nat.le_refl 0) (Nat.le_refl 0) dX4_coinsInPurses_31
    · refine g_iload_n 13 1 hX dX4_coinsInPurses_12 rfl rfl ?_
      refine g_aload_n 14 0 hX dX4_coinsInPurses_13 rfl rfl ?_
      refine r_X4_19 17 hX dX4_coinsInPurses_14 rfl ?_
      refine g_iload_n 18 2 hX dX4_coinsInPurses_17 rfl rfl ?_
      refine g_aald 17 4 19 hX RX10 (Nat.le_of_ble_eq_true rfl) rfl dX4_coinsInPurses_18 rfl ?_
      refine r_X4_102 22 hX dX4_coinsInPurses_19 rfl ?_
      refine g_iadd 23 hX dX4_coinsInPurses_22 rfl ?_
      refine g_klI (fun v1 hv1 => ?_)
      refine g_istore_n 24 1 [(1, .int v1), (0, .ref a0), (2, .int x2)] hX dX4_coinsInPurses_23 rfl rfl (Nat.le_of_ble_eq_true rfl) rfl ?_
      refine g_kl (fun v2 hv2 => ?_)
      refine g_iinc 27 2 2 v2 [(2, .int v2), (1, .int v1), (0, .ref a0)] hX dX4_coinsInPurses_24 rfl rfl (by rw [hv2, kc_i_1]) (Nat.le_of_ble_eq_true rfl) rfl ?_
      refine g_goto 4 hX dX4_coinsInPurses_27 (by decide) ?_
      refine g_lv [2, 1, 0] rfl ?_
      exact ih a0 v1 v2
set_option maxRecDepth 100000 in
set_option maxHeartbeats 4000000 in
theorem k_X4_coinsInPurses (l : Launch) (g : kG) (N : Nat) (M : kMem) (a0 : Nat) : kMet l g yX4_coinsInPurses cX4_coinsInPurses 3 (some .int) 1 0 0 [.ref a0] M (fun r : Int32 => (some (.int r), M)) (F_X4_coinsInPurses N M a0) := by
  refine k_of (lv := [(0, .ref a0)]) RX4 (by decide) rfl rfl (Nat.le_of_ble_eq_true rfl) ?_
  intro p e s m args below meth c hX hr _
  unfold F_X4_coinsInPurses
  refine g_iconst 1 hX 0 dX4_coinsInPurses_0 rfl kc_i_0 ?_
  refine g_istore_n 2 1 [(1, .int 0), (0, .ref a0)] hX dX4_coinsInPurses_1 rfl rfl (Nat.le_of_ble_eq_true rfl) rfl ?_
  refine g_iconst 3 hX 0 dX4_coinsInPurses_2 rfl kc_i_0 ?_
  refine g_istore_n 4 2 [(2, .int 0), (1, .int 0), (0, .ref a0)] hX dX4_coinsInPurses_3 rfl rfl (Nat.le_of_ble_eq_true rfl) rfl ?_
  refine g_lv [2, 1, 0] rfl ?_
  exact k_X4_coinsInPurses_4 hX hr N M N a0 0 0
set_option maxRecDepth 100000 in
set_option maxHeartbeats 4000000 in
theorem k_X4_weightOn (l : Launch) (g : kG) (N : Nat) (M : kMem) (a0 : Nat) (a1 : Nat) (x2 : Int32) : kMet l g yX4_weightOn cX4_weightOn 4 (some .int) 2 0 0 [.ref a0, .ref a1, .int x2] M (fun r : Int32 => (some (.int r), M)) (F_X4_weightOn N M a0 a1 x2) := by
  refine k_of (lv := [(0, .ref a0), (1, .ref a1), (2, .int x2)]) RX4 (by decide) rfl rfl (Nat.le_of_ble_eq_true rfl) ?_
  intro p e s m args below meth c hX hr _
  unfold F_X4_weightOn
  refine g_aload_n 1 0 hX dX4_weightOn_0 rfl rfl ?_
  refine g_aload_n 2 1 hX dX4_weightOn_1 rfl rfl ?_
  refine g_iload_n 3 2 hX dX4_weightOn_2 rfl rfl ?_
  refine g_callV_ip 6 hX (k_X0_ownerAt l g N M a1 x2) lk_X0_ownerAt rfl (ci := 0) rfl (Nat.le_of_ble_eq_true rfl) q_1634 q_592 (by omega) rfl (Nat.le_of_ble_eq_true rfl) (Nat.zero_le _) (Nat.zero_le _) dX4_weightOn_3 rfl (fun r1 => ?_)
  refine g_callV_rp 9 hX (k_X4_traderNumbered l g N M a0 r1) lk_X4_traderNumbered rfl (ci := 4) rfl (Nat.le_of_ble_eq_true rfl) q_1635 q_1637 (by omega) rfl (Nat.le_of_ble_eq_true rfl) (Nat.zero_le _) (Nat.zero_le _) dX4_weightOn_6 rfl (fun r2 => ?_)
  refine g_astore_n 10 3 [(3, .ref r2), (0, .ref a0), (1, .ref a1), (2, .int x2)] hX dX4_weightOn_9 rfl rfl (Nat.le_of_ble_eq_true rfl) rfl ?_
  refine g_aload_n 11 0 hX dX4_weightOn_10 rfl rfl ?_
  refine g_ifnonnull 18 14 hX dX4_weightOn_11 (by decide) rfl (fun _ => ?_) (fun _ => ?_)
  · refine g_aload_n 19 0 hX dX4_weightOn_18 rfl rfl ?_
    refine r_X4_99 22 hX dX4_weightOn_19 rfl ?_
    exact g_iret hX hr rfl (Nat.le_refl 0) (Nat.le_refl 0) dX4_weightOn_22
  · refine g_iconst 15 hX 0 dX4_weightOn_14 rfl kc_i_0 ?_
    refine g_goto 22 hX dX4_weightOn_15 (by decide) ?_
    exact g_iret hX hr rfl (Nat.le_refl 0) (Nat.le_refl 0) dX4_weightOn_22
set_option maxRecDepth 100000 in
set_option maxHeartbeats 4000000 in
theorem k_X4_torqueByDistances_15 {p : Program} {l : Launch} {e : Env} {s : State} {m : MethodId} {args : Array Value} {below : List Frame} {meth : Method} {c : Code} {g : kG} (hX : Cok (p, l, e, { frames := 3, cells := 0, slots := 0, locals := 60 * 3 }, s, m, args, below, meth, c, cX4_torqueByDistances, 5, RX4, g, 3)) (hr : meth.sig.returnType = (some .int)) (N : Nat) (M : kMem) (k4 : Nat → Nat → Int32 → Int32 → Option (Int32)) (h4 : ∀ (a0 : Nat) (a1 : Nat) (x2 : Int32) (x3 : Int32), GG (p, l, e, { frames := 3, cells := 0, slots := 0, locals := 60 * 3 }, s, m, args, below, meth, c, cX4_torqueByDistances, 5, RX4, g, 3) (fun b => MQ below (kQ g ((fun r : Int32 => (some (.int r), M)) b)) args s 0 0 (kZ g.2.2.1)) 0 0 (k4 a0 a1 x2 x3) 4 [(0, .ref a0), (1, .ref a1), (2, .int x2), (3, .int x3)] [] M) : ∀ (n : Nat) (a0 : Nat) (a1 : Nat) (x2 : Int32) (x3 : Int32) (x4 : Int32), GG (p, l, e, { frames := 3, cells := 0, slots := 0, locals := 60 * 3 }, s, m, args, below, meth, c, cX4_torqueByDistances, 5, RX4, g, 3) (fun b => MQ below (kQ g ((fun r : Int32 => (some (.int r), M)) b)) args s 0 0 (kZ g.2.2.1)) 0 0 (F_X4_torqueByDistances_15 N M k4 n a0 a1 x2 x3 x4) 15 [(0, .ref a0), (1, .ref a1), (2, .int x2), (3, .int x3), (4, .int x4)] [] M := by
  intro n
  induction n with
  | zero => intro _ _ _ _ _; exact g_none
  | succ n ih =>
    intro a0 a1 x2 x3 x4
    unfold F_X4_torqueByDistances_15
    refine g_iload 17 4 hX dX4_torqueByDistances_15 rfl rfl ?_
    refine g_aload_n 18 1 hX dX4_torqueByDistances_17 rfl rfl ?_
    refine r_X4_155 21 hX dX4_torqueByDistances_18 rfl ?_
    refine g_icmp_gt 49 24 hX dX4_torqueByDistances_21 (by decide) rfl (fun _ => ?_) (fun _ => ?_)
    · refine g_kl (fun v1 hv1 => ?_)
      refine g_iinc 52 3 3 v1 [(3, .int v1), (0, .ref a0), (1, .ref a1), (2, .int x2), (4, .int x4)] hX dX4_torqueByDistances_49 rfl rfl (by rw [hv1, kc_i_1]) (Nat.le_of_ble_eq_true rfl) rfl ?_
      refine g_goto 4 hX dX4_torqueByDistances_52 (by decide) ?_
      refine g_lv [1, 2, 3, 0] rfl ?_
      exact h4 a0 a1 x2 v1
    · refine g_iload_n 25 2 hX dX4_torqueByDistances_24 rfl rfl ?_
      refine g_aload_n 26 0 hX dX4_torqueByDistances_25 rfl rfl ?_
      refine g_aload_n 27 1 hX dX4_torqueByDistances_26 rfl rfl ?_
      refine g_iload 29 4 hX dX4_torqueByDistances_27 rfl rfl ?_
      refine g_callV_ip 32 hX (k_X4_weightOn l g N M a0 a1 x4) lk_X4_weightOn rfl (ci := 4) rfl (Nat.le_of_ble_eq_true rfl) q_1630 q_18 (by omega) rfl (Nat.le_of_ble_eq_true rfl) (Nat.zero_le _) (Nat.zero_le _) dX4_torqueByDistances_29 rfl (fun r2 => ?_)
      refine g_aload_n 33 0 hX dX4_torqueByDistances_32 rfl rfl ?_
      refine g_aload_n 34 1 hX dX4_torqueByDistances_33 rfl rfl ?_
      refine g_iload 36 4 hX dX4_torqueByDistances_34 rfl rfl ?_
      refine g_ineg 37 hX dX4_torqueByDistances_36 rfl ?_
      refine g_callV_ip 40 hX (k_X4_weightOn l g N M a0 a1 (-x4)) lk_X4_weightOn rfl (ci := 4) rfl (Nat.le_of_ble_eq_true rfl) q_1630 q_18 (by omega) rfl (Nat.le_of_ble_eq_true rfl) (Nat.zero_le _) (Nat.zero_le _) dX4_torqueByDistances_37 rfl (fun r3 => ?_)
      refine g_isub 41 hX dX4_torqueByDistances_40 rfl ?_
      refine g_iadd 42 hX dX4_torqueByDistances_41 rfl ?_
      refine g_klI (fun v4 hv4 => ?_)
      refine g_istore_n 43 2 [(2, .int v4), (0, .ref a0), (1, .ref a1), (3, .int x3), (4, .int x4)] hX dX4_torqueByDistances_42 rfl rfl (Nat.le_of_ble_eq_true rfl) rfl ?_
      refine g_kl (fun v5 hv5 => ?_)
      refine g_iinc 46 4 4 v5 [(4, .int v5), (2, .int v4), (0, .ref a0), (1, .ref a1), (3, .int x3)] hX dX4_torqueByDistances_43 rfl rfl (by rw [hv5, kc_i_1]) (Nat.le_of_ble_eq_true rfl) rfl ?_
      refine g_goto 15 hX dX4_torqueByDistances_46 (by decide) ?_
      refine g_lv [2, 3, 1, 4, 0] rfl ?_
      exact ih a0 a1 v4 x3 v5
set_option maxRecDepth 100000 in
set_option maxHeartbeats 4000000 in
theorem k_X4_torqueByDistances_4 {p : Program} {l : Launch} {e : Env} {s : State} {m : MethodId} {args : Array Value} {below : List Frame} {meth : Method} {c : Code} {g : kG} (hX : Cok (p, l, e, { frames := 3, cells := 0, slots := 0, locals := 60 * 3 }, s, m, args, below, meth, c, cX4_torqueByDistances, 5, RX4, g, 3)) (hr : meth.sig.returnType = (some .int)) (N : Nat) (M : kMem) : ∀ (n : Nat) (a0 : Nat) (a1 : Nat) (x2 : Int32) (x3 : Int32), GG (p, l, e, { frames := 3, cells := 0, slots := 0, locals := 60 * 3 }, s, m, args, below, meth, c, cX4_torqueByDistances, 5, RX4, g, 3) (fun b => MQ below (kQ g ((fun r : Int32 => (some (.int r), M)) b)) args s 0 0 (kZ g.2.2.1)) 0 0 (F_X4_torqueByDistances_4 N M n a0 a1 x2 x3) 4 [(0, .ref a0), (1, .ref a1), (2, .int x2), (3, .int x3)] [] M := by
  intro n
  induction n with
  | zero => intro _ _ _ _; exact g_none
  | succ n ih =>
    intro a0 a1 x2 x3
    unfold F_X4_torqueByDistances_4
    refine g_iload_n 5 3 hX dX4_torqueByDistances_4 rfl rfl ?_
    refine g_aload_n 6 1 hX dX4_torqueByDistances_5 rfl rfl ?_
    refine r_X4_155 9 hX dX4_torqueByDistances_6 rfl ?_
    refine g_icmp_gt 55 12 hX dX4_torqueByDistances_9 (by decide) rfl (fun _ => ?_) (fun _ => ?_)
    · refine g_iload_n 56 2 hX dX4_torqueByDistances_55 rfl rfl ?_
      exact g_iret hX hr rfl (Nat.le_refl 0) (Nat.le_refl 0) dX4_torqueByDistances_56
    · refine g_iload_n 13 3 hX dX4_torqueByDistances_12 rfl rfl ?_
      refine g_istore 15 4 [(4, .int x3), (0, .ref a0), (1, .ref a1), (2, .int x2), (3, .int x3)] hX dX4_torqueByDistances_13 rfl (Nat.le_of_ble_eq_true rfl) rfl ?_
      refine g_lv [1, 2, 3, 4, 0] rfl ?_
      exact k_X4_torqueByDistances_15 hX hr N M (fun a0 a1 x2 x3 => F_X4_torqueByDistances_4 N M n a0 a1 x2 x3) ih N a0 a1 x2 x3 x3
set_option maxRecDepth 100000 in
set_option maxHeartbeats 4000000 in
theorem k_X4_torqueByDistances (l : Launch) (g : kG) (N : Nat) (M : kMem) (a0 : Nat) (a1 : Nat) : kMet l g yX4_torqueByDistances cX4_torqueByDistances 5 (some .int) 3 0 0 [.ref a0, .ref a1] M (fun r : Int32 => (some (.int r), M)) (F_X4_torqueByDistances N M a0 a1) := by
  refine k_of (lv := [(0, .ref a0), (1, .ref a1)]) RX4 (by decide) rfl rfl (Nat.le_of_ble_eq_true rfl) ?_
  intro p e s m args below meth c hX hr _
  unfold F_X4_torqueByDistances
  refine g_iconst 1 hX 0 dX4_torqueByDistances_0 rfl kc_i_0 ?_
  refine g_istore_n 2 2 [(2, .int 0), (0, .ref a0), (1, .ref a1)] hX dX4_torqueByDistances_1 rfl rfl (Nat.le_of_ble_eq_true rfl) rfl ?_
  refine g_iconst 3 hX 1 dX4_torqueByDistances_2 rfl kc_i_1 ?_
  refine g_istore_n 4 3 [(3, .int 1), (2, .int 0), (0, .ref a0), (1, .ref a1)] hX dX4_torqueByDistances_3 rfl rfl (Nat.le_of_ble_eq_true rfl) rfl ?_
  refine g_lv [2, 3, 1, 0] rfl ?_
  exact k_X4_torqueByDistances_4 hX hr N M N a0 a1 0 1
set_option maxRecDepth 100000 in
set_option maxHeartbeats 4000000 in
theorem k_X4_wrongSeats_8 {p : Program} {l : Launch} {e : Env} {s : State} {m : MethodId} {args : Array Value} {below : List Frame} {meth : Method} {c : Code} {g : kG} (hX : Cok (p, l, e, { frames := 2, cells := 0, slots := 0, locals := 60 * 2 }, s, m, args, below, meth, c, cX4_wrongSeats, 5, RX4, g, 2)) (hr : meth.sig.returnType = (some .int)) (N : Nat) (M : kMem) : ∀ (n : Nat) (a0 : Nat) (a1 : Nat) (x2 : Int32) (x3 : Int32), GG (p, l, e, { frames := 2, cells := 0, slots := 0, locals := 60 * 2 }, s, m, args, below, meth, c, cX4_wrongSeats, 5, RX4, g, 2) (fun b => MQ below (kQ g ((fun r : Int32 => (some (.int r), M)) b)) args s 0 0 (kZ g.2.2.1)) 0 0 (F_X4_wrongSeats_8 N M n a0 a1 x2 x3) 8 [(0, .ref a0), (1, .ref a1), (2, .int x2), (3, .int x3)] [] M := by
  intro n
  induction n with
  | zero => intro _ _ _ _; exact g_none
  | succ n ih =>
    intro a0 a1 x2 x3
    unfold F_X4_wrongSeats_8
    refine g_iload_n 9 3 hX dX4_wrongSeats_8 rfl rfl ?_
    refine g_aload_n 10 1 hX dX4_wrongSeats_9 rfl rfl ?_
    refine r_X4_155 13 hX dX4_wrongSeats_10 rfl ?_
    refine g_icmp_gt 62 16 hX dX4_wrongSeats_13 (by decide) rfl (fun _ => ?_) (fun _ => ?_)
    · refine g_iload_n 63 2 hX dX4_wrongSeats_62 rfl rfl ?_
      exact g_iret hX hr rfl (Nat.le_refl 0) (Nat.le_refl 0) dX4_wrongSeats_63
    · refine g_aload_n 17 0 hX dX4_wrongSeats_16 rfl rfl ?_
      refine g_aload_n 18 1 hX dX4_wrongSeats_17 rfl rfl ?_
      refine g_iload_n 19 3 hX dX4_wrongSeats_18 rfl rfl ?_
      refine g_callV_ip 22 hX (k_X0_ownerAt l g N M a1 x3) lk_X0_ownerAt rfl (ci := 0) rfl (Nat.le_of_ble_eq_true rfl) q_1634 q_592 (by omega) rfl (Nat.le_of_ble_eq_true rfl) (Nat.zero_le _) (Nat.zero_le _) dX4_wrongSeats_19 rfl (fun r2 => ?_)
      refine g_callV_rp 25 hX (k_X4_traderNumbered l g N M a0 r2) lk_X4_traderNumbered rfl (ci := 4) rfl (Nat.le_of_ble_eq_true rfl) q_1635 q_1637 (by omega) rfl (Nat.le_of_ble_eq_true rfl) (Nat.zero_le _) (Nat.zero_le _) dX4_wrongSeats_22 rfl (fun r3 => ?_)
      refine g_astore 27 4 [(4, .ref r3), (0, .ref a0), (1, .ref a1), (2, .int x2), (3, .int x3)] hX dX4_wrongSeats_25 rfl (Nat.le_of_ble_eq_true rfl) rfl ?_
      refine g_aload 29 0 hX dX4_wrongSeats_27 rfl rfl ?_
      refine g_ifnull 56 32 hX dX4_wrongSeats_29 (by decide) rfl (fun _ => ?_) (fun _ => ?_)
      · refine g_kl (fun v4 hv4 => ?_)
        refine g_iinc 59 3 4 v4 [(3, .int v4), (4, .ref r3), (0, .ref a0), (1, .ref a1), (2, .int x2)] hX dX4_wrongSeats_56 rfl rfl (by rw [hv4, kc_i_1]) (Nat.le_of_ble_eq_true rfl) rfl ?_
        refine g_goto 8 hX dX4_wrongSeats_59 (by decide) ?_
        refine g_lv [2, 3, 4, 0] rfl ?_
        exact ih a0 a1 x2 v4
      · refine g_aload 34 0 hX dX4_wrongSeats_32 rfl rfl ?_
        refine r_X4_112 37 hX dX4_wrongSeats_34 rfl ?_
        refine g_aload_n 38 2 hX dX4_wrongSeats_37 rfl rfl ?_
        refine r_X4_121 41 hX dX4_wrongSeats_38 rfl ?_
        refine g_icmp_ne 53 44 hX dX4_wrongSeats_41 (by decide) rfl (fun _ => ?_) (fun _ => ?_)
        · refine g_kl (fun v5 hv5 => ?_)
          refine g_iinc 56 2 3 v5 [(2, .int v5), (4, .ref r3), (0, .ref a0), (1, .ref a1), (3, .int x3)] hX dX4_wrongSeats_53 rfl rfl (by rw [hv5, kc_i_1]) (Nat.le_of_ble_eq_true rfl) rfl ?_
          refine g_kl (fun v6 hv6 => ?_)
          refine g_iinc 59 3 4 v6 [(3, .int v6), (2, .int v5), (4, .ref r3), (0, .ref a0), (1, .ref a1)] hX dX4_wrongSeats_56 rfl rfl (by rw [hv6, kc_i_1]) (Nat.le_of_ble_eq_true rfl) rfl ?_
          refine g_goto 8 hX dX4_wrongSeats_59 (by decide) ?_
          refine g_lv [3, 4, 1, 0] rfl ?_
          exact ih a0 a1 v5 v6
        · refine g_aload 46 0 hX dX4_wrongSeats_44 rfl rfl ?_
          refine r_X4_115 49 hX dX4_wrongSeats_46 rfl ?_
          refine g_iload_n 50 4 hX dX4_wrongSeats_49 rfl rfl ?_
          refine g_icmp_eq 56 53 hX dX4_wrongSeats_50 (by decide) rfl (fun _ => ?_) (fun _ => ?_)
          · refine g_kl (fun v7 hv7 => ?_)
            refine g_iinc 59 3 4 v7 [(3, .int v7), (4, .ref r3), (0, .ref a0), (1, .ref a1), (2, .int x2)] hX dX4_wrongSeats_56 rfl rfl (by rw [hv7, kc_i_1]) (Nat.le_of_ble_eq_true rfl) rfl ?_
            refine g_goto 8 hX dX4_wrongSeats_59 (by decide) ?_
            refine g_lv [2, 3, 4, 0] rfl ?_
            exact ih a0 a1 x2 v7
          · refine g_kl (fun v8 hv8 => ?_)
            refine g_iinc 56 2 3 v8 [(2, .int v8), (4, .ref r3), (0, .ref a0), (1, .ref a1), (3, .int x3)] hX dX4_wrongSeats_53 rfl rfl (by rw [hv8, kc_i_1]) (Nat.le_of_ble_eq_true rfl) rfl ?_
            refine g_kl (fun v9 hv9 => ?_)
            refine g_iinc 59 3 4 v9 [(3, .int v9), (2, .int v8), (4, .ref r3), (0, .ref a0), (1, .ref a1)] hX dX4_wrongSeats_56 rfl rfl (by rw [hv9, kc_i_1]) (Nat.le_of_ble_eq_true rfl) rfl ?_
            refine g_goto 8 hX dX4_wrongSeats_59 (by decide) ?_
            refine g_lv [3, 4, 1, 0] rfl ?_
            exact ih a0 a1 v8 v9
set_option maxRecDepth 100000 in
set_option maxHeartbeats 4000000 in
theorem k_X4_wrongSeats (l : Launch) (g : kG) (N : Nat) (M : kMem) (a0 : Nat) (a1 : Nat) : kMet l g yX4_wrongSeats cX4_wrongSeats 5 (some .int) 2 0 0 [.ref a0, .ref a1] M (fun r : Int32 => (some (.int r), M)) (F_X4_wrongSeats N M a0 a1) := by
  refine k_of (lv := [(0, .ref a0), (1, .ref a1)]) RX4 (by decide) rfl rfl (Nat.le_of_ble_eq_true rfl) ?_
  intro p e s m args below meth c hX hr _
  unfold F_X4_wrongSeats
  refine g_iconst 1 hX 0 dX4_wrongSeats_0 rfl kc_i_0 ?_
  refine g_istore_n 2 2 [(2, .int 0), (0, .ref a0), (1, .ref a1)] hX dX4_wrongSeats_1 rfl rfl (Nat.le_of_ble_eq_true rfl) rfl ?_
  refine g_aload_n 3 2 hX dX4_wrongSeats_2 rfl rfl ?_
  refine r_X4_155 6 hX dX4_wrongSeats_3 rfl ?_
  refine g_ineg 7 hX dX4_wrongSeats_6 rfl ?_
  refine g_klI (fun v1 hv1 => ?_)
  refine g_istore_n 8 3 [(3, .int v1), (2, .int 0), (0, .ref a0), (1, .ref a1)] hX dX4_wrongSeats_7 rfl rfl (Nat.le_of_ble_eq_true rfl) rfl ?_
  refine g_lv [2, 3, 1, 0] rfl ?_
  exact k_X4_wrongSeats_8 hX hr N M N a0 a1 0 v1
set_option maxRecDepth 100000 in
set_option maxHeartbeats 4000000 in
theorem k_X4_countContradictions_20 {p : Program} {l : Launch} {e : Env} {s : State} {m : MethodId} {args : Array Value} {below : List Frame} {meth : Method} {c : Code} {g : kG} (hX : Cok (p, l, e, { frames := 4, cells := 0, slots := 0, locals := 60 * 4 }, s, m, args, below, meth, c, cX4_countContradictions, 4, RX4, g, 4)) (hr : meth.sig.returnType = (some .int)) (N : Nat) (M : kMem) : ∀ (n : Nat) (a0 : Nat) (x1 : Int32) (x2 : Int32), GG (p, l, e, { frames := 4, cells := 0, slots := 0, locals := 60 * 4 }, s, m, args, below, meth, c, cX4_countContradictions, 4, RX4, g, 4) (fun b => MQ below (kQ g ((fun r : Int32 => (some (.int r), M)) b)) args s 0 0 (kZ g.2.2.1)) 0 0 (F_X4_countContradictions_20 N M n a0 x1 x2) 20 [(0, .ref a0), (1, .int x1), (2, .int x2)] [] M := by
  intro n
  induction n with
  | zero => intro _ _ _; exact g_none
  | succ n ih =>
    intro a0 x1 x2
    unfold F_X4_countContradictions_20
    refine g_iload_n 21 2 hX dX4_countContradictions_20 rfl rfl ?_
    refine g_aload_n 22 0 hX dX4_countContradictions_21 rfl rfl ?_
    refine r_X4_47 25 hX dX4_countContradictions_22 rfl ?_
    refine g_icmp_ge 66 28 hX dX4_countContradictions_25 (by decide) rfl (fun _ => ?_) (fun _ => ?_)
    · refine g_iload_n 67 1 hX dX4_countContradictions_66 rfl rfl ?_
      exact g_iret hX hr rfl (Nat.le_refl 0) (Nat.le_refl 0) dX4_countContradictions_67
    · refine g_aload_n 29 0 hX dX4_countContradictions_28 rfl rfl ?_
      refine r_X4_11 32 hX dX4_countContradictions_29 rfl ?_
      refine g_iload_n 33 2 hX dX4_countContradictions_32 rfl rfl ?_
      refine g_aald 16 3 34 hX RX0 (Nat.le_of_ble_eq_true rfl) rfl dX4_countContradictions_33 rfl ?_
      refine g_klR (fun w3 hw3 => ?_)
      refine g_astore_n 35 3 [(3, .ref w3), (0, .ref a0), (1, .int x1), (2, .int x2)] hX dX4_countContradictions_34 rfl rfl (Nat.le_of_ble_eq_true rfl) rfl ?_
      refine g_iload_n 36 2 hX dX4_countContradictions_35 rfl rfl ?_
      refine g_aload_n 37 1 hX dX4_countContradictions_36 rfl rfl ?_
      refine g_aload_n 38 0 hX dX4_countContradictions_37 rfl rfl ?_
      refine g_callV_ip 41 hX (k_X4_torqueOn l g N M a0 w3) lk_X4_torqueOn rfl (ci := 4) rfl (Nat.le_of_ble_eq_true rfl) q_1622 q_1624 (by omega) rfl (Nat.le_of_ble_eq_true rfl) (Nat.zero_le _) (Nat.zero_le _) dX4_countContradictions_38 rfl (fun r4 => ?_)
      refine g_aload_n 42 1 hX dX4_countContradictions_41 rfl rfl ?_
      refine g_aload_n 43 0 hX dX4_countContradictions_42 rfl rfl ?_
      refine g_callV_ip 46 hX (k_X4_torqueByDistances l g N M a0 w3) lk_X4_torqueByDistances rfl (ci := 4) rfl (Nat.le_of_ble_eq_true rfl) q_1626 q_17 (by omega) rfl (Nat.le_of_ble_eq_true rfl) (Nat.zero_le _) (Nat.zero_le _) dX4_countContradictions_43 rfl (fun r5 => ?_)
      refine g_isub 47 hX dX4_countContradictions_46 rfl ?_
      refine g_mabs (y := 0) 50 hX q_1621 dX4_countContradictions_47 rfl (Nat.le_of_ble_eq_true rfl) (by decide) (Nat.zero_le _) (Nat.zero_le _) ?_
      refine g_iadd 51 hX dX4_countContradictions_50 rfl ?_
      refine g_klI (fun v6 hv6 => ?_)
      refine g_istore_n 52 1 [(1, .int v6), (3, .ref w3), (0, .ref a0), (2, .int x2)] hX dX4_countContradictions_51 rfl rfl (Nat.le_of_ble_eq_true rfl) rfl ?_
      refine g_iload_n 53 0 hX dX4_countContradictions_52 rfl rfl ?_
      refine g_aload_n 54 2 hX dX4_countContradictions_53 rfl rfl ?_
      refine g_aload_n 55 1 hX dX4_countContradictions_54 rfl rfl ?_
      refine g_callV_ip 58 hX (k_X4_wrongSeats l g N M a0 w3) lk_X4_wrongSeats rfl (ci := 4) rfl (Nat.le_of_ble_eq_true rfl) q_1639 q_19 (by omega) rfl (Nat.le_of_ble_eq_true rfl) (Nat.zero_le _) (Nat.zero_le _) dX4_countContradictions_55 rfl (fun r7 => ?_)
      refine g_iadd 59 hX dX4_countContradictions_58 rfl ?_
      refine g_klI (fun v8 hv8 => ?_)
      refine g_istore_n 60 1 [(1, .int v8), (3, .ref w3), (0, .ref a0), (2, .int x2)] hX dX4_countContradictions_59 rfl rfl (Nat.le_of_ble_eq_true rfl) rfl ?_
      refine g_kl (fun v9 hv9 => ?_)
      refine g_iinc 63 2 3 v9 [(2, .int v9), (1, .int v8), (3, .ref w3), (0, .ref a0)] hX dX4_countContradictions_60 rfl rfl (by rw [hv9, kc_i_1]) (Nat.le_of_ble_eq_true rfl) rfl ?_
      refine g_goto 20 hX dX4_countContradictions_63 (by decide) ?_
      refine g_lv [3, 1, 0] rfl ?_
      exact ih a0 v8 v9
set_option maxRecDepth 100000 in
set_option maxHeartbeats 4000000 in
theorem k_X4_countContradictions (l : Launch) (g : kG) (N : Nat) (M : kMem) (a0 : Nat) : kMet l g yX4_countContradictions cX4_countContradictions 4 (some .int) 4 0 0 [.ref a0] M (fun r : Int32 => (some (.int r), M)) (F_X4_countContradictions N M a0) := by
  refine k_of (lv := [(0, .ref a0)]) RX4 (by decide) rfl rfl (Nat.le_of_ble_eq_true rfl) ?_
  intro p e s m args below meth c hX hr _
  unfold F_X4_countContradictions
  refine g_aload_n 1 0 hX dX4_countContradictions_0 rfl rfl ?_
  refine r_X4_74 4 hX dX4_countContradictions_1 rfl ?_
  refine g_aload_n 5 0 hX dX4_countContradictions_4 rfl rfl ?_
  refine g_callV_ip 8 hX (k_X4_coinsInPurses l g N M a0) lk_X4_coinsInPurses rfl (ci := 4) rfl (Nat.le_of_ble_eq_true rfl) q_1617 q_1619 (by omega) rfl (Nat.le_of_ble_eq_true rfl) (Nat.zero_le _) (Nat.zero_le _) dX4_countContradictions_5 rfl (fun r1 => ?_)
  refine g_isub 9 hX dX4_countContradictions_8 rfl ?_
  refine g_aload_n 10 0 hX dX4_countContradictions_9 rfl rfl ?_
  refine r_X4_56 13 hX dX4_countContradictions_10 rfl ?_
  refine g_isub 14 hX dX4_countContradictions_13 rfl ?_
  refine g_mabs (y := 0) 17 hX q_1621 dX4_countContradictions_14 rfl (Nat.le_of_ble_eq_true rfl) (by decide) (Nat.zero_le _) (Nat.zero_le _) ?_
  refine g_klI (fun v2 hv2 => ?_)
  refine g_istore_n 18 1 [(1, .int v2), (0, .ref a0)] hX dX4_countContradictions_17 rfl rfl (Nat.le_of_ble_eq_true rfl) rfl ?_
  refine g_iconst 19 hX 0 dX4_countContradictions_18 rfl kc_i_0 ?_
  refine g_istore_n 20 2 [(2, .int 0), (1, .int v2), (0, .ref a0)] hX dX4_countContradictions_19 rfl rfl (Nat.le_of_ble_eq_true rfl) rfl ?_
  refine g_lv [2, 1, 0] rfl ?_
  exact k_X4_countContradictions_20 hX hr N M N a0 v2 0
set_option maxRecDepth 100000 in
set_option maxHeartbeats 4000000 in
theorem k_X3_record (l : Launch) (g : kG) (N : Nat) (M : kMem) (a0 : Nat) (a1 : Nat) : kMet l g yX3_record cX3_record 2 none 3 0 0 [.ref a0, .ref a1] M (fun r : kMem => (none, r)) (F_X3_record N M a0 a1) := by
  refine k_of (lv := [(0, .ref a0), (1, .ref a1)]) RX3 (by decide) rfl rfl (Nat.le_of_ble_eq_true rfl) ?_
  intro p e s m args below meth c hX hr _
  unfold F_X3_record
  refine g_aload_n 1 0 hX dX3_record_0 rfl rfl ?_
  refine r_X3_11 4 hX dX3_record_1 rfl ?_
  refine g_aload_n 5 0 hX dX3_record_4 rfl rfl ?_
  refine r_X3_18 8 hX dX3_record_5 rfl ?_
  refine g_aald 18 5 9 hX RX4 (Nat.le_of_ble_eq_true rfl) rfl dX3_record_8 rfl ?_
  refine g_aload_n 10 1 hX dX3_record_9 rfl rfl ?_
  refine g_callV_v 13 hX (k_X4_copyFrom l g N M (kR M (kR M a0 0) (kx (kI M a0 1))) a1) lk_X4_copyFrom rfl (ci := 4) rfl (Nat.le_of_ble_eq_true rfl) q_1975 q_609 (by omega) rfl (Nat.le_of_ble_eq_true rfl) (Nat.zero_le _) (Nat.zero_le _) dX3_record_10 rfl (fun M1 => ?_)
  refine g_aload_n 14 0 hX dX3_record_13 rfl rfl ?_
  refine g_aload_n 15 0 hX dX3_record_14 rfl rfl ?_
  refine r_X3_18 18 hX dX3_record_15 rfl ?_
  refine g_iconst 19 hX 1 dX3_record_18 rfl kc_i_1 ?_
  refine g_iadd 20 hX dX3_record_19 rfl ?_
  refine g_bipush 22 hX 8 dX3_record_20 rfl kc_b_8 ?_
  refine g_irem 23 hX dX3_record_22 rfl ?_
  refine p_X3_18 26 hX dX3_record_23 rfl ?_
  refine g_klM (fun M2 hM2 => ?_)
  refine g_aload_n 27 0 hX dX3_record_26 rfl rfl ?_
  refine g_aload_n 28 0 hX dX3_record_27 rfl rfl ?_
  refine r_X3_26 31 hX dX3_record_28 rfl ?_
  refine g_iconst 32 hX 1 dX3_record_31 rfl kc_i_1 ?_
  refine g_iadd 33 hX dX3_record_32 rfl ?_
  refine g_bipush 35 hX 8 dX3_record_33 rfl kc_b_8 ?_
  refine g_mmin 38 hX q_1976 dX3_record_35 rfl (Nat.le_of_ble_eq_true rfl) (by decide) (Nat.zero_le _) (Nat.zero_le _) ?_
  refine p_X3_26 41 hX dX3_record_38 rfl ?_
  refine g_klM (fun M3 hM3 => ?_)
  exact g_vret hX hr rfl (Nat.le_refl 0) (Nat.le_refl 0) dX3_record_41
set_option maxRecDepth 100000 in
set_option maxHeartbeats 4000000 in
theorem k_X3_forget (l : Launch) (g : kG) (N : Nat) (M : kMem) (a0 : Nat) : kMet l g yX3_forget cX3_forget 1 none 1 0 0 [.ref a0] M (fun r : kMem => (none, r)) (F_X3_forget N M a0) := by
  refine k_of (lv := [(0, .ref a0)]) RX3 (by decide) rfl rfl (Nat.le_of_ble_eq_true rfl) ?_
  intro p e s m args below meth c hX hr _
  unfold F_X3_forget
  refine g_aload_n 1 0 hX dX3_forget_0 rfl rfl ?_
  refine g_iconst 2 hX 0 dX3_forget_1 rfl kc_i_0 ?_
  refine p_X3_26 5 hX dX3_forget_2 rfl ?_
  refine g_klM (fun M1 hM1 => ?_)
  exact g_vret hX hr rfl (Nat.le_refl 0) (Nat.le_refl 0) dX3_forget_5
set_option maxRecDepth 100000 in
set_option maxHeartbeats 4000000 in
theorem k_X9_add (l : Launch) (g : kG) (N : Nat) (M : kMem) (a0 : Nat) (x1 : Int32) (x2 : Int32) (x3 : Int32) : kMet l g yX9_add cX9_add 4 none 1 0 0 [.ref a0, .int x1, .int x2, .int x3] M (fun r : kMem => (none, r)) (F_X9_add N M a0 x1 x2 x3) := by
  refine k_of (lv := [(0, .ref a0), (1, .int x1), (2, .int x2), (3, .int x3)]) RX9 (by decide) rfl rfl (Nat.le_of_ble_eq_true rfl) ?_
  intro p e s m args below meth c hX hr _
  unfold F_X9_add
  refine g_aload_n 1 0 hX dX9_add_0 rfl rfl ?_
  refine r_X9_35 4 hX dX9_add_1 rfl ?_
  refine g_aload_n 5 0 hX dX9_add_4 rfl rfl ?_
  refine r_X9_9 8 hX dX9_add_5 rfl ?_
  refine g_alen13 9 hX dX9_add_8 rfl ?_
  refine g_icmp_ge 52 12 hX dX9_add_9 (by decide) rfl (fun _ => ?_) (fun _ => ?_)
  · exact g_vret hX hr rfl (Nat.le_refl 0) (Nat.le_refl 0) dX9_add_52
  · refine g_aload_n 13 0 hX dX9_add_12 rfl rfl ?_
    refine r_X9_9 16 hX dX9_add_13 rfl ?_
    refine g_aload_n 17 0 hX dX9_add_16 rfl rfl ?_
    refine r_X9_35 20 hX dX9_add_17 rfl ?_
    refine g_iload_n 21 1 hX dX9_add_20 rfl rfl ?_
    refine g_iast 22 hX dX9_add_21 rfl ?_
    refine g_klM (fun M1 hM1 => ?_)
    refine g_aload_n 23 0 hX dX9_add_22 rfl rfl ?_
    refine r_X9_15 26 hX dX9_add_23 rfl ?_
    refine g_aload_n 27 0 hX dX9_add_26 rfl rfl ?_
    refine r_X9_35 30 hX dX9_add_27 rfl ?_
    refine g_iload_n 31 2 hX dX9_add_30 rfl rfl ?_
    refine g_iast 32 hX dX9_add_31 rfl ?_
    refine g_klM (fun M2 hM2 => ?_)
    refine g_aload_n 33 0 hX dX9_add_32 rfl rfl ?_
    refine r_X9_18 36 hX dX9_add_33 rfl ?_
    refine g_aload_n 37 0 hX dX9_add_36 rfl rfl ?_
    refine r_X9_35 40 hX dX9_add_37 rfl ?_
    refine g_iload_n 41 3 hX dX9_add_40 rfl rfl ?_
    refine g_iast 42 hX dX9_add_41 rfl ?_
    refine g_klM (fun M3 hM3 => ?_)
    refine g_aload_n 43 0 hX dX9_add_42 rfl rfl ?_
    refine g_dup 44 hX dX9_add_43 rfl rfl ?_
    refine r_X9_35 47 hX dX9_add_44 rfl ?_
    refine g_iconst 48 hX 1 dX9_add_47 rfl kc_i_1 ?_
    refine g_iadd 49 hX dX9_add_48 rfl ?_
    refine p_X9_35 52 hX dX9_add_49 rfl ?_
    refine g_klM (fun M4 hM4 => ?_)
    exact g_vret hX hr rfl (Nat.le_refl 0) (Nat.le_refl 0) dX9_add_52
set_option maxRecDepth 100000 in
set_option maxHeartbeats 4000000 in
theorem k_X11_isDigit (l : Launch) (g : kG) (N : Nat) (M : kMem) (x0 : Int32) : kMet l g yX11_isDigit cX11_isDigit 1 (some .boolean) 1 0 0 [.int x0] M (fun r : Int32 => (some (.int r), M)) (F_X11_isDigit N M x0) := by
  refine k_of (lv := [(0, .int x0)]) RX11 (by decide) rfl rfl (Nat.le_of_ble_eq_true rfl) ?_
  intro p e s m args below meth c hX hr _
  unfold F_X11_isDigit
  refine g_iload_n 1 0 hX dX11_isDigit_0 rfl rfl ?_
  refine g_bipush 3 hX 48 dX11_isDigit_1 rfl kc_b_48 ?_
  refine g_icmp_lt 16 6 hX dX11_isDigit_3 (by decide) rfl (fun _ => ?_) (fun _ => ?_)
  · refine g_iconst 17 hX 0 dX11_isDigit_16 rfl kc_i_0 ?_
    exact g_zretL hX hr rfl rfl (Nat.le_refl 0) (Nat.le_refl 0) dX11_isDigit_17
  · refine g_iload_n 7 0 hX dX11_isDigit_6 rfl rfl ?_
    refine g_bipush 9 hX 57 dX11_isDigit_7 rfl kc_b_57 ?_
    refine g_icmp_gt 16 12 hX dX11_isDigit_9 (by decide) rfl (fun _ => ?_) (fun _ => ?_)
    · refine g_iconst 17 hX 0 dX11_isDigit_16 rfl kc_i_0 ?_
      exact g_zretL hX hr rfl rfl (Nat.le_refl 0) (Nat.le_refl 0) dX11_isDigit_17
    · refine g_iconst 13 hX 1 dX11_isDigit_12 rfl kc_i_1 ?_
      refine g_goto 17 hX dX11_isDigit_13 (by decide) ?_
      exact g_zretL hX hr rfl rfl (Nat.le_refl 0) (Nat.le_refl 0) dX11_isDigit_17
set_option maxRecDepth 100000 in
set_option maxHeartbeats 4000000 in
theorem k_X9_kindOf (l : Launch) (g : kG) (N : Nat) (M : kMem) (x0 : Int32) : kMet l g yX9_kindOf cX9_kindOf 1 (some .int) 2 0 0 [.int x0] M (fun r : Int32 => (some (.int r), M)) (F_X9_kindOf N M x0) := by
  refine k_of (lv := [(0, .int x0)]) RX9 (by decide) rfl rfl (Nat.le_of_ble_eq_true rfl) ?_
  intro p e s m args below meth c hX hr _
  unfold F_X9_kindOf
  refine g_iload_n 1 0 hX dX9_kindOf_0 rfl rfl ?_
  refine g_callN_ip 4 hX (k_X11_isLetter l g N M x0) lk_X11_isLetter q_444 (by omega) rfl (Nat.le_of_ble_eq_true rfl) (Nat.zero_le _) (Nat.zero_le _) dX9_kindOf_1 rfl (fun r1 => ?_)
  refine g_if_eq 9 7 hX dX9_kindOf_4 (by decide) rfl (fun _ => ?_) (fun _ => ?_)
  · refine g_iload_n 10 0 hX dX9_kindOf_9 rfl rfl ?_
    refine g_callN_ip 13 hX (k_X11_isDigit l g N M x0) lk_X11_isDigit q_447 (by omega) rfl (Nat.le_of_ble_eq_true rfl) (Nat.zero_le _) (Nat.zero_le _) dX9_kindOf_10 rfl (fun r2 => ?_)
    refine g_if_eq 18 16 hX dX9_kindOf_13 (by decide) rfl (fun _ => ?_) (fun _ => ?_)
    · refine g_iload_n 19 0 hX dX9_kindOf_18 rfl rfl ?_
      refine g_bipush 21 hX 32 dX9_kindOf_19 rfl kc_b_32 ?_
      refine g_icmp_eq 30 24 hX dX9_kindOf_21 (by decide) rfl (fun _ => ?_) (fun _ => ?_)
      · refine g_iconst 31 hX 0 dX9_kindOf_30 rfl kc_i_0 ?_
        refine g_goto 35 hX dX9_kindOf_31 (by decide) ?_
        exact g_iret hX hr rfl (Nat.le_refl 0) (Nat.le_refl 0) dX9_kindOf_35
      · refine g_iload_n 25 0 hX dX9_kindOf_24 rfl rfl ?_
        refine g_bipush 27 hX 10 dX9_kindOf_25 rfl kc_b_10 ?_
        refine g_icmp_ne 34 30 hX dX9_kindOf_27 (by decide) rfl (fun _ => ?_) (fun _ => ?_)
        · refine g_iconst 35 hX 3 dX9_kindOf_34 rfl kc_i_3 ?_
          exact g_iret hX hr rfl (Nat.le_refl 0) (Nat.le_refl 0) dX9_kindOf_35
        · refine g_iconst 31 hX 0 dX9_kindOf_30 rfl kc_i_0 ?_
          refine g_goto 35 hX dX9_kindOf_31 (by decide) ?_
          exact g_iret hX hr rfl (Nat.le_refl 0) (Nat.le_refl 0) dX9_kindOf_35
    · refine g_iconst 17 hX 2 dX9_kindOf_16 rfl kc_i_2 ?_
      exact g_iret hX hr rfl (Nat.le_refl 0) (Nat.le_refl 0) dX9_kindOf_17
  · refine g_iconst 8 hX 1 dX9_kindOf_7 rfl kc_i_1 ?_
    exact g_iret hX hr rfl (Nat.le_refl 0) (Nat.le_refl 0) dX9_kindOf_8
set_option maxRecDepth 100000 in
set_option maxHeartbeats 4000000 in
theorem k_X9_lengthen (l : Launch) (g : kG) (N : Nat) (M : kMem) (a0 : Nat) (x1 : Int32) : kMet l g yX9_lengthen cX9_lengthen 2 none 1 0 0 [.ref a0, .int x1] M (fun r : kMem => (none, r)) (F_X9_lengthen N M a0 x1) := by
  refine k_of (lv := [(0, .ref a0), (1, .int x1)]) RX9 (by decide) rfl rfl (Nat.le_of_ble_eq_true rfl) ?_
  intro p e s m args below meth c hX hr _
  unfold F_X9_lengthen
  refine g_aload_n 1 0 hX dX9_lengthen_0 rfl rfl ?_
  refine r_X9_35 4 hX dX9_lengthen_1 rfl ?_
  refine g_if_le 19 7 hX dX9_lengthen_4 (by decide) rfl (fun _ => ?_) (fun _ => ?_)
  · exact g_vret hX hr rfl (Nat.le_refl 0) (Nat.le_refl 0) dX9_lengthen_19
  · refine g_aload_n 8 0 hX dX9_lengthen_7 rfl rfl ?_
    refine r_X9_18 11 hX dX9_lengthen_8 rfl ?_
    refine g_aload_n 12 0 hX dX9_lengthen_11 rfl rfl ?_
    refine r_X9_35 15 hX dX9_lengthen_12 rfl ?_
    refine g_iconst 16 hX 1 dX9_lengthen_15 rfl kc_i_1 ?_
    refine g_isub 17 hX dX9_lengthen_16 rfl ?_
    refine g_iload_n 18 1 hX dX9_lengthen_17 rfl rfl ?_
    refine g_iast 19 hX dX9_lengthen_18 rfl ?_
    refine g_klM (fun M1 hM1 => ?_)
    exact g_vret hX hr rfl (Nat.le_refl 0) (Nat.le_refl 0) dX9_lengthen_19
set_option maxRecDepth 100000 in
set_option maxHeartbeats 4000000 in
theorem k_X9_begin_72 {p : Program} {l : Launch} {e : Env} {s : State} {m : MethodId} {args : Array Value} {below : List Frame} {meth : Method} {c : Code} {g : kG} (hX : Cok (p, l, e, { frames := 3, cells := 0, slots := 0, locals := 60 * 3 }, s, m, args, below, meth, c, cX9_begin, 4, RX9, g, 3)) (hr : meth.sig.returnType = none) (N : Nat) (k24 : kMem → Nat → Int32 → Int32 → Option (kMem)) (h24 : ∀ (M : kMem) (a0 : Nat) (x1 : Int32) (x2 : Int32), GG (p, l, e, { frames := 3, cells := 0, slots := 0, locals := 60 * 3 }, s, m, args, below, meth, c, cX9_begin, 4, RX9, g, 3) (fun b => MQ below (kQ g ((fun r : kMem => (none, r)) b)) args s 0 0 (kZ g.2.2.1)) 0 0 (k24 M a0 x1 x2) 24 [(0, .ref a0), (1, .int x1), (2, .int x2)] [] M) : ∀ (M : kMem) (a0 : Nat) (x2 : Int32) (x3 : Int32), GG (p, l, e, { frames := 3, cells := 0, slots := 0, locals := 60 * 3 }, s, m, args, below, meth, c, cX9_begin, 4, RX9, g, 3) (fun b => MQ below (kQ g ((fun r : kMem => (none, r)) b)) args s 0 0 (kZ g.2.2.1)) 0 0 (F_X9_begin_72 N k24 M a0 x2 x3) 72 [(0, .ref a0), (2, .int x2), (3, .int x3)] [] M := by
  intro M a0 x2 x3
  unfold F_X9_begin_72
  refine g_iload_n 73 2 hX dX9_begin_72 rfl rfl ?_
  refine g_if_eq 85 76 hX dX9_begin_73 (by decide) rfl (fun _ => ?_) (fun _ => ?_)
  · refine g_iload_n 86 2 hX dX9_begin_85 rfl rfl ?_
    refine g_istore_n 87 1 [(1, .int x3), (0, .ref a0), (2, .int x2), (3, .int x3)] hX dX9_begin_86 rfl rfl (Nat.le_of_ble_eq_true rfl) rfl ?_
    refine g_kl (fun v8 hv8 => ?_)
    refine g_iinc 90 2 2 v8 [(2, .int v8), (1, .int x3), (0, .ref a0), (3, .int x3)] hX dX9_begin_87 rfl rfl (by rw [hv8, kc_i_1]) (Nat.le_of_ble_eq_true rfl) rfl ?_
    refine g_goto 24 hX dX9_begin_90 (by decide) ?_
    refine g_lv [2, 1, 0] rfl ?_
    exact h24 M a0 x3 v8
  · refine g_aload_n 77 0 hX dX9_begin_76 rfl rfl ?_
    refine g_iload_n 78 2 hX dX9_begin_77 rfl rfl ?_
    refine g_iload_n 79 1 hX dX9_begin_78 rfl rfl ?_
    refine g_iload_n 80 1 hX dX9_begin_79 rfl rfl ?_
    refine g_iconst 81 hX 1 dX9_begin_80 rfl kc_i_1 ?_
    refine g_iadd 82 hX dX9_begin_81 rfl ?_
    refine g_callV_v 85 hX (k_X9_add l g N M a0 x3 x2 (x2 + 1)) lk_X9_add rfl (ci := 9) rfl (Nat.le_of_ble_eq_true rfl) q_454 q_2 (by omega) rfl (Nat.le_of_ble_eq_true rfl) (Nat.zero_le _) (Nat.zero_le _) dX9_begin_82 rfl (fun M9 => ?_)
    refine g_iload_n 86 2 hX dX9_begin_85 rfl rfl ?_
    refine g_istore_n 87 1 [(1, .int x3), (0, .ref a0), (2, .int x2), (3, .int x3)] hX dX9_begin_86 rfl rfl (Nat.le_of_ble_eq_true rfl) rfl ?_
    refine g_kl (fun v10 hv10 => ?_)
    refine g_iinc 90 2 2 v10 [(2, .int v10), (1, .int x3), (0, .ref a0), (3, .int x3)] hX dX9_begin_87 rfl rfl (by rw [hv10, kc_i_1]) (Nat.le_of_ble_eq_true rfl) rfl ?_
    refine g_goto 24 hX dX9_begin_90 (by decide) ?_
    refine g_lv [2, 1, 0] rfl ?_
    exact h24 M9 a0 x3 v10
set_option maxRecDepth 100000 in
set_option maxHeartbeats 4000000 in
theorem k_X9_begin_62 {p : Program} {l : Launch} {e : Env} {s : State} {m : MethodId} {args : Array Value} {below : List Frame} {meth : Method} {c : Code} {g : kG} (hX : Cok (p, l, e, { frames := 3, cells := 0, slots := 0, locals := 60 * 3 }, s, m, args, below, meth, c, cX9_begin, 4, RX9, g, 3)) (hr : meth.sig.returnType = none) (N : Nat) (k24 : kMem → Nat → Int32 → Int32 → Option (kMem)) (h24 : ∀ (M : kMem) (a0 : Nat) (x1 : Int32) (x2 : Int32), GG (p, l, e, { frames := 3, cells := 0, slots := 0, locals := 60 * 3 }, s, m, args, below, meth, c, cX9_begin, 4, RX9, g, 3) (fun b => MQ below (kQ g ((fun r : kMem => (none, r)) b)) args s 0 0 (kZ g.2.2.1)) 0 0 (k24 M a0 x1 x2) 24 [(0, .ref a0), (1, .int x1), (2, .int x2)] [] M) : ∀ (M : kMem) (a0 : Nat) (x2 : Int32) (x3 : Int32), GG (p, l, e, { frames := 3, cells := 0, slots := 0, locals := 60 * 3 }, s, m, args, below, meth, c, cX9_begin, 4, RX9, g, 3) (fun b => MQ below (kQ g ((fun r : kMem => (none, r)) b)) args s 0 0 (kZ g.2.2.1)) 0 0 (F_X9_begin_62 N k24 M a0 x2 x3) 62 [(0, .ref a0), (2, .int x2), (3, .int x3)] [] M := by
  intro M a0 x2 x3
  unfold F_X9_begin_62
  refine g_aload_n 63 0 hX dX9_begin_62 rfl rfl ?_
  refine g_iload_n 64 1 hX dX9_begin_63 rfl rfl ?_
  refine g_iconst 65 hX 1 dX9_begin_64 rfl kc_i_1 ?_
  refine g_iadd 66 hX dX9_begin_65 rfl ?_
  refine g_callV_v 69 hX (k_X9_lengthen l g N M a0 (x2 + 1)) lk_X9_lengthen rfl (ci := 9) rfl (Nat.le_of_ble_eq_true rfl) q_450 q_1 (by omega) rfl (Nat.le_of_ble_eq_true rfl) (Nat.zero_le _) (Nat.zero_le _) dX9_begin_66 rfl (fun M11 => ?_)
  refine g_goto 85 hX dX9_begin_69 (by decide) ?_
  refine g_iload_n 86 2 hX dX9_begin_85 rfl rfl ?_
  refine g_istore_n 87 1 [(1, .int x3), (0, .ref a0), (2, .int x2), (3, .int x3)] hX dX9_begin_86 rfl rfl (Nat.le_of_ble_eq_true rfl) rfl ?_
  refine g_kl (fun v12 hv12 => ?_)
  refine g_iinc 90 2 2 v12 [(2, .int v12), (1, .int x3), (0, .ref a0), (3, .int x3)] hX dX9_begin_87 rfl rfl (by rw [hv12, kc_i_1]) (Nat.le_of_ble_eq_true rfl) rfl ?_
  refine g_goto 24 hX dX9_begin_90 (by decide) ?_
  refine g_lv [2, 1, 0] rfl ?_
  exact h24 M11 a0 x3 v12
set_option maxRecDepth 100000 in
set_option maxHeartbeats 4000000 in
theorem k_X9_begin_24 {p : Program} {l : Launch} {e : Env} {s : State} {m : MethodId} {args : Array Value} {below : List Frame} {meth : Method} {c : Code} {g : kG} (hX : Cok (p, l, e, { frames := 3, cells := 0, slots := 0, locals := 60 * 3 }, s, m, args, below, meth, c, cX9_begin, 4, RX9, g, 3)) (hr : meth.sig.returnType = none) (N : Nat) : ∀ (n : Nat) (M : kMem) (a0 : Nat) (x1 : Int32) (x2 : Int32), GG (p, l, e, { frames := 3, cells := 0, slots := 0, locals := 60 * 3 }, s, m, args, below, meth, c, cX9_begin, 4, RX9, g, 3) (fun b => MQ below (kQ g ((fun r : kMem => (none, r)) b)) args s 0 0 (kZ g.2.2.1)) 0 0 (F_X9_begin_24 N n M a0 x1 x2) 24 [(0, .ref a0), (1, .int x1), (2, .int x2)] [] M := by
  intro n
  induction n with
  | zero => intro _ _ _ _; exact g_none
  | succ n ih =>
    intro M a0 x1 x2
    unfold F_X9_begin_24
    refine g_iload_n 25 2 hX dX9_begin_24 rfl rfl ?_
    refine g_aload_n 26 0 hX dX9_begin_25 rfl rfl ?_
    refine r_X9_25 29 hX dX9_begin_26 rfl ?_
    refine r_X9_38 32 hX dX9_begin_29 rfl ?_
    refine g_icmp_ge 93 35 hX dX9_begin_32 (by decide) rfl (fun _ => ?_) (fun _ => ?_)
    · refine g_aload_n 94 0 hX dX9_begin_93 rfl rfl ?_
      refine g_iconst 95 hX 4 dX9_begin_94 rfl kc_i_4 ?_
      refine g_aload_n 96 0 hX dX9_begin_95 rfl rfl ?_
      refine r_X9_25 99 hX dX9_begin_96 rfl ?_
      refine r_X9_38 102 hX dX9_begin_99 rfl ?_
      refine g_aload_n 103 0 hX dX9_begin_102 rfl rfl ?_
      refine r_X9_25 106 hX dX9_begin_103 rfl ?_
      refine r_X9_38 109 hX dX9_begin_106 rfl ?_
      refine g_callV_v 112 hX (k_X9_add l g N M a0 4 (kI M (kR M a0 0) 1) (kI M (kR M a0 0) 1)) lk_X9_add rfl (ci := 9) rfl (Nat.le_of_ble_eq_true rfl) q_454 q_2 (by omega) rfl (Nat.le_of_ble_eq_true rfl) (Nat.zero_le _) (Nat.zero_le _) dX9_begin_109 rfl (fun M5 => ?_)
      exact g_vret hX hr rfl (Nat.le_refl 0) (Nat.le_refl 0) dX9_begin_112
    · refine g_aload_n 36 0 hX dX9_begin_35 rfl rfl ?_
      refine r_X9_25 39 hX dX9_begin_36 rfl ?_
      refine g_iload_n 40 2 hX dX9_begin_39 rfl rfl ?_
      refine g_callV_ip 43 hX (k_X8_byteAt l g N M (kR M a0 0) x2) lk_X8_byteAt rfl (ci := 8) rfl (Nat.le_of_ble_eq_true rfl) q_437 q_439 (by omega) rfl (Nat.le_of_ble_eq_true rfl) (Nat.zero_le _) (Nat.zero_le _) dX9_begin_40 rfl (fun r6 => ?_)
      refine g_callS_ip 46 hX (k_X9_kindOf l g N M r6) lk_X9_kindOf q_441 (by omega) rfl (Nat.le_of_ble_eq_true rfl) (Nat.zero_le _) (Nat.zero_le _) dX9_begin_43 rfl (fun r7 => ?_)
      refine g_istore_n 47 3 [(3, .int r7), (0, .ref a0), (1, .int x1), (2, .int x2)] hX dX9_begin_46 rfl rfl (Nat.le_of_ble_eq_true rfl) rfl ?_
      refine g_iload_n 48 0 hX dX9_begin_47 rfl rfl ?_
      refine g_iload_n 49 2 hX dX9_begin_48 rfl rfl ?_
      refine g_icmp_ne 72 52 hX dX9_begin_49 (by decide) rfl (fun _ => ?_) (fun _ => ?_)
      · refine g_lv [1, 3, 0] rfl ?_
        exact k_X9_begin_72 hX hr N (fun M a0 x1 x2 => F_X9_begin_24 N n M a0 x1 x2) ih M a0 x2 r7
      · refine g_iload_n 53 0 hX dX9_begin_52 rfl rfl ?_
        refine g_iconst 54 hX 1 dX9_begin_53 rfl kc_i_1 ?_
        refine g_icmp_eq 62 57 hX dX9_begin_54 (by decide) rfl (fun _ => ?_) (fun _ => ?_)
        · refine g_lv [1, 3, 0] rfl ?_
          exact k_X9_begin_62 hX hr N (fun M a0 x1 x2 => F_X9_begin_24 N n M a0 x1 x2) ih M a0 x2 r7
        · refine g_iload_n 58 0 hX dX9_begin_57 rfl rfl ?_
          refine g_iconst 59 hX 2 dX9_begin_58 rfl kc_i_2 ?_
          refine g_icmp_ne 72 62 hX dX9_begin_59 (by decide) rfl (fun _ => ?_) (fun _ => ?_)
          · refine g_lv [1, 3, 0] rfl ?_
            exact k_X9_begin_72 hX hr N (fun M a0 x1 x2 => F_X9_begin_24 N n M a0 x1 x2) ih M a0 x2 r7
          · refine g_lv [1, 3, 0] rfl ?_
            exact k_X9_begin_62 hX hr N (fun M a0 x1 x2 => F_X9_begin_24 N n M a0 x1 x2) ih M a0 x2 r7
set_option maxRecDepth 100000 in
set_option maxHeartbeats 4000000 in
theorem k_X9_begin (l : Launch) (g : kG) (N : Nat) (M : kMem) (a0 : Nat) : kMet l g yX9_begin cX9_begin 4 none 3 0 0 [.ref a0] M (fun r : kMem => (none, r)) (F_X9_begin N M a0) := by
  refine k_of (lv := [(0, .ref a0)]) RX9 (by decide) rfl rfl (Nat.le_of_ble_eq_true rfl) ?_
  intro p e s m args below meth c hX hr _
  unfold F_X9_begin
  refine g_aload_n 1 0 hX dX9_begin_0 rfl rfl ?_
  refine g_iconst 2 hX 0 dX9_begin_1 rfl kc_i_0 ?_
  refine p_X9_29 5 hX dX9_begin_2 rfl ?_
  refine g_klM (fun M1 hM1 => ?_)
  refine g_aload_n 6 0 hX dX9_begin_5 rfl rfl ?_
  refine g_iconst 7 hX (-1) dX9_begin_6 rfl kc_i_m1 ?_
  refine p_X9_21 10 hX dX9_begin_7 rfl ?_
  refine g_klM (fun M2 hM2 => ?_)
  refine g_aload_n 11 0 hX dX9_begin_10 rfl rfl ?_
  refine g_iconst 12 hX 0 dX9_begin_11 rfl kc_i_0 ?_
  refine p_X9_32 15 hX dX9_begin_12 rfl ?_
  refine g_klM (fun M3 hM3 => ?_)
  refine g_aload_n 16 0 hX dX9_begin_15 rfl rfl ?_
  refine g_iconst 17 hX 0 dX9_begin_16 rfl kc_i_0 ?_
  refine p_X9_35 20 hX dX9_begin_17 rfl ?_
  refine g_klM (fun M4 hM4 => ?_)
  refine g_iconst 21 hX 0 dX9_begin_20 rfl kc_i_0 ?_
  refine g_istore_n 22 1 [(1, .int 0), (0, .ref a0)] hX dX9_begin_21 rfl rfl (Nat.le_of_ble_eq_true rfl) rfl ?_
  refine g_iconst 23 hX 0 dX9_begin_22 rfl kc_i_0 ?_
  refine g_istore_n 24 2 [(2, .int 0), (1, .int 0), (0, .ref a0)] hX dX9_begin_23 rfl rfl (Nat.le_of_ble_eq_true rfl) rfl ?_
  refine g_lv [2, 1, 0] rfl ?_
  exact k_X9_begin_24 hX hr N N M4 a0 0 0
set_option maxRecDepth 100000 in
set_option maxHeartbeats 4000000 in
theorem k_X9_failed (l : Launch) (g : kG) (N : Nat) (M : kMem) (a0 : Nat) : kMet l g yX9_failed cX9_failed 1 (some .boolean) 1 0 0 [.ref a0] M (fun r : Int32 => (some (.int r), M)) (F_X9_failed N M a0) := by
  refine k_of (lv := [(0, .ref a0)]) RX9 (by decide) rfl rfl (Nat.le_of_ble_eq_true rfl) ?_
  intro p e s m args below meth c hX hr _
  unfold F_X9_failed
  refine g_aload_n 1 0 hX dX9_failed_0 rfl rfl ?_
  refine r_X9_29 4 hX dX9_failed_1 rfl ?_
  refine g_if_eq 11 7 hX dX9_failed_4 (by decide) rfl (fun _ => ?_) (fun _ => ?_)
  · refine g_iconst 12 hX 0 dX9_failed_11 rfl kc_i_0 ?_
    exact g_zretL hX hr rfl rfl (Nat.le_refl 0) (Nat.le_refl 0) dX9_failed_12
  · refine g_iconst 8 hX 1 dX9_failed_7 rfl kc_i_1 ?_
    refine g_goto 12 hX dX9_failed_8 (by decide) ?_
    exact g_zretL hX hr rfl rfl (Nat.le_refl 0) (Nat.le_refl 0) dX9_failed_12
set_option maxRecDepth 100000 in
set_option maxHeartbeats 4000000 in
theorem k_X9_failAt (l : Launch) (g : kG) (N : Nat) (M : kMem) (a0 : Nat) (x1 : Int32) (x2 : Int32) : kMet l g yX9_failAt cX9_failAt 3 none 1 0 0 [.ref a0, .int x1, .int x2] M (fun r : kMem => (none, r)) (F_X9_failAt N M a0 x1 x2) := by
  refine k_of (lv := [(0, .ref a0), (1, .int x1), (2, .int x2)]) RX9 (by decide) rfl rfl (Nat.le_of_ble_eq_true rfl) ?_
  intro p e s m args below meth c hX hr _
  unfold F_X9_failAt
  refine g_aload_n 1 0 hX dX9_failAt_0 rfl rfl ?_
  refine r_X9_29 4 hX dX9_failAt_1 rfl ?_
  refine g_if_ne 34 7 hX dX9_failAt_4 (by decide) rfl (fun _ => ?_) (fun _ => ?_)
  · exact g_vret hX hr rfl (Nat.le_refl 0) (Nat.le_refl 0) dX9_failAt_34
  · refine g_iload_n 8 1 hX dX9_failAt_7 rfl rfl ?_
    refine g_if_lt 34 11 hX dX9_failAt_8 (by decide) rfl (fun _ => ?_) (fun _ => ?_)
    · exact g_vret hX hr rfl (Nat.le_refl 0) (Nat.le_refl 0) dX9_failAt_34
    · refine g_iload_n 12 1 hX dX9_failAt_11 rfl rfl ?_
      refine g_aload_n 13 0 hX dX9_failAt_12 rfl rfl ?_
      refine r_X9_35 16 hX dX9_failAt_13 rfl ?_
      refine g_icmp_ge 34 19 hX dX9_failAt_16 (by decide) rfl (fun _ => ?_) (fun _ => ?_)
      · exact g_vret hX hr rfl (Nat.le_refl 0) (Nat.le_refl 0) dX9_failAt_34
      · refine g_aload_n 20 0 hX dX9_failAt_19 rfl rfl ?_
        refine g_iload_n 21 2 hX dX9_failAt_20 rfl rfl ?_
        refine p_X9_29 24 hX dX9_failAt_21 rfl ?_
        refine g_klM (fun M1 hM1 => ?_)
        refine g_aload_n 25 0 hX dX9_failAt_24 rfl rfl ?_
        refine g_aload_n 26 0 hX dX9_failAt_25 rfl rfl ?_
        refine r_X9_15 29 hX dX9_failAt_26 rfl ?_
        refine g_iload_n 30 1 hX dX9_failAt_29 rfl rfl ?_
        refine g_iald 31 hX dX9_failAt_30 rfl ?_
        refine p_X9_21 34 hX dX9_failAt_31 rfl ?_
        refine g_klM (fun M2 hM2 => ?_)
        exact g_vret hX hr rfl (Nat.le_refl 0) (Nat.le_refl 0) dX9_failAt_34
set_option maxRecDepth 100000 in
set_option maxHeartbeats 4000000 in
theorem k_X9_refuse (l : Launch) (g : kG) (N : Nat) (M : kMem) (a0 : Nat) (x1 : Int32) : kMet l g yX9_refuse cX9_refuse 2 none 2 0 0 [.ref a0, .int x1] M (fun r : kMem => (none, r)) (F_X9_refuse N M a0 x1) := by
  refine k_of (lv := [(0, .ref a0), (1, .int x1)]) RX9 (by decide) rfl rfl (Nat.le_of_ble_eq_true rfl) ?_
  intro p e s m args below meth c hX hr _
  unfold F_X9_refuse
  refine g_aload_n 1 0 hX dX9_refuse_0 rfl rfl ?_
  refine g_aload_n 2 0 hX dX9_refuse_1 rfl rfl ?_
  refine r_X9_32 5 hX dX9_refuse_2 rfl ?_
  refine g_iload_n 6 1 hX dX9_refuse_5 rfl rfl ?_
  refine g_callV_v 9 hX (k_X9_failAt l g N M a0 (kI M a0 5) x1) lk_X9_failAt rfl (ci := 9) rfl (Nat.le_of_ble_eq_true rfl) q_487 q_5 (by omega) rfl (Nat.le_of_ble_eq_true rfl) (Nat.zero_le _) (Nat.zero_le _) dX9_refuse_6 rfl (fun M1 => ?_)
  exact g_vret hX hr rfl (Nat.le_refl 0) (Nat.le_refl 0) dX9_refuse_9
set_option maxRecDepth 100000 in
set_option maxHeartbeats 4000000 in
theorem k_X9_refuseTaken (l : Launch) (g : kG) (N : Nat) (M : kMem) (a0 : Nat) (x1 : Int32) : kMet l g yX9_refuseTaken cX9_refuseTaken 2 none 2 0 0 [.ref a0, .int x1] M (fun r : kMem => (none, r)) (F_X9_refuseTaken N M a0 x1) := by
  refine k_of (lv := [(0, .ref a0), (1, .int x1)]) RX9 (by decide) rfl rfl (Nat.le_of_ble_eq_true rfl) ?_
  intro p e s m args below meth c hX hr _
  unfold F_X9_refuseTaken
  refine g_aload_n 1 0 hX dX9_refuseTaken_0 rfl rfl ?_
  refine g_aload_n 2 0 hX dX9_refuseTaken_1 rfl rfl ?_
  refine r_X9_32 5 hX dX9_refuseTaken_2 rfl ?_
  refine g_iconst 6 hX 1 dX9_refuseTaken_5 rfl kc_i_1 ?_
  refine g_isub 7 hX dX9_refuseTaken_6 rfl ?_
  refine g_iload_n 8 1 hX dX9_refuseTaken_7 rfl rfl ?_
  refine g_callV_v 11 hX (k_X9_failAt l g N M a0 ((kI M a0 5) - 1) x1) lk_X9_failAt rfl (ci := 9) rfl (Nat.le_of_ble_eq_true rfl) q_487 q_5 (by omega) rfl (Nat.le_of_ble_eq_true rfl) (Nat.zero_le _) (Nat.zero_le _) dX9_refuseTaken_8 rfl (fun M1 => ?_)
  exact g_vret hX hr rfl (Nat.le_refl 0) (Nat.le_refl 0) dX9_refuseTaken_11
set_option maxRecDepth 100000 in
set_option maxHeartbeats 4000000 in
theorem k_X9_at (l : Launch) (g : kG) (N : Nat) (M : kMem) (a0 : Nat) (x1 : Int32) : kMet l g yX9_at cX9_at 2 (some .boolean) 1 0 0 [.ref a0, .int x1] M (fun r : Int32 => (some (.int r), M)) (F_X9_at N M a0 x1) := by
  refine k_of (lv := [(0, .ref a0), (1, .int x1)]) RX9 (by decide) rfl rfl (Nat.le_of_ble_eq_true rfl) ?_
  intro p e s m args below meth c hX hr _
  unfold F_X9_at
  refine g_aload_n 1 0 hX dX9_at_0 rfl rfl ?_
  refine r_X9_29 4 hX dX9_at_1 rfl ?_
  refine g_if_ne 35 7 hX dX9_at_4 (by decide) rfl (fun _ => ?_) (fun _ => ?_)
  · refine g_iconst 36 hX 0 dX9_at_35 rfl kc_i_0 ?_
    exact g_zretL hX hr rfl rfl (Nat.le_refl 0) (Nat.le_refl 0) dX9_at_36
  · refine g_aload_n 8 0 hX dX9_at_7 rfl rfl ?_
    refine r_X9_32 11 hX dX9_at_8 rfl ?_
    refine g_aload_n 12 0 hX dX9_at_11 rfl rfl ?_
    refine r_X9_35 15 hX dX9_at_12 rfl ?_
    refine g_icmp_ge 35 18 hX dX9_at_15 (by decide) rfl (fun _ => ?_) (fun _ => ?_)
    · refine g_iconst 36 hX 0 dX9_at_35 rfl kc_i_0 ?_
      exact g_zretL hX hr rfl rfl (Nat.le_refl 0) (Nat.le_refl 0) dX9_at_36
    · refine g_aload_n 19 0 hX dX9_at_18 rfl rfl ?_
      refine r_X9_9 22 hX dX9_at_19 rfl ?_
      refine g_aload_n 23 0 hX dX9_at_22 rfl rfl ?_
      refine r_X9_32 26 hX dX9_at_23 rfl ?_
      refine g_iald 27 hX dX9_at_26 rfl ?_
      refine g_iload_n 28 1 hX dX9_at_27 rfl rfl ?_
      refine g_icmp_ne 35 31 hX dX9_at_28 (by decide) rfl (fun _ => ?_) (fun _ => ?_)
      · refine g_iconst 36 hX 0 dX9_at_35 rfl kc_i_0 ?_
        exact g_zretL hX hr rfl rfl (Nat.le_refl 0) (Nat.le_refl 0) dX9_at_36
      · refine g_iconst 32 hX 1 dX9_at_31 rfl kc_i_1 ?_
        refine g_goto 36 hX dX9_at_32 (by decide) ?_
        exact g_zretL hX hr rfl rfl (Nat.le_refl 0) (Nat.le_refl 0) dX9_at_36
set_option maxRecDepth 100000 in
set_option maxHeartbeats 4000000 in
theorem k_X9_atSign (l : Launch) (g : kG) (N : Nat) (M : kMem) (a0 : Nat) (x1 : Int32) : kMet l g yX9_atSign cX9_atSign 2 (some .boolean) 2 0 0 [.ref a0, .int x1] M (fun r : Int32 => (some (.int r), M)) (F_X9_atSign N M a0 x1) := by
  refine k_of (lv := [(0, .ref a0), (1, .int x1)]) RX9 (by decide) rfl rfl (Nat.le_of_ble_eq_true rfl) ?_
  intro p e s m args below meth c hX hr _
  unfold F_X9_atSign
  refine g_aload_n 1 0 hX dX9_atSign_0 rfl rfl ?_
  refine g_iconst 2 hX 3 dX9_atSign_1 rfl kc_i_3 ?_
  refine g_callV_ip 5 hX (k_X9_at l g N M a0 3) lk_X9_at rfl (ci := 9) rfl (Nat.le_of_ble_eq_true rfl) q_477 q_3 (by omega) rfl (Nat.le_of_ble_eq_true rfl) (Nat.zero_le _) (Nat.zero_le _) dX9_atSign_2 rfl (fun r1 => ?_)
  refine g_if_eq 32 8 hX dX9_atSign_5 (by decide) rfl (fun _ => ?_) (fun _ => ?_)
  · refine g_iconst 33 hX 0 dX9_atSign_32 rfl kc_i_0 ?_
    exact g_zretL hX hr rfl rfl (Nat.le_refl 0) (Nat.le_refl 0) dX9_atSign_33
  · refine g_aload_n 9 0 hX dX9_atSign_8 rfl rfl ?_
    refine r_X9_25 12 hX dX9_atSign_9 rfl ?_
    refine g_aload_n 13 0 hX dX9_atSign_12 rfl rfl ?_
    refine r_X9_15 16 hX dX9_atSign_13 rfl ?_
    refine g_aload_n 17 0 hX dX9_atSign_16 rfl rfl ?_
    refine r_X9_32 20 hX dX9_atSign_17 rfl ?_
    refine g_iald 21 hX dX9_atSign_20 rfl ?_
    refine g_callV_ip 24 hX (k_X8_byteAt l g N M (kR M a0 0) (kI M (kR M a0 2) (kx (kI M a0 5)))) lk_X8_byteAt rfl (ci := 8) rfl (Nat.le_of_ble_eq_true rfl) q_437 q_439 (by omega) rfl (Nat.le_of_ble_eq_true rfl) (Nat.zero_le _) (Nat.zero_le _) dX9_atSign_21 rfl (fun r2 => ?_)
    refine g_iload_n 25 1 hX dX9_atSign_24 rfl rfl ?_
    refine g_icmp_ne 32 28 hX dX9_atSign_25 (by decide) rfl (fun _ => ?_) (fun _ => ?_)
    · refine g_iconst 33 hX 0 dX9_atSign_32 rfl kc_i_0 ?_
      exact g_zretL hX hr rfl rfl (Nat.le_refl 0) (Nat.le_refl 0) dX9_atSign_33
    · refine g_iconst 29 hX 1 dX9_atSign_28 rfl kc_i_1 ?_
      refine g_goto 33 hX dX9_atSign_29 (by decide) ?_
      exact g_zretL hX hr rfl rfl (Nat.le_refl 0) (Nat.le_refl 0) dX9_atSign_33
set_option maxRecDepth 100000 in
set_option maxHeartbeats 4000000 in
theorem k_X9_takeIf (l : Launch) (g : kG) (N : Nat) (M : kMem) (a0 : Nat) (x1 : Int32) : kMet l g yX9_takeIf cX9_takeIf 2 none 2 0 0 [.ref a0, .int x1] M (fun r : kMem => (none, r)) (F_X9_takeIf N M a0 x1) := by
  refine k_of (lv := [(0, .ref a0), (1, .int x1)]) RX9 (by decide) rfl rfl (Nat.le_of_ble_eq_true rfl) ?_
  intro p e s m args below meth c hX hr _
  unfold F_X9_takeIf
  refine g_iload_n 1 1 hX dX9_takeIf_0 rfl rfl ?_
  refine g_if_ne 16 4 hX dX9_takeIf_1 (by decide) rfl (fun _ => ?_) (fun _ => ?_)
  · refine g_aload_n 17 0 hX dX9_takeIf_16 rfl rfl ?_
    refine r_X9_29 20 hX dX9_takeIf_17 rfl ?_
    refine g_if_ne 33 23 hX dX9_takeIf_20 (by decide) rfl (fun _ => ?_) (fun _ => ?_)
    · exact g_vret hX hr rfl (Nat.le_refl 0) (Nat.le_refl 0) dX9_takeIf_33
    · refine g_aload_n 24 0 hX dX9_takeIf_23 rfl rfl ?_
      refine g_dup 25 hX dX9_takeIf_24 rfl rfl ?_
      refine r_X9_32 28 hX dX9_takeIf_25 rfl ?_
      refine g_iconst 29 hX 1 dX9_takeIf_28 rfl kc_i_1 ?_
      refine g_iadd 30 hX dX9_takeIf_29 rfl ?_
      refine p_X9_32 33 hX dX9_takeIf_30 rfl ?_
      refine g_klM (fun M1 hM1 => ?_)
      exact g_vret hX hr rfl (Nat.le_refl 0) (Nat.le_refl 0) dX9_takeIf_33
  · refine g_aload_n 5 0 hX dX9_takeIf_4 rfl rfl ?_
    refine g_aload_n 6 0 hX dX9_takeIf_5 rfl rfl ?_
    refine r_X9_32 9 hX dX9_takeIf_6 rfl ?_
    refine g_iconst 10 hX 1 dX9_takeIf_9 rfl kc_i_1 ?_
    refine g_callV_v 13 hX (k_X9_failAt l g N M a0 (kI M a0 5) 1) lk_X9_failAt rfl (ci := 9) rfl (Nat.le_of_ble_eq_true rfl) q_487 q_5 (by omega) rfl (Nat.le_of_ble_eq_true rfl) (Nat.zero_le _) (Nat.zero_le _) dX9_takeIf_10 rfl (fun M2 => ?_)
    refine g_goto 33 hX dX9_takeIf_13 (by decide) ?_
    exact g_vret hX hr rfl (Nat.le_refl 0) (Nat.le_refl 0) dX9_takeIf_33
set_option maxRecDepth 100000 in
set_option maxHeartbeats 4000000 in
theorem k_X9_takeAnyWord (l : Launch) (g : kG) (N : Nat) (M : kMem) (a0 : Nat) : kMet l g yX9_takeAnyWord cX9_takeAnyWord 1 none 3 0 0 [.ref a0] M (fun r : kMem => (none, r)) (F_X9_takeAnyWord N M a0) := by
  refine k_of (lv := [(0, .ref a0)]) RX9 (by decide) rfl rfl (Nat.le_of_ble_eq_true rfl) ?_
  intro p e s m args below meth c hX hr _
  unfold F_X9_takeAnyWord
  refine g_aload_n 1 0 hX dX9_takeAnyWord_0 rfl rfl ?_
  refine g_aload_n 2 0 hX dX9_takeAnyWord_1 rfl rfl ?_
  refine g_iconst 3 hX 1 dX9_takeAnyWord_2 rfl kc_i_1 ?_
  refine g_callV_ip 6 hX (k_X9_at l g N M a0 1) lk_X9_at rfl (ci := 9) rfl (Nat.le_of_ble_eq_true rfl) q_477 q_3 (by omega) rfl (Nat.le_of_ble_eq_true rfl) (Nat.zero_le _) (Nat.zero_le _) dX9_takeAnyWord_3 rfl (fun r1 => ?_)
  refine g_callV_v 9 hX (k_X9_takeIf l g N M a0 r1) lk_X9_takeIf rfl (ci := 9) rfl (Nat.le_of_ble_eq_true rfl) q_483 q_4 (by omega) rfl (Nat.le_of_ble_eq_true rfl) (Nat.zero_le _) (Nat.zero_le _) dX9_takeAnyWord_6 rfl (fun M2 => ?_)
  exact g_vret hX hr rfl (Nat.le_refl 0) (Nat.le_refl 0) dX9_takeAnyWord_9
set_option maxRecDepth 100000 in
set_option maxHeartbeats 4000000 in
theorem k_X9_takeSign (l : Launch) (g : kG) (N : Nat) (M : kMem) (a0 : Nat) (x1 : Int32) : kMet l g yX9_takeSign cX9_takeSign 2 none 3 0 0 [.ref a0, .int x1] M (fun r : kMem => (none, r)) (F_X9_takeSign N M a0 x1) := by
  refine k_of (lv := [(0, .ref a0), (1, .int x1)]) RX9 (by decide) rfl rfl (Nat.le_of_ble_eq_true rfl) ?_
  intro p e s m args below meth c hX hr _
  unfold F_X9_takeSign
  refine g_aload_n 1 0 hX dX9_takeSign_0 rfl rfl ?_
  refine g_aload_n 2 0 hX dX9_takeSign_1 rfl rfl ?_
  refine g_iload_n 3 1 hX dX9_takeSign_2 rfl rfl ?_
  refine g_callV_ip 6 hX (k_X9_atSign l g N M a0 x1) lk_X9_atSign rfl (ci := 9) rfl (Nat.le_of_ble_eq_true rfl) q_512 q_514 (by omega) rfl (Nat.le_of_ble_eq_true rfl) (Nat.zero_le _) (Nat.zero_le _) dX9_takeSign_3 rfl (fun r1 => ?_)
  refine g_callV_v 9 hX (k_X9_takeIf l g N M a0 r1) lk_X9_takeIf rfl (ci := 9) rfl (Nat.le_of_ble_eq_true rfl) q_483 q_4 (by omega) rfl (Nat.le_of_ble_eq_true rfl) (Nat.zero_le _) (Nat.zero_le _) dX9_takeSign_6 rfl (fun M2 => ?_)
  exact g_vret hX hr rfl (Nat.le_refl 0) (Nat.le_refl 0) dX9_takeSign_9
set_option maxRecDepth 100000 in
set_option maxHeartbeats 4000000 in
theorem k_X9_takeName_37 {p : Program} {l : Launch} {e : Env} {s : State} {m : MethodId} {args : Array Value} {below : List Frame} {meth : Method} {c : Code} {g : kG} (hX : Cok (p, l, e, { frames := 3, cells := 0, slots := 0, locals := 60 * 3 }, s, m, args, below, meth, c, cX9_takeName, 3, RX9, g, 3)) (hr : meth.sig.returnType = (some .long)) (N : Nat) : ∀ (M : kMem) (a0 : Nat) (y0 : Int64), GG (p, l, e, { frames := 3, cells := 0, slots := 0, locals := 60 * 3 }, s, m, args, below, meth, c, cX9_takeName, 3, RX9, g, 3) (fun b => MQ below (kQ g ((fun r : Int64 × kMem => (some (.long r.1), r.2)) b)) args s 0 0 (kZ g.2.2.1)) 0 0 (F_X9_takeName_37 N M a0 y0) 37 [(0, .ref a0)] [.long y0] M := by
  intro M a0 y0
  unfold F_X9_takeName_37
  refine g_lstore_n 38 1 [(1, .long y0), (0, .ref a0)] hX dX9_takeName_37 rfl rfl (Nat.le_of_ble_eq_true rfl) rfl ?_
  refine g_aload_n 39 1 hX dX9_takeName_38 rfl rfl ?_
  refine g_lload_n 40 0 hX dX9_takeName_39 rfl rfl ?_
  refine g_lconst 41 hX 0 dX9_takeName_40 rfl rfl ?_
  refine g_lcmp 42 hX dX9_takeName_41 rfl ?_
  refine g_if_eq 49 45 hX dX9_takeName_42 (by decide) rfl (fun _ => ?_) (fun _ => ?_)
  · refine g_iconst 50 hX 0 dX9_takeName_49 rfl kc_i_0 ?_
    refine g_callV_v 53 hX (k_X9_takeIf l g N M a0 0) lk_X9_takeIf rfl (ci := 9) rfl (Nat.le_of_ble_eq_true rfl) q_483 q_4 (by omega) rfl (Nat.le_of_ble_eq_true rfl) (Nat.zero_le _) (Nat.zero_le _) dX9_takeName_50 rfl (fun M2 => ?_)
    refine g_lload_n 54 0 hX dX9_takeName_53 rfl rfl ?_
    exact g_lret hX hr rfl (Nat.le_refl 0) (Nat.le_refl 0) dX9_takeName_54
  · refine g_iconst 46 hX 1 dX9_takeName_45 rfl kc_i_1 ?_
    refine g_goto 50 hX dX9_takeName_46 (by decide) ?_
    refine g_callV_v 53 hX (k_X9_takeIf l g N M a0 1) lk_X9_takeIf rfl (ci := 9) rfl (Nat.le_of_ble_eq_true rfl) q_483 q_4 (by omega) rfl (Nat.le_of_ble_eq_true rfl) (Nat.zero_le _) (Nat.zero_le _) dX9_takeName_50 rfl (fun M3 => ?_)
    refine g_lload_n 54 0 hX dX9_takeName_53 rfl rfl ?_
    exact g_lret hX hr rfl (Nat.le_refl 0) (Nat.le_refl 0) dX9_takeName_54
set_option maxRecDepth 100000 in
set_option maxHeartbeats 4000000 in
theorem k_X9_takeName (l : Launch) (g : kG) (N : Nat) (M : kMem) (a0 : Nat) : kMet l g yX9_takeName cX9_takeName 3 (some .long) 3 0 0 [.ref a0] M (fun r : Int64 × kMem => (some (.long r.1), r.2)) (F_X9_takeName N M a0) := by
  refine k_of (lv := [(0, .ref a0)]) RX9 (by decide) rfl rfl (Nat.le_of_ble_eq_true rfl) ?_
  intro p e s m args below meth c hX hr _
  unfold F_X9_takeName
  refine g_aload_n 1 0 hX dX9_takeName_0 rfl rfl ?_
  refine g_iconst 2 hX 1 dX9_takeName_1 rfl kc_i_1 ?_
  refine g_callV_ip 5 hX (k_X9_at l g N M a0 1) lk_X9_at rfl (ci := 9) rfl (Nat.le_of_ble_eq_true rfl) q_477 q_3 (by omega) rfl (Nat.le_of_ble_eq_true rfl) (Nat.zero_le _) (Nat.zero_le _) dX9_takeName_2 rfl (fun r1 => ?_)
  refine g_if_eq 36 8 hX dX9_takeName_5 (by decide) rfl (fun _ => ?_) (fun _ => ?_)
  · refine g_lconst 37 hX 0 dX9_takeName_36 rfl rfl ?_
    exact k_X9_takeName_37 hX hr N M a0 0
  · refine g_aload_n 9 0 hX dX9_takeName_8 rfl rfl ?_
    refine r_X9_25 12 hX dX9_takeName_9 rfl ?_
    refine g_aload_n 13 0 hX dX9_takeName_12 rfl rfl ?_
    refine r_X9_15 16 hX dX9_takeName_13 rfl ?_
    refine g_aload_n 17 0 hX dX9_takeName_16 rfl rfl ?_
    refine r_X9_32 20 hX dX9_takeName_17 rfl ?_
    refine g_iald 21 hX dX9_takeName_20 rfl ?_
    refine g_aload_n 22 0 hX dX9_takeName_21 rfl rfl ?_
    refine r_X9_18 25 hX dX9_takeName_22 rfl ?_
    refine g_aload_n 26 0 hX dX9_takeName_25 rfl rfl ?_
    refine r_X9_32 29 hX dX9_takeName_26 rfl ?_
    refine g_iald 30 hX dX9_takeName_29 rfl ?_
    refine g_callV_lp 33 hX (k_X8_nameBetween l g N M (kR M a0 0) (kI M (kR M a0 2) (kx (kI M a0 5))) (kI M (kR M a0 3) (kx (kI M a0 5)))) lk_X8_nameBetween rfl (ci := 8) rfl (Nat.le_of_ble_eq_true rfl) q_546 q_548 (by omega) rfl (Nat.le_of_ble_eq_true rfl) (Nat.zero_le _) (Nat.zero_le _) dX9_takeName_30 rfl (fun r4 => ?_)
    refine g_goto 37 hX dX9_takeName_33 (by decide) ?_
    exact k_X9_takeName_37 hX hr N M a0 r4
set_option maxRecDepth 100000 in
set_option maxHeartbeats 4000000 in
theorem k_X9_valueHere_12 {p : Program} {l : Launch} {e : Env} {s : State} {m : MethodId} {args : Array Value} {below : List Frame} {meth : Method} {c : Code} {g : kG} (hX : Cok (p, l, e, { frames := 2, cells := 0, slots := 0, locals := 60 * 2 }, s, m, args, below, meth, c, cX9_valueHere, 3, RX9, g, 2)) (hr : meth.sig.returnType = (some .int)) (N : Nat) (M : kMem) : ∀ (n : Nat) (a0 : Nat) (x1 : Int32) (x2 : Int32), GG (p, l, e, { frames := 2, cells := 0, slots := 0, locals := 60 * 2 }, s, m, args, below, meth, c, cX9_valueHere, 3, RX9, g, 2) (fun b => MQ below (kQ g ((fun r : Int32 => (some (.int r), M)) b)) args s 0 0 (kZ g.2.2.1)) 0 0 (F_X9_valueHere_12 N M n a0 x1 x2) 12 [(0, .ref a0), (1, .int x1), (2, .int x2)] [] M := by
  intro n
  induction n with
  | zero => intro _ _ _; exact g_none
  | succ n ih =>
    intro a0 x1 x2
    unfold F_X9_valueHere_12
    refine g_iload_n 13 2 hX dX9_valueHere_12 rfl rfl ?_
    refine g_aload_n 14 0 hX dX9_valueHere_13 rfl rfl ?_
    refine r_X9_18 17 hX dX9_valueHere_14 rfl ?_
    refine g_aload_n 18 0 hX dX9_valueHere_17 rfl rfl ?_
    refine r_X9_32 21 hX dX9_valueHere_18 rfl ?_
    refine g_iald 22 hX dX9_valueHere_21 rfl ?_
    refine g_icmp_ge 53 25 hX dX9_valueHere_22 (by decide) rfl (fun _ => ?_) (fun _ => ?_)
    · refine g_iload_n 54 1 hX dX9_valueHere_53 rfl rfl ?_
      exact g_iret hX hr rfl (Nat.le_refl 0) (Nat.le_refl 0) dX9_valueHere_54
    · refine g_ldc 27 hX 1000000 dX9_valueHere_25 rfl q_499 ?_
      refine g_iload_n 28 1 hX dX9_valueHere_27 rfl rfl ?_
      refine g_bipush 30 hX 10 dX9_valueHere_28 rfl kc_b_10 ?_
      refine g_imul 31 hX dX9_valueHere_30 rfl ?_
      refine g_aload_n 32 0 hX dX9_valueHere_31 rfl rfl ?_
      refine r_X9_25 35 hX dX9_valueHere_32 rfl ?_
      refine g_iload_n 36 2 hX dX9_valueHere_35 rfl rfl ?_
      refine g_callV_ip 39 hX (k_X8_byteAt l g N M (kR M a0 0) x2) lk_X8_byteAt rfl (ci := 8) rfl (Nat.le_of_ble_eq_true rfl) q_437 q_439 (by omega) rfl (Nat.le_of_ble_eq_true rfl) (Nat.zero_le _) (Nat.zero_le _) dX9_valueHere_36 rfl (fun r2 => ?_)
      refine g_iadd 40 hX dX9_valueHere_39 rfl ?_
      refine g_bipush 42 hX 48 dX9_valueHere_40 rfl kc_b_48 ?_
      refine g_isub 43 hX dX9_valueHere_42 rfl ?_
      refine g_mmin 46 hX q_500 dX9_valueHere_43 rfl (Nat.le_of_ble_eq_true rfl) (by decide) (Nat.zero_le _) (Nat.zero_le _) ?_
      refine g_klI (fun v3 hv3 => ?_)
      refine g_istore_n 47 1 [(1, .int v3), (0, .ref a0), (2, .int x2)] hX dX9_valueHere_46 rfl rfl (Nat.le_of_ble_eq_true rfl) rfl ?_
      refine g_kl (fun v4 hv4 => ?_)
      refine g_iinc 50 2 2 v4 [(2, .int v4), (1, .int v3), (0, .ref a0)] hX dX9_valueHere_47 rfl rfl (by rw [hv4, kc_i_1]) (Nat.le_of_ble_eq_true rfl) rfl ?_
      refine g_goto 12 hX dX9_valueHere_50 (by decide) ?_
      refine g_lv [2, 1, 0] rfl ?_
      exact ih a0 v3 v4
set_option maxRecDepth 100000 in
set_option maxHeartbeats 4000000 in
theorem k_X9_valueHere (l : Launch) (g : kG) (N : Nat) (M : kMem) (a0 : Nat) : kMet l g yX9_valueHere cX9_valueHere 3 (some .int) 2 0 0 [.ref a0] M (fun r : Int32 => (some (.int r), M)) (F_X9_valueHere N M a0) := by
  refine k_of (lv := [(0, .ref a0)]) RX9 (by decide) rfl rfl (Nat.le_of_ble_eq_true rfl) ?_
  intro p e s m args below meth c hX hr _
  unfold F_X9_valueHere
  refine g_iconst 1 hX 0 dX9_valueHere_0 rfl kc_i_0 ?_
  refine g_istore_n 2 1 [(1, .int 0), (0, .ref a0)] hX dX9_valueHere_1 rfl rfl (Nat.le_of_ble_eq_true rfl) rfl ?_
  refine g_aload_n 3 1 hX dX9_valueHere_2 rfl rfl ?_
  refine r_X9_15 6 hX dX9_valueHere_3 rfl ?_
  refine g_aload_n 7 1 hX dX9_valueHere_6 rfl rfl ?_
  refine r_X9_32 10 hX dX9_valueHere_7 rfl ?_
  refine g_iald 11 hX dX9_valueHere_10 rfl ?_
  refine g_klI (fun v1 hv1 => ?_)
  refine g_istore_n 12 2 [(2, .int v1), (1, .int 0), (0, .ref a0)] hX dX9_valueHere_11 rfl rfl (Nat.le_of_ble_eq_true rfl) rfl ?_
  refine g_lv [2, 1, 0] rfl ?_
  exact k_X9_valueHere_12 hX hr N M N a0 0 v1
set_option maxRecDepth 100000 in
set_option maxHeartbeats 4000000 in
theorem k_X9_takeNumber_41 {p : Program} {l : Launch} {e : Env} {s : State} {m : MethodId} {args : Array Value} {below : List Frame} {meth : Method} {c : Code} {g : kG} (hX : Cok (p, l, e, { frames := 3, cells := 0, slots := 0, locals := 60 * 3 }, s, m, args, below, meth, c, cX9_takeNumber, 5, RX9, g, 3)) (hr : meth.sig.returnType = (some .int)) (N : Nat) : ∀ (M : kMem) (a0 : Nat) (x3 : Int32) (x4 : Int32), GG (p, l, e, { frames := 3, cells := 0, slots := 0, locals := 60 * 3 }, s, m, args, below, meth, c, cX9_takeNumber, 5, RX9, g, 3) (fun b => MQ below (kQ g ((fun r : Int32 × kMem => (some (.int r.1), r.2)) b)) args s 0 0 (kZ g.2.2.1)) 0 0 (F_X9_takeNumber_41 N M a0 x3 x4) 41 [(0, .ref a0), (3, .int x3), (4, .int x4)] [] M := by
  intro M a0 x3 x4
  unfold F_X9_takeNumber_41
  refine g_aload_n 42 0 hX dX9_takeNumber_41 rfl rfl ?_
  refine g_iload_n 43 1 hX dX9_takeNumber_42 rfl rfl ?_
  refine g_callV_v 46 hX (k_X9_takeIf l g N M a0 x3) lk_X9_takeIf rfl (ci := 9) rfl (Nat.le_of_ble_eq_true rfl) q_483 q_4 (by omega) rfl (Nat.le_of_ble_eq_true rfl) (Nat.zero_le _) (Nat.zero_le _) dX9_takeNumber_43 rfl (fun M2 => ?_)
  refine g_aload_n 47 0 hX dX9_takeNumber_46 rfl rfl ?_
  refine r_X9_29 50 hX dX9_takeNumber_47 rfl ?_
  refine g_if_ne 58 53 hX dX9_takeNumber_50 (by decide) rfl (fun _ => ?_) (fun _ => ?_)
  · refine g_iconst 59 hX (-1) dX9_takeNumber_58 rfl kc_i_m1 ?_
    exact g_iret hX hr rfl (Nat.le_refl 0) (Nat.le_refl 0) dX9_takeNumber_59
  · refine g_iload 55 2 hX dX9_takeNumber_53 rfl rfl ?_
    refine g_goto 59 hX dX9_takeNumber_55 (by decide) ?_
    exact g_iret hX hr rfl (Nat.le_refl 0) (Nat.le_refl 0) dX9_takeNumber_59
set_option maxRecDepth 100000 in
set_option maxHeartbeats 4000000 in
theorem k_X9_takeNumber_36 {p : Program} {l : Launch} {e : Env} {s : State} {m : MethodId} {args : Array Value} {below : List Frame} {meth : Method} {c : Code} {g : kG} (hX : Cok (p, l, e, { frames := 3, cells := 0, slots := 0, locals := 60 * 3 }, s, m, args, below, meth, c, cX9_takeNumber, 5, RX9, g, 3)) (hr : meth.sig.returnType = (some .int)) (N : Nat) : ∀ (M : kMem) (a0 : Nat) (x3 : Int32) (x4 : Int32), GG (p, l, e, { frames := 3, cells := 0, slots := 0, locals := 60 * 3 }, s, m, args, below, meth, c, cX9_takeNumber, 5, RX9, g, 3) (fun b => MQ below (kQ g ((fun r : Int32 × kMem => (some (.int r.1), r.2)) b)) args s 0 0 (kZ g.2.2.1)) 0 0 (F_X9_takeNumber_36 N M a0 x3 x4) 36 [(0, .ref a0), (3, .int x3), (4, .int x4)] [] M := by
  intro M a0 x3 x4
  unfold F_X9_takeNumber_36
  refine g_aload_n 37 0 hX dX9_takeNumber_36 rfl rfl ?_
  refine g_iconst 38 hX 2 dX9_takeNumber_37 rfl kc_i_2 ?_
  refine g_callV_v 41 hX (k_X9_refuse l g N M a0 2) lk_X9_refuse rfl (ci := 9) rfl (Nat.le_of_ble_eq_true rfl) q_503 q_505 (by omega) rfl (Nat.le_of_ble_eq_true rfl) (Nat.zero_le _) (Nat.zero_le _) dX9_takeNumber_38 rfl (fun M3 => ?_)
  exact k_X9_takeNumber_41 hX hr N M3 a0 x3 x4
set_option maxRecDepth 100000 in
set_option maxHeartbeats 4000000 in
theorem k_X9_takeNumber_18 {p : Program} {l : Launch} {e : Env} {s : State} {m : MethodId} {args : Array Value} {below : List Frame} {meth : Method} {c : Code} {g : kG} (hX : Cok (p, l, e, { frames := 3, cells := 0, slots := 0, locals := 60 * 3 }, s, m, args, below, meth, c, cX9_takeNumber, 5, RX9, g, 3)) (hr : meth.sig.returnType = (some .int)) (N : Nat) : ∀ (M : kMem) (a0 : Nat) (x1 : Int32) (x2 : Int32) (x3 : Int32) (y0 : Int32), GG (p, l, e, { frames := 3, cells := 0, slots := 0, locals := 60 * 3 }, s, m, args, below, meth, c, cX9_takeNumber, 5, RX9, g, 3) (fun b => MQ below (kQ g ((fun r : Int32 × kMem => (some (.int r.1), r.2)) b)) args s 0 0 (kZ g.2.2.1)) 0 0 (F_X9_takeNumber_18 N M a0 x1 x2 x3 y0) 18 [(0, .ref a0), (1, .int x1), (2, .int x2), (3, .int x3)] [.int y0] M := by
  intro M a0 x1 x2 x3 y0
  unfold F_X9_takeNumber_18
  refine g_istore 20 4 [(4, .int y0), (0, .ref a0), (1, .int x1), (2, .int x2), (3, .int x3)] hX dX9_takeNumber_18 rfl (Nat.le_of_ble_eq_true rfl) rfl ?_
  refine g_iload_n 21 4 hX dX9_takeNumber_20 rfl rfl ?_
  refine g_if_eq 41 24 hX dX9_takeNumber_21 (by decide) rfl (fun _ => ?_) (fun _ => ?_)
  · refine g_lv [1, 4, 0] rfl ?_
    exact k_X9_takeNumber_41 hX hr N M a0 x3 y0
  · refine g_iload 26 0 hX dX9_takeNumber_24 rfl rfl ?_
    refine g_iload_n 27 2 hX dX9_takeNumber_26 rfl rfl ?_
    refine g_icmp_lt 36 30 hX dX9_takeNumber_27 (by decide) rfl (fun _ => ?_) (fun _ => ?_)
    · refine g_lv [1, 4, 0] rfl ?_
      exact k_X9_takeNumber_36 hX hr N M a0 x3 y0
    · refine g_iload 32 0 hX dX9_takeNumber_30 rfl rfl ?_
      refine g_iload_n 33 3 hX dX9_takeNumber_32 rfl rfl ?_
      refine g_icmp_le 41 36 hX dX9_takeNumber_33 (by decide) rfl (fun _ => ?_) (fun _ => ?_)
      · refine g_lv [1, 4, 0] rfl ?_
        exact k_X9_takeNumber_41 hX hr N M a0 x3 y0
      · refine g_lv [1, 4, 0] rfl ?_
        exact k_X9_takeNumber_36 hX hr N M a0 x3 y0
set_option maxRecDepth 100000 in
set_option maxHeartbeats 4000000 in
theorem k_X9_takeNumber (l : Launch) (g : kG) (N : Nat) (M : kMem) (a0 : Nat) (x1 : Int32) (x2 : Int32) : kMet l g yX9_takeNumber cX9_takeNumber 5 (some .int) 3 0 0 [.ref a0, .int x1, .int x2] M (fun r : Int32 × kMem => (some (.int r.1), r.2)) (F_X9_takeNumber N M a0 x1 x2) := by
  refine k_of (lv := [(0, .ref a0), (1, .int x1), (2, .int x2)]) RX9 (by decide) rfl rfl (Nat.le_of_ble_eq_true rfl) ?_
  intro p e s m args below meth c hX hr _
  unfold F_X9_takeNumber
  refine g_aload_n 1 0 hX dX9_takeNumber_0 rfl rfl ?_
  refine g_iconst 2 hX 2 dX9_takeNumber_1 rfl kc_i_2 ?_
  refine g_callV_ip 5 hX (k_X9_at l g N M a0 2) lk_X9_at rfl (ci := 9) rfl (Nat.le_of_ble_eq_true rfl) q_477 q_3 (by omega) rfl (Nat.le_of_ble_eq_true rfl) (Nat.zero_le _) (Nat.zero_le _) dX9_takeNumber_2 rfl (fun r1 => ?_)
  refine g_istore_n 6 3 [(3, .int r1), (0, .ref a0), (1, .int x1), (2, .int x2)] hX dX9_takeNumber_5 rfl rfl (Nat.le_of_ble_eq_true rfl) rfl ?_
  refine g_iload_n 7 0 hX dX9_takeNumber_6 rfl rfl ?_
  refine g_if_eq 17 10 hX dX9_takeNumber_7 (by decide) rfl (fun _ => ?_) (fun _ => ?_)
  · refine g_iconst 18 hX (-1) dX9_takeNumber_17 rfl kc_i_m1 ?_
    refine g_lv [1, 2, 3, 0] rfl ?_
    exact k_X9_takeNumber_18 hX hr N M a0 x1 x2 r1 (-1)
  · refine g_aload_n 11 1 hX dX9_takeNumber_10 rfl rfl ?_
    refine g_callV_ip 14 hX (k_X9_valueHere l g N M a0) lk_X9_valueHere rfl (ci := 9) rfl (Nat.le_of_ble_eq_true rfl) q_495 q_6 (by omega) rfl (Nat.le_of_ble_eq_true rfl) (Nat.zero_le _) (Nat.zero_le _) dX9_takeNumber_11 rfl (fun r4 => ?_)
    refine g_goto 18 hX dX9_takeNumber_14 (by decide) ?_
    refine g_lv [1, 2, 3, 0] rfl ?_
    exact k_X9_takeNumber_18 hX hr N M a0 x1 x2 r1 r4
set_option maxRecDepth 100000 in
set_option maxHeartbeats 4000000 in
theorem k_X9_takeEnd (l : Launch) (g : kG) (N : Nat) (M : kMem) (a0 : Nat) : kMet l g yX9_takeEnd cX9_takeEnd 1 none 3 0 0 [.ref a0] M (fun r : kMem => (none, r)) (F_X9_takeEnd N M a0) := by
  refine k_of (lv := [(0, .ref a0)]) RX9 (by decide) rfl rfl (Nat.le_of_ble_eq_true rfl) ?_
  intro p e s m args below meth c hX hr _
  unfold F_X9_takeEnd
  refine g_aload_n 1 0 hX dX9_takeEnd_0 rfl rfl ?_
  refine g_iconst 2 hX 4 dX9_takeEnd_1 rfl kc_i_4 ?_
  refine g_callV_ip 5 hX (k_X9_at l g N M a0 4) lk_X9_at rfl (ci := 9) rfl (Nat.le_of_ble_eq_true rfl) q_477 q_3 (by omega) rfl (Nat.le_of_ble_eq_true rfl) (Nat.zero_le _) (Nat.zero_le _) dX9_takeEnd_2 rfl (fun r1 => ?_)
  refine g_if_ne 13 8 hX dX9_takeEnd_5 (by decide) rfl (fun _ => ?_) (fun _ => ?_)
  · exact g_vret hX hr rfl (Nat.le_refl 0) (Nat.le_refl 0) dX9_takeEnd_13
  · refine g_aload_n 9 0 hX dX9_takeEnd_8 rfl rfl ?_
    refine g_iconst 10 hX 1 dX9_takeEnd_9 rfl kc_i_1 ?_
    refine g_callV_v 13 hX (k_X9_refuse l g N M a0 1) lk_X9_refuse rfl (ci := 9) rfl (Nat.le_of_ble_eq_true rfl) q_503 q_505 (by omega) rfl (Nat.le_of_ble_eq_true rfl) (Nat.zero_le _) (Nat.zero_le _) dX9_takeEnd_10 rfl (fun M2 => ?_)
    exact g_vret hX hr rfl (Nat.le_refl 0) (Nat.le_refl 0) dX9_takeEnd_13
set_option maxRecDepth 100000 in
set_option maxHeartbeats 4000000 in
theorem k_X7_readBoard (l : Launch) (g : kG) (N : Nat) (M : kMem) (a0 : Nat) (a1 : Nat) : kMet l g yX7_readBoard cX7_readBoard 5 none 4 0 0 [.ref a0, .ref a1] M (fun r : kMem => (none, r)) (F_X7_readBoard N M a0 a1) := by
  refine k_of (lv := [(0, .ref a0), (1, .ref a1)]) RX7 (by decide) rfl rfl (Nat.le_of_ble_eq_true rfl) ?_
  intro p e s m args below meth c hX hr _
  unfold F_X7_readBoard
  refine g_aload_n 1 0 hX dX7_readBoard_0 rfl rfl ?_
  refine g_callV_v 4 hX (k_X9_takeAnyWord l g N M a0) lk_X9_takeAnyWord rfl (ci := 9) rfl (Nat.le_of_ble_eq_true rfl) q_521 q_523 (by omega) rfl (Nat.le_of_ble_eq_true rfl) (Nat.zero_le _) (Nat.zero_le _) dX7_readBoard_1 rfl (fun M1 => ?_)
  refine g_aload_n 5 0 hX dX7_readBoard_4 rfl rfl ?_
  refine g_iconst 6 hX 1 dX7_readBoard_5 rfl kc_i_1 ?_
  refine g_bipush 8 hX 6 dX7_readBoard_6 rfl kc_b_6 ?_
  refine g_callV_i 11 hX (k_X9_takeNumber l g N M1 a0 1 6) lk_X9_takeNumber rfl (ci := 9) rfl (Nat.le_of_ble_eq_true rfl) q_491 q_493 (by omega) rfl (Nat.le_of_ble_eq_true rfl) (Nat.zero_le _) (Nat.zero_le _) dX7_readBoard_8 rfl (fun r2 => ?_)
  refine g_klI (fun v3 hv3 => ?_)
  refine g_istore_n 12 2 [(2, .int v3), (0, .ref a0), (1, .ref a1)] hX dX7_readBoard_11 rfl rfl (Nat.le_of_ble_eq_true rfl) rfl ?_
  refine g_aload_n 13 1 hX dX7_readBoard_12 rfl rfl ?_
  refine g_iconst 14 hX 1 dX7_readBoard_13 rfl kc_i_1 ?_
  refine g_bipush 16 hX 99 dX7_readBoard_14 rfl kc_b_99 ?_
  refine g_callV_i 19 hX (k_X9_takeNumber l g N r2.2 a0 1 99) lk_X9_takeNumber rfl (ci := 9) rfl (Nat.le_of_ble_eq_true rfl) q_491 q_493 (by omega) rfl (Nat.le_of_ble_eq_true rfl) (Nat.zero_le _) (Nat.zero_le _) dX7_readBoard_16 rfl (fun r4 => ?_)
  refine g_klI (fun v5 hv5 => ?_)
  refine g_istore_n 20 3 [(3, .int v5), (2, .int v3), (0, .ref a0), (1, .ref a1)] hX dX7_readBoard_19 rfl rfl (Nat.le_of_ble_eq_true rfl) rfl ?_
  refine g_aload_n 21 2 hX dX7_readBoard_20 rfl rfl ?_
  refine g_iconst 22 hX 0 dX7_readBoard_21 rfl kc_i_0 ?_
  refine g_sipush 25 hX 999 dX7_readBoard_22 rfl kc_s_999 ?_
  refine g_callV_i 28 hX (k_X9_takeNumber l g N r4.2 a0 0 999) lk_X9_takeNumber rfl (ci := 9) rfl (Nat.le_of_ble_eq_true rfl) q_491 q_493 (by omega) rfl (Nat.le_of_ble_eq_true rfl) (Nat.zero_le _) (Nat.zero_le _) dX7_readBoard_25 rfl (fun r6 => ?_)
  refine g_klI (fun v7 hv7 => ?_)
  refine g_istore 30 4 [(4, .int v7), (3, .int v5), (2, .int v3), (0, .ref a0), (1, .ref a1)] hX dX7_readBoard_28 rfl (Nat.le_of_ble_eq_true rfl) rfl ?_
  refine g_aload_n 31 3 hX dX7_readBoard_30 rfl rfl ?_
  refine g_bipush 33 hX 59 dX7_readBoard_31 rfl kc_b_59 ?_
  refine g_callV_v 36 hX (k_X9_takeSign l g N r6.2 a0 59) lk_X9_takeSign rfl (ci := 9) rfl (Nat.le_of_ble_eq_true rfl) q_508 q_510 (by omega) rfl (Nat.le_of_ble_eq_true rfl) (Nat.zero_le _) (Nat.zero_le _) dX7_readBoard_33 rfl (fun M8 => ?_)
  refine g_aload_n 37 3 hX dX7_readBoard_36 rfl rfl ?_
  refine g_callV_ip 40 hX (k_X9_failed l g N M8 a0) lk_X9_failed rfl (ci := 9) rfl (Nat.le_of_ble_eq_true rfl) q_525 q_527 (by omega) rfl (Nat.le_of_ble_eq_true rfl) (Nat.zero_le _) (Nat.zero_le _) dX7_readBoard_37 rfl (fun r9 => ?_)
  refine g_if_ne 51 43 hX dX7_readBoard_40 (by decide) rfl (fun _ => ?_) (fun _ => ?_)
  · exact g_vret hX hr rfl (Nat.le_refl 0) (Nat.le_refl 0) dX7_readBoard_51
  · refine g_aload_n 44 4 hX dX7_readBoard_43 rfl rfl ?_
    refine g_iload_n 45 2 hX dX7_readBoard_44 rfl rfl ?_
    refine g_iload_n 46 1 hX dX7_readBoard_45 rfl rfl ?_
    refine g_iload 48 0 hX dX7_readBoard_46 rfl rfl ?_
    refine g_callV_v 51 hX (k_X4_addBoard l g N M8 a1 v3 v5 v7) lk_X4_addBoard rfl (ci := 4) rfl (Nat.le_of_ble_eq_true rfl) q_529 q_531 (by omega) rfl (Nat.le_of_ble_eq_true rfl) (Nat.zero_le _) (Nat.zero_le _) dX7_readBoard_48 rfl (fun M10 => ?_)
    exact g_vret hX hr rfl (Nat.le_refl 0) (Nat.le_refl 0) dX7_readBoard_51
set_option maxRecDepth 100000 in
set_option maxHeartbeats 4000000 in
theorem k_X7_readTrader_22 {p : Program} {l : Launch} {e : Env} {s : State} {m : MethodId} {args : Array Value} {below : List Frame} {meth : Method} {c : Code} {g : kG} (hX : Cok (p, l, e, { frames := 4, cells := 0, slots := 0, locals := 60 * 4 }, s, m, args, below, meth, c, cX7_readTrader, 7, RX7, g, 4)) (hr : meth.sig.returnType = none) (N : Nat) : ∀ (M : kMem) (a0 : Nat) (a1 : Nat) (x2 : Int64), GG (p, l, e, { frames := 4, cells := 0, slots := 0, locals := 60 * 4 }, s, m, args, below, meth, c, cX7_readTrader, 7, RX7, g, 4) (fun b => MQ below (kQ g ((fun r : kMem => (none, r)) b)) args s 0 0 (kZ g.2.2.1)) 0 0 (F_X7_readTrader_22 N M a0 a1 x2) 22 [(0, .ref a0), (1, .ref a1), (2, .long x2)] [] M := by
  intro M a0 a1 x2
  unfold F_X7_readTrader_22
  refine g_aload_n 23 0 hX dX7_readTrader_22 rfl rfl ?_
  refine g_iconst 24 hX 1 dX7_readTrader_23 rfl kc_i_1 ?_
  refine g_bipush 26 hX 99 dX7_readTrader_24 rfl kc_b_99 ?_
  refine g_callV_i 29 hX (k_X9_takeNumber l g N M a0 1 99) lk_X9_takeNumber rfl (ci := 9) rfl (Nat.le_of_ble_eq_true rfl) q_491 q_493 (by omega) rfl (Nat.le_of_ble_eq_true rfl) (Nat.zero_le _) (Nat.zero_le _) dX7_readTrader_26 rfl (fun r5 => ?_)
  refine g_klI (fun v6 hv6 => ?_)
  refine g_istore 31 4 [(4, .int v6), (0, .ref a0), (1, .ref a1), (2, .long x2)] hX dX7_readTrader_29 rfl (Nat.le_of_ble_eq_true rfl) rfl ?_
  refine g_aload_n 32 1 hX dX7_readTrader_31 rfl rfl ?_
  refine g_iconst 33 hX 0 dX7_readTrader_32 rfl kc_i_0 ?_
  refine g_sipush 36 hX 9999 dX7_readTrader_33 rfl kc_s_9999 ?_
  refine g_callV_i 39 hX (k_X9_takeNumber l g N r5.2 a0 0 9999) lk_X9_takeNumber rfl (ci := 9) rfl (Nat.le_of_ble_eq_true rfl) q_491 q_493 (by omega) rfl (Nat.le_of_ble_eq_true rfl) (Nat.zero_le _) (Nat.zero_le _) dX7_readTrader_36 rfl (fun r7 => ?_)
  refine g_klI (fun v8 hv8 => ?_)
  refine g_istore 41 5 [(5, .int v8), (4, .int v6), (0, .ref a0), (1, .ref a1), (2, .long x2)] hX dX7_readTrader_39 rfl (Nat.le_of_ble_eq_true rfl) rfl ?_
  refine g_aload_n 42 2 hX dX7_readTrader_41 rfl rfl ?_
  refine g_iconst 43 hX 0 dX7_readTrader_42 rfl kc_i_0 ?_
  refine g_aload_n 44 3 hX dX7_readTrader_43 rfl rfl ?_
  refine r_X7_68 47 hX dX7_readTrader_44 rfl ?_
  refine g_callV_i 50 hX (k_X9_takeNumber l g N r7.2 a0 0 (kI r7.2 a1 5)) lk_X9_takeNumber rfl (ci := 9) rfl (Nat.le_of_ble_eq_true rfl) q_491 q_493 (by omega) rfl (Nat.le_of_ble_eq_true rfl) (Nat.zero_le _) (Nat.zero_le _) dX7_readTrader_47 rfl (fun r9 => ?_)
  refine g_klI (fun v10 hv10 => ?_)
  refine g_istore 52 6 [(6, .int v10), (5, .int v8), (4, .int v6), (0, .ref a0), (1, .ref a1), (2, .long x2)] hX dX7_readTrader_50 rfl (Nat.le_of_ble_eq_true rfl) rfl ?_
  refine g_aload_n 53 3 hX dX7_readTrader_52 rfl rfl ?_
  refine g_bipush 55 hX 59 dX7_readTrader_53 rfl kc_b_59 ?_
  refine g_callV_v 58 hX (k_X9_takeSign l g N r9.2 a0 59) lk_X9_takeSign rfl (ci := 9) rfl (Nat.le_of_ble_eq_true rfl) q_508 q_510 (by omega) rfl (Nat.le_of_ble_eq_true rfl) (Nat.zero_le _) (Nat.zero_le _) dX7_readTrader_55 rfl (fun M11 => ?_)
  refine g_aload_n 59 3 hX dX7_readTrader_58 rfl rfl ?_
  refine g_callV_ip 62 hX (k_X9_failed l g N M11 a0) lk_X9_failed rfl (ci := 9) rfl (Nat.le_of_ble_eq_true rfl) q_525 q_527 (by omega) rfl (Nat.le_of_ble_eq_true rfl) (Nat.zero_le _) (Nat.zero_le _) dX7_readTrader_59 rfl (fun r12 => ?_)
  refine g_if_ne 77 65 hX dX7_readTrader_62 (by decide) rfl (fun _ => ?_) (fun _ => ?_)
  · exact g_vret hX hr rfl (Nat.le_refl 0) (Nat.le_refl 0) dX7_readTrader_77
  · refine g_aload_n 66 4 hX dX7_readTrader_65 rfl rfl ?_
    refine g_lload_n 67 5 hX dX7_readTrader_66 rfl rfl ?_
    refine g_iload 69 2 hX dX7_readTrader_67 rfl rfl ?_
    refine g_iload 71 1 hX dX7_readTrader_69 rfl rfl ?_
    refine g_iload 73 0 hX dX7_readTrader_71 rfl rfl ?_
    refine g_callV_i 76 hX (k_X4_admit l g N M11 a1 x2 v6 v8 v10) lk_X4_admit rfl (ci := 4) rfl (Nat.le_of_ble_eq_true rfl) q_560 q_562 (by omega) rfl (Nat.le_of_ble_eq_true rfl) (Nat.zero_le _) (Nat.zero_le _) dX7_readTrader_73 rfl (fun r13 => ?_)
    refine g_pop 77 hX dX7_readTrader_76 rfl rfl ?_
    exact g_vret hX hr rfl (Nat.le_refl 0) (Nat.le_refl 0) dX7_readTrader_77
set_option maxRecDepth 100000 in
set_option maxHeartbeats 4000000 in
theorem k_X7_readTrader (l : Launch) (g : kG) (N : Nat) (M : kMem) (a0 : Nat) (a1 : Nat) : kMet l g yX7_readTrader cX7_readTrader 7 none 4 0 0 [.ref a0, .ref a1] M (fun r : kMem => (none, r)) (F_X7_readTrader N M a0 a1) := by
  refine k_of (lv := [(0, .ref a0), (1, .ref a1)]) RX7 (by decide) rfl rfl (Nat.le_of_ble_eq_true rfl) ?_
  intro p e s m args below meth c hX hr _
  unfold F_X7_readTrader
  refine g_aload_n 1 0 hX dX7_readTrader_0 rfl rfl ?_
  refine g_callV_v 4 hX (k_X9_takeAnyWord l g N M a0) lk_X9_takeAnyWord rfl (ci := 9) rfl (Nat.le_of_ble_eq_true rfl) q_521 q_523 (by omega) rfl (Nat.le_of_ble_eq_true rfl) (Nat.zero_le _) (Nat.zero_le _) dX7_readTrader_1 rfl (fun M1 => ?_)
  refine g_aload_n 5 0 hX dX7_readTrader_4 rfl rfl ?_
  refine g_callV_l 8 hX (k_X9_takeName l g N M1 a0) lk_X9_takeName rfl (ci := 9) rfl (Nat.le_of_ble_eq_true rfl) q_542 q_544 (by omega) rfl (Nat.le_of_ble_eq_true rfl) (Nat.zero_le _) (Nat.zero_le _) dX7_readTrader_5 rfl (fun r2 => ?_)
  refine g_klL (fun v3 hv3 => ?_)
  refine g_lstore_n 9 2 [(2, .long v3), (0, .ref a0), (1, .ref a1)] hX dX7_readTrader_8 rfl rfl (Nat.le_of_ble_eq_true rfl) rfl ?_
  refine g_aload_n 10 2 hX dX7_readTrader_9 rfl rfl ?_
  refine g_lload_n 11 0 hX dX7_readTrader_10 rfl rfl ?_
  refine g_callV_rp 14 hX (k_X4_traderNamed l g N r2.2 a1 v3) lk_X4_traderNamed rfl (ci := 4) rfl (Nat.le_of_ble_eq_true rfl) q_552 q_554 (by omega) rfl (Nat.le_of_ble_eq_true rfl) (Nat.zero_le _) (Nat.zero_le _) dX7_readTrader_11 rfl (fun r4 => ?_)
  refine g_ifnull 22 17 hX dX7_readTrader_14 (by decide) rfl (fun _ => ?_) (fun _ => ?_)
  · refine g_lv [1, 2, 0] rfl ?_
    exact k_X7_readTrader_22 hX hr N r2.2 a0 a1 v3
  · refine g_aload_n 18 1 hX dX7_readTrader_17 rfl rfl ?_
    refine g_iconst 19 hX 3 dX7_readTrader_18 rfl kc_i_3 ?_
    refine g_callV_v 22 hX (k_X9_refuseTaken l g N r2.2 a0 3) lk_X9_refuseTaken rfl (ci := 9) rfl (Nat.le_of_ble_eq_true rfl) q_556 q_558 (by omega) rfl (Nat.le_of_ble_eq_true rfl) (Nat.zero_le _) (Nat.zero_le _) dX7_readTrader_19 rfl (fun M14 => ?_)
    refine g_lv [1, 2, 0] rfl ?_
    exact k_X7_readTrader_22 hX hr N M14 a0 a1 v3
set_option maxRecDepth 100000 in
set_option maxHeartbeats 4000000 in
theorem k_X11_bytesIn_5 {p : Program} {l : Launch} {e : Env} {s : State} {m : MethodId} {args : Array Value} {below : List Frame} {meth : Method} {c : Code} {g : kG} (hX : Cok (p, l, e, { frames := 1, cells := 0, slots := 0, locals := 60 * 1 }, s, m, args, below, meth, c, cX11_bytesIn, 3, RX11, g, 1)) (hr : meth.sig.returnType = (some .int)) (N : Nat) (M : kMem) : ∀ (n : Nat) (x0 : Int32) (x1 : Int32) (x2 : Int32), GG (p, l, e, { frames := 1, cells := 0, slots := 0, locals := 60 * 1 }, s, m, args, below, meth, c, cX11_bytesIn, 3, RX11, g, 1) (fun b => MQ below (kQ g ((fun r : Int32 => (some (.int r), M)) b)) args s 0 0 (kZ g.2.2.1)) 0 0 (F_X11_bytesIn_5 N M n x0 x1 x2) 5 [(0, .int x0), (1, .int x1), (2, .int x2)] [] M := by
  intro n
  induction n with
  | zero => intro _ _ _; exact g_none
  | succ n ih =>
    intro x0 x1 x2
    unfold F_X11_bytesIn_5
    refine g_iload_n 6 2 hX dX11_bytesIn_5 rfl rfl ?_
    refine g_if_lt 28 9 hX dX11_bytesIn_6 (by decide) rfl (fun _ => ?_) (fun _ => ?_)
    · refine g_iload_n 29 1 hX dX11_bytesIn_28 rfl rfl ?_
      exact g_iret hX hr rfl (Nat.le_refl 0) (Nat.le_refl 0) dX11_bytesIn_29
    · refine g_iload_n 10 0 hX dX11_bytesIn_9 rfl rfl ?_
      refine g_iload_n 11 2 hX dX11_bytesIn_10 rfl rfl ?_
      refine g_iushr 12 hX ((x0.toUInt32 >>> (x2.toUInt32 &&& Int32.toUInt32 31)).toInt32) dX11_bytesIn_11 rfl rfl ?_
      refine g_sipush 15 hX 255 dX11_bytesIn_12 rfl kc_s_255 ?_
      refine g_iand 16 hX dX11_bytesIn_15 rfl ?_
      refine g_if_eq 22 19 hX dX11_bytesIn_16 (by decide) rfl (fun _ => ?_) (fun _ => ?_)
      · refine g_kl (fun v1 hv1 => ?_)
        refine g_iinc 25 2 2 v1 [(2, .int v1), (0, .int x0), (1, .int x1)] hX dX11_bytesIn_22 rfl rfl (by rw [hv1, kc_i_m8]) (Nat.le_of_ble_eq_true rfl) rfl ?_
        refine g_goto 5 hX dX11_bytesIn_25 (by decide) ?_
        refine g_lv [1, 2, 0] rfl ?_
        exact ih x0 x1 v1
      · refine g_kl (fun v2 hv2 => ?_)
        refine g_iinc 22 1 1 v2 [(1, .int v2), (0, .int x0), (2, .int x2)] hX dX11_bytesIn_19 rfl rfl (by rw [hv2, kc_i_1]) (Nat.le_of_ble_eq_true rfl) rfl ?_
        refine g_kl (fun v3 hv3 => ?_)
        refine g_iinc 25 2 2 v3 [(2, .int v3), (1, .int v2), (0, .int x0)] hX dX11_bytesIn_22 rfl rfl (by rw [hv3, kc_i_m8]) (Nat.le_of_ble_eq_true rfl) rfl ?_
        refine g_goto 5 hX dX11_bytesIn_25 (by decide) ?_
        refine g_lv [2, 1, 0] rfl ?_
        exact ih x0 v2 v3
set_option maxRecDepth 100000 in
set_option maxHeartbeats 4000000 in
theorem k_X11_bytesIn (l : Launch) (g : kG) (N : Nat) (M : kMem) (x0 : Int32) : kMet l g yX11_bytesIn cX11_bytesIn 3 (some .int) 1 0 0 [.int x0] M (fun r : Int32 => (some (.int r), M)) (F_X11_bytesIn N M x0) := by
  refine k_of (lv := [(0, .int x0)]) RX11 (by decide) rfl rfl (Nat.le_of_ble_eq_true rfl) ?_
  intro p e s m args below meth c hX hr _
  unfold F_X11_bytesIn
  refine g_iconst 1 hX 0 dX11_bytesIn_0 rfl kc_i_0 ?_
  refine g_istore_n 2 1 [(1, .int 0), (0, .int x0)] hX dX11_bytesIn_1 rfl rfl (Nat.le_of_ble_eq_true rfl) rfl ?_
  refine g_bipush 4 hX 24 dX11_bytesIn_2 rfl kc_b_24 ?_
  refine g_istore_n 5 2 [(2, .int 24), (1, .int 0), (0, .int x0)] hX dX11_bytesIn_4 rfl rfl (Nat.le_of_ble_eq_true rfl) rfl ?_
  refine g_lv [2, 1, 0] rfl ?_
  exact k_X11_bytesIn_5 hX hr N M N x0 0 24
set_option maxRecDepth 100000 in
set_option maxHeartbeats 4000000 in
theorem k_X11_append (l : Launch) (g : kG) (N : Nat) (M : kMem) (a0 : Nat) (x1 : Int32) (x2 : Int32) (x3 : Int32) (x4 : Int32) (x5 : Int32) : kMet l g yX11_append cX11_append 7 (some .int) 3 0 0 [.ref a0, .int x1, .int x2, .int x3, .int x4, .int x5] M (fun r : Int32 × kMem => (some (.int r.1), r.2)) (F_X11_append N M a0 x1 x2 x3 x4 x5) := by
  refine k_of (lv := [(0, .ref a0), (1, .int x1), (2, .int x2), (3, .int x3), (4, .int x4), (5, .int x5)]) RX11 (by decide) rfl rfl (Nat.le_of_ble_eq_true rfl) ?_
  intro p e s m args below meth c hX hr _
  unfold F_X11_append
  refine g_iload_n 1 1 hX dX11_append_0 rfl rfl ?_
  refine g_callS_ip 4 hX (k_X11_bytesIn l g N M x1) lk_X11_bytesIn q_1575 (by omega) rfl (Nat.le_of_ble_eq_true rfl) (Nat.zero_le _) (Nat.zero_le _) dX11_append_1 rfl (fun r1 => ?_)
  refine g_iload_n 5 2 hX dX11_append_4 rfl rfl ?_
  refine g_callS_ip 8 hX (k_X11_bytesIn l g N M x2) lk_X11_bytesIn q_1575 (by omega) rfl (Nat.le_of_ble_eq_true rfl) (Nat.zero_le _) (Nat.zero_le _) dX11_append_5 rfl (fun r2 => ?_)
  refine g_iadd 9 hX dX11_append_8 rfl ?_
  refine g_iload_n 10 3 hX dX11_append_9 rfl rfl ?_
  refine g_callS_ip 13 hX (k_X11_bytesIn l g N M x3) lk_X11_bytesIn q_1575 (by omega) rfl (Nat.le_of_ble_eq_true rfl) (Nat.zero_le _) (Nat.zero_le _) dX11_append_10 rfl (fun r3 => ?_)
  refine g_iadd 14 hX dX11_append_13 rfl ?_
  refine g_iload 16 4 hX dX11_append_14 rfl rfl ?_
  refine g_callS_ip 19 hX (k_X11_bytesIn l g N M x4) lk_X11_bytesIn q_1575 (by omega) rfl (Nat.le_of_ble_eq_true rfl) (Nat.zero_le _) (Nat.zero_le _) dX11_append_16 rfl (fun r4 => ?_)
  refine g_iadd 20 hX dX11_append_19 rfl ?_
  refine g_iload 22 5 hX dX11_append_20 rfl rfl ?_
  refine g_callS_ip 25 hX (k_X11_bytesIn l g N M x5) lk_X11_bytesIn q_1575 (by omega) rfl (Nat.le_of_ble_eq_true rfl) (Nat.zero_le _) (Nat.zero_le _) dX11_append_22 rfl (fun r5 => ?_)
  refine g_iadd 26 hX dX11_append_25 rfl ?_
  refine g_klI (fun v6 hv6 => ?_)
  refine g_istore 28 6 [(6, .int v6), (0, .ref a0), (1, .int x1), (2, .int x2), (3, .int x3), (4, .int x4), (5, .int x5)] hX dX11_append_26 rfl (Nat.le_of_ble_eq_true rfl) rfl ?_
  refine g_aload_n 29 1 hX dX11_append_28 rfl rfl ?_
  refine r_X11_10 32 hX dX11_append_29 rfl ?_
  refine r_X11_77 35 hX dX11_append_32 rfl ?_
  refine g_iload 37 0 hX dX11_append_35 rfl rfl ?_
  refine g_iadd 38 hX dX11_append_37 rfl ?_
  refine g_sipush 41 hX 800 dX11_append_38 rfl kc_s_800 ?_
  refine g_icmp_le 54 44 hX dX11_append_41 (by decide) rfl (fun _ => ?_) (fun _ => ?_)
  · refine g_aload_n 55 1 hX dX11_append_54 rfl rfl ?_
    refine r_X11_10 58 hX dX11_append_55 rfl ?_
    refine g_iload_n 59 2 hX dX11_append_58 rfl rfl ?_
    refine g_callV_v 62 hX (k_X8_addBytesOf l g N M (kR M a0 0) x1) lk_X8_addBytesOf rfl (ci := 8) rfl (Nat.le_of_ble_eq_true rfl) q_1594 q_1596 (by omega) rfl (Nat.le_of_ble_eq_true rfl) (Nat.zero_le _) (Nat.zero_le _) dX11_append_59 rfl (fun M7 => ?_)
    refine g_aload_n 63 1 hX dX11_append_62 rfl rfl ?_
    refine r_X11_10 66 hX dX11_append_63 rfl ?_
    refine g_iload_n 67 3 hX dX11_append_66 rfl rfl ?_
    refine g_callV_v 70 hX (k_X8_addBytesOf l g N M7 (kR M7 a0 0) x2) lk_X8_addBytesOf rfl (ci := 8) rfl (Nat.le_of_ble_eq_true rfl) q_1594 q_1596 (by omega) rfl (Nat.le_of_ble_eq_true rfl) (Nat.zero_le _) (Nat.zero_le _) dX11_append_67 rfl (fun M8 => ?_)
    refine g_aload_n 71 1 hX dX11_append_70 rfl rfl ?_
    refine r_X11_10 74 hX dX11_append_71 rfl ?_
    refine g_iload_n 75 4 hX dX11_append_74 rfl rfl ?_
    refine g_callV_v 78 hX (k_X8_addBytesOf l g N M8 (kR M8 a0 0) x3) lk_X8_addBytesOf rfl (ci := 8) rfl (Nat.le_of_ble_eq_true rfl) q_1594 q_1596 (by omega) rfl (Nat.le_of_ble_eq_true rfl) (Nat.zero_le _) (Nat.zero_le _) dX11_append_75 rfl (fun M9 => ?_)
    refine g_aload_n 79 1 hX dX11_append_78 rfl rfl ?_
    refine r_X11_10 82 hX dX11_append_79 rfl ?_
    refine g_iload 84 5 hX dX11_append_82 rfl rfl ?_
    refine g_callV_v 87 hX (k_X8_addBytesOf l g N M9 (kR M9 a0 0) x4) lk_X8_addBytesOf rfl (ci := 8) rfl (Nat.le_of_ble_eq_true rfl) q_1594 q_1596 (by omega) rfl (Nat.le_of_ble_eq_true rfl) (Nat.zero_le _) (Nat.zero_le _) dX11_append_84 rfl (fun M10 => ?_)
    refine g_aload_n 88 1 hX dX11_append_87 rfl rfl ?_
    refine r_X11_10 91 hX dX11_append_88 rfl ?_
    refine g_iload 93 6 hX dX11_append_91 rfl rfl ?_
    refine g_callV_v 96 hX (k_X8_addBytesOf l g N M10 (kR M10 a0 0) x5) lk_X8_addBytesOf rfl (ci := 8) rfl (Nat.le_of_ble_eq_true rfl) q_1594 q_1596 (by omega) rfl (Nat.le_of_ble_eq_true rfl) (Nat.zero_le _) (Nat.zero_le _) dX11_append_93 rfl (fun M11 => ?_)
    refine g_aload_n 97 1 hX dX11_append_96 rfl rfl ?_
    refine r_X11_10 100 hX dX11_append_97 rfl ?_
    refine r_X11_77 103 hX dX11_append_100 rfl ?_
    exact g_iret hX hr rfl (Nat.le_refl 0) (Nat.le_refl 0) dX11_append_103
  · exact g_none
set_option maxRecDepth 100000 in
set_option maxHeartbeats 4000000 in
theorem k_X11_requireRange (l : Launch) (g : kG) (N : Nat) (M : kMem) (x0 : Int32) (x1 : Int32) (x2 : Int32) : kMet l g yX11_requireRange cX11_requireRange 3 none 1 0 0 [.int x0, .int x1, .int x2] M (fun r : kMem => (none, r)) (F_X11_requireRange N M x0 x1 x2) := by
  refine k_of (lv := [(0, .int x0), (1, .int x1), (2, .int x2)]) RX11 (by decide) rfl rfl (Nat.le_of_ble_eq_true rfl) ?_
  intro p e s m args below meth c hX hr _
  unfold F_X11_requireRange
  refine g_iload_n 1 0 hX dX11_requireRange_0 rfl rfl ?_
  refine g_iload_n 2 1 hX dX11_requireRange_1 rfl rfl ?_
  refine g_icmp_lt 10 5 hX dX11_requireRange_2 (by decide) rfl (fun _ => ?_) (fun _ => ?_)
  · exact g_none
  · refine g_iload_n 6 0 hX dX11_requireRange_5 rfl rfl ?_
    refine g_iload_n 7 2 hX dX11_requireRange_6 rfl rfl ?_
    refine g_icmp_le 21 10 hX dX11_requireRange_7 (by decide) rfl (fun _ => ?_) (fun _ => ?_)
    · exact g_vret hX hr rfl (Nat.le_refl 0) (Nat.le_refl 0) dX11_requireRange_21
    · exact g_none
set_option maxRecDepth 100000 in
set_option maxHeartbeats 4000000 in
theorem k_X11_truncate (l : Launch) (g : kG) (N : Nat) (M : kMem) (a0 : Nat) (x1 : Int32) : kMet l g yX11_truncate cX11_truncate 2 (some .int) 2 0 0 [.ref a0, .int x1] M (fun r : Int32 × kMem => (some (.int r.1), r.2)) (F_X11_truncate N M a0 x1) := by
  refine k_of (lv := [(0, .ref a0), (1, .int x1)]) RX11 (by decide) rfl rfl (Nat.le_of_ble_eq_true rfl) ?_
  intro p e s m args below meth c hX hr _
  unfold F_X11_truncate
  refine g_iload_n 1 1 hX dX11_truncate_0 rfl rfl ?_
  refine g_iconst 2 hX 0 dX11_truncate_1 rfl kc_i_0 ?_
  refine g_aload_n 3 0 hX dX11_truncate_2 rfl rfl ?_
  refine r_X11_10 6 hX dX11_truncate_3 rfl ?_
  refine r_X11_77 9 hX dX11_truncate_6 rfl ?_
  refine g_callS_v 12 hX (k_X11_requireRange l g N M x1 0 (kI M (kR M a0 0) 1)) lk_X11_requireRange q_1499 (by omega) rfl (Nat.le_of_ble_eq_true rfl) (Nat.zero_le _) (Nat.zero_le _) dX11_truncate_9 rfl (fun M1 => ?_)
  refine g_aload_n 13 0 hX dX11_truncate_12 rfl rfl ?_
  refine r_X11_10 16 hX dX11_truncate_13 rfl ?_
  refine g_iload_n 17 1 hX dX11_truncate_16 rfl rfl ?_
  refine p_X11_77 20 hX dX11_truncate_17 rfl ?_
  refine g_klM (fun M2 hM2 => ?_)
  refine g_iload_n 21 1 hX dX11_truncate_20 rfl rfl ?_
  exact g_iret hX hr rfl (Nat.le_refl 0) (Nat.le_refl 0) dX11_truncate_21
set_option maxRecDepth 100000 in
set_option maxHeartbeats 4000000 in
theorem k_X11_errorPosition (l : Launch) (g : kG) (N : Nat) (M : kMem) (a0 : Nat) : kMet l g yX11_errorPosition cX11_errorPosition 1 (some .int) 1 0 0 [.ref a0] M (fun r : Int32 => (some (.int r), M)) (F_X11_errorPosition N M a0) := by
  refine k_of (lv := [(0, .ref a0)]) RX11 (by decide) rfl rfl (Nat.le_of_ble_eq_true rfl) ?_
  intro p e s m args below meth c hX hr _
  unfold F_X11_errorPosition
  refine g_aload_n 1 0 hX dX11_errorPosition_0 rfl rfl ?_
  refine r_X11_24 4 hX dX11_errorPosition_1 rfl ?_
  refine r_X11_126 7 hX dX11_errorPosition_4 rfl ?_
  exact g_iret hX hr rfl (Nat.le_refl 0) (Nat.le_refl 0) dX11_errorPosition_7
set_option maxRecDepth 100000 in
set_option maxHeartbeats 4000000 in
theorem k_X11_day (l : Launch) (g : kG) (N : Nat) (M : kMem) (a0 : Nat) : kMet l g yX11_day cX11_day 1 (some .int) 1 0 0 [.ref a0] M (fun r : Int32 => (some (.int r), M)) (F_X11_day N M a0) := by
  refine k_of (lv := [(0, .ref a0)]) RX11 (by decide) rfl rfl (Nat.le_of_ble_eq_true rfl) ?_
  intro p e s m args below meth c hX hr _
  unfold F_X11_day
  refine g_aload_n 1 0 hX dX11_day_0 rfl rfl ?_
  refine r_X11_38 4 hX dX11_day_1 rfl ?_
  refine r_X11_129 7 hX dX11_day_4 rfl ?_
  exact g_iret hX hr rfl (Nat.le_refl 0) (Nat.le_refl 0) dX11_day_7
set_option maxRecDepth 100000 in
set_option maxHeartbeats 4000000 in
theorem k_X11_bank (l : Launch) (g : kG) (N : Nat) (M : kMem) (a0 : Nat) : kMet l g yX11_bank cX11_bank 1 (some .int) 1 0 0 [.ref a0] M (fun r : Int32 => (some (.int r), M)) (F_X11_bank N M a0) := by
  refine k_of (lv := [(0, .ref a0)]) RX11 (by decide) rfl rfl (Nat.le_of_ble_eq_true rfl) ?_
  intro p e s m args below meth c hX hr _
  unfold F_X11_bank
  refine g_aload_n 1 0 hX dX11_bank_0 rfl rfl ?_
  refine r_X11_38 4 hX dX11_bank_1 rfl ?_
  refine r_X11_132 7 hX dX11_bank_4 rfl ?_
  exact g_iret hX hr rfl (Nat.le_refl 0) (Nat.le_refl 0) dX11_bank_7
set_option maxRecDepth 100000 in
set_option maxHeartbeats 4000000 in
theorem k_X11_existingBoard (l : Launch) (g : kG) (N : Nat) (M : kMem) (a0 : Nat) (x1 : Int32) : kMet l g yX11_existingBoard cX11_existingBoard 3 (some (.object "SeesawMarket$Board")) 2 0 0 [.ref a0, .int x1] M (fun r : Nat => (some (.ref r), M)) (F_X11_existingBoard N M a0 x1) := by
  refine k_of (lv := [(0, .ref a0), (1, .int x1)]) RX11 (by decide) rfl rfl (Nat.le_of_ble_eq_true rfl) ?_
  intro p e s m args below meth c hX hr _
  unfold F_X11_existingBoard
  refine g_aload_n 1 0 hX dX11_existingBoard_0 rfl rfl ?_
  refine r_X11_38 4 hX dX11_existingBoard_1 rfl ?_
  refine g_iload_n 5 1 hX dX11_existingBoard_4 rfl rfl ?_
  refine g_callV_rp 8 hX (k_X4_boardNumbered l g N M (kR M a0 4) x1) lk_X4_boardNumbered rfl (ci := 4) rfl (Nat.le_of_ble_eq_true rfl) q_1867 q_574 (by omega) rfl (Nat.le_of_ble_eq_true rfl) (Nat.zero_le _) (Nat.zero_le _) dX11_existingBoard_5 rfl (fun r1 => ?_)
  refine g_astore_n 9 2 [(2, .ref r1), (0, .ref a0), (1, .int x1)] hX dX11_existingBoard_8 rfl rfl (Nat.le_of_ble_eq_true rfl) rfl ?_
  refine g_aload_n 10 0 hX dX11_existingBoard_9 rfl rfl ?_
  refine g_ifnonnull 24 13 hX dX11_existingBoard_10 (by decide) rfl (fun _ => ?_) (fun _ => ?_)
  · refine g_aload_n 25 0 hX dX11_existingBoard_24 rfl rfl ?_
    exact g_aret hX hr (Or.inl ⟨_, rfl⟩) rfl (Nat.le_refl 0) (Nat.le_refl 0) dX11_existingBoard_25
  · exact g_none
set_option maxRecDepth 100000 in
set_option maxHeartbeats 4000000 in
theorem k_X11_torque (l : Launch) (g : kG) (N : Nat) (M : kMem) (a0 : Nat) (x1 : Int32) : kMet l g yX11_torque cX11_torque 2 (some .int) 3 0 0 [.ref a0, .int x1] M (fun r : Int32 => (some (.int r), M)) (F_X11_torque N M a0 x1) := by
  refine k_of (lv := [(0, .ref a0), (1, .int x1)]) RX11 (by decide) rfl rfl (Nat.le_of_ble_eq_true rfl) ?_
  intro p e s m args below meth c hX hr _
  unfold F_X11_torque
  refine g_aload_n 1 0 hX dX11_torque_0 rfl rfl ?_
  refine r_X11_38 4 hX dX11_torque_1 rfl ?_
  refine g_aload_n 5 0 hX dX11_torque_4 rfl rfl ?_
  refine g_iload_n 6 1 hX dX11_torque_5 rfl rfl ?_
  refine g_callV_rp 9 hX (k_X11_existingBoard l g N M a0 x1) lk_X11_existingBoard rfl (ci := 11) rfl (Nat.le_of_ble_eq_true rfl) q_1863 q_22 (by omega) rfl (Nat.le_of_ble_eq_true rfl) (Nat.zero_le _) (Nat.zero_le _) dX11_torque_6 rfl (fun r1 => ?_)
  refine g_callV_ip 12 hX (k_X4_torqueOn l g N M (kR M a0 4) r1) lk_X4_torqueOn rfl (ci := 4) rfl (Nat.le_of_ble_eq_true rfl) q_1869 q_1624 (by omega) rfl (Nat.le_of_ble_eq_true rfl) (Nat.zero_le _) (Nat.zero_le _) dX11_torque_9 rfl (fun r2 => ?_)
  exact g_iret hX hr rfl (Nat.le_refl 0) (Nat.le_refl 0) dX11_torque_12
set_option maxRecDepth 100000 in
set_option maxHeartbeats 4000000 in
theorem k_X11_tilt (l : Launch) (g : kG) (N : Nat) (M : kMem) (a0 : Nat) (x1 : Int32) : kMet l g yX11_tilt cX11_tilt 3 (some .int) 3 0 0 [.ref a0, .int x1] M (fun r : Int32 => (some (.int r), M)) (F_X11_tilt N M a0 x1) := by
  refine k_of (lv := [(0, .ref a0), (1, .int x1)]) RX11 (by decide) rfl rfl (Nat.le_of_ble_eq_true rfl) ?_
  intro p e s m args below meth c hX hr _
  unfold F_X11_tilt
  refine g_aload_n 1 0 hX dX11_tilt_0 rfl rfl ?_
  refine g_iload_n 2 1 hX dX11_tilt_1 rfl rfl ?_
  refine g_callV_rp 5 hX (k_X11_existingBoard l g N M a0 x1) lk_X11_existingBoard rfl (ci := 11) rfl (Nat.le_of_ble_eq_true rfl) q_1863 q_22 (by omega) rfl (Nat.le_of_ble_eq_true rfl) (Nat.zero_le _) (Nat.zero_le _) dX11_tilt_2 rfl (fun r1 => ?_)
  refine g_astore_n 6 2 [(2, .ref r1), (0, .ref a0), (1, .int x1)] hX dX11_tilt_5 rfl rfl (Nat.le_of_ble_eq_true rfl) rfl ?_
  refine g_aload_n 7 0 hX dX11_tilt_6 rfl rfl ?_
  refine g_aload_n 8 1 hX dX11_tilt_7 rfl rfl ?_
  refine r_X11_38 11 hX dX11_tilt_8 rfl ?_
  refine g_aload_n 12 0 hX dX11_tilt_11 rfl rfl ?_
  refine g_callV_ip 15 hX (k_X4_torqueOn l g N M (kR M a0 4) r1) lk_X4_torqueOn rfl (ci := 4) rfl (Nat.le_of_ble_eq_true rfl) q_1869 q_1624 (by omega) rfl (Nat.le_of_ble_eq_true rfl) (Nat.zero_le _) (Nat.zero_le _) dX11_tilt_12 rfl (fun r2 => ?_)
  refine g_callV_ip 18 hX (k_X0_tiltUnder l g N M r1 r2) lk_X0_tiltUnder rfl (ci := 0) rfl (Nat.le_of_ble_eq_true rfl) q_1875 q_1724 (by omega) rfl (Nat.le_of_ble_eq_true rfl) (Nat.zero_le _) (Nat.zero_le _) dX11_tilt_15 rfl (fun r3 => ?_)
  exact g_iret hX hr rfl (Nat.le_refl 0) (Nat.le_refl 0) dX11_tilt_18
set_option maxRecDepth 100000 in
set_option maxHeartbeats 4000000 in
theorem k_X11_boardWithSeat (l : Launch) (g : kG) (N : Nat) (M : kMem) (a0 : Nat) (x1 : Int32) (x2 : Int32) : kMet l g yX11_boardWithSeat cX11_boardWithSeat 4 (some (.object "SeesawMarket$Board")) 3 0 0 [.ref a0, .int x1, .int x2] M (fun r : Nat => (some (.ref r), M)) (F_X11_boardWithSeat N M a0 x1 x2) := by
  refine k_of (lv := [(0, .ref a0), (1, .int x1), (2, .int x2)]) RX11 (by decide) rfl rfl (Nat.le_of_ble_eq_true rfl) ?_
  intro p e s m args below meth c hX hr _
  unfold F_X11_boardWithSeat
  refine g_aload_n 1 0 hX dX11_boardWithSeat_0 rfl rfl ?_
  refine g_iload_n 2 1 hX dX11_boardWithSeat_1 rfl rfl ?_
  refine g_callV_rp 5 hX (k_X11_existingBoard l g N M a0 x1) lk_X11_existingBoard rfl (ci := 11) rfl (Nat.le_of_ble_eq_true rfl) q_1863 q_22 (by omega) rfl (Nat.le_of_ble_eq_true rfl) (Nat.zero_le _) (Nat.zero_le _) dX11_boardWithSeat_2 rfl (fun r1 => ?_)
  refine g_astore_n 6 3 [(3, .ref r1), (0, .ref a0), (1, .int x1), (2, .int x2)] hX dX11_boardWithSeat_5 rfl rfl (Nat.le_of_ble_eq_true rfl) rfl ?_
  refine g_aload_n 7 0 hX dX11_boardWithSeat_6 rfl rfl ?_
  refine g_iload_n 8 3 hX dX11_boardWithSeat_7 rfl rfl ?_
  refine g_callV_ip 11 hX (k_X0_hasSeat l g N M r1 x2) lk_X0_hasSeat rfl (ci := 0) rfl (Nat.le_of_ble_eq_true rfl) q_1889 q_588 (by omega) rfl (Nat.le_of_ble_eq_true rfl) (Nat.zero_le _) (Nat.zero_le _) dX11_boardWithSeat_8 rfl (fun r2 => ?_)
  refine g_if_ne 25 14 hX dX11_boardWithSeat_11 (by decide) rfl (fun _ => ?_) (fun _ => ?_)
  · refine g_aload_n 26 0 hX dX11_boardWithSeat_25 rfl rfl ?_
    exact g_aret hX hr (Or.inl ⟨_, rfl⟩) rfl (Nat.le_refl 0) (Nat.le_refl 0) dX11_boardWithSeat_26
  · exact g_none
set_option maxRecDepth 100000 in
set_option maxHeartbeats 4000000 in
theorem k_X11_seatOwner (l : Launch) (g : kG) (N : Nat) (M : kMem) (a0 : Nat) (x1 : Int32) (x2 : Int32) : kMet l g yX11_seatOwner cX11_seatOwner 3 (some .int) 4 0 0 [.ref a0, .int x1, .int x2] M (fun r : Int32 => (some (.int r), M)) (F_X11_seatOwner N M a0 x1 x2) := by
  refine k_of (lv := [(0, .ref a0), (1, .int x1), (2, .int x2)]) RX11 (by decide) rfl rfl (Nat.le_of_ble_eq_true rfl) ?_
  intro p e s m args below meth c hX hr _
  unfold F_X11_seatOwner
  refine g_aload_n 1 0 hX dX11_seatOwner_0 rfl rfl ?_
  refine g_iload_n 2 1 hX dX11_seatOwner_1 rfl rfl ?_
  refine g_iload_n 3 2 hX dX11_seatOwner_2 rfl rfl ?_
  refine g_callV_rp 6 hX (k_X11_boardWithSeat l g N M a0 x1 x2) lk_X11_boardWithSeat rfl (ci := 11) rfl (Nat.le_of_ble_eq_true rfl) q_1885 q_23 (by omega) rfl (Nat.le_of_ble_eq_true rfl) (Nat.zero_le _) (Nat.zero_le _) dX11_seatOwner_3 rfl (fun r1 => ?_)
  refine g_iload_n 7 2 hX dX11_seatOwner_6 rfl rfl ?_
  refine g_callV_ip 10 hX (k_X0_ownerAt l g N M r1 x2) lk_X0_ownerAt rfl (ci := 0) rfl (Nat.le_of_ble_eq_true rfl) q_1891 q_592 (by omega) rfl (Nat.le_of_ble_eq_true rfl) (Nat.zero_le _) (Nat.zero_le _) dX11_seatOwner_7 rfl (fun r2 => ?_)
  exact g_iret hX hr rfl (Nat.le_refl 0) (Nat.le_refl 0) dX11_seatOwner_10
set_option maxRecDepth 100000 in
set_option maxHeartbeats 4000000 in
theorem k_X11_seatHeight (l : Launch) (g : kG) (N : Nat) (M : kMem) (a0 : Nat) (x1 : Int32) (x2 : Int32) : kMet l g yX11_seatHeight cX11_seatHeight 3 (some .int) 4 0 0 [.ref a0, .int x1, .int x2] M (fun r : Int32 => (some (.int r), M)) (F_X11_seatHeight N M a0 x1 x2) := by
  refine k_of (lv := [(0, .ref a0), (1, .int x1), (2, .int x2)]) RX11 (by decide) rfl rfl (Nat.le_of_ble_eq_true rfl) ?_
  intro p e s m args below meth c hX hr _
  unfold F_X11_seatHeight
  refine g_aload_n 1 0 hX dX11_seatHeight_0 rfl rfl ?_
  refine r_X11_38 4 hX dX11_seatHeight_1 rfl ?_
  refine g_aload_n 5 0 hX dX11_seatHeight_4 rfl rfl ?_
  refine g_iload_n 6 1 hX dX11_seatHeight_5 rfl rfl ?_
  refine g_iload_n 7 2 hX dX11_seatHeight_6 rfl rfl ?_
  refine g_callV_rp 10 hX (k_X11_boardWithSeat l g N M a0 x1 x2) lk_X11_boardWithSeat rfl (ci := 11) rfl (Nat.le_of_ble_eq_true rfl) q_1885 q_23 (by omega) rfl (Nat.le_of_ble_eq_true rfl) (Nat.zero_le _) (Nat.zero_le _) dX11_seatHeight_7 rfl (fun r1 => ?_)
  refine g_iload_n 11 2 hX dX11_seatHeight_10 rfl rfl ?_
  refine g_callV_ip 14 hX (k_X4_heightOn l g N M (kR M a0 4) r1 x2) lk_X4_heightOn rfl (ci := 4) rfl (Nat.le_of_ble_eq_true rfl) q_1896 q_1898 (by omega) rfl (Nat.le_of_ble_eq_true rfl) (Nat.zero_le _) (Nat.zero_le _) dX11_seatHeight_11 rfl (fun r2 => ?_)
  exact g_iret hX hr rfl (Nat.le_refl 0) (Nat.le_refl 0) dX11_seatHeight_14
set_option maxRecDepth 100000 in
set_option maxHeartbeats 4000000 in
theorem k_X11_seatPrice (l : Launch) (g : kG) (N : Nat) (M : kMem) (a0 : Nat) (x1 : Int32) (x2 : Int32) : kMet l g yX11_seatPrice cX11_seatPrice 3 (some .int) 4 0 0 [.ref a0, .int x1, .int x2] M (fun r : Int32 => (some (.int r), M)) (F_X11_seatPrice N M a0 x1 x2) := by
  refine k_of (lv := [(0, .ref a0), (1, .int x1), (2, .int x2)]) RX11 (by decide) rfl rfl (Nat.le_of_ble_eq_true rfl) ?_
  intro p e s m args below meth c hX hr _
  unfold F_X11_seatPrice
  refine g_aload_n 1 0 hX dX11_seatPrice_0 rfl rfl ?_
  refine r_X11_38 4 hX dX11_seatPrice_1 rfl ?_
  refine g_aload_n 5 0 hX dX11_seatPrice_4 rfl rfl ?_
  refine g_iload_n 6 1 hX dX11_seatPrice_5 rfl rfl ?_
  refine g_iload_n 7 2 hX dX11_seatPrice_6 rfl rfl ?_
  refine g_callV_rp 10 hX (k_X11_boardWithSeat l g N M a0 x1 x2) lk_X11_boardWithSeat rfl (ci := 11) rfl (Nat.le_of_ble_eq_true rfl) q_1885 q_23 (by omega) rfl (Nat.le_of_ble_eq_true rfl) (Nat.zero_le _) (Nat.zero_le _) dX11_seatPrice_7 rfl (fun r1 => ?_)
  refine g_iload_n 11 2 hX dX11_seatPrice_10 rfl rfl ?_
  refine g_callV_ip 14 hX (k_X4_priceOn l g N M (kR M a0 4) r1 x2) lk_X4_priceOn rfl (ci := 4) rfl (Nat.le_of_ble_eq_true rfl) q_1904 q_1906 (by omega) rfl (Nat.le_of_ble_eq_true rfl) (Nat.zero_le _) (Nat.zero_le _) dX11_seatPrice_11 rfl (fun r2 => ?_)
  exact g_iret hX hr rfl (Nat.le_refl 0) (Nat.le_refl 0) dX11_seatPrice_14
set_option maxRecDepth 100000 in
set_option maxHeartbeats 4000000 in
theorem k_X11_existingTrader (l : Launch) (g : kG) (N : Nat) (M : kMem) (a0 : Nat) (x1 : Int32) : kMet l g yX11_existingTrader cX11_existingTrader 3 (some (.object "SeesawMarket$Trader")) 2 0 0 [.ref a0, .int x1] M (fun r : Nat => (some (.ref r), M)) (F_X11_existingTrader N M a0 x1) := by
  refine k_of (lv := [(0, .ref a0), (1, .int x1)]) RX11 (by decide) rfl rfl (Nat.le_of_ble_eq_true rfl) ?_
  intro p e s m args below meth c hX hr _
  unfold F_X11_existingTrader
  refine g_aload_n 1 0 hX dX11_existingTrader_0 rfl rfl ?_
  refine r_X11_38 4 hX dX11_existingTrader_1 rfl ?_
  refine g_iload_n 5 1 hX dX11_existingTrader_4 rfl rfl ?_
  refine g_callV_rp 8 hX (k_X4_traderNumbered l g N M (kR M a0 4) x1) lk_X4_traderNumbered rfl (ci := 4) rfl (Nat.le_of_ble_eq_true rfl) q_1671 q_1637 (by omega) rfl (Nat.le_of_ble_eq_true rfl) (Nat.zero_le _) (Nat.zero_le _) dX11_existingTrader_5 rfl (fun r1 => ?_)
  refine g_astore_n 9 2 [(2, .ref r1), (0, .ref a0), (1, .int x1)] hX dX11_existingTrader_8 rfl rfl (Nat.le_of_ble_eq_true rfl) rfl ?_
  refine g_aload_n 10 0 hX dX11_existingTrader_9 rfl rfl ?_
  refine g_ifnonnull 24 13 hX dX11_existingTrader_10 (by decide) rfl (fun _ => ?_) (fun _ => ?_)
  · refine g_aload_n 25 0 hX dX11_existingTrader_24 rfl rfl ?_
    exact g_aret hX hr (Or.inl ⟨_, rfl⟩) rfl (Nat.le_refl 0) (Nat.le_refl 0) dX11_existingTrader_25
  · exact g_none
set_option maxRecDepth 100000 in
set_option maxHeartbeats 4000000 in
theorem k_X11_weightOf (l : Launch) (g : kG) (N : Nat) (M : kMem) (a0 : Nat) (x1 : Int32) : kMet l g yX11_weightOf cX11_weightOf 2 (some .int) 3 0 0 [.ref a0, .int x1] M (fun r : Int32 => (some (.int r), M)) (F_X11_weightOf N M a0 x1) := by
  refine k_of (lv := [(0, .ref a0), (1, .int x1)]) RX11 (by decide) rfl rfl (Nat.le_of_ble_eq_true rfl) ?_
  intro p e s m args below meth c hX hr _
  unfold F_X11_weightOf
  refine g_aload_n 1 0 hX dX11_weightOf_0 rfl rfl ?_
  refine g_iload_n 2 1 hX dX11_weightOf_1 rfl rfl ?_
  refine g_callV_rp 5 hX (k_X11_existingTrader l g N M a0 x1) lk_X11_existingTrader rfl (ci := 11) rfl (Nat.le_of_ble_eq_true rfl) q_1667 q_20 (by omega) rfl (Nat.le_of_ble_eq_true rfl) (Nat.zero_le _) (Nat.zero_le _) dX11_weightOf_2 rfl (fun r1 => ?_)
  refine r_X11_211 8 hX dX11_weightOf_5 rfl ?_
  exact g_iret hX hr rfl (Nat.le_refl 0) (Nat.le_refl 0) dX11_weightOf_8
set_option maxRecDepth 100000 in
set_option maxHeartbeats 4000000 in
theorem k_X11_purseOf (l : Launch) (g : kG) (N : Nat) (M : kMem) (a0 : Nat) (x1 : Int32) : kMet l g yX11_purseOf cX11_purseOf 2 (some .int) 3 0 0 [.ref a0, .int x1] M (fun r : Int32 => (some (.int r), M)) (F_X11_purseOf N M a0 x1) := by
  refine k_of (lv := [(0, .ref a0), (1, .int x1)]) RX11 (by decide) rfl rfl (Nat.le_of_ble_eq_true rfl) ?_
  intro p e s m args below meth c hX hr _
  unfold F_X11_purseOf
  refine g_aload_n 1 0 hX dX11_purseOf_0 rfl rfl ?_
  refine g_iload_n 2 1 hX dX11_purseOf_1 rfl rfl ?_
  refine g_callV_rp 5 hX (k_X11_existingTrader l g N M a0 x1) lk_X11_existingTrader rfl (ci := 11) rfl (Nat.le_of_ble_eq_true rfl) q_1667 q_20 (by omega) rfl (Nat.le_of_ble_eq_true rfl) (Nat.zero_le _) (Nat.zero_le _) dX11_purseOf_2 rfl (fun r1 => ?_)
  refine r_X11_214 8 hX dX11_purseOf_5 rfl ?_
  exact g_iret hX hr rfl (Nat.le_refl 0) (Nat.le_refl 0) dX11_purseOf_8
set_option maxRecDepth 100000 in
set_option maxHeartbeats 4000000 in
theorem k_X11_ageOf (l : Launch) (g : kG) (N : Nat) (M : kMem) (a0 : Nat) (x1 : Int32) : kMet l g yX11_ageOf cX11_ageOf 2 (some .int) 3 0 0 [.ref a0, .int x1] M (fun r : Int32 => (some (.int r), M)) (F_X11_ageOf N M a0 x1) := by
  refine k_of (lv := [(0, .ref a0), (1, .int x1)]) RX11 (by decide) rfl rfl (Nat.le_of_ble_eq_true rfl) ?_
  intro p e s m args below meth c hX hr _
  unfold F_X11_ageOf
  refine g_aload_n 1 0 hX dX11_ageOf_0 rfl rfl ?_
  refine g_iload_n 2 1 hX dX11_ageOf_1 rfl rfl ?_
  refine g_callV_rp 5 hX (k_X11_existingTrader l g N M a0 x1) lk_X11_existingTrader rfl (ci := 11) rfl (Nat.le_of_ble_eq_true rfl) q_1667 q_20 (by omega) rfl (Nat.le_of_ble_eq_true rfl) (Nat.zero_le _) (Nat.zero_le _) dX11_ageOf_2 rfl (fun r1 => ?_)
  refine r_X11_217 8 hX dX11_ageOf_5 rfl ?_
  exact g_iret hX hr rfl (Nat.le_refl 0) (Nat.le_refl 0) dX11_ageOf_8
set_option maxRecDepth 100000 in
set_option maxHeartbeats 4000000 in
theorem k_X11_isPresent (l : Launch) (g : kG) (N : Nat) (M : kMem) (a0 : Nat) (x1 : Int32) : kMet l g yX11_isPresent cX11_isPresent 2 (some .boolean) 3 0 0 [.ref a0, .int x1] M (fun r : Int32 => (some (.int r), M)) (F_X11_isPresent N M a0 x1) := by
  refine k_of (lv := [(0, .ref a0), (1, .int x1)]) RX11 (by decide) rfl rfl (Nat.le_of_ble_eq_true rfl) ?_
  intro p e s m args below meth c hX hr _
  unfold F_X11_isPresent
  refine g_aload_n 1 0 hX dX11_isPresent_0 rfl rfl ?_
  refine g_iload_n 2 1 hX dX11_isPresent_1 rfl rfl ?_
  refine g_callV_rp 5 hX (k_X11_existingTrader l g N M a0 x1) lk_X11_existingTrader rfl (ci := 11) rfl (Nat.le_of_ble_eq_true rfl) q_1667 q_20 (by omega) rfl (Nat.le_of_ble_eq_true rfl) (Nat.zero_le _) (Nat.zero_le _) dX11_isPresent_2 rfl (fun r1 => ?_)
  refine r_X11_220 8 hX dX11_isPresent_5 rfl ?_
  exact g_zret hX hr rfl (Nat.le_refl 0) (Nat.le_refl 0) dX11_isPresent_8
set_option maxRecDepth 100000 in
set_option maxHeartbeats 4000000 in
theorem k_X11_boardOf (l : Launch) (g : kG) (N : Nat) (M : kMem) (a0 : Nat) (x1 : Int32) : kMet l g yX11_boardOf cX11_boardOf 2 (some .int) 3 0 0 [.ref a0, .int x1] M (fun r : Int32 => (some (.int r), M)) (F_X11_boardOf N M a0 x1) := by
  refine k_of (lv := [(0, .ref a0), (1, .int x1)]) RX11 (by decide) rfl rfl (Nat.le_of_ble_eq_true rfl) ?_
  intro p e s m args below meth c hX hr _
  unfold F_X11_boardOf
  refine g_aload_n 1 0 hX dX11_boardOf_0 rfl rfl ?_
  refine g_iload_n 2 1 hX dX11_boardOf_1 rfl rfl ?_
  refine g_callV_rp 5 hX (k_X11_existingTrader l g N M a0 x1) lk_X11_existingTrader rfl (ci := 11) rfl (Nat.le_of_ble_eq_true rfl) q_1667 q_20 (by omega) rfl (Nat.le_of_ble_eq_true rfl) (Nat.zero_le _) (Nat.zero_le _) dX11_boardOf_2 rfl (fun r1 => ?_)
  refine r_X11_224 8 hX dX11_boardOf_5 rfl ?_
  exact g_iret hX hr rfl (Nat.le_refl 0) (Nat.le_refl 0) dX11_boardOf_8
set_option maxRecDepth 100000 in
set_option maxHeartbeats 4000000 in
theorem k_X11_positionOf (l : Launch) (g : kG) (N : Nat) (M : kMem) (a0 : Nat) (x1 : Int32) : kMet l g yX11_positionOf cX11_positionOf 2 (some .int) 3 0 0 [.ref a0, .int x1] M (fun r : Int32 => (some (.int r), M)) (F_X11_positionOf N M a0 x1) := by
  refine k_of (lv := [(0, .ref a0), (1, .int x1)]) RX11 (by decide) rfl rfl (Nat.le_of_ble_eq_true rfl) ?_
  intro p e s m args below meth c hX hr _
  unfold F_X11_positionOf
  refine g_aload_n 1 0 hX dX11_positionOf_0 rfl rfl ?_
  refine g_iload_n 2 1 hX dX11_positionOf_1 rfl rfl ?_
  refine g_callV_rp 5 hX (k_X11_existingTrader l g N M a0 x1) lk_X11_existingTrader rfl (ci := 11) rfl (Nat.le_of_ble_eq_true rfl) q_1667 q_20 (by omega) rfl (Nat.le_of_ble_eq_true rfl) (Nat.zero_le _) (Nat.zero_le _) dX11_positionOf_2 rfl (fun r1 => ?_)
  refine r_X11_227 8 hX dX11_positionOf_5 rfl ?_
  exact g_iret hX hr rfl (Nat.le_refl 0) (Nat.le_refl 0) dX11_positionOf_8
set_option maxRecDepth 100000 in
set_option maxHeartbeats 4000000 in
theorem k_X11_incomeOf (l : Launch) (g : kG) (N : Nat) (M : kMem) (a0 : Nat) (x1 : Int32) : kMet l g yX11_incomeOf cX11_incomeOf 2 (some .int) 4 0 0 [.ref a0, .int x1] M (fun r : Int32 => (some (.int r), M)) (F_X11_incomeOf N M a0 x1) := by
  refine k_of (lv := [(0, .ref a0), (1, .int x1)]) RX11 (by decide) rfl rfl (Nat.le_of_ble_eq_true rfl) ?_
  intro p e s m args below meth c hX hr _
  unfold F_X11_incomeOf
  refine g_aload_n 1 0 hX dX11_incomeOf_0 rfl rfl ?_
  refine r_X11_38 4 hX dX11_incomeOf_1 rfl ?_
  refine g_aload_n 5 0 hX dX11_incomeOf_4 rfl rfl ?_
  refine g_iload_n 6 1 hX dX11_incomeOf_5 rfl rfl ?_
  refine g_callV_rp 9 hX (k_X11_existingTrader l g N M a0 x1) lk_X11_existingTrader rfl (ci := 11) rfl (Nat.le_of_ble_eq_true rfl) q_1667 q_20 (by omega) rfl (Nat.le_of_ble_eq_true rfl) (Nat.zero_le _) (Nat.zero_le _) dX11_incomeOf_6 rfl (fun r1 => ?_)
  refine g_callV_ip 12 hX (k_X4_incomeFor l g N M (kR M a0 4) r1) lk_X4_incomeFor rfl (ci := 4) rfl (Nat.le_of_ble_eq_true rfl) q_1712 q_1714 (by omega) rfl (Nat.le_of_ble_eq_true rfl) (Nat.zero_le _) (Nat.zero_le _) dX11_incomeOf_9 rfl (fun r2 => ?_)
  exact g_iret hX hr rfl (Nat.le_refl 0) (Nat.le_refl 0) dX11_incomeOf_12
set_option maxRecDepth 100000 in
set_option maxHeartbeats 4000000 in
theorem k_X11_reasonAgainstSeat (l : Launch) (g : kG) (N : Nat) (M : kMem) (a0 : Nat) (x1 : Int32) (x2 : Int32) (x3 : Int32) : kMet l g yX11_reasonAgainstSeat cX11_reasonAgainstSeat 5 (some .int) 5 0 0 [.ref a0, .int x1, .int x2, .int x3] M (fun r : Int32 => (some (.int r), M)) (F_X11_reasonAgainstSeat N M a0 x1 x2 x3) := by
  refine k_of (lv := [(0, .ref a0), (1, .int x1), (2, .int x2), (3, .int x3)]) RX11 (by decide) rfl rfl (Nat.le_of_ble_eq_true rfl) ?_
  intro p e s m args below meth c hX hr _
  unfold F_X11_reasonAgainstSeat
  refine g_aload_n 1 0 hX dX11_reasonAgainstSeat_0 rfl rfl ?_
  refine g_iload_n 2 1 hX dX11_reasonAgainstSeat_1 rfl rfl ?_
  refine g_callV_rp 5 hX (k_X11_existingTrader l g N M a0 x1) lk_X11_existingTrader rfl (ci := 11) rfl (Nat.le_of_ble_eq_true rfl) q_1667 q_20 (by omega) rfl (Nat.le_of_ble_eq_true rfl) (Nat.zero_le _) (Nat.zero_le _) dX11_reasonAgainstSeat_2 rfl (fun r1 => ?_)
  refine g_astore 7 4 [(4, .ref r1), (0, .ref a0), (1, .int x1), (2, .int x2), (3, .int x3)] hX dX11_reasonAgainstSeat_5 rfl (Nat.le_of_ble_eq_true rfl) rfl ?_
  refine g_aload_n 8 1 hX dX11_reasonAgainstSeat_7 rfl rfl ?_
  refine r_X11_38 11 hX dX11_reasonAgainstSeat_8 rfl ?_
  refine g_aload 13 0 hX dX11_reasonAgainstSeat_11 rfl rfl ?_
  refine g_aload_n 14 1 hX dX11_reasonAgainstSeat_13 rfl rfl ?_
  refine g_iload_n 15 3 hX dX11_reasonAgainstSeat_14 rfl rfl ?_
  refine g_iload_n 16 4 hX dX11_reasonAgainstSeat_15 rfl rfl ?_
  refine g_callV_rp 19 hX (k_X11_boardWithSeat l g N M a0 x2 x3) lk_X11_boardWithSeat rfl (ci := 11) rfl (Nat.le_of_ble_eq_true rfl) q_1885 q_23 (by omega) rfl (Nat.le_of_ble_eq_true rfl) (Nat.zero_le _) (Nat.zero_le _) dX11_reasonAgainstSeat_16 rfl (fun r2 => ?_)
  refine g_iload_n 20 4 hX dX11_reasonAgainstSeat_19 rfl rfl ?_
  refine g_callV_ip 23 hX (k_X4_whyNotSeat l g N M (kR M a0 4) r1 r2 x3) lk_X4_whyNotSeat rfl (ci := 4) rfl (Nat.le_of_ble_eq_true rfl) q_1926 q_1928 (by omega) rfl (Nat.le_of_ble_eq_true rfl) (Nat.zero_le _) (Nat.zero_le _) dX11_reasonAgainstSeat_20 rfl (fun r3 => ?_)
  exact g_iret hX hr rfl (Nat.le_refl 0) (Nat.le_refl 0) dX11_reasonAgainstSeat_23
set_option maxRecDepth 100000 in
set_option maxHeartbeats 4000000 in
theorem k_X11_requireDifferent (l : Launch) (g : kG) (N : Nat) (M : kMem) (x0 : Int32) (x1 : Int32) : kMet l g yX11_requireDifferent cX11_requireDifferent 2 none 1 0 0 [.int x0, .int x1] M (fun r : kMem => (none, r)) (F_X11_requireDifferent N M x0 x1) := by
  refine k_of (lv := [(0, .int x0), (1, .int x1)]) RX11 (by decide) rfl rfl (Nat.le_of_ble_eq_true rfl) ?_
  intro p e s m args below meth c hX hr _
  unfold F_X11_requireDifferent
  refine g_iload_n 1 0 hX dX11_requireDifferent_0 rfl rfl ?_
  refine g_iload_n 2 1 hX dX11_requireDifferent_1 rfl rfl ?_
  refine g_icmp_ne 16 5 hX dX11_requireDifferent_2 (by decide) rfl (fun _ => ?_) (fun _ => ?_)
  · exact g_vret hX hr rfl (Nat.le_refl 0) (Nat.le_refl 0) dX11_requireDifferent_16
  · exact g_none
set_option maxRecDepth 100000 in
set_option maxHeartbeats 4000000 in
theorem k_X11_reasonAgainstSale (l : Launch) (g : kG) (N : Nat) (M : kMem) (a0 : Nat) (x1 : Int32) (x2 : Int32) (x3 : Int32) : kMet l g yX11_reasonAgainstSale cX11_reasonAgainstSale 6 (some .int) 5 0 0 [.ref a0, .int x1, .int x2, .int x3] M (fun r : Int32 × kMem => (some (.int r.1), r.2)) (F_X11_reasonAgainstSale N M a0 x1 x2 x3) := by
  refine k_of (lv := [(0, .ref a0), (1, .int x1), (2, .int x2), (3, .int x3)]) RX11 (by decide) rfl rfl (Nat.le_of_ble_eq_true rfl) ?_
  intro p e s m args below meth c hX hr _
  unfold F_X11_reasonAgainstSale
  refine g_aload_n 1 0 hX dX11_reasonAgainstSale_0 rfl rfl ?_
  refine g_iload_n 2 1 hX dX11_reasonAgainstSale_1 rfl rfl ?_
  refine g_callV_rp 5 hX (k_X11_existingTrader l g N M a0 x1) lk_X11_existingTrader rfl (ci := 11) rfl (Nat.le_of_ble_eq_true rfl) q_1667 q_20 (by omega) rfl (Nat.le_of_ble_eq_true rfl) (Nat.zero_le _) (Nat.zero_le _) dX11_reasonAgainstSale_2 rfl (fun r1 => ?_)
  refine g_astore 7 4 [(4, .ref r1), (0, .ref a0), (1, .int x1), (2, .int x2), (3, .int x3)] hX dX11_reasonAgainstSale_5 rfl (Nat.le_of_ble_eq_true rfl) rfl ?_
  refine g_aload_n 8 1 hX dX11_reasonAgainstSale_7 rfl rfl ?_
  refine g_iload_n 9 3 hX dX11_reasonAgainstSale_8 rfl rfl ?_
  refine g_callV_rp 12 hX (k_X11_existingTrader l g N M a0 x2) lk_X11_existingTrader rfl (ci := 11) rfl (Nat.le_of_ble_eq_true rfl) q_1667 q_20 (by omega) rfl (Nat.le_of_ble_eq_true rfl) (Nat.zero_le _) (Nat.zero_le _) dX11_reasonAgainstSale_9 rfl (fun r2 => ?_)
  refine g_astore 14 5 [(5, .ref r2), (4, .ref r1), (0, .ref a0), (1, .int x1), (2, .int x2), (3, .int x3)] hX dX11_reasonAgainstSale_12 rfl (Nat.le_of_ble_eq_true rfl) rfl ?_
  refine g_iload_n 15 3 hX dX11_reasonAgainstSale_14 rfl rfl ?_
  refine g_iload_n 16 4 hX dX11_reasonAgainstSale_15 rfl rfl ?_
  refine g_callS_v 19 hX (k_X11_requireDifferent l g N M x1 x2) lk_X11_requireDifferent q_1998 (by omega) rfl (Nat.le_of_ble_eq_true rfl) (Nat.zero_le _) (Nat.zero_le _) dX11_reasonAgainstSale_16 rfl (fun M3 => ?_)
  refine g_iload_n 20 5 hX dX11_reasonAgainstSale_19 rfl rfl ?_
  refine g_iconst 21 hX 1 dX11_reasonAgainstSale_20 rfl kc_i_1 ?_
  refine g_bipush 23 hX 50 dX11_reasonAgainstSale_21 rfl kc_b_50 ?_
  refine g_callS_v 26 hX (k_X11_requireRange l g N M3 x3 1 50) lk_X11_requireRange q_1499 (by omega) rfl (Nat.le_of_ble_eq_true rfl) (Nat.zero_le _) (Nat.zero_le _) dX11_reasonAgainstSale_23 rfl (fun M4 => ?_)
  refine g_aload_n 27 2 hX dX11_reasonAgainstSale_26 rfl rfl ?_
  refine r_X11_38 30 hX dX11_reasonAgainstSale_27 rfl ?_
  refine g_aload 32 1 hX dX11_reasonAgainstSale_30 rfl rfl ?_
  refine g_aload 34 0 hX dX11_reasonAgainstSale_32 rfl rfl ?_
  refine g_iload_n 35 5 hX dX11_reasonAgainstSale_34 rfl rfl ?_
  refine g_callV_ip 38 hX (k_X4_whyNotSale l g N M4 (kR M4 a0 4) r1 r2 x3) lk_X4_whyNotSale rfl (ci := 4) rfl (Nat.le_of_ble_eq_true rfl) q_2002 q_2004 (by omega) rfl (Nat.le_of_ble_eq_true rfl) (Nat.zero_le _) (Nat.zero_le _) dX11_reasonAgainstSale_35 rfl (fun r5 => ?_)
  exact g_iret hX hr rfl (Nat.le_refl 0) (Nat.le_refl 0) dX11_reasonAgainstSale_38
set_option maxRecDepth 100000 in
set_option maxHeartbeats 4000000 in
theorem k_X11_reasonAgainstSwap (l : Launch) (g : kG) (N : Nat) (M : kMem) (a0 : Nat) (x1 : Int32) (x2 : Int32) : kMet l g yX11_reasonAgainstSwap cX11_reasonAgainstSwap 5 (some .int) 4 0 0 [.ref a0, .int x1, .int x2] M (fun r : Int32 × kMem => (some (.int r.1), r.2)) (F_X11_reasonAgainstSwap N M a0 x1 x2) := by
  refine k_of (lv := [(0, .ref a0), (1, .int x1), (2, .int x2)]) RX11 (by decide) rfl rfl (Nat.le_of_ble_eq_true rfl) ?_
  intro p e s m args below meth c hX hr _
  unfold F_X11_reasonAgainstSwap
  refine g_aload_n 1 0 hX dX11_reasonAgainstSwap_0 rfl rfl ?_
  refine g_iload_n 2 1 hX dX11_reasonAgainstSwap_1 rfl rfl ?_
  refine g_callV_rp 5 hX (k_X11_existingTrader l g N M a0 x1) lk_X11_existingTrader rfl (ci := 11) rfl (Nat.le_of_ble_eq_true rfl) q_1667 q_20 (by omega) rfl (Nat.le_of_ble_eq_true rfl) (Nat.zero_le _) (Nat.zero_le _) dX11_reasonAgainstSwap_2 rfl (fun r1 => ?_)
  refine g_astore_n 6 3 [(3, .ref r1), (0, .ref a0), (1, .int x1), (2, .int x2)] hX dX11_reasonAgainstSwap_5 rfl rfl (Nat.le_of_ble_eq_true rfl) rfl ?_
  refine g_aload_n 7 1 hX dX11_reasonAgainstSwap_6 rfl rfl ?_
  refine g_iload_n 8 3 hX dX11_reasonAgainstSwap_7 rfl rfl ?_
  refine g_callV_rp 11 hX (k_X11_existingTrader l g N M a0 x2) lk_X11_existingTrader rfl (ci := 11) rfl (Nat.le_of_ble_eq_true rfl) q_1667 q_20 (by omega) rfl (Nat.le_of_ble_eq_true rfl) (Nat.zero_le _) (Nat.zero_le _) dX11_reasonAgainstSwap_8 rfl (fun r2 => ?_)
  refine g_astore 13 4 [(4, .ref r2), (3, .ref r1), (0, .ref a0), (1, .int x1), (2, .int x2)] hX dX11_reasonAgainstSwap_11 rfl (Nat.le_of_ble_eq_true rfl) rfl ?_
  refine g_iload_n 14 3 hX dX11_reasonAgainstSwap_13 rfl rfl ?_
  refine g_iload_n 15 4 hX dX11_reasonAgainstSwap_14 rfl rfl ?_
  refine g_callS_v 18 hX (k_X11_requireDifferent l g N M x1 x2) lk_X11_requireDifferent q_1998 (by omega) rfl (Nat.le_of_ble_eq_true rfl) (Nat.zero_le _) (Nat.zero_le _) dX11_reasonAgainstSwap_15 rfl (fun M3 => ?_)
  refine g_aload_n 19 2 hX dX11_reasonAgainstSwap_18 rfl rfl ?_
  refine r_X11_38 22 hX dX11_reasonAgainstSwap_19 rfl ?_
  refine g_aload_n 23 1 hX dX11_reasonAgainstSwap_22 rfl rfl ?_
  refine g_aload 25 0 hX dX11_reasonAgainstSwap_23 rfl rfl ?_
  refine g_callV_ip 28 hX (k_X4_whyNotSwap l g N M3 (kR M3 a0 4) r1 r2) lk_X4_whyNotSwap rfl (ci := 4) rfl (Nat.le_of_ble_eq_true rfl) q_2031 q_2033 (by omega) rfl (Nat.le_of_ble_eq_true rfl) (Nat.zero_le _) (Nat.zero_le _) dX11_reasonAgainstSwap_25 rfl (fun r4 => ?_)
  exact g_iret hX hr rfl (Nat.le_refl 0) (Nat.le_refl 0) dX11_reasonAgainstSwap_28
set_option maxRecDepth 100000 in
set_option maxHeartbeats 4000000 in
theorem k_X11_seatsSold (l : Launch) (g : kG) (N : Nat) (M : kMem) (a0 : Nat) : kMet l g yX11_seatsSold cX11_seatsSold 1 (some .int) 1 0 0 [.ref a0] M (fun r : Int32 => (some (.int r), M)) (F_X11_seatsSold N M a0) := by
  refine k_of (lv := [(0, .ref a0)]) RX11 (by decide) rfl rfl (Nat.le_of_ble_eq_true rfl) ?_
  intro p e s m args below meth c hX hr _
  unfold F_X11_seatsSold
  refine g_aload_n 1 0 hX dX11_seatsSold_0 rfl rfl ?_
  refine r_X11_38 4 hX dX11_seatsSold_1 rfl ?_
  refine r_X11_264 7 hX dX11_seatsSold_4 rfl ?_
  exact g_iret hX hr rfl (Nat.le_refl 0) (Nat.le_refl 0) dX11_seatsSold_7
set_option maxRecDepth 100000 in
set_option maxHeartbeats 4000000 in
theorem k_X11_weightSold (l : Launch) (g : kG) (N : Nat) (M : kMem) (a0 : Nat) : kMet l g yX11_weightSold cX11_weightSold 1 (some .int) 1 0 0 [.ref a0] M (fun r : Int32 => (some (.int r), M)) (F_X11_weightSold N M a0) := by
  refine k_of (lv := [(0, .ref a0)]) RX11 (by decide) rfl rfl (Nat.le_of_ble_eq_true rfl) ?_
  intro p e s m args below meth c hX hr _
  unfold F_X11_weightSold
  refine g_aload_n 1 0 hX dX11_weightSold_0 rfl rfl ?_
  refine r_X11_38 4 hX dX11_weightSold_1 rfl ?_
  refine r_X11_267 7 hX dX11_weightSold_4 rfl ?_
  exact g_iret hX hr rfl (Nat.le_refl 0) (Nat.le_refl 0) dX11_weightSold_7
set_option maxRecDepth 100000 in
set_option maxHeartbeats 4000000 in
theorem k_X11_fallCount (l : Launch) (g : kG) (N : Nat) (M : kMem) (a0 : Nat) : kMet l g yX11_fallCount cX11_fallCount 1 (some .int) 1 0 0 [.ref a0] M (fun r : Int32 => (some (.int r), M)) (F_X11_fallCount N M a0) := by
  refine k_of (lv := [(0, .ref a0)]) RX11 (by decide) rfl rfl (Nat.le_of_ble_eq_true rfl) ?_
  intro p e s m args below meth c hX hr _
  unfold F_X11_fallCount
  refine g_aload_n 1 0 hX dX11_fallCount_0 rfl rfl ?_
  refine r_X11_38 4 hX dX11_fallCount_1 rfl ?_
  refine r_X11_270 7 hX dX11_fallCount_4 rfl ?_
  exact g_iret hX hr rfl (Nat.le_refl 0) (Nat.le_refl 0) dX11_fallCount_7
set_option maxRecDepth 100000 in
set_option maxHeartbeats 4000000 in
theorem k_X11_contradictions (l : Launch) (g : kG) (N : Nat) (M : kMem) (a0 : Nat) : kMet l g yX11_contradictions cX11_contradictions 1 (some .int) 5 0 0 [.ref a0] M (fun r : Int32 => (some (.int r), M)) (F_X11_contradictions N M a0) := by
  refine k_of (lv := [(0, .ref a0)]) RX11 (by decide) rfl rfl (Nat.le_of_ble_eq_true rfl) ?_
  intro p e s m args below meth c hX hr _
  unfold F_X11_contradictions
  refine g_aload_n 1 0 hX dX11_contradictions_0 rfl rfl ?_
  refine r_X11_38 4 hX dX11_contradictions_1 rfl ?_
  refine g_callV_ip 7 hX (k_X4_countContradictions l g N M (kR M a0 4)) lk_X4_countContradictions rfl (ci := 4) rfl (Nat.le_of_ble_eq_true rfl) q_1613 q_1615 (by omega) rfl (Nat.le_of_ble_eq_true rfl) (Nat.zero_le _) (Nat.zero_le _) dX11_contradictions_4 rfl (fun r1 => ?_)
  exact g_iret hX hr rfl (Nat.le_refl 0) (Nat.le_refl 0) dX11_contradictions_7
set_option maxRecDepth 100000 in
set_option maxHeartbeats 4000000 in
theorem k_X11_requirePossible (l : Launch) (g : kG) (N : Nat) (M : kMem) (x0 : Int32) : kMet l g yX11_requirePossible cX11_requirePossible 1 none 1 0 0 [.int x0] M (fun r : kMem => (none, r)) (F_X11_requirePossible N M x0) := by
  refine k_of (lv := [(0, .int x0)]) RX11 (by decide) rfl rfl (Nat.le_of_ble_eq_true rfl) ?_
  intro p e s m args below meth c hX hr _
  unfold F_X11_requirePossible
  refine g_iload_n 1 0 hX dX11_requirePossible_0 rfl rfl ?_
  refine g_if_eq 15 4 hX dX11_requirePossible_1 (by decide) rfl (fun _ => ?_) (fun _ => ?_)
  · exact g_vret hX hr rfl (Nat.le_refl 0) (Nat.le_refl 0) dX11_requirePossible_15
  · exact g_none
set_option maxRecDepth 100000 in
set_option maxHeartbeats 4000000 in
theorem k_X11_buySeat (l : Launch) (g : kG) (N : Nat) (M : kMem) (a0 : Nat) (x1 : Int32) (x2 : Int32) (x3 : Int32) : kMet l g yX11_buySeat cX11_buySeat 6 (some .int) 5 0 0 [.ref a0, .int x1, .int x2, .int x3] M (fun r : Int32 × kMem => (some (.int r.1), r.2)) (F_X11_buySeat N M a0 x1 x2 x3) := by
  refine k_of (lv := [(0, .ref a0), (1, .int x1), (2, .int x2), (3, .int x3)]) RX11 (by decide) rfl rfl (Nat.le_of_ble_eq_true rfl) ?_
  intro p e s m args below meth c hX hr _
  unfold F_X11_buySeat
  refine g_aload_n 1 0 hX dX11_buySeat_0 rfl rfl ?_
  refine g_iload_n 2 1 hX dX11_buySeat_1 rfl rfl ?_
  refine g_callV_rp 5 hX (k_X11_existingTrader l g N M a0 x1) lk_X11_existingTrader rfl (ci := 11) rfl (Nat.le_of_ble_eq_true rfl) q_1667 q_20 (by omega) rfl (Nat.le_of_ble_eq_true rfl) (Nat.zero_le _) (Nat.zero_le _) dX11_buySeat_2 rfl (fun r1 => ?_)
  refine g_astore 7 4 [(4, .ref r1), (0, .ref a0), (1, .int x1), (2, .int x2), (3, .int x3)] hX dX11_buySeat_5 rfl (Nat.le_of_ble_eq_true rfl) rfl ?_
  refine g_aload_n 8 1 hX dX11_buySeat_7 rfl rfl ?_
  refine g_iload_n 9 3 hX dX11_buySeat_8 rfl rfl ?_
  refine g_iload_n 10 4 hX dX11_buySeat_9 rfl rfl ?_
  refine g_callV_rp 13 hX (k_X11_boardWithSeat l g N M a0 x2 x3) lk_X11_boardWithSeat rfl (ci := 11) rfl (Nat.le_of_ble_eq_true rfl) q_1885 q_23 (by omega) rfl (Nat.le_of_ble_eq_true rfl) (Nat.zero_le _) (Nat.zero_le _) dX11_buySeat_10 rfl (fun r2 => ?_)
  refine g_astore 15 5 [(5, .ref r2), (4, .ref r1), (0, .ref a0), (1, .int x1), (2, .int x2), (3, .int x3)] hX dX11_buySeat_13 rfl (Nat.le_of_ble_eq_true rfl) rfl ?_
  refine g_aload_n 16 2 hX dX11_buySeat_15 rfl rfl ?_
  refine r_X11_38 19 hX dX11_buySeat_16 rfl ?_
  refine g_aload 21 1 hX dX11_buySeat_19 rfl rfl ?_
  refine g_aload 23 0 hX dX11_buySeat_21 rfl rfl ?_
  refine g_iload_n 24 5 hX dX11_buySeat_23 rfl rfl ?_
  refine g_callV_ip 27 hX (k_X4_whyNotSeat l g N M (kR M a0 4) r1 r2 x3) lk_X4_whyNotSeat rfl (ci := 4) rfl (Nat.le_of_ble_eq_true rfl) q_1926 q_1928 (by omega) rfl (Nat.le_of_ble_eq_true rfl) (Nat.zero_le _) (Nat.zero_le _) dX11_buySeat_24 rfl (fun r3 => ?_)
  refine g_callS_v 30 hX (k_X11_requirePossible l g N M r3) lk_X11_requirePossible q_1967 (by omega) rfl (Nat.le_of_ble_eq_true rfl) (Nat.zero_le _) (Nat.zero_le _) dX11_buySeat_27 rfl (fun M4 => ?_)
  refine g_aload_n 31 2 hX dX11_buySeat_30 rfl rfl ?_
  refine r_X11_48 34 hX dX11_buySeat_31 rfl ?_
  refine g_aload_n 35 2 hX dX11_buySeat_34 rfl rfl ?_
  refine r_X11_38 38 hX dX11_buySeat_35 rfl ?_
  refine g_callV_v 41 hX (k_X3_record l g N M4 (kR M4 a0 6) (kR M4 a0 4)) lk_X3_record rfl (ci := 3) rfl (Nat.le_of_ble_eq_true rfl) q_1971 q_1973 (by omega) rfl (Nat.le_of_ble_eq_true rfl) (Nat.zero_le _) (Nat.zero_le _) dX11_buySeat_38 rfl (fun M5 => ?_)
  refine g_aload_n 42 2 hX dX11_buySeat_41 rfl rfl ?_
  refine r_X11_38 45 hX dX11_buySeat_42 rfl ?_
  refine g_aload 47 1 hX dX11_buySeat_45 rfl rfl ?_
  refine g_aload 49 0 hX dX11_buySeat_47 rfl rfl ?_
  refine g_iload_n 50 5 hX dX11_buySeat_49 rfl rfl ?_
  refine g_callV_i 53 hX (k_X4_sellSeat l g N M5 (kR M5 a0 4) r1 r2 x3) lk_X4_sellSeat rfl (ci := 4) rfl (Nat.le_of_ble_eq_true rfl) q_1977 q_1979 (by omega) rfl (Nat.le_of_ble_eq_true rfl) (Nat.zero_le _) (Nat.zero_le _) dX11_buySeat_50 rfl (fun r6 => ?_)
  exact g_iret hX hr rfl (Nat.le_refl 0) (Nat.le_refl 0) dX11_buySeat_53
set_option maxRecDepth 100000 in
set_option maxHeartbeats 4000000 in
theorem k_X11_sellWeight (l : Launch) (g : kG) (N : Nat) (M : kMem) (a0 : Nat) (x1 : Int32) (x2 : Int32) (x3 : Int32) : kMet l g yX11_sellWeight cX11_sellWeight 6 (some .int) 5 0 0 [.ref a0, .int x1, .int x2, .int x3] M (fun r : Int32 × kMem => (some (.int r.1), r.2)) (F_X11_sellWeight N M a0 x1 x2 x3) := by
  refine k_of (lv := [(0, .ref a0), (1, .int x1), (2, .int x2), (3, .int x3)]) RX11 (by decide) rfl rfl (Nat.le_of_ble_eq_true rfl) ?_
  intro p e s m args below meth c hX hr _
  unfold F_X11_sellWeight
  refine g_aload_n 1 0 hX dX11_sellWeight_0 rfl rfl ?_
  refine g_iload_n 2 1 hX dX11_sellWeight_1 rfl rfl ?_
  refine g_callV_rp 5 hX (k_X11_existingTrader l g N M a0 x1) lk_X11_existingTrader rfl (ci := 11) rfl (Nat.le_of_ble_eq_true rfl) q_1667 q_20 (by omega) rfl (Nat.le_of_ble_eq_true rfl) (Nat.zero_le _) (Nat.zero_le _) dX11_sellWeight_2 rfl (fun r1 => ?_)
  refine g_astore 7 4 [(4, .ref r1), (0, .ref a0), (1, .int x1), (2, .int x2), (3, .int x3)] hX dX11_sellWeight_5 rfl (Nat.le_of_ble_eq_true rfl) rfl ?_
  refine g_aload_n 8 1 hX dX11_sellWeight_7 rfl rfl ?_
  refine g_iload_n 9 3 hX dX11_sellWeight_8 rfl rfl ?_
  refine g_callV_rp 12 hX (k_X11_existingTrader l g N M a0 x2) lk_X11_existingTrader rfl (ci := 11) rfl (Nat.le_of_ble_eq_true rfl) q_1667 q_20 (by omega) rfl (Nat.le_of_ble_eq_true rfl) (Nat.zero_le _) (Nat.zero_le _) dX11_sellWeight_9 rfl (fun r2 => ?_)
  refine g_astore 14 5 [(5, .ref r2), (4, .ref r1), (0, .ref a0), (1, .int x1), (2, .int x2), (3, .int x3)] hX dX11_sellWeight_12 rfl (Nat.le_of_ble_eq_true rfl) rfl ?_
  refine g_iload_n 15 3 hX dX11_sellWeight_14 rfl rfl ?_
  refine g_iload_n 16 4 hX dX11_sellWeight_15 rfl rfl ?_
  refine g_callS_v 19 hX (k_X11_requireDifferent l g N M x1 x2) lk_X11_requireDifferent q_1998 (by omega) rfl (Nat.le_of_ble_eq_true rfl) (Nat.zero_le _) (Nat.zero_le _) dX11_sellWeight_16 rfl (fun M3 => ?_)
  refine g_iload_n 20 5 hX dX11_sellWeight_19 rfl rfl ?_
  refine g_iconst 21 hX 1 dX11_sellWeight_20 rfl kc_i_1 ?_
  refine g_bipush 23 hX 50 dX11_sellWeight_21 rfl kc_b_50 ?_
  refine g_callS_v 26 hX (k_X11_requireRange l g N M3 x3 1 50) lk_X11_requireRange q_1499 (by omega) rfl (Nat.le_of_ble_eq_true rfl) (Nat.zero_le _) (Nat.zero_le _) dX11_sellWeight_23 rfl (fun M4 => ?_)
  refine g_aload_n 27 2 hX dX11_sellWeight_26 rfl rfl ?_
  refine r_X11_38 30 hX dX11_sellWeight_27 rfl ?_
  refine g_aload 32 1 hX dX11_sellWeight_30 rfl rfl ?_
  refine g_aload 34 0 hX dX11_sellWeight_32 rfl rfl ?_
  refine g_iload_n 35 5 hX dX11_sellWeight_34 rfl rfl ?_
  refine g_callV_ip 38 hX (k_X4_whyNotSale l g N M4 (kR M4 a0 4) r1 r2 x3) lk_X4_whyNotSale rfl (ci := 4) rfl (Nat.le_of_ble_eq_true rfl) q_2002 q_2004 (by omega) rfl (Nat.le_of_ble_eq_true rfl) (Nat.zero_le _) (Nat.zero_le _) dX11_sellWeight_35 rfl (fun r5 => ?_)
  refine g_callS_v 41 hX (k_X11_requirePossible l g N M4 r5) lk_X11_requirePossible q_1967 (by omega) rfl (Nat.le_of_ble_eq_true rfl) (Nat.zero_le _) (Nat.zero_le _) dX11_sellWeight_38 rfl (fun M6 => ?_)
  refine g_aload_n 42 2 hX dX11_sellWeight_41 rfl rfl ?_
  refine r_X11_48 45 hX dX11_sellWeight_42 rfl ?_
  refine g_aload_n 46 2 hX dX11_sellWeight_45 rfl rfl ?_
  refine r_X11_38 49 hX dX11_sellWeight_46 rfl ?_
  refine g_callV_v 52 hX (k_X3_record l g N M6 (kR M6 a0 6) (kR M6 a0 4)) lk_X3_record rfl (ci := 3) rfl (Nat.le_of_ble_eq_true rfl) q_1971 q_1973 (by omega) rfl (Nat.le_of_ble_eq_true rfl) (Nat.zero_le _) (Nat.zero_le _) dX11_sellWeight_49 rfl (fun M7 => ?_)
  refine g_aload_n 53 2 hX dX11_sellWeight_52 rfl rfl ?_
  refine r_X11_38 56 hX dX11_sellWeight_53 rfl ?_
  refine g_aload 58 1 hX dX11_sellWeight_56 rfl rfl ?_
  refine g_aload 60 0 hX dX11_sellWeight_58 rfl rfl ?_
  refine g_iload_n 61 5 hX dX11_sellWeight_60 rfl rfl ?_
  refine g_callV_i 64 hX (k_X4_moveWeight l g N M7 (kR M7 a0 4) r1 r2 x3) lk_X4_moveWeight rfl (ci := 4) rfl (Nat.le_of_ble_eq_true rfl) q_2014 q_2016 (by omega) rfl (Nat.le_of_ble_eq_true rfl) (Nat.zero_le _) (Nat.zero_le _) dX11_sellWeight_61 rfl (fun r8 => ?_)
  exact g_iret hX hr rfl (Nat.le_refl 0) (Nat.le_refl 0) dX11_sellWeight_64
set_option maxRecDepth 100000 in
set_option maxHeartbeats 4000000 in
theorem k_X11_swapSeats (l : Launch) (g : kG) (N : Nat) (M : kMem) (a0 : Nat) (x1 : Int32) (x2 : Int32) : kMet l g yX11_swapSeats cX11_swapSeats 5 (some .int) 4 0 0 [.ref a0, .int x1, .int x2] M (fun r : Int32 × kMem => (some (.int r.1), r.2)) (F_X11_swapSeats N M a0 x1 x2) := by
  refine k_of (lv := [(0, .ref a0), (1, .int x1), (2, .int x2)]) RX11 (by decide) rfl rfl (Nat.le_of_ble_eq_true rfl) ?_
  intro p e s m args below meth c hX hr _
  unfold F_X11_swapSeats
  refine g_aload_n 1 0 hX dX11_swapSeats_0 rfl rfl ?_
  refine g_iload_n 2 1 hX dX11_swapSeats_1 rfl rfl ?_
  refine g_callV_rp 5 hX (k_X11_existingTrader l g N M a0 x1) lk_X11_existingTrader rfl (ci := 11) rfl (Nat.le_of_ble_eq_true rfl) q_1667 q_20 (by omega) rfl (Nat.le_of_ble_eq_true rfl) (Nat.zero_le _) (Nat.zero_le _) dX11_swapSeats_2 rfl (fun r1 => ?_)
  refine g_astore_n 6 3 [(3, .ref r1), (0, .ref a0), (1, .int x1), (2, .int x2)] hX dX11_swapSeats_5 rfl rfl (Nat.le_of_ble_eq_true rfl) rfl ?_
  refine g_aload_n 7 1 hX dX11_swapSeats_6 rfl rfl ?_
  refine g_iload_n 8 3 hX dX11_swapSeats_7 rfl rfl ?_
  refine g_callV_rp 11 hX (k_X11_existingTrader l g N M a0 x2) lk_X11_existingTrader rfl (ci := 11) rfl (Nat.le_of_ble_eq_true rfl) q_1667 q_20 (by omega) rfl (Nat.le_of_ble_eq_true rfl) (Nat.zero_le _) (Nat.zero_le _) dX11_swapSeats_8 rfl (fun r2 => ?_)
  refine g_astore 13 4 [(4, .ref r2), (3, .ref r1), (0, .ref a0), (1, .int x1), (2, .int x2)] hX dX11_swapSeats_11 rfl (Nat.le_of_ble_eq_true rfl) rfl ?_
  refine g_iload_n 14 3 hX dX11_swapSeats_13 rfl rfl ?_
  refine g_iload_n 15 4 hX dX11_swapSeats_14 rfl rfl ?_
  refine g_callS_v 18 hX (k_X11_requireDifferent l g N M x1 x2) lk_X11_requireDifferent q_1998 (by omega) rfl (Nat.le_of_ble_eq_true rfl) (Nat.zero_le _) (Nat.zero_le _) dX11_swapSeats_15 rfl (fun M3 => ?_)
  refine g_aload_n 19 2 hX dX11_swapSeats_18 rfl rfl ?_
  refine r_X11_38 22 hX dX11_swapSeats_19 rfl ?_
  refine g_aload_n 23 1 hX dX11_swapSeats_22 rfl rfl ?_
  refine g_aload 25 0 hX dX11_swapSeats_23 rfl rfl ?_
  refine g_callV_ip 28 hX (k_X4_whyNotSwap l g N M3 (kR M3 a0 4) r1 r2) lk_X4_whyNotSwap rfl (ci := 4) rfl (Nat.le_of_ble_eq_true rfl) q_2031 q_2033 (by omega) rfl (Nat.le_of_ble_eq_true rfl) (Nat.zero_le _) (Nat.zero_le _) dX11_swapSeats_25 rfl (fun r4 => ?_)
  refine g_callS_v 31 hX (k_X11_requirePossible l g N M3 r4) lk_X11_requirePossible q_1967 (by omega) rfl (Nat.le_of_ble_eq_true rfl) (Nat.zero_le _) (Nat.zero_le _) dX11_swapSeats_28 rfl (fun M5 => ?_)
  refine g_aload_n 32 2 hX dX11_swapSeats_31 rfl rfl ?_
  refine r_X11_48 35 hX dX11_swapSeats_32 rfl ?_
  refine g_aload_n 36 2 hX dX11_swapSeats_35 rfl rfl ?_
  refine r_X11_38 39 hX dX11_swapSeats_36 rfl ?_
  refine g_callV_v 42 hX (k_X3_record l g N M5 (kR M5 a0 6) (kR M5 a0 4)) lk_X3_record rfl (ci := 3) rfl (Nat.le_of_ble_eq_true rfl) q_1971 q_1973 (by omega) rfl (Nat.le_of_ble_eq_true rfl) (Nat.zero_le _) (Nat.zero_le _) dX11_swapSeats_39 rfl (fun M6 => ?_)
  refine g_aload_n 43 2 hX dX11_swapSeats_42 rfl rfl ?_
  refine r_X11_38 46 hX dX11_swapSeats_43 rfl ?_
  refine g_aload_n 47 1 hX dX11_swapSeats_46 rfl rfl ?_
  refine g_aload 49 0 hX dX11_swapSeats_47 rfl rfl ?_
  refine g_callV_i 52 hX (k_X4_exchangeSeats l g N M6 (kR M6 a0 4) r1 r2) lk_X4_exchangeSeats rfl (ci := 4) rfl (Nat.le_of_ble_eq_true rfl) q_2043 q_2045 (by omega) rfl (Nat.le_of_ble_eq_true rfl) (Nat.zero_le _) (Nat.zero_le _) dX11_swapSeats_49 rfl (fun r7 => ?_)
  exact g_iret hX hr rfl (Nat.le_refl 0) (Nat.le_refl 0) dX11_swapSeats_52
set_option maxRecDepth 100000 in
set_option maxHeartbeats 4000000 in
theorem k_X11_setWage (l : Launch) (g : kG) (N : Nat) (M : kMem) (a0 : Nat) (x1 : Int32) : kMet l g yX11_setWage cX11_setWage 3 (some .int) 4 0 0 [.ref a0, .int x1] M (fun r : Int32 × kMem => (some (.int r.1), r.2)) (F_X11_setWage N M a0 x1) := by
  refine k_of (lv := [(0, .ref a0), (1, .int x1)]) RX11 (by decide) rfl rfl (Nat.le_of_ble_eq_true rfl) ?_
  intro p e s m args below meth c hX hr _
  unfold F_X11_setWage
  refine g_iload_n 1 1 hX dX11_setWage_0 rfl rfl ?_
  refine g_iconst 2 hX 0 dX11_setWage_1 rfl kc_i_0 ?_
  refine g_bipush 4 hX 20 dX11_setWage_2 rfl kc_b_20 ?_
  refine g_callS_v 7 hX (k_X11_requireRange l g N M x1 0 20) lk_X11_requireRange q_1499 (by omega) rfl (Nat.le_of_ble_eq_true rfl) (Nat.zero_le _) (Nat.zero_le _) dX11_setWage_4 rfl (fun M1 => ?_)
  refine g_aload_n 8 0 hX dX11_setWage_7 rfl rfl ?_
  refine r_X11_48 11 hX dX11_setWage_8 rfl ?_
  refine g_aload_n 12 0 hX dX11_setWage_11 rfl rfl ?_
  refine r_X11_38 15 hX dX11_setWage_12 rfl ?_
  refine g_callV_v 18 hX (k_X3_record l g N M1 (kR M1 a0 6) (kR M1 a0 4)) lk_X3_record rfl (ci := 3) rfl (Nat.le_of_ble_eq_true rfl) q_1971 q_1973 (by omega) rfl (Nat.le_of_ble_eq_true rfl) (Nat.zero_le _) (Nat.zero_le _) dX11_setWage_15 rfl (fun M2 => ?_)
  refine g_aload_n 19 0 hX dX11_setWage_18 rfl rfl ?_
  refine r_X11_38 22 hX dX11_setWage_19 rfl ?_
  refine r_X11_135 25 hX dX11_setWage_22 rfl ?_
  refine g_klI (fun v3 hv3 => ?_)
  refine g_istore_n 26 2 [(2, .int v3), (0, .ref a0), (1, .int x1)] hX dX11_setWage_25 rfl rfl (Nat.le_of_ble_eq_true rfl) rfl ?_
  refine g_aload_n 27 1 hX dX11_setWage_26 rfl rfl ?_
  refine r_X11_38 30 hX dX11_setWage_27 rfl ?_
  refine g_iload_n 31 2 hX dX11_setWage_30 rfl rfl ?_
  refine p_X11_135 34 hX dX11_setWage_31 rfl ?_
  refine g_klM (fun M4 hM4 => ?_)
  refine g_iload_n 35 0 hX dX11_setWage_34 rfl rfl ?_
  exact g_iret hX hr rfl (Nat.le_refl 0) (Nat.le_refl 0) dX11_setWage_35
set_option maxRecDepth 100000 in
set_option maxHeartbeats 4000000 in
theorem k_X11_advance (l : Launch) (g : kG) (N : Nat) (M : kMem) (a0 : Nat) (x1 : Int32) : kMet l g yX11_advance cX11_advance 2 (some .int) 6 0 0 [.ref a0, .int x1] M (fun r : Int32 × kMem => (some (.int r.1), r.2)) (F_X11_advance N M a0 x1) := by
  refine k_of (lv := [(0, .ref a0), (1, .int x1)]) RX11 (by decide) rfl rfl (Nat.le_of_ble_eq_true rfl) ?_
  intro p e s m args below meth c hX hr _
  unfold F_X11_advance
  refine g_iload_n 1 1 hX dX11_advance_0 rfl rfl ?_
  refine g_iconst 2 hX 1 dX11_advance_1 rfl kc_i_1 ?_
  refine g_bipush 4 hX 30 dX11_advance_2 rfl kc_b_30 ?_
  refine g_callS_v 7 hX (k_X11_requireRange l g N M x1 1 30) lk_X11_requireRange q_1499 (by omega) rfl (Nat.le_of_ble_eq_true rfl) (Nat.zero_le _) (Nat.zero_le _) dX11_advance_4 rfl (fun M1 => ?_)
  refine g_aload_n 8 0 hX dX11_advance_7 rfl rfl ?_
  refine r_X11_38 11 hX dX11_advance_8 rfl ?_
  refine g_iload_n 12 1 hX dX11_advance_11 rfl rfl ?_
  refine g_callV_ip 15 hX (k_X4_allowsDays l g N M1 (kR M1 a0 4) x1) lk_X4_allowsDays rfl (ci := 4) rfl (Nat.le_of_ble_eq_true rfl) q_2124 q_2126 (by omega) rfl (Nat.le_of_ble_eq_true rfl) (Nat.zero_le _) (Nat.zero_le _) dX11_advance_12 rfl (fun r2 => ?_)
  refine g_if_ne 29 18 hX dX11_advance_15 (by decide) rfl (fun _ => ?_) (fun _ => ?_)
  · refine g_aload_n 30 0 hX dX11_advance_29 rfl rfl ?_
    refine r_X11_48 33 hX dX11_advance_30 rfl ?_
    refine g_aload_n 34 0 hX dX11_advance_33 rfl rfl ?_
    refine r_X11_38 37 hX dX11_advance_34 rfl ?_
    refine g_callV_v 40 hX (k_X3_record l g N M1 (kR M1 a0 6) (kR M1 a0 4)) lk_X3_record rfl (ci := 3) rfl (Nat.le_of_ble_eq_true rfl) q_1971 q_1973 (by omega) rfl (Nat.le_of_ble_eq_true rfl) (Nat.zero_le _) (Nat.zero_le _) dX11_advance_37 rfl (fun M3 => ?_)
    refine g_aload_n 41 0 hX dX11_advance_40 rfl rfl ?_
    refine r_X11_38 44 hX dX11_advance_41 rfl ?_
    refine g_iload_n 45 1 hX dX11_advance_44 rfl rfl ?_
    refine g_callV_i 48 hX (k_X4_passDays l g N M3 (kR M3 a0 4) x1) lk_X4_passDays rfl (ci := 4) rfl (Nat.le_of_ble_eq_true rfl) q_2129 q_2131 (by omega) rfl (Nat.le_of_ble_eq_true rfl) (Nat.zero_le _) (Nat.zero_le _) dX11_advance_45 rfl (fun r4 => ?_)
    exact g_iret hX hr rfl (Nat.le_refl 0) (Nat.le_refl 0) dX11_advance_48
  · exact g_none
