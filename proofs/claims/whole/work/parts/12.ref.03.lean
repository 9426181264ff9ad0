set_option maxRecDepth 100000 in
set_option maxHeartbeats 4000000 in
theorem k_X12_leaveText_34 {p : Program} {l : Launch} {e : Env} {s : State} {m : MethodId} {args : Array Value} {below : List Frame} {meth : Method} {c : Code} {g : kG} (hX : Cok (p, l, e, { frames := 2 * 6, cells := 0, slots := 0, locals := 60 * 6 }, s, m, args, below, meth, c, cX12_leaveText, 4, RX12, g, 6)) (hr : meth.sig.returnType = none) (N : Nat) : ∀ (M : kMem) (a0 : Nat) (x1 : Int32) (y0 : Int32), GG (p, l, e, { frames := 2 * 6, cells := 0, slots := 0, locals := 60 * 6 }, s, m, args, below, meth, c, cX12_leaveText, 4, RX12, g, 6) (fun b => MQ below (kQ g ((fun r : kMem => (none, r)) b)) args s 0 0 (kZ g.2.2.1)) 0 0 (F_X12_leaveText_34 N M a0 x1 y0) 34 [(0, .ref a0), (1, .int x1)] [.int y0] M := by
  intro M a0 x1 y0
  unfold F_X12_leaveText_34
  refine g_istore_n 35 2 [(2, .int y0), (0, .ref a0), (1, .int x1)] hX dX12_leaveText_34 rfl rfl (Nat.le_of_ble_eq_true rfl) rfl ?_
  refine g_iload_n 36 0 hX dX12_leaveText_35 rfl rfl ?_
  refine g_if_eq 47 39 hX dX12_leaveText_36 (by decide) rfl (fun _ => ?_) (fun _ => ?_)
  · refine g_iconst 48 hX (-1) dX12_leaveText_47 rfl kc_i_m1 ?_
    refine g_istore_n 49 3 [(3, .int (-1)), (2, .int y0), (0, .ref a0), (1, .int x1)] hX dX12_leaveText_48 rfl rfl (Nat.le_of_ble_eq_true rfl) rfl ?_
    refine g_aload_n 50 2 hX dX12_leaveText_49 rfl rfl ?_
    refine g_iload_n 51 1 hX dX12_leaveText_50 rfl rfl ?_
    refine g_callV_v 54 hX (k_X12_came l g N M a0 y0) lk_X12_came rfl (ci := 12) rfl (Nat.le_of_ble_eq_true rfl) q_1931 q_77 (by omega) rfl (Nat.le_of_ble_eq_true rfl) (Nat.zero_le _) (Nat.zero_le _) dX12_leaveText_51 rfl (fun M4 => ?_)
    exact g_vret hX hr rfl (Nat.le_refl 0) (Nat.le_refl 0) dX12_leaveText_54
  · refine g_aload_n 40 1 hX dX12_leaveText_39 rfl rfl ?_
    refine g_iload_n 41 2 hX dX12_leaveText_40 rfl rfl ?_
    refine g_callV_i 44 hX (k_X12_leaves l g N M a0 x1) lk_X12_leaves rfl (ci := 12) rfl (Nat.le_of_ble_eq_true rfl) q_1996 q_91 (by omega) rfl (Nat.le_of_ble_eq_true rfl) (Nat.zero_le _) (Nat.zero_le _) dX12_leaveText_41 rfl (fun r5 => ?_)
    refine g_goto 48 hX dX12_leaveText_44 (by decide) ?_
    refine g_klI (fun v6 hv6 => ?_)
    refine g_istore_n 49 3 [(3, .int v6), (2, .int y0), (0, .ref a0), (1, .int x1)] hX dX12_leaveText_48 rfl rfl (Nat.le_of_ble_eq_true rfl) rfl ?_
    refine g_aload_n 50 2 hX dX12_leaveText_49 rfl rfl ?_
    refine g_iload_n 51 1 hX dX12_leaveText_50 rfl rfl ?_
    refine g_callV_v 54 hX (k_X12_came l g N r5.2 a0 y0) lk_X12_came rfl (ci := 12) rfl (Nat.le_of_ble_eq_true rfl) q_1931 q_77 (by omega) rfl (Nat.le_of_ble_eq_true rfl) (Nat.zero_le _) (Nat.zero_le _) dX12_leaveText_51 rfl (fun M7 => ?_)
    exact g_vret hX hr rfl (Nat.le_refl 0) (Nat.le_refl 0) dX12_leaveText_54
set_option maxRecDepth 100000 in
set_option maxHeartbeats 4000000 in
theorem k_X12_leaveText_33 {p : Program} {l : Launch} {e : Env} {s : State} {m : MethodId} {args : Array Value} {below : List Frame} {meth : Method} {c : Code} {g : kG} (hX : Cok (p, l, e, { frames := 2 * 6, cells := 0, slots := 0, locals := 60 * 6 }, s, m, args, below, meth, c, cX12_leaveText, 4, RX12, g, 6)) (hr : meth.sig.returnType = none) (N : Nat) : ∀ (M : kMem) (a0 : Nat) (x1 : Int32), GG (p, l, e, { frames := 2 * 6, cells := 0, slots := 0, locals := 60 * 6 }, s, m, args, below, meth, c, cX12_leaveText, 4, RX12, g, 6) (fun b => MQ below (kQ g ((fun r : kMem => (none, r)) b)) args s 0 0 (kZ g.2.2.1)) 0 0 (F_X12_leaveText_33 N M a0 x1) 33 [(0, .ref a0), (1, .int x1)] [] M := by
  intro M a0 x1
  unfold F_X12_leaveText_33
  refine g_iconst 34 hX 0 dX12_leaveText_33 rfl kc_i_0 ?_
  exact k_X12_leaveText_34 hX hr N M a0 x1 0
set_option maxRecDepth 100000 in
set_option maxHeartbeats 4000000 in
theorem k_X12_leaveText (l : Launch) (g : kG) (N : Nat) (M : kMem) (a0 : Nat) : kMet l g yX12_leaveText cX12_leaveText 4 none 6 0 0 [.ref a0] M (fun r : kMem => (none, r)) (F_X12_leaveText N M a0) := by
  refine k_of (lv := [(0, .ref a0)]) RX12 (by decide) rfl rfl (Nat.le_of_ble_eq_true rfl) ?_
  intro p e s m args below meth c hX hr _
  unfold F_X12_leaveText
  refine g_aload_n 1 0 hX dX12_leaveText_0 rfl rfl ?_
  refine g_aload_n 2 0 hX dX12_leaveText_1 rfl rfl ?_
  refine g_callV_i 5 hX (k_X12_nameText l g N M a0) lk_X12_nameText rfl (ci := 12) rfl (Nat.le_of_ble_eq_true rfl) q_1919 q_74 (by omega) rfl (Nat.le_of_ble_eq_true rfl) (Nat.zero_le _) (Nat.zero_le _) dX12_leaveText_2 rfl (fun r1 => ?_)
  refine g_callV_ip 8 hX (k_X12_traderNamed l g N r1.2 a0 r1.1) lk_X12_traderNamed rfl (ci := 12) rfl (Nat.le_of_ble_eq_true rfl) q_1845 q_60 (by omega) rfl (Nat.le_of_ble_eq_true rfl) (Nat.zero_le _) (Nat.zero_le _) dX12_leaveText_5 rfl (fun r2 => ?_)
  refine g_istore_n 9 1 [(1, .int r2), (0, .ref a0)] hX dX12_leaveText_8 rfl rfl (Nat.le_of_ble_eq_true rfl) rfl ?_
  refine g_aload_n 10 1 hX dX12_leaveText_9 rfl rfl ?_
  refine g_callV_ip 13 hX (k_X12_isActive l g N r1.2 a0) lk_X12_isActive rfl (ci := 12) rfl (Nat.le_of_ble_eq_true rfl) q_1923 q_75 (by omega) rfl (Nat.le_of_ble_eq_true rfl) (Nat.zero_le _) (Nat.zero_le _) dX12_leaveText_10 rfl (fun r3 => ?_)
  refine g_if_eq 54 16 hX dX12_leaveText_13 (by decide) rfl (fun _ => ?_) (fun _ => ?_)
  · exact g_vret hX hr rfl (Nat.le_refl 0) (Nat.le_refl 0) dX12_leaveText_54
  · refine g_iload_n 17 0 hX dX12_leaveText_16 rfl rfl ?_
    refine g_iconst 18 hX (-1) dX12_leaveText_17 rfl kc_i_m1 ?_
    refine g_icmp_eq 33 21 hX dX12_leaveText_18 (by decide) rfl (fun _ => ?_) (fun _ => ?_)
    · refine g_lv [1, 0] rfl ?_
      exact k_X12_leaveText_33 hX hr N r1.2 a0 r2
    · refine g_aload_n 22 1 hX dX12_leaveText_21 rfl rfl ?_
      refine g_iload_n 23 0 hX dX12_leaveText_22 rfl rfl ?_
      refine g_callV_ip 26 hX (k_X12_isSeated l g N r1.2 a0 r2) lk_X12_isSeated rfl (ci := 12) rfl (Nat.le_of_ble_eq_true rfl) q_1857 q_62 (by omega) rfl (Nat.le_of_ble_eq_true rfl) (Nat.zero_le _) (Nat.zero_le _) dX12_leaveText_23 rfl (fun r8 => ?_)
      refine g_if_eq 33 29 hX dX12_leaveText_26 (by decide) rfl (fun _ => ?_) (fun _ => ?_)
      · refine g_lv [1, 0] rfl ?_
        exact k_X12_leaveText_33 hX hr N r1.2 a0 r2
      · refine g_iconst 30 hX 1 dX12_leaveText_29 rfl kc_i_1 ?_
        refine g_goto 34 hX dX12_leaveText_30 (by decide) ?_
        refine g_lv [1, 0] rfl ?_
        exact k_X12_leaveText_34 hX hr N r1.2 a0 r2 1
set_option maxRecDepth 100000 in
set_option maxHeartbeats 4000000 in
theorem k_X12_pairText_89 {p : Program} {l : Launch} {e : Env} {s : State} {m : MethodId} {args : Array Value} {below : List Frame} {meth : Method} {c : Code} {g : kG} (hX : Cok (p, l, e, { frames := 2 * 9, cells := 0, slots := 0, locals := 60 * 9 }, s, m, args, below, meth, c, cX12_pairText, 8, RX12, g, 9)) (hr : meth.sig.returnType = none) (N : Nat) : ∀ (M : kMem) (a0 : Nat) (x1 : Int32) (x3 : Int32) (x4 : Int32) (x5 : Int32) (y0 : Int32), GG (p, l, e, { frames := 2 * 9, cells := 0, slots := 0, locals := 60 * 9 }, s, m, args, below, meth, c, cX12_pairText, 8, RX12, g, 9) (fun b => MQ below (kQ g ((fun r : kMem => (none, r)) b)) args s 0 0 (kZ g.2.2.1)) 0 0 (F_X12_pairText_89 N M a0 x1 x3 x4 x5 y0) 89 [(0, .ref a0), (1, .int x1), (3, .int x3), (4, .int x4), (5, .int x5)] [.int y0] M := by
  intro M a0 x1 x3 x4 x5 y0
  unfold F_X12_pairText_89
  refine g_istore 91 6 [(6, .int y0), (0, .ref a0), (1, .int x1), (3, .int x3), (4, .int x4), (5, .int x5)] hX dX12_pairText_89 rfl (Nat.le_of_ble_eq_true rfl) rfl ?_
  refine g_iload 93 0 hX dX12_pairText_91 rfl rfl ?_
  refine g_if_ne 100 96 hX dX12_pairText_93 (by decide) rfl (fun _ => ?_) (fun _ => ?_)
  · refine g_iload_n 101 2 hX dX12_pairText_100 rfl rfl ?_
    refine g_if_eq 116 104 hX dX12_pairText_101 (by decide) rfl (fun _ => ?_) (fun _ => ?_)
    · refine g_aload_n 117 1 hX dX12_pairText_116 rfl rfl ?_
      refine g_iload_n 118 3 hX dX12_pairText_117 rfl rfl ?_
      refine g_iload 120 4 hX dX12_pairText_118 rfl rfl ?_
      refine g_callV_i 123 hX (k_X12_swaps l g N M a0 x3 x4) lk_X12_swaps rfl (ci := 12) rfl (Nat.le_of_ble_eq_true rfl) q_2032 q_100 (by omega) rfl (Nat.le_of_ble_eq_true rfl) (Nat.zero_le _) (Nat.zero_le _) dX12_pairText_120 rfl (fun r7 => ?_)
      refine g_klI (fun v8 hv8 => ?_)
      refine g_istore 125 7 [(7, .int v8), (6, .int y0), (0, .ref a0), (1, .int x1), (3, .int x3), (4, .int x4), (5, .int x5)] hX dX12_pairText_123 rfl (Nat.le_of_ble_eq_true rfl) rfl ?_
      refine g_aload_n 126 2 hX dX12_pairText_125 rfl rfl ?_
      refine g_iload 128 1 hX dX12_pairText_126 rfl rfl ?_
      refine g_callV_v 131 hX (k_X12_came l g N r7.2 a0 y0) lk_X12_came rfl (ci := 12) rfl (Nat.le_of_ble_eq_true rfl) q_1931 q_77 (by omega) rfl (Nat.le_of_ble_eq_true rfl) (Nat.zero_le _) (Nat.zero_le _) dX12_pairText_128 rfl (fun M9 => ?_)
      exact g_vret hX hr rfl (Nat.le_refl 0) (Nat.le_refl 0) dX12_pairText_131
    · refine g_aload_n 105 1 hX dX12_pairText_104 rfl rfl ?_
      refine g_iload_n 106 3 hX dX12_pairText_105 rfl rfl ?_
      refine g_iload 108 4 hX dX12_pairText_106 rfl rfl ?_
      refine g_iload 110 5 hX dX12_pairText_108 rfl rfl ?_
      refine g_callV_i 113 hX (k_X12_sells l g N M a0 x3 x4 x5) lk_X12_sells rfl (ci := 12) rfl (Nat.le_of_ble_eq_true rfl) q_2028 q_99 (by omega) rfl (Nat.le_of_ble_eq_true rfl) (Nat.zero_le _) (Nat.zero_le _) dX12_pairText_110 rfl (fun r10 => ?_)
      refine g_goto 123 hX dX12_pairText_113 (by decide) ?_
      refine g_klI (fun v11 hv11 => ?_)
      refine g_istore 125 7 [(7, .int v11), (6, .int y0), (0, .ref a0), (1, .int x1), (3, .int x3), (4, .int x4), (5, .int x5)] hX dX12_pairText_123 rfl (Nat.le_of_ble_eq_true rfl) rfl ?_
      refine g_aload_n 126 2 hX dX12_pairText_125 rfl rfl ?_
      refine g_iload 128 1 hX dX12_pairText_126 rfl rfl ?_
      refine g_callV_v 131 hX (k_X12_came l g N r10.2 a0 y0) lk_X12_came rfl (ci := 12) rfl (Nat.le_of_ble_eq_true rfl) q_1931 q_77 (by omega) rfl (Nat.le_of_ble_eq_true rfl) (Nat.zero_le _) (Nat.zero_le _) dX12_pairText_128 rfl (fun M12 => ?_)
      exact g_vret hX hr rfl (Nat.le_refl 0) (Nat.le_refl 0) dX12_pairText_131
  · refine g_iconst 97 hX 0 dX12_pairText_96 rfl kc_i_0 ?_
    refine g_goto 123 hX dX12_pairText_97 (by decide) ?_
    refine g_istore 125 7 [(7, .int 0), (6, .int y0), (0, .ref a0), (1, .int x1), (3, .int x3), (4, .int x4), (5, .int x5)] hX dX12_pairText_123 rfl (Nat.le_of_ble_eq_true rfl) rfl ?_
    refine g_aload_n 126 2 hX dX12_pairText_125 rfl rfl ?_
    refine g_iload 128 1 hX dX12_pairText_126 rfl rfl ?_
    refine g_callV_v 131 hX (k_X12_came l g N M a0 y0) lk_X12_came rfl (ci := 12) rfl (Nat.le_of_ble_eq_true rfl) q_1931 q_77 (by omega) rfl (Nat.le_of_ble_eq_true rfl) (Nat.zero_le _) (Nat.zero_le _) dX12_pairText_128 rfl (fun M13 => ?_)
    exact g_vret hX hr rfl (Nat.le_refl 0) (Nat.le_refl 0) dX12_pairText_131
set_option maxRecDepth 100000 in
set_option maxHeartbeats 4000000 in
theorem k_X12_pairText_88 {p : Program} {l : Launch} {e : Env} {s : State} {m : MethodId} {args : Array Value} {below : List Frame} {meth : Method} {c : Code} {g : kG} (hX : Cok (p, l, e, { frames := 2 * 9, cells := 0, slots := 0, locals := 60 * 9 }, s, m, args, below, meth, c, cX12_pairText, 8, RX12, g, 9)) (hr : meth.sig.returnType = none) (N : Nat) : ∀ (M : kMem) (a0 : Nat) (x1 : Int32) (x3 : Int32) (x4 : Int32) (x5 : Int32), GG (p, l, e, { frames := 2 * 9, cells := 0, slots := 0, locals := 60 * 9 }, s, m, args, below, meth, c, cX12_pairText, 8, RX12, g, 9) (fun b => MQ below (kQ g ((fun r : kMem => (none, r)) b)) args s 0 0 (kZ g.2.2.1)) 0 0 (F_X12_pairText_88 N M a0 x1 x3 x4 x5) 88 [(0, .ref a0), (1, .int x1), (3, .int x3), (4, .int x4), (5, .int x5)] [] M := by
  intro M a0 x1 x3 x4 x5
  unfold F_X12_pairText_88
  refine g_iconst 89 hX 0 dX12_pairText_88 rfl kc_i_0 ?_
  exact k_X12_pairText_89 hX hr N M a0 x1 x3 x4 x5 0
set_option maxRecDepth 100000 in
set_option maxHeartbeats 4000000 in
theorem k_X12_pairText_81 {p : Program} {l : Launch} {e : Env} {s : State} {m : MethodId} {args : Array Value} {below : List Frame} {meth : Method} {c : Code} {g : kG} (hX : Cok (p, l, e, { frames := 2 * 9, cells := 0, slots := 0, locals := 60 * 9 }, s, m, args, below, meth, c, cX12_pairText, 8, RX12, g, 9)) (hr : meth.sig.returnType = none) (N : Nat) : ∀ (M : kMem) (a0 : Nat) (x1 : Int32) (x3 : Int32) (x4 : Int32) (x5 : Int32) (y0 : Int32), GG (p, l, e, { frames := 2 * 9, cells := 0, slots := 0, locals := 60 * 9 }, s, m, args, below, meth, c, cX12_pairText, 8, RX12, g, 9) (fun b => MQ below (kQ g ((fun r : kMem => (none, r)) b)) args s 0 0 (kZ g.2.2.1)) 0 0 (F_X12_pairText_81 N M a0 x1 x3 x4 x5 y0) 81 [(0, .ref a0), (1, .int x1), (3, .int x3), (4, .int x4), (5, .int x5)] [.int y0] M := by
  intro M a0 x1 x3 x4 x5 y0
  unfold F_X12_pairText_81
  refine g_if_ne 88 84 hX dX12_pairText_81 (by decide) rfl (fun _ => ?_) (fun _ => ?_)
  · exact k_X12_pairText_88 hX hr N M a0 x1 x3 x4 x5
  · refine g_iconst 85 hX 1 dX12_pairText_84 rfl kc_i_1 ?_
    refine g_goto 89 hX dX12_pairText_85 (by decide) ?_
    exact k_X12_pairText_89 hX hr N M a0 x1 x3 x4 x5 1
set_option maxRecDepth 100000 in
set_option maxHeartbeats 4000000 in
theorem k_X12_pairText_37 {p : Program} {l : Launch} {e : Env} {s : State} {m : MethodId} {args : Array Value} {below : List Frame} {meth : Method} {c : Code} {g : kG} (hX : Cok (p, l, e, { frames := 2 * 9, cells := 0, slots := 0, locals := 60 * 9 }, s, m, args, below, meth, c, cX12_pairText, 8, RX12, g, 9)) (hr : meth.sig.returnType = none) (N : Nat) : ∀ (M : kMem) (a0 : Nat) (x1 : Int32) (x3 : Int32) (x4 : Int32) (y0 : Int32), GG (p, l, e, { frames := 2 * 9, cells := 0, slots := 0, locals := 60 * 9 }, s, m, args, below, meth, c, cX12_pairText, 8, RX12, g, 9) (fun b => MQ below (kQ g ((fun r : kMem => (none, r)) b)) args s 0 0 (kZ g.2.2.1)) 0 0 (F_X12_pairText_37 N M a0 x1 x3 x4 y0) 37 [(0, .ref a0), (1, .int x1), (3, .int x3), (4, .int x4)] [.int y0] M := by
  intro M a0 x1 x3 x4 y0
  unfold F_X12_pairText_37
  refine g_istore 39 5 [(5, .int y0), (0, .ref a0), (1, .int x1), (3, .int x3), (4, .int x4)] hX dX12_pairText_37 rfl (Nat.le_of_ble_eq_true rfl) rfl ?_
  refine g_aload_n 40 1 hX dX12_pairText_39 rfl rfl ?_
  refine g_callV_ip 43 hX (k_X12_isActive l g N M a0) lk_X12_isActive rfl (ci := 12) rfl (Nat.le_of_ble_eq_true rfl) q_1923 q_75 (by omega) rfl (Nat.le_of_ble_eq_true rfl) (Nat.zero_le _) (Nat.zero_le _) dX12_pairText_40 rfl (fun r6 => ?_)
  refine g_if_ne 47 46 hX dX12_pairText_43 (by decide) rfl (fun _ => ?_) (fun _ => ?_)
  · refine g_iload_n 48 3 hX dX12_pairText_47 rfl rfl ?_
    refine g_iconst 49 hX (-1) dX12_pairText_48 rfl kc_i_m1 ?_
    refine g_icmp_eq 88 52 hX dX12_pairText_49 (by decide) rfl (fun _ => ?_) (fun _ => ?_)
    · refine g_lv [1, 2, 3, 4, 0] rfl ?_
      exact k_X12_pairText_88 hX hr N M a0 x1 x3 x4 y0
    · refine g_iload 54 4 hX dX12_pairText_52 rfl rfl ?_
      refine g_iconst 55 hX (-1) dX12_pairText_54 rfl kc_i_m1 ?_
      refine g_icmp_eq 88 58 hX dX12_pairText_55 (by decide) rfl (fun _ => ?_) (fun _ => ?_)
      · refine g_lv [1, 2, 3, 4, 0] rfl ?_
        exact k_X12_pairText_88 hX hr N M a0 x1 x3 x4 y0
      · refine g_iload_n 59 2 hX dX12_pairText_58 rfl rfl ?_
        refine g_if_eq 74 62 hX dX12_pairText_59 (by decide) rfl (fun _ => ?_) (fun _ => ?_)
        · refine g_aload_n 75 1 hX dX12_pairText_74 rfl rfl ?_
          refine g_iload_n 76 3 hX dX12_pairText_75 rfl rfl ?_
          refine g_iload 78 4 hX dX12_pairText_76 rfl rfl ?_
          refine g_callV_ip 81 hX (k_X12_againstSwap l g N M a0 x3 x4) lk_X12_againstSwap rfl (ci := 12) rfl (Nat.le_of_ble_eq_true rfl) q_2020 q_97 (by omega) rfl (Nat.le_of_ble_eq_true rfl) (Nat.zero_le _) (Nat.zero_le _) dX12_pairText_78 rfl (fun r14 => ?_)
          refine g_lv [1, 2, 3, 4, 0] rfl ?_
          exact k_X12_pairText_81 hX hr N M a0 x1 x3 x4 y0 r14
        · refine g_aload_n 63 1 hX dX12_pairText_62 rfl rfl ?_
          refine g_iload_n 64 3 hX dX12_pairText_63 rfl rfl ?_
          refine g_iload 66 4 hX dX12_pairText_64 rfl rfl ?_
          refine g_iload 68 0 hX dX12_pairText_66 rfl rfl ?_
          refine g_callV_ip 71 hX (k_X12_againstSale l g N M a0 x3 x4 y0) lk_X12_againstSale rfl (ci := 12) rfl (Nat.le_of_ble_eq_true rfl) q_2008 q_94 (by omega) rfl (Nat.le_of_ble_eq_true rfl) (Nat.zero_le _) (Nat.zero_le _) dX12_pairText_68 rfl (fun r15 => ?_)
          refine g_goto 81 hX dX12_pairText_71 (by decide) ?_
          refine g_lv [1, 2, 3, 4, 0] rfl ?_
          exact k_X12_pairText_81 hX hr N M a0 x1 x3 x4 y0 r15
  · exact g_vret hX hr rfl (Nat.le_refl 0) (Nat.le_refl 0) dX12_pairText_46
set_option maxRecDepth 100000 in
set_option maxHeartbeats 4000000 in
theorem k_X12_pairText (l : Launch) (g : kG) (N : Nat) (M : kMem) (a0 : Nat) (x1 : Int32) : kMet l g yX12_pairText cX12_pairText 8 none 9 0 0 [.ref a0, .int x1] M (fun r : kMem => (none, r)) (F_X12_pairText N M a0 x1) := by
  refine k_of (lv := [(0, .ref a0), (1, .int x1)]) RX12 (by decide) rfl rfl (Nat.le_of_ble_eq_true rfl) ?_
  intro p e s m args below meth c hX hr _
  unfold F_X12_pairText
  refine g_aload_n 1 0 hX dX12_pairText_0 rfl rfl ?_
  refine g_callV_i 4 hX (k_X12_nameText l g N M a0) lk_X12_nameText rfl (ci := 12) rfl (Nat.le_of_ble_eq_true rfl) q_1919 q_74 (by omega) rfl (Nat.le_of_ble_eq_true rfl) (Nat.zero_le _) (Nat.zero_le _) dX12_pairText_1 rfl (fun r1 => ?_)
  refine g_klI (fun v2 hv2 => ?_)
  refine g_istore_n 5 2 [(2, .int v2), (0, .ref a0), (1, .int x1)] hX dX12_pairText_4 rfl rfl (Nat.le_of_ble_eq_true rfl) rfl ?_
  refine g_aload_n 6 1 hX dX12_pairText_5 rfl rfl ?_
  refine g_iload_n 7 0 hX dX12_pairText_6 rfl rfl ?_
  refine g_callV_ip 10 hX (k_X12_traderNamed l g N r1.2 a0 v2) lk_X12_traderNamed rfl (ci := 12) rfl (Nat.le_of_ble_eq_true rfl) q_1845 q_60 (by omega) rfl (Nat.le_of_ble_eq_true rfl) (Nat.zero_le _) (Nat.zero_le _) dX12_pairText_7 rfl (fun r3 => ?_)
  refine g_istore_n 11 3 [(3, .int r3), (2, .int v2), (0, .ref a0), (1, .int x1)] hX dX12_pairText_10 rfl rfl (Nat.le_of_ble_eq_true rfl) rfl ?_
  refine g_aload_n 12 2 hX dX12_pairText_11 rfl rfl ?_
  refine g_aload_n 13 2 hX dX12_pairText_12 rfl rfl ?_
  refine g_iload_n 14 1 hX dX12_pairText_13 rfl rfl ?_
  refine g_callV_i 17 hX (k_X12_otherName l g N r1.2 a0 v2) lk_X12_otherName rfl (ci := 12) rfl (Nat.le_of_ble_eq_true rfl) q_2004 q_93 (by omega) rfl (Nat.le_of_ble_eq_true rfl) (Nat.zero_le _) (Nat.zero_le _) dX12_pairText_14 rfl (fun r4 => ?_)
  refine g_callV_ip 20 hX (k_X12_traderNamed l g N r4.2 a0 r4.1) lk_X12_traderNamed rfl (ci := 12) rfl (Nat.le_of_ble_eq_true rfl) q_1845 q_60 (by omega) rfl (Nat.le_of_ble_eq_true rfl) (Nat.zero_le _) (Nat.zero_le _) dX12_pairText_17 rfl (fun r5 => ?_)
  refine g_istore 22 4 [(4, .int r5), (3, .int r3), (2, .int v2), (0, .ref a0), (1, .int x1)] hX dX12_pairText_20 rfl (Nat.le_of_ble_eq_true rfl) rfl ?_
  refine g_iload_n 23 4 hX dX12_pairText_22 rfl rfl ?_
  refine g_if_eq 36 26 hX dX12_pairText_23 (by decide) rfl (fun _ => ?_) (fun _ => ?_)
  · refine g_iconst 37 hX 0 dX12_pairText_36 rfl kc_i_0 ?_
    refine g_lv [3, 4, 1, 0] rfl ?_
    exact k_X12_pairText_37 hX hr N r4.2 a0 x1 r3 r5 0
  · refine g_aload_n 27 3 hX dX12_pairText_26 rfl rfl ?_
    refine g_iconst 28 hX 1 dX12_pairText_27 rfl kc_i_1 ?_
    refine g_bipush 30 hX 50 dX12_pairText_28 rfl kc_b_50 ?_
    refine g_callV_i 33 hX (k_X12_reads l g N r4.2 a0 1 50) lk_X12_reads rfl (ci := 12) rfl (Nat.le_of_ble_eq_true rfl) q_1810 q_52 (by omega) rfl (Nat.le_of_ble_eq_true rfl) (Nat.zero_le _) (Nat.zero_le _) dX12_pairText_30 rfl (fun r16 => ?_)
    refine g_goto 37 hX dX12_pairText_33 (by decide) ?_
    refine g_lv [3, 4, 1, 0] rfl ?_
    exact k_X12_pairText_37 hX hr N r16.2 a0 x1 r3 r5 r16.1
set_option maxRecDepth 100000 in
set_option maxHeartbeats 4000000 in
theorem k_X12_wholeText_53 {p : Program} {l : Launch} {e : Env} {s : State} {m : MethodId} {args : Array Value} {below : List Frame} {meth : Method} {c : Code} {g : kG} (hX : Cok (p, l, e, { frames := 2 * 10, cells := 0, slots := 0, locals := 60 * 10 }, s, m, args, below, meth, c, cX12_wholeText, 5, RX12, g, 10)) (hr : meth.sig.returnType = none) (N : Nat) : ∀ (M : kMem) (a0 : Nat) (x1 : Int32) (x2 : Int32) (y0 : Int32), GG (p, l, e, { frames := 2 * 10, cells := 0, slots := 0, locals := 60 * 10 }, s, m, args, below, meth, c, cX12_wholeText, 5, RX12, g, 10) (fun b => MQ below (kQ g ((fun r : kMem => (none, r)) b)) args s 0 0 (kZ g.2.2.1)) 0 0 (F_X12_wholeText_53 N M a0 x1 x2 y0) 53 [(0, .ref a0), (1, .int x1), (2, .int x2)] [.int y0] M := by
  intro M a0 x1 x2 y0
  unfold F_X12_wholeText_53
  refine g_istore_n 54 3 [(3, .int y0), (0, .ref a0), (1, .int x1), (2, .int x2)] hX dX12_wholeText_53 rfl rfl (Nat.le_of_ble_eq_true rfl) rfl ?_
  refine g_iload_n 55 0 hX dX12_wholeText_54 rfl rfl ?_
  refine g_if_ne 62 58 hX dX12_wholeText_55 (by decide) rfl (fun _ => ?_) (fun _ => ?_)
  · refine g_iload_n 63 2 hX dX12_wholeText_62 rfl rfl ?_
    refine g_if_eq 74 66 hX dX12_wholeText_63 (by decide) rfl (fun _ => ?_) (fun _ => ?_)
    · refine g_aload_n 75 1 hX dX12_wholeText_74 rfl rfl ?_
      refine g_iload_n 76 3 hX dX12_wholeText_75 rfl rfl ?_
      refine g_callV_i 79 hX (k_X12_days1 l g N M a0 x2) lk_X12_days1 rfl (ci := 12) rfl (Nat.le_of_ble_eq_true rfl) q_2044 q_103 (by omega) rfl (Nat.le_of_ble_eq_true rfl) (Nat.zero_le _) (Nat.zero_le _) dX12_wholeText_76 rfl (fun r3 => ?_)
      refine g_klI (fun v4 hv4 => ?_)
      refine g_istore 81 4 [(4, .int v4), (3, .int y0), (0, .ref a0), (1, .int x1), (2, .int x2)] hX dX12_wholeText_79 rfl (Nat.le_of_ble_eq_true rfl) rfl ?_
      refine g_aload_n 82 2 hX dX12_wholeText_81 rfl rfl ?_
      refine g_iload_n 83 1 hX dX12_wholeText_82 rfl rfl ?_
      refine g_callV_v 86 hX (k_X12_came l g N r3.2 a0 y0) lk_X12_came rfl (ci := 12) rfl (Nat.le_of_ble_eq_true rfl) q_1931 q_77 (by omega) rfl (Nat.le_of_ble_eq_true rfl) (Nat.zero_le _) (Nat.zero_le _) dX12_wholeText_83 rfl (fun M5 => ?_)
      exact g_vret hX hr rfl (Nat.le_refl 0) (Nat.le_refl 0) dX12_wholeText_86
    · refine g_aload_n 67 1 hX dX12_wholeText_66 rfl rfl ?_
      refine g_iload_n 68 3 hX dX12_wholeText_67 rfl rfl ?_
      refine g_callV_i 71 hX (k_X12_setsWage l g N M a0 x2) lk_X12_setsWage rfl (ci := 12) rfl (Nat.le_of_ble_eq_true rfl) q_2040 q_102 (by omega) rfl (Nat.le_of_ble_eq_true rfl) (Nat.zero_le _) (Nat.zero_le _) dX12_wholeText_68 rfl (fun r6 => ?_)
      refine g_goto 79 hX dX12_wholeText_71 (by decide) ?_
      refine g_klI (fun v7 hv7 => ?_)
      refine g_istore 81 4 [(4, .int v7), (3, .int y0), (0, .ref a0), (1, .int x1), (2, .int x2)] hX dX12_wholeText_79 rfl (Nat.le_of_ble_eq_true rfl) rfl ?_
      refine g_aload_n 82 2 hX dX12_wholeText_81 rfl rfl ?_
      refine g_iload_n 83 1 hX dX12_wholeText_82 rfl rfl ?_
      refine g_callV_v 86 hX (k_X12_came l g N r6.2 a0 y0) lk_X12_came rfl (ci := 12) rfl (Nat.le_of_ble_eq_true rfl) q_1931 q_77 (by omega) rfl (Nat.le_of_ble_eq_true rfl) (Nat.zero_le _) (Nat.zero_le _) dX12_wholeText_83 rfl (fun M8 => ?_)
      exact g_vret hX hr rfl (Nat.le_refl 0) (Nat.le_refl 0) dX12_wholeText_86
  · refine g_iconst 59 hX 0 dX12_wholeText_58 rfl kc_i_0 ?_
    refine g_goto 79 hX dX12_wholeText_59 (by decide) ?_
    refine g_istore 81 4 [(4, .int 0), (3, .int y0), (0, .ref a0), (1, .int x1), (2, .int x2)] hX dX12_wholeText_79 rfl (Nat.le_of_ble_eq_true rfl) rfl ?_
    refine g_aload_n 82 2 hX dX12_wholeText_81 rfl rfl ?_
    refine g_iload_n 83 1 hX dX12_wholeText_82 rfl rfl ?_
    refine g_callV_v 86 hX (k_X12_came l g N M a0 y0) lk_X12_came rfl (ci := 12) rfl (Nat.le_of_ble_eq_true rfl) q_1931 q_77 (by omega) rfl (Nat.le_of_ble_eq_true rfl) (Nat.zero_le _) (Nat.zero_le _) dX12_wholeText_83 rfl (fun M9 => ?_)
    exact g_vret hX hr rfl (Nat.le_refl 0) (Nat.le_refl 0) dX12_wholeText_86
set_option maxRecDepth 100000 in
set_option maxHeartbeats 4000000 in
theorem k_X12_wholeText_48 {p : Program} {l : Launch} {e : Env} {s : State} {m : MethodId} {args : Array Value} {below : List Frame} {meth : Method} {c : Code} {g : kG} (hX : Cok (p, l, e, { frames := 2 * 10, cells := 0, slots := 0, locals := 60 * 10 }, s, m, args, below, meth, c, cX12_wholeText, 5, RX12, g, 10)) (hr : meth.sig.returnType = none) (N : Nat) : ∀ (M : kMem) (a0 : Nat) (x1 : Int32) (x2 : Int32), GG (p, l, e, { frames := 2 * 10, cells := 0, slots := 0, locals := 60 * 10 }, s, m, args, below, meth, c, cX12_wholeText, 5, RX12, g, 10) (fun b => MQ below (kQ g ((fun r : kMem => (none, r)) b)) args s 0 0 (kZ g.2.2.1)) 0 0 (F_X12_wholeText_48 N M a0 x1 x2) 48 [(0, .ref a0), (1, .int x1), (2, .int x2)] [] M := by
  intro M a0 x1 x2
  unfold F_X12_wholeText_48
  refine g_iconst 49 hX 1 dX12_wholeText_48 rfl kc_i_1 ?_
  refine g_goto 53 hX dX12_wholeText_49 (by decide) ?_
  exact k_X12_wholeText_53 hX hr N M a0 x1 x2 1
set_option maxRecDepth 100000 in
set_option maxHeartbeats 4000000 in
theorem k_X12_wholeText_21 {p : Program} {l : Launch} {e : Env} {s : State} {m : MethodId} {args : Array Value} {below : List Frame} {meth : Method} {c : Code} {g : kG} (hX : Cok (p, l, e, { frames := 2 * 10, cells := 0, slots := 0, locals := 60 * 10 }, s, m, args, below, meth, c, cX12_wholeText, 5, RX12, g, 10)) (hr : meth.sig.returnType = none) (N : Nat) : ∀ (M : kMem) (a0 : Nat) (x1 : Int32) (y0 : Int32), GG (p, l, e, { frames := 2 * 10, cells := 0, slots := 0, locals := 60 * 10 }, s, m, args, below, meth, c, cX12_wholeText, 5, RX12, g, 10) (fun b => MQ below (kQ g ((fun r : kMem => (none, r)) b)) args s 0 0 (kZ g.2.2.1)) 0 0 (F_X12_wholeText_21 N M a0 x1 y0) 21 [(0, .ref a0), (1, .int x1)] [.int y0] M := by
  intro M a0 x1 y0
  unfold F_X12_wholeText_21
  refine g_istore_n 22 2 [(2, .int y0), (0, .ref a0), (1, .int x1)] hX dX12_wholeText_21 rfl rfl (Nat.le_of_ble_eq_true rfl) rfl ?_
  refine g_aload_n 23 1 hX dX12_wholeText_22 rfl rfl ?_
  refine g_callV_ip 26 hX (k_X12_isActive l g N M a0) lk_X12_isActive rfl (ci := 12) rfl (Nat.le_of_ble_eq_true rfl) q_1923 q_75 (by omega) rfl (Nat.le_of_ble_eq_true rfl) (Nat.zero_le _) (Nat.zero_le _) dX12_wholeText_23 rfl (fun r2 => ?_)
  refine g_if_eq 86 29 hX dX12_wholeText_26 (by decide) rfl (fun _ => ?_) (fun _ => ?_)
  · exact g_vret hX hr rfl (Nat.le_refl 0) (Nat.le_refl 0) dX12_wholeText_86
  · refine g_iload_n 30 2 hX dX12_wholeText_29 rfl rfl ?_
    refine g_if_ne 48 33 hX dX12_wholeText_30 (by decide) rfl (fun _ => ?_) (fun _ => ?_)
    · refine g_lv [1, 2, 0] rfl ?_
      exact k_X12_wholeText_48 hX hr N M a0 x1 y0
    · refine g_aload_n 34 1 hX dX12_wholeText_33 rfl rfl ?_
      refine r_X12_7 37 hX dX12_wholeText_34 rfl ?_
      refine g_bipush 39 hX 6 dX12_wholeText_37 rfl kc_b_6 ?_
      refine g_iald 40 hX dX12_wholeText_39 rfl ?_
      refine g_iload_n 41 0 hX dX12_wholeText_40 rfl rfl ?_
      refine g_iadd 42 hX dX12_wholeText_41 rfl ?_
      refine g_sipush 45 hX 9999 dX12_wholeText_42 rfl kc_s_9999 ?_
      refine g_icmp_gt 52 48 hX dX12_wholeText_45 (by decide) rfl (fun _ => ?_) (fun _ => ?_)
      · refine g_iconst 53 hX 0 dX12_wholeText_52 rfl kc_i_0 ?_
        refine g_lv [1, 2, 0] rfl ?_
        exact k_X12_wholeText_53 hX hr N M a0 x1 y0 0
      · refine g_lv [1, 2, 0] rfl ?_
        exact k_X12_wholeText_48 hX hr N M a0 x1 y0
set_option maxRecDepth 100000 in
set_option maxHeartbeats 4000000 in
theorem k_X12_wholeText (l : Launch) (g : kG) (N : Nat) (M : kMem) (a0 : Nat) (x1 : Int32) : kMet l g yX12_wholeText cX12_wholeText 5 none 10 0 0 [.ref a0, .int x1] M (fun r : kMem => (none, r)) (F_X12_wholeText N M a0 x1) := by
  refine k_of (lv := [(0, .ref a0), (1, .int x1)]) RX12 (by decide) rfl rfl (Nat.le_of_ble_eq_true rfl) ?_
  intro p e s m args below meth c hX hr _
  unfold F_X12_wholeText
  refine g_iload_n 1 1 hX dX12_wholeText_0 rfl rfl ?_
  refine g_if_eq 14 4 hX dX12_wholeText_1 (by decide) rfl (fun _ => ?_) (fun _ => ?_)
  · refine g_aload_n 15 0 hX dX12_wholeText_14 rfl rfl ?_
    refine g_iconst 16 hX 1 dX12_wholeText_15 rfl kc_i_1 ?_
    refine g_bipush 18 hX 30 dX12_wholeText_16 rfl kc_b_30 ?_
    refine g_callV_i 21 hX (k_X12_reads l g N M a0 1 30) lk_X12_reads rfl (ci := 12) rfl (Nat.le_of_ble_eq_true rfl) q_1810 q_52 (by omega) rfl (Nat.le_of_ble_eq_true rfl) (Nat.zero_le _) (Nat.zero_le _) dX12_wholeText_18 rfl (fun r1 => ?_)
    exact k_X12_wholeText_21 hX hr N r1.2 a0 x1 r1.1
  · refine g_aload_n 5 0 hX dX12_wholeText_4 rfl rfl ?_
    refine g_iconst 6 hX 0 dX12_wholeText_5 rfl kc_i_0 ?_
    refine g_bipush 8 hX 20 dX12_wholeText_6 rfl kc_b_20 ?_
    refine g_callV_i 11 hX (k_X12_reads l g N M a0 0 20) lk_X12_reads rfl (ci := 12) rfl (Nat.le_of_ble_eq_true rfl) q_1810 q_52 (by omega) rfl (Nat.le_of_ble_eq_true rfl) (Nat.zero_le _) (Nat.zero_le _) dX12_wholeText_8 rfl (fun r10 => ?_)
    refine g_goto 21 hX dX12_wholeText_11 (by decide) ?_
    exact k_X12_wholeText_21 hX hr N r10.2 a0 x1 r10.1
set_option maxRecDepth 100000 in
set_option maxHeartbeats 4000000 in
theorem k_X12_againOrder_42 {p : Program} {l : Launch} {e : Env} {s : State} {m : MethodId} {args : Array Value} {below : List Frame} {meth : Method} {c : Code} {g : kG} (hX : Cok (p, l, e, { frames := 2 * 6, cells := 0, slots := 0, locals := 60 * 6 }, s, m, args, below, meth, c, cX12_againOrder, 2, RX12, g, 6)) (hr : meth.sig.returnType = none) (N : Nat) : ∀ (M : kMem) (a0 : Nat) (x1 : Int32) (y0 : Nat) (y1 : Int32), GG (p, l, e, { frames := 2 * 6, cells := 0, slots := 0, locals := 60 * 6 }, s, m, args, below, meth, c, cX12_againOrder, 2, RX12, g, 6) (fun b => MQ below (kQ g ((fun r : kMem => (none, r)) b)) args s 0 0 (kZ g.2.2.1)) 0 0 (F_X12_againOrder_42 N M a0 x1 y0 y1) 42 [(0, .ref a0), (1, .int x1)] [.int y1, .ref y0] M := by
  intro M a0 x1 y0 y1
  unfold F_X12_againOrder_42
  refine g_iconst 43 hX 5 dX12_againOrder_42 rfl kc_i_5 ?_
  refine g_callV_v 46 hX (k_X12_must l g N M y0 y1 5) lk_X12_must rfl (ci := 12) rfl (Nat.le_of_ble_eq_true rfl) q_1802 q_50 (by omega) rfl (Nat.le_of_ble_eq_true rfl) (Nat.zero_le _) (Nat.zero_le _) dX12_againOrder_43 rfl (fun M6 => ?_)
  refine g_aload_n 47 0 hX dX12_againOrder_46 rfl rfl ?_
  refine g_callV_v 50 hX (k_X12_goesOn l g N M6 a0) lk_X12_goesOn rfl (ci := 12) rfl (Nat.le_of_ble_eq_true rfl) q_1806 q_51 (by omega) rfl (Nat.le_of_ble_eq_true rfl) (Nat.zero_le _) (Nat.zero_le _) dX12_againOrder_47 rfl (fun M7 => ?_)
  refine g_aload_n 51 0 hX dX12_againOrder_50 rfl rfl ?_
  refine r_X12_209 54 hX dX12_againOrder_51 rfl ?_
  refine g_if_ne 94 57 hX dX12_againOrder_54 (by decide) rfl (fun _ => ?_) (fun _ => ?_)
  · exact g_vret hX hr rfl (Nat.le_refl 0) (Nat.le_refl 0) dX12_againOrder_94
  · refine g_aload_n 58 0 hX dX12_againOrder_57 rfl rfl ?_
    refine g_dup 59 hX dX12_againOrder_58 rfl rfl ?_
    refine r_X12_374 62 hX dX12_againOrder_59 rfl ?_
    refine g_iconst 63 hX 1 dX12_againOrder_62 rfl kc_i_1 ?_
    refine g_iadd 64 hX dX12_againOrder_63 rfl ?_
    refine p_X12_374 67 hX dX12_againOrder_64 rfl ?_
    refine g_klM (fun M8 hM8 => ?_)
    refine g_aload_n 68 0 hX dX12_againOrder_67 rfl rfl ?_
    refine r_X12_39 71 hX dX12_againOrder_68 rfl ?_
    refine g_aload_n 72 0 hX dX12_againOrder_71 rfl rfl ?_
    refine r_X12_374 75 hX dX12_againOrder_72 rfl ?_
    refine g_iconst 76 hX 1 dX12_againOrder_75 rfl kc_i_1 ?_
    refine g_isub 77 hX dX12_againOrder_76 rfl ?_
    refine g_aload_n 78 0 hX dX12_againOrder_77 rfl rfl ?_
    refine r_X12_185 81 hX dX12_againOrder_78 rfl ?_
    refine g_iast 82 hX dX12_againOrder_81 rfl ?_
    refine g_klM (fun M9 hM9 => ?_)
    refine g_aload_n 83 0 hX dX12_againOrder_82 rfl rfl ?_
    refine r_X12_42 86 hX dX12_againOrder_83 rfl ?_
    refine g_aload_n 87 0 hX dX12_againOrder_86 rfl rfl ?_
    refine r_X12_374 90 hX dX12_againOrder_87 rfl ?_
    refine g_iconst 91 hX 1 dX12_againOrder_90 rfl kc_i_1 ?_
    refine g_isub 92 hX dX12_againOrder_91 rfl ?_
    refine g_iload_n 93 1 hX dX12_againOrder_92 rfl rfl ?_
    refine g_iast 94 hX dX12_againOrder_93 rfl ?_
    refine g_klM (fun M10 hM10 => ?_)
    exact g_vret hX hr rfl (Nat.le_refl 0) (Nat.le_refl 0) dX12_againOrder_94
set_option maxRecDepth 100000 in
set_option maxHeartbeats 4000000 in
theorem k_X12_againOrder_37 {p : Program} {l : Launch} {e : Env} {s : State} {m : MethodId} {args : Array Value} {below : List Frame} {meth : Method} {c : Code} {g : kG} (hX : Cok (p, l, e, { frames := 2 * 6, cells := 0, slots := 0, locals := 60 * 6 }, s, m, args, below, meth, c, cX12_againOrder, 2, RX12, g, 6)) (hr : meth.sig.returnType = none) (N : Nat) : ∀ (M : kMem) (a0 : Nat) (x1 : Int32) (y0 : Nat), GG (p, l, e, { frames := 2 * 6, cells := 0, slots := 0, locals := 60 * 6 }, s, m, args, below, meth, c, cX12_againOrder, 2, RX12, g, 6) (fun b => MQ below (kQ g ((fun r : kMem => (none, r)) b)) args s 0 0 (kZ g.2.2.1)) 0 0 (F_X12_againOrder_37 N M a0 x1 y0) 37 [(0, .ref a0), (1, .int x1)] [.ref y0] M := by
  intro M a0 x1 y0
  unfold F_X12_againOrder_37
  refine g_iconst 38 hX 1 dX12_againOrder_37 rfl kc_i_1 ?_
  refine g_goto 42 hX dX12_againOrder_38 (by decide) ?_
  exact k_X12_againOrder_42 hX hr N M a0 x1 y0 1
set_option maxRecDepth 100000 in
set_option maxHeartbeats 4000000 in
theorem k_X12_againOrder (l : Launch) (g : kG) (N : Nat) (M : kMem) (a0 : Nat) : kMet l g yX12_againOrder cX12_againOrder 2 none 6 0 0 [.ref a0] M (fun r : kMem => (none, r)) (F_X12_againOrder N M a0) := by
  refine k_of (lv := [(0, .ref a0)]) RX12 (by decide) rfl rfl (Nat.le_of_ble_eq_true rfl) ?_
  intro p e s m args below meth c hX hr _
  unfold F_X12_againOrder
  refine g_aload_n 1 0 hX dX12_againOrder_0 rfl rfl ?_
  refine g_iconst 2 hX 1 dX12_againOrder_1 rfl kc_i_1 ?_
  refine g_bipush 4 hX 20 dX12_againOrder_2 rfl kc_b_20 ?_
  refine g_callV_i 7 hX (k_X12_reads l g N M a0 1 20) lk_X12_reads rfl (ci := 12) rfl (Nat.le_of_ble_eq_true rfl) q_1810 q_52 (by omega) rfl (Nat.le_of_ble_eq_true rfl) (Nat.zero_le _) (Nat.zero_le _) dX12_againOrder_4 rfl (fun r1 => ?_)
  refine g_klI (fun v2 hv2 => ?_)
  refine g_istore_n 8 1 [(1, .int v2), (0, .ref a0)] hX dX12_againOrder_7 rfl rfl (Nat.le_of_ble_eq_true rfl) rfl ?_
  refine g_aload_n 9 1 hX dX12_againOrder_8 rfl rfl ?_
  refine g_aload_n 10 1 hX dX12_againOrder_9 rfl rfl ?_
  refine g_bipush 12 hX 40 dX12_againOrder_10 rfl kc_b_40 ?_
  refine g_callV_ip 15 hX (k_X12_isSign l g N r1.2 a0 40) lk_X12_isSign rfl (ci := 12) rfl (Nat.le_of_ble_eq_true rfl) q_1819 q_54 (by omega) rfl (Nat.le_of_ble_eq_true rfl) (Nat.zero_le _) (Nat.zero_le _) dX12_againOrder_12 rfl (fun r3 => ?_)
  refine g_iconst 16 hX 1 dX12_againOrder_15 rfl kc_i_1 ?_
  refine g_callV_v 19 hX (k_X12_must l g N r1.2 a0 r3 1) lk_X12_must rfl (ci := 12) rfl (Nat.le_of_ble_eq_true rfl) q_1802 q_50 (by omega) rfl (Nat.le_of_ble_eq_true rfl) (Nat.zero_le _) (Nat.zero_le _) dX12_againOrder_16 rfl (fun M4 => ?_)
  refine g_aload_n 20 1 hX dX12_againOrder_19 rfl rfl ?_
  refine g_aload_n 21 1 hX dX12_againOrder_20 rfl rfl ?_
  refine g_bipush 23 hX 40 dX12_againOrder_21 rfl kc_b_40 ?_
  refine g_callV_ip 26 hX (k_X12_isSign l g N M4 a0 40) lk_X12_isSign rfl (ci := 12) rfl (Nat.le_of_ble_eq_true rfl) q_1819 q_54 (by omega) rfl (Nat.le_of_ble_eq_true rfl) (Nat.zero_le _) (Nat.zero_le _) dX12_againOrder_23 rfl (fun r5 => ?_)
  refine g_if_eq 37 29 hX dX12_againOrder_26 (by decide) rfl (fun _ => ?_) (fun _ => ?_)
  · refine g_lv [1, 0] rfl ?_
    exact k_X12_againOrder_37 hX hr N M4 a0 v2 a0
  · refine g_aload_n 30 1 hX dX12_againOrder_29 rfl rfl ?_
    refine r_X12_374 33 hX dX12_againOrder_30 rfl ?_
    refine g_iconst 34 hX 2 dX12_againOrder_33 rfl kc_i_2 ?_
    refine g_icmp_ge 41 37 hX dX12_againOrder_34 (by decide) rfl (fun _ => ?_) (fun _ => ?_)
    · refine g_iconst 42 hX 0 dX12_againOrder_41 rfl kc_i_0 ?_
      refine g_lv [1, 0] rfl ?_
      exact k_X12_againOrder_42 hX hr N M4 a0 v2 a0 0
    · refine g_lv [1, 0] rfl ?_
      exact k_X12_againOrder_37 hX hr N M4 a0 v2 a0
set_option maxRecDepth 100000 in
set_option maxHeartbeats 4000000 in
theorem k_X12_closes_81 {p : Program} {l : Launch} {e : Env} {s : State} {m : MethodId} {args : Array Value} {below : List Frame} {meth : Method} {c : Code} {g : kG} (hX : Cok (p, l, e, { frames := 2 * 6, cells := 0, slots := 0, locals := 60 * 6 }, s, m, args, below, meth, c, cX12_closes, 1, RX12, g, 6)) (hr : meth.sig.returnType = none) (N : Nat) : ∀ (M : kMem) (a0 : Nat), GG (p, l, e, { frames := 2 * 6, cells := 0, slots := 0, locals := 60 * 6 }, s, m, args, below, meth, c, cX12_closes, 1, RX12, g, 6) (fun b => MQ below (kQ g ((fun r : kMem => (none, r)) b)) args s 0 0 (kZ g.2.2.1)) 0 0 (F_X12_closes_81 N M a0) 81 [(0, .ref a0)] [] M := by
  intro M a0
  unfold F_X12_closes_81
  refine g_aload_n 82 0 hX dX12_closes_81 rfl rfl ?_
  refine g_dup 83 hX dX12_closes_82 rfl rfl ?_
  refine r_X12_374 86 hX dX12_closes_83 rfl ?_
  refine g_iconst 87 hX 1 dX12_closes_86 rfl kc_i_1 ?_
  refine g_isub 88 hX dX12_closes_87 rfl ?_
  refine p_X12_374 91 hX dX12_closes_88 rfl ?_
  refine g_klM (fun M3 hM3 => ?_)
  refine g_aload_n 92 0 hX dX12_closes_91 rfl rfl ?_
  refine g_callV_v 95 hX (k_X12_goesOn l g N M3 a0) lk_X12_goesOn rfl (ci := 12) rfl (Nat.le_of_ble_eq_true rfl) q_1806 q_51 (by omega) rfl (Nat.le_of_ble_eq_true rfl) (Nat.zero_le _) (Nat.zero_le _) dX12_closes_92 rfl (fun M4 => ?_)
  refine g_aload_n 96 0 hX dX12_closes_95 rfl rfl ?_
  refine g_bipush 98 hX 59 dX12_closes_96 rfl kc_b_59 ?_
  refine g_callV_v 101 hX (k_X12_sign l g N M4 a0 59) lk_X12_sign rfl (ci := 12) rfl (Nat.le_of_ble_eq_true rfl) q_1815 q_53 (by omega) rfl (Nat.le_of_ble_eq_true rfl) (Nat.zero_le _) (Nat.zero_le _) dX12_closes_98 rfl (fun M5 => ?_)
  exact g_vret hX hr rfl (Nat.le_refl 0) (Nat.le_refl 0) dX12_closes_101
set_option maxRecDepth 100000 in
set_option maxHeartbeats 4000000 in
theorem k_X12_closes_13 {p : Program} {l : Launch} {e : Env} {s : State} {m : MethodId} {args : Array Value} {below : List Frame} {meth : Method} {c : Code} {g : kG} (hX : Cok (p, l, e, { frames := 2 * 6, cells := 0, slots := 0, locals := 60 * 6 }, s, m, args, below, meth, c, cX12_closes, 1, RX12, g, 6)) (hr : meth.sig.returnType = none) (N : Nat) : ∀ (M : kMem) (a0 : Nat) (y0 : Nat) (y1 : Int32), GG (p, l, e, { frames := 2 * 6, cells := 0, slots := 0, locals := 60 * 6 }, s, m, args, below, meth, c, cX12_closes, 1, RX12, g, 6) (fun b => MQ below (kQ g ((fun r : kMem => (none, r)) b)) args s 0 0 (kZ g.2.2.1)) 0 0 (F_X12_closes_13 N M a0 y0 y1) 13 [(0, .ref a0)] [.int y1, .ref y0] M := by
  intro M a0 y0 y1
  unfold F_X12_closes_13
  refine g_iconst 14 hX 1 dX12_closes_13 rfl kc_i_1 ?_
  refine g_callV_v 17 hX (k_X12_must l g N M y0 y1 1) lk_X12_must rfl (ci := 12) rfl (Nat.le_of_ble_eq_true rfl) q_1802 q_50 (by omega) rfl (Nat.le_of_ble_eq_true rfl) (Nat.zero_le _) (Nat.zero_le _) dX12_closes_14 rfl (fun M1 => ?_)
  refine g_aload_n 18 0 hX dX12_closes_17 rfl rfl ?_
  refine r_X12_209 21 hX dX12_closes_18 rfl ?_
  refine g_if_eq 25 24 hX dX12_closes_21 (by decide) rfl (fun _ => ?_) (fun _ => ?_)
  · refine g_aload_n 26 0 hX dX12_closes_25 rfl rfl ?_
    refine r_X12_42 29 hX dX12_closes_26 rfl ?_
    refine g_aload_n 30 0 hX dX12_closes_29 rfl rfl ?_
    refine r_X12_374 33 hX dX12_closes_30 rfl ?_
    refine g_iconst 34 hX 1 dX12_closes_33 rfl kc_i_1 ?_
    refine g_isub 35 hX dX12_closes_34 rfl ?_
    refine g_dup2 36 hX dX12_closes_35 rfl rfl rfl ?_
    refine g_iald 37 hX dX12_closes_36 rfl ?_
    refine g_iconst 38 hX 1 dX12_closes_37 rfl kc_i_1 ?_
    refine g_isub 39 hX dX12_closes_38 rfl ?_
    refine g_iast 40 hX dX12_closes_39 rfl ?_
    refine g_klM (fun M2 hM2 => ?_)
    refine g_aload_n 41 0 hX dX12_closes_40 rfl rfl ?_
    refine r_X12_314 44 hX dX12_closes_41 rfl ?_
    refine g_if_eq 81 47 hX dX12_closes_44 (by decide) rfl (fun _ => ?_) (fun _ => ?_)
    · exact k_X12_closes_81 hX hr N M2 a0
    · refine g_aload_n 48 0 hX dX12_closes_47 rfl rfl ?_
      refine r_X12_42 51 hX dX12_closes_48 rfl ?_
      refine g_aload_n 52 0 hX dX12_closes_51 rfl rfl ?_
      refine r_X12_374 55 hX dX12_closes_52 rfl ?_
      refine g_iconst 56 hX 1 dX12_closes_55 rfl kc_i_1 ?_
      refine g_isub 57 hX dX12_closes_56 rfl ?_
      refine g_iald 58 hX dX12_closes_57 rfl ?_
      refine g_if_le 81 61 hX dX12_closes_58 (by decide) rfl (fun _ => ?_) (fun _ => ?_)
      · exact k_X12_closes_81 hX hr N M2 a0
      · refine g_aload_n 62 0 hX dX12_closes_61 rfl rfl ?_
        refine g_aload_n 63 0 hX dX12_closes_62 rfl rfl ?_
        refine r_X12_39 66 hX dX12_closes_63 rfl ?_
        refine g_aload_n 67 0 hX dX12_closes_66 rfl rfl ?_
        refine r_X12_374 70 hX dX12_closes_67 rfl ?_
        refine g_iconst 71 hX 1 dX12_closes_70 rfl kc_i_1 ?_
        refine g_isub 72 hX dX12_closes_71 rfl ?_
        refine g_iald 73 hX dX12_closes_72 rfl ?_
        refine p_X12_179 76 hX dX12_closes_73 rfl ?_
        refine g_klM (fun M6 hM6 => ?_)
        refine g_aload_n 77 0 hX dX12_closes_76 rfl rfl ?_
        refine g_callV_v 80 hX (k_X12_scan l g N M6 a0) lk_X12_scan rfl (ci := 12) rfl (Nat.le_of_ble_eq_true rfl) q_1772 q_46 (by omega) rfl (Nat.le_of_ble_eq_true rfl) (Nat.zero_le _) (Nat.zero_le _) dX12_closes_77 rfl (fun M7 => ?_)
        exact g_vret hX hr rfl (Nat.le_refl 0) (Nat.le_refl 0) dX12_closes_80
  · exact g_vret hX hr rfl (Nat.le_refl 0) (Nat.le_refl 0) dX12_closes_24
set_option maxRecDepth 100000 in
set_option maxHeartbeats 4000000 in
theorem k_X12_closes (l : Launch) (g : kG) (N : Nat) (M : kMem) (a0 : Nat) : kMet l g yX12_closes cX12_closes 1 none 6 0 0 [.ref a0] M (fun r : kMem => (none, r)) (F_X12_closes N M a0) := by
  refine k_of (lv := [(0, .ref a0)]) RX12 (by decide) rfl rfl (Nat.le_of_ble_eq_true rfl) ?_
  intro p e s m args below meth c hX hr _
  unfold F_X12_closes
  refine g_aload_n 1 0 hX dX12_closes_0 rfl rfl ?_
  refine g_aload_n 2 0 hX dX12_closes_1 rfl rfl ?_
  refine r_X12_374 5 hX dX12_closes_2 rfl ?_
  refine g_if_le 12 8 hX dX12_closes_5 (by decide) rfl (fun _ => ?_) (fun _ => ?_)
  · refine g_iconst 13 hX 0 dX12_closes_12 rfl kc_i_0 ?_
    exact k_X12_closes_13 hX hr N M a0 a0 0
  · refine g_iconst 9 hX 1 dX12_closes_8 rfl kc_i_1 ?_
    refine g_goto 13 hX dX12_closes_9 (by decide) ?_
    exact k_X12_closes_13 hX hr N M a0 a0 1
set_option maxRecDepth 100000 in
set_option maxHeartbeats 4000000 in
theorem k_X12_does_61 {p : Program} {l : Launch} {e : Env} {s : State} {m : MethodId} {args : Array Value} {below : List Frame} {meth : Method} {c : Code} {g : kG} (hX : Cok (p, l, e, { frames := 2 * 11, cells := 0, slots := 0, locals := 60 * 11 }, s, m, args, below, meth, c, cX12_does, 3, RX12, g, 11)) (hr : meth.sig.returnType = none) (N : Nat) : ∀ (M : kMem) (a0 : Nat) (x1 : Int64), GG (p, l, e, { frames := 2 * 11, cells := 0, slots := 0, locals := 60 * 11 }, s, m, args, below, meth, c, cX12_does, 3, RX12, g, 11) (fun b => MQ below (kQ g ((fun r : kMem => (none, r)) b)) args s 0 0 (kZ g.2.2.1)) 0 0 (F_X12_does_61 N M a0 x1) 61 [(0, .ref a0), (1, .long x1)] [] M := by
  intro M a0 x1
  unfold F_X12_does_61
  refine g_aload_n 62 0 hX dX12_does_61 rfl rfl ?_
  refine g_lload_n 63 1 hX dX12_does_62 rfl rfl ?_
  refine g_ldc2 66 hX 628108 dX12_does_63 rfl q_1902 ?_
  refine g_lcmp 67 hX dX12_does_66 rfl ?_
  refine g_if_ne 74 70 hX dX12_does_67 (by decide) rfl (fun _ => ?_) (fun _ => ?_)
  · refine g_iconst 75 hX 0 dX12_does_74 rfl kc_i_0 ?_
    refine g_callV_v 78 hX (k_X12_pairText l g N M a0 0) lk_X12_pairText rfl (ci := 12) rfl (Nat.le_of_ble_eq_true rfl) q_2000 q_92 (by omega) rfl (Nat.le_of_ble_eq_true rfl) (Nat.zero_le _) (Nat.zero_le _) dX12_does_75 rfl (fun M1 => ?_)
    refine g_goto 98 hX dX12_does_78 (by decide) ?_
    exact g_vret hX hr rfl (Nat.le_refl 0) (Nat.le_refl 0) dX12_does_98
  · refine g_iconst 71 hX 1 dX12_does_70 rfl kc_i_1 ?_
    refine g_goto 75 hX dX12_does_71 (by decide) ?_
    refine g_callV_v 78 hX (k_X12_pairText l g N M a0 1) lk_X12_pairText rfl (ci := 12) rfl (Nat.le_of_ble_eq_true rfl) q_2000 q_92 (by omega) rfl (Nat.le_of_ble_eq_true rfl) (Nat.zero_le _) (Nat.zero_le _) dX12_does_75 rfl (fun M2 => ?_)
    refine g_goto 98 hX dX12_does_78 (by decide) ?_
    exact g_vret hX hr rfl (Nat.le_refl 0) (Nat.le_refl 0) dX12_does_98
set_option maxRecDepth 100000 in
set_option maxHeartbeats 4000000 in
theorem k_X12_does (l : Launch) (g : kG) (N : Nat) (M : kMem) (a0 : Nat) (x1 : Int64) : kMet l g yX12_does cX12_does 3 none 11 0 0 [.ref a0, .long x1] M (fun r : kMem => (none, r)) (F_X12_does N M a0 x1) := by
  refine k_of (lv := [(0, .ref a0), (1, .long x1)]) RX12 (by decide) rfl rfl (Nat.le_of_ble_eq_true rfl) ?_
  intro p e s m args below meth c hX hr _
  unfold F_X12_does
  refine g_lload_n 1 1 hX dX12_does_0 rfl rfl ?_
  refine g_ldc2 4 hX 343342 dX12_does_1 rfl q_1899 ?_
  refine g_lcmp 5 hX dX12_does_4 rfl ?_
  refine g_if_ne 15 8 hX dX12_does_5 (by decide) rfl (fun _ => ?_) (fun _ => ?_)
  · refine g_lload_n 16 1 hX dX12_does_15 rfl rfl ?_
    refine g_ldc2 19 hX 2745 dX12_does_16 rfl q_1900 ?_
    refine g_lcmp 20 hX dX12_does_19 rfl ?_
    refine g_if_ne 30 23 hX dX12_does_20 (by decide) rfl (fun _ => ?_) (fun _ => ?_)
    · refine g_lload_n 31 1 hX dX12_does_30 rfl rfl ?_
      refine g_ldc2 34 hX 12748485 dX12_does_31 rfl q_1901 ?_
      refine g_lcmp 35 hX dX12_does_34 rfl ?_
      refine g_if_ne 45 38 hX dX12_does_35 (by decide) rfl (fun _ => ?_) (fun _ => ?_)
      · refine g_lload_n 46 1 hX dX12_does_45 rfl rfl ?_
        refine g_ldc2 49 hX 628108 dX12_does_46 rfl q_1902 ?_
        refine g_lcmp 50 hX dX12_does_49 rfl ?_
        refine g_if_eq 61 53 hX dX12_does_50 (by decide) rfl (fun _ => ?_) (fun _ => ?_)
        · exact k_X12_does_61 hX hr N M a0 x1
        · refine g_lload_n 54 1 hX dX12_does_53 rfl rfl ?_
          refine g_ldc2 57 hX 646192 dX12_does_54 rfl q_1903 ?_
          refine g_lcmp 58 hX dX12_does_57 rfl ?_
          refine g_if_ne 81 61 hX dX12_does_58 (by decide) rfl (fun _ => ?_) (fun _ => ?_)
          · refine g_aload_n 82 0 hX dX12_does_81 rfl rfl ?_
            refine g_lload_n 83 1 hX dX12_does_82 rfl rfl ?_
            refine g_ldc2 86 hX 754917 dX12_does_83 rfl q_1904 ?_
            refine g_lcmp 87 hX dX12_does_86 rfl ?_
            refine g_if_ne 94 90 hX dX12_does_87 (by decide) rfl (fun _ => ?_) (fun _ => ?_)
            · refine g_iconst 95 hX 0 dX12_does_94 rfl kc_i_0 ?_
              refine g_callV_v 98 hX (k_X12_wholeText l g N M a0 0) lk_X12_wholeText rfl (ci := 12) rfl (Nat.le_of_ble_eq_true rfl) q_2036 q_101 (by omega) rfl (Nat.le_of_ble_eq_true rfl) (Nat.zero_le _) (Nat.zero_le _) dX12_does_95 rfl (fun M3 => ?_)
              exact g_vret hX hr rfl (Nat.le_refl 0) (Nat.le_refl 0) dX12_does_98
            · refine g_iconst 91 hX 1 dX12_does_90 rfl kc_i_1 ?_
              refine g_goto 95 hX dX12_does_91 (by decide) ?_
              refine g_callV_v 98 hX (k_X12_wholeText l g N M a0 1) lk_X12_wholeText rfl (ci := 12) rfl (Nat.le_of_ble_eq_true rfl) q_2036 q_101 (by omega) rfl (Nat.le_of_ble_eq_true rfl) (Nat.zero_le _) (Nat.zero_le _) dX12_does_95 rfl (fun M4 => ?_)
              exact g_vret hX hr rfl (Nat.le_refl 0) (Nat.le_refl 0) dX12_does_98
          · exact k_X12_does_61 hX hr N M a0 x1
      · refine g_aload_n 39 0 hX dX12_does_38 rfl rfl ?_
        refine g_callV_v 42 hX (k_X12_leaveText l g N M a0) lk_X12_leaveText rfl (ci := 12) rfl (Nat.le_of_ble_eq_true rfl) q_1992 q_90 (by omega) rfl (Nat.le_of_ble_eq_true rfl) (Nat.zero_le _) (Nat.zero_le _) dX12_does_39 rfl (fun M5 => ?_)
        refine g_goto 98 hX dX12_does_42 (by decide) ?_
        exact g_vret hX hr rfl (Nat.le_refl 0) (Nat.le_refl 0) dX12_does_98
    · refine g_aload_n 24 0 hX dX12_does_23 rfl rfl ?_
      refine g_callV_v 27 hX (k_X12_buyText l g N M a0) lk_X12_buyText rfl (ci := 12) rfl (Nat.le_of_ble_eq_true rfl) q_1938 q_78 (by omega) rfl (Nat.le_of_ble_eq_true rfl) (Nat.zero_le _) (Nat.zero_le _) dX12_does_24 rfl (fun M6 => ?_)
      refine g_goto 98 hX dX12_does_27 (by decide) ?_
      exact g_vret hX hr rfl (Nat.le_refl 0) (Nat.le_refl 0) dX12_does_98
  · refine g_aload_n 9 0 hX dX12_does_8 rfl rfl ?_
    refine g_callV_v 12 hX (k_X12_joinText l g N M a0) lk_X12_joinText rfl (ci := 12) rfl (Nat.le_of_ble_eq_true rfl) q_1915 q_73 (by omega) rfl (Nat.le_of_ble_eq_true rfl) (Nat.zero_le _) (Nat.zero_le _) dX12_does_9 rfl (fun M7 => ?_)
    refine g_goto 98 hX dX12_does_12 (by decide) ?_
    exact g_vret hX hr rfl (Nat.le_refl 0) (Nat.le_refl 0) dX12_does_98
set_option maxRecDepth 100000 in
set_option maxHeartbeats 4000000 in
theorem k_X12_order_45 {p : Program} {l : Launch} {e : Env} {s : State} {m : MethodId} {args : Array Value} {below : List Frame} {meth : Method} {c : Code} {g : kG} (hX : Cok (p, l, e, { frames := 2 * 12, cells := 0, slots := 0, locals := 60 * 12 }, s, m, args, below, meth, c, cX12_order, 3, RX12, g, 12)) (hr : meth.sig.returnType = none) (N : Nat) : ∀ (M : kMem) (a0 : Nat), GG (p, l, e, { frames := 2 * 12, cells := 0, slots := 0, locals := 60 * 12 }, s, m, args, below, meth, c, cX12_order, 3, RX12, g, 12) (fun b => MQ below (kQ g ((fun r : kMem => (none, r)) b)) args s 0 0 (kZ g.2.2.1)) 0 0 (F_X12_order_45 N M a0) 45 [(0, .ref a0)] [] M := by
  intro M a0
  unfold F_X12_order_45
  refine g_aload_n 46 0 hX dX12_order_45 rfl rfl ?_
  refine r_X12_209 49 hX dX12_order_46 rfl ?_
  refine g_if_eq 53 52 hX dX12_order_49 (by decide) rfl (fun _ => ?_) (fun _ => ?_)
  · refine g_aload_n 54 0 hX dX12_order_53 rfl rfl ?_
    refine r_X12_194 57 hX dX12_order_54 rfl ?_
    refine g_klL (fun v3 hv3 => ?_)
    refine g_lstore_n 58 1 [(1, .long v3), (0, .ref a0)] hX dX12_order_57 rfl rfl (Nat.le_of_ble_eq_true rfl) rfl ?_
    refine g_aload_n 59 1 hX dX12_order_58 rfl rfl ?_
    refine g_callV_v 62 hX (k_X12_goesOn l g N M a0) lk_X12_goesOn rfl (ci := 12) rfl (Nat.le_of_ble_eq_true rfl) q_1806 q_51 (by omega) rfl (Nat.le_of_ble_eq_true rfl) (Nat.zero_le _) (Nat.zero_le _) dX12_order_59 rfl (fun M4 => ?_)
    refine g_lload_n 63 0 hX dX12_order_62 rfl rfl ?_
    refine g_ldc2 66 hX 609752116 dX12_order_63 rfl q_1906 ?_
    refine g_lcmp 67 hX dX12_order_66 rfl ?_
    refine g_if_ne 75 70 hX dX12_order_67 (by decide) rfl (fun _ => ?_) (fun _ => ?_)
    · refine g_aload_n 76 1 hX dX12_order_75 rfl rfl ?_
      refine g_lload_n 77 0 hX dX12_order_76 rfl rfl ?_
      refine g_callV_v 80 hX (k_X12_does l g N M4 a0 v3) lk_X12_does rfl (ci := 12) rfl (Nat.le_of_ble_eq_true rfl) q_1911 q_72 (by omega) rfl (Nat.le_of_ble_eq_true rfl) (Nat.zero_le _) (Nat.zero_le _) dX12_order_77 rfl (fun M5 => ?_)
      refine g_aload_n 81 1 hX dX12_order_80 rfl rfl ?_
      refine g_bipush 83 hX 59 dX12_order_81 rfl kc_b_59 ?_
      refine g_callV_v 86 hX (k_X12_sign l g N M5 a0 59) lk_X12_sign rfl (ci := 12) rfl (Nat.le_of_ble_eq_true rfl) q_1815 q_53 (by omega) rfl (Nat.le_of_ble_eq_true rfl) (Nat.zero_le _) (Nat.zero_le _) dX12_order_83 rfl (fun M6 => ?_)
      exact g_vret hX hr rfl (Nat.le_refl 0) (Nat.le_refl 0) dX12_order_86
    · refine g_aload_n 71 1 hX dX12_order_70 rfl rfl ?_
      refine g_callV_v 74 hX (k_X12_againOrder l g N M4 a0) lk_X12_againOrder rfl (ci := 12) rfl (Nat.le_of_ble_eq_true rfl) q_1907 q_71 (by omega) rfl (Nat.le_of_ble_eq_true rfl) (Nat.zero_le _) (Nat.zero_le _) dX12_order_71 rfl (fun M7 => ?_)
      exact g_vret hX hr rfl (Nat.le_refl 0) (Nat.le_refl 0) dX12_order_74
  · exact g_vret hX hr rfl (Nat.le_refl 0) (Nat.le_refl 0) dX12_order_52
set_option maxRecDepth 100000 in
set_option maxHeartbeats 4000000 in
theorem k_X12_order_31 {p : Program} {l : Launch} {e : Env} {s : State} {m : MethodId} {args : Array Value} {below : List Frame} {meth : Method} {c : Code} {g : kG} (hX : Cok (p, l, e, { frames := 2 * 12, cells := 0, slots := 0, locals := 60 * 12 }, s, m, args, below, meth, c, cX12_order, 3, RX12, g, 12)) (hr : meth.sig.returnType = none) (N : Nat) : ∀ (M : kMem) (a0 : Nat) (y0 : Nat) (y1 : Int32), GG (p, l, e, { frames := 2 * 12, cells := 0, slots := 0, locals := 60 * 12 }, s, m, args, below, meth, c, cX12_order, 3, RX12, g, 12) (fun b => MQ below (kQ g ((fun r : kMem => (none, r)) b)) args s 0 0 (kZ g.2.2.1)) 0 0 (F_X12_order_31 N M a0 y0 y1) 31 [(0, .ref a0)] [.int y1, .ref y0] M := by
  intro M a0 y0 y1
  unfold F_X12_order_31
  refine g_iconst 32 hX 5 dX12_order_31 rfl kc_i_5 ?_
  refine g_callV_v 35 hX (k_X12_must l g N M y0 y1 5) lk_X12_must rfl (ci := 12) rfl (Nat.le_of_ble_eq_true rfl) q_1802 q_50 (by omega) rfl (Nat.le_of_ble_eq_true rfl) (Nat.zero_le _) (Nat.zero_le _) dX12_order_32 rfl (fun M8 => ?_)
  refine g_aload_n 36 0 hX dX12_order_35 rfl rfl ?_
  refine g_dup 37 hX dX12_order_36 rfl rfl ?_
  refine r_X12_395 40 hX dX12_order_37 rfl ?_
  refine g_iconst 41 hX 1 dX12_order_40 rfl kc_i_1 ?_
  refine g_iadd 42 hX dX12_order_41 rfl ?_
  refine p_X12_395 45 hX dX12_order_42 rfl ?_
  refine g_klM (fun M9 hM9 => ?_)
  exact k_X12_order_45 hX hr N M9 a0
set_option maxRecDepth 100000 in
set_option maxHeartbeats 4000000 in
theorem k_X12_order (l : Launch) (g : kG) (N : Nat) (M : kMem) (a0 : Nat) : kMet l g yX12_order cX12_order 3 none 12 0 0 [.ref a0] M (fun r : kMem => (none, r)) (F_X12_order N M a0) := by
  refine k_of (lv := [(0, .ref a0)]) RX12 (by decide) rfl rfl (Nat.le_of_ble_eq_true rfl) ?_
  intro p e s m args below meth c hX hr _
  unfold F_X12_order
  refine g_aload_n 1 0 hX dX12_order_0 rfl rfl ?_
  refine g_aload_n 2 0 hX dX12_order_1 rfl rfl ?_
  refine g_callV_ip 5 hX (k_X12_isOrder l g N M a0) lk_X12_isOrder rfl (ci := 12) rfl (Nat.le_of_ble_eq_true rfl) q_1895 q_70 (by omega) rfl (Nat.le_of_ble_eq_true rfl) (Nat.zero_le _) (Nat.zero_le _) dX12_order_2 rfl (fun r1 => ?_)
  refine g_iconst 6 hX 1 dX12_order_5 rfl kc_i_1 ?_
  refine g_callV_v 9 hX (k_X12_must l g N M a0 r1 1) lk_X12_must rfl (ci := 12) rfl (Nat.le_of_ble_eq_true rfl) q_1802 q_50 (by omega) rfl (Nat.le_of_ble_eq_true rfl) (Nat.zero_le _) (Nat.zero_le _) dX12_order_6 rfl (fun M2 => ?_)
  refine g_aload_n 10 0 hX dX12_order_9 rfl rfl ?_
  refine r_X12_314 13 hX dX12_order_10 rfl ?_
  refine g_if_ne 45 16 hX dX12_order_13 (by decide) rfl (fun _ => ?_) (fun _ => ?_)
  · exact k_X12_order_45 hX hr N M2 a0
  · refine g_aload_n 17 0 hX dX12_order_16 rfl rfl ?_
    refine g_aload_n 18 0 hX dX12_order_17 rfl rfl ?_
    refine r_X12_395 21 hX dX12_order_18 rfl ?_
    refine g_bipush 23 hX 30 dX12_order_21 rfl kc_b_30 ?_
    refine g_icmp_ge 30 26 hX dX12_order_23 (by decide) rfl (fun _ => ?_) (fun _ => ?_)
    · refine g_iconst 31 hX 0 dX12_order_30 rfl kc_i_0 ?_
      exact k_X12_order_31 hX hr N M2 a0 a0 0
    · refine g_iconst 27 hX 1 dX12_order_26 rfl kc_i_1 ?_
      refine g_goto 31 hX dX12_order_27 (by decide) ?_
      exact k_X12_order_31 hX hr N M2 a0 a0 1
set_option maxRecDepth 100000 in
set_option maxHeartbeats 4000000 in
theorem k_X12_goesThrough_73 {p : Program} {l : Launch} {e : Env} {s : State} {m : MethodId} {args : Array Value} {below : List Frame} {meth : Method} {c : Code} {g : kG} (hX : Cok (p, l, e, { frames := 2 * 13, cells := 0, slots := 0, locals := 60 * 13 }, s, m, args, below, meth, c, cX12_goesThrough, 2, RX12, g, 13)) (hr : meth.sig.returnType = none) (N : Nat) : ∀ (M : kMem) (a0 : Nat), GG (p, l, e, { frames := 2 * 13, cells := 0, slots := 0, locals := 60 * 13 }, s, m, args, below, meth, c, cX12_goesThrough, 2, RX12, g, 13) (fun b => MQ below (kQ g ((fun r : kMem => (none, r)) b)) args s 0 0 (kZ g.2.2.1)) 0 0 (F_X12_goesThrough_73 N M a0) 73 [(0, .ref a0)] [] M := by
  intro M a0
  unfold F_X12_goesThrough_73
  refine g_aload_n 74 0 hX dX12_goesThrough_73 rfl rfl ?_
  refine g_aload_n 75 0 hX dX12_goesThrough_74 rfl rfl ?_
  refine r_X12_318 78 hX dX12_goesThrough_75 rfl ?_
  refine g_if_ne 88 81 hX dX12_goesThrough_78 (by decide) rfl (fun _ => ?_) (fun _ => ?_)
  · refine g_iconst 89 hX 1 dX12_goesThrough_88 rfl kc_i_1 ?_
    refine g_goto 93 hX dX12_goesThrough_89 (by decide) ?_
    refine g_iconst 94 hX 1 dX12_goesThrough_93 rfl kc_i_1 ?_
    refine g_callV_v 97 hX (k_X12_must l g N M a0 1 1) lk_X12_must rfl (ci := 12) rfl (Nat.le_of_ble_eq_true rfl) q_1802 q_50 (by omega) rfl (Nat.le_of_ble_eq_true rfl) (Nat.zero_le _) (Nat.zero_le _) dX12_goesThrough_94 rfl (fun M7 => ?_)
    exact g_vret hX hr rfl (Nat.le_refl 0) (Nat.le_refl 0) dX12_goesThrough_97
  · refine g_aload_n 82 0 hX dX12_goesThrough_81 rfl rfl ?_
    refine r_X12_374 85 hX dX12_goesThrough_82 rfl ?_
    refine g_if_ne 92 88 hX dX12_goesThrough_85 (by decide) rfl (fun _ => ?_) (fun _ => ?_)
    · refine g_iconst 93 hX 0 dX12_goesThrough_92 rfl kc_i_0 ?_
      refine g_iconst 94 hX 1 dX12_goesThrough_93 rfl kc_i_1 ?_
      refine g_callV_v 97 hX (k_X12_must l g N M a0 0 1) lk_X12_must rfl (ci := 12) rfl (Nat.le_of_ble_eq_true rfl) q_1802 q_50 (by omega) rfl (Nat.le_of_ble_eq_true rfl) (Nat.zero_le _) (Nat.zero_le _) dX12_goesThrough_94 rfl (fun M8 => ?_)
      exact g_vret hX hr rfl (Nat.le_refl 0) (Nat.le_refl 0) dX12_goesThrough_97
    · refine g_iconst 89 hX 1 dX12_goesThrough_88 rfl kc_i_1 ?_
      refine g_goto 93 hX dX12_goesThrough_89 (by decide) ?_
      refine g_iconst 94 hX 1 dX12_goesThrough_93 rfl kc_i_1 ?_
      refine g_callV_v 97 hX (k_X12_must l g N M a0 1 1) lk_X12_must rfl (ci := 12) rfl (Nat.le_of_ble_eq_true rfl) q_1802 q_50 (by omega) rfl (Nat.le_of_ble_eq_true rfl) (Nat.zero_le _) (Nat.zero_le _) dX12_goesThrough_94 rfl (fun M9 => ?_)
      exact g_vret hX hr rfl (Nat.le_refl 0) (Nat.le_refl 0) dX12_goesThrough_97
set_option maxRecDepth 100000 in
set_option maxHeartbeats 4000000 in
theorem k_X12_goesThrough_29 {p : Program} {l : Launch} {e : Env} {s : State} {m : MethodId} {args : Array Value} {below : List Frame} {meth : Method} {c : Code} {g : kG} (hX : Cok (p, l, e, { frames := 2 * 13, cells := 0, slots := 0, locals := 60 * 13 }, s, m, args, below, meth, c, cX12_goesThrough, 2, RX12, g, 13)) (hr : meth.sig.returnType = none) (N : Nat) : ∀ (n : Nat) (M : kMem) (a0 : Nat), GG (p, l, e, { frames := 2 * 13, cells := 0, slots := 0, locals := 60 * 13 }, s, m, args, below, meth, c, cX12_goesThrough, 2, RX12, g, 13) (fun b => MQ below (kQ g ((fun r : kMem => (none, r)) b)) args s 0 0 (kZ g.2.2.1)) 0 0 (F_X12_goesThrough_29 N n M a0) 29 [(0, .ref a0)] [] M := by
  intro n
  induction n with
  | zero => intro _ _; exact g_none
  | succ n ih =>
    intro M a0
    unfold F_X12_goesThrough_29
    refine g_aload_n 30 0 hX dX12_goesThrough_29 rfl rfl ?_
    refine r_X12_209 33 hX dX12_goesThrough_30 rfl ?_
    refine g_if_ne 73 36 hX dX12_goesThrough_33 (by decide) rfl (fun _ => ?_) (fun _ => ?_)
    · exact k_X12_goesThrough_73 hX hr N M a0
    · refine g_aload_n 37 0 hX dX12_goesThrough_36 rfl rfl ?_
      refine r_X12_318 40 hX dX12_goesThrough_37 rfl ?_
      refine g_if_ne 73 43 hX dX12_goesThrough_40 (by decide) rfl (fun _ => ?_) (fun _ => ?_)
      · exact k_X12_goesThrough_73 hX hr N M a0
      · refine g_aload_n 44 0 hX dX12_goesThrough_43 rfl rfl ?_
        refine r_X12_188 47 hX dX12_goesThrough_44 rfl ?_
        refine g_if_eq 73 50 hX dX12_goesThrough_47 (by decide) rfl (fun _ => ?_) (fun _ => ?_)
        · exact k_X12_goesThrough_73 hX hr N M a0
        · refine g_aload_n 51 0 hX dX12_goesThrough_50 rfl rfl ?_
          refine g_bipush 53 hX 41 dX12_goesThrough_51 rfl kc_b_41 ?_
          refine g_callV_ip 56 hX (k_X12_isSign l g N M a0 41) lk_X12_isSign rfl (ci := 12) rfl (Nat.le_of_ble_eq_true rfl) q_1819 q_54 (by omega) rfl (Nat.le_of_ble_eq_true rfl) (Nat.zero_le _) (Nat.zero_le _) dX12_goesThrough_53 rfl (fun r10 => ?_)
          refine g_if_eq 66 59 hX dX12_goesThrough_56 (by decide) rfl (fun _ => ?_) (fun _ => ?_)
          · refine g_aload_n 67 0 hX dX12_goesThrough_66 rfl rfl ?_
            refine g_callV_v 70 hX (k_X12_order l g N M a0) lk_X12_order rfl (ci := 12) rfl (Nat.le_of_ble_eq_true rfl) q_1891 q_69 (by omega) rfl (Nat.le_of_ble_eq_true rfl) (Nat.zero_le _) (Nat.zero_le _) dX12_goesThrough_67 rfl (fun M11 => ?_)
            refine g_goto 29 hX dX12_goesThrough_70 (by decide) ?_
            exact ih M11 a0
          · refine g_aload_n 60 0 hX dX12_goesThrough_59 rfl rfl ?_
            refine g_callV_v 63 hX (k_X12_closes l g N M a0) lk_X12_closes rfl (ci := 12) rfl (Nat.le_of_ble_eq_true rfl) q_1887 q_68 (by omega) rfl (Nat.le_of_ble_eq_true rfl) (Nat.zero_le _) (Nat.zero_le _) dX12_goesThrough_60 rfl (fun M12 => ?_)
            refine g_goto 29 hX dX12_goesThrough_63 (by decide) ?_
            exact ih M12 a0
set_option maxRecDepth 100000 in
set_option maxHeartbeats 4000000 in
theorem k_X12_goesThrough (l : Launch) (g : kG) (N : Nat) (M : kMem) (a0 : Nat) (x1 : Int32) : kMet l g yX12_goesThrough cX12_goesThrough 2 none 13 0 0 [.ref a0, .int x1] M (fun r : kMem => (none, r)) (F_X12_goesThrough N M a0 x1) := by
  refine k_of (lv := [(0, .ref a0), (1, .int x1)]) RX12 (by decide) rfl rfl (Nat.le_of_ble_eq_true rfl) ?_
  intro p e s m args below meth c hX hr _
  unfold F_X12_goesThrough
  refine g_aload_n 1 0 hX dX12_goesThrough_0 rfl rfl ?_
  refine g_iload_n 2 1 hX dX12_goesThrough_1 rfl rfl ?_
  refine p_X12_314 5 hX dX12_goesThrough_2 rfl ?_
  refine g_klM (fun M1 hM1 => ?_)
  refine g_aload_n 6 0 hX dX12_goesThrough_5 rfl rfl ?_
  refine g_iconst 7 hX 0 dX12_goesThrough_6 rfl kc_i_0 ?_
  refine p_X12_318 10 hX dX12_goesThrough_7 rfl ?_
  refine g_klM (fun M2 hM2 => ?_)
  refine g_aload_n 11 0 hX dX12_goesThrough_10 rfl rfl ?_
  refine g_iconst 12 hX 0 dX12_goesThrough_11 rfl kc_i_0 ?_
  refine p_X12_395 15 hX dX12_goesThrough_12 rfl ?_
  refine g_klM (fun M3 hM3 => ?_)
  refine g_aload_n 16 0 hX dX12_goesThrough_15 rfl rfl ?_
  refine g_iconst 17 hX 0 dX12_goesThrough_16 rfl kc_i_0 ?_
  refine p_X12_374 20 hX dX12_goesThrough_17 rfl ?_
  refine g_klM (fun M4 hM4 => ?_)
  refine g_aload_n 21 0 hX dX12_goesThrough_20 rfl rfl ?_
  refine g_iconst 22 hX 0 dX12_goesThrough_21 rfl kc_i_0 ?_
  refine p_X12_321 25 hX dX12_goesThrough_22 rfl ?_
  refine g_klM (fun M5 hM5 => ?_)
  refine g_aload_n 26 0 hX dX12_goesThrough_25 rfl rfl ?_
  refine g_callV_v 29 hX (k_X12_starts l g N M5 a0) lk_X12_starts rfl (ci := 12) rfl (Nat.le_of_ble_eq_true rfl) q_1768 q_45 (by omega) rfl (Nat.le_of_ble_eq_true rfl) (Nat.zero_le _) (Nat.zero_le _) dX12_goesThrough_26 rfl (fun M6 => ?_)
  refine g_lv [0] rfl ?_
  exact k_X12_goesThrough_29 hX hr N N M6 a0
set_option maxRecDepth 100000 in
set_option maxHeartbeats 4000000 in
theorem k_X12_keepsPast_50 {p : Program} {l : Launch} {e : Env} {s : State} {m : MethodId} {args : Array Value} {below : List Frame} {meth : Method} {c : Code} {g : kG} (hX : Cok (p, l, e, { frames := 2 * 2, cells := 0, slots := 0, locals := 60 * 2 }, s, m, args, below, meth, c, cX12_keepsPast, 2, RX12, g, 2)) (hr : meth.sig.returnType = none) (N : Nat) : ∀ (M : kMem) (a0 : Nat), GG (p, l, e, { frames := 2 * 2, cells := 0, slots := 0, locals := 60 * 2 }, s, m, args, below, meth, c, cX12_keepsPast, 2, RX12, g, 2) (fun b => MQ below (kQ g ((fun r : kMem => (none, r)) b)) args s 0 0 (kZ g.2.2.1)) 0 0 (F_X12_keepsPast_50 N M a0) 50 [(0, .ref a0)] [] M := by
  intro M a0
  unfold F_X12_keepsPast_50
  refine g_aload_n 51 0 hX dX12_keepsPast_50 rfl rfl ?_
  refine r_X12_7 54 hX dX12_keepsPast_51 rfl ?_
  refine g_iconst 55 hX 0 dX12_keepsPast_54 rfl kc_i_0 ?_
  refine g_aload_n 56 0 hX dX12_keepsPast_55 rfl rfl ?_
  refine r_X12_16 59 hX dX12_keepsPast_56 rfl ?_
  refine g_sipush 62 hX 293 dX12_keepsPast_59 rfl kc_s_293 ?_
  refine g_aload_n 63 0 hX dX12_keepsPast_62 rfl rfl ?_
  refine r_X12_295 66 hX dX12_keepsPast_63 rfl ?_
  refine g_imul 67 hX dX12_keepsPast_66 rfl ?_
  refine g_callS_v 70 hX (k_X12_copies l g N M (kR M a0 0) 0 (kR M a0 2) (293 * (kI M a0 5))) lk_X12_copies q_1765 (by omega) rfl (Nat.le_of_ble_eq_true rfl) (Nat.zero_le _) (Nat.zero_le _) dX12_keepsPast_67 rfl (fun M1 => ?_)
  refine g_aload_n 71 0 hX dX12_keepsPast_70 rfl rfl ?_
  refine g_dup 72 hX dX12_keepsPast_71 rfl rfl ?_
  refine r_X12_295 75 hX dX12_keepsPast_72 rfl ?_
  refine g_iconst 76 hX 1 dX12_keepsPast_75 rfl kc_i_1 ?_
  refine g_iadd 77 hX dX12_keepsPast_76 rfl ?_
  refine p_X12_295 80 hX dX12_keepsPast_77 rfl ?_
  refine g_klM (fun M2 hM2 => ?_)
  exact g_vret hX hr rfl (Nat.le_refl 0) (Nat.le_refl 0) dX12_keepsPast_80
set_option maxRecDepth 100000 in
set_option maxHeartbeats 4000000 in
theorem k_X12_keepsPast_11 {p : Program} {l : Launch} {e : Env} {s : State} {m : MethodId} {args : Array Value} {below : List Frame} {meth : Method} {c : Code} {g : kG} (hX : Cok (p, l, e, { frames := 2 * 2, cells := 0, slots := 0, locals := 60 * 2 }, s, m, args, below, meth, c, cX12_keepsPast, 2, RX12, g, 2)) (hr : meth.sig.returnType = none) (N : Nat) : ∀ (n : Nat) (M : kMem) (a0 : Nat) (x1 : Int32), GG (p, l, e, { frames := 2 * 2, cells := 0, slots := 0, locals := 60 * 2 }, s, m, args, below, meth, c, cX12_keepsPast, 2, RX12, g, 2) (fun b => MQ below (kQ g ((fun r : kMem => (none, r)) b)) args s 0 0 (kZ g.2.2.1)) 0 0 (F_X12_keepsPast_11 N n M a0 x1) 11 [(0, .ref a0), (1, .int x1)] [] M := by
  intro n
  induction n with
  | zero => intro _ _ _; exact g_none
  | succ n ih =>
    intro M a0 x1
    unfold F_X12_keepsPast_11
    refine g_iload_n 12 1 hX dX12_keepsPast_11 rfl rfl ?_
    refine g_sipush 15 hX 2051 dX12_keepsPast_12 rfl kc_s_2051 ?_
    refine g_icmp_ge 40 18 hX dX12_keepsPast_15 (by decide) rfl (fun _ => ?_) (fun _ => ?_)
    · refine g_aload_n 41 0 hX dX12_keepsPast_40 rfl rfl ?_
      refine g_dup 42 hX dX12_keepsPast_41 rfl rfl ?_
      refine r_X12_295 45 hX dX12_keepsPast_42 rfl ?_
      refine g_iconst 46 hX 1 dX12_keepsPast_45 rfl kc_i_1 ?_
      refine g_isub 47 hX dX12_keepsPast_46 rfl ?_
      refine p_X12_295 50 hX dX12_keepsPast_47 rfl ?_
      refine g_klM (fun M3 hM3 => ?_)
      refine g_lv [0] rfl ?_
      exact k_X12_keepsPast_50 hX hr N M3 a0
    · refine g_aload_n 19 0 hX dX12_keepsPast_18 rfl rfl ?_
      refine r_X12_16 22 hX dX12_keepsPast_19 rfl ?_
      refine g_iload_n 23 1 hX dX12_keepsPast_22 rfl rfl ?_
      refine g_aload_n 24 0 hX dX12_keepsPast_23 rfl rfl ?_
      refine r_X12_16 27 hX dX12_keepsPast_24 rfl ?_
      refine g_iload_n 28 1 hX dX12_keepsPast_27 rfl rfl ?_
      refine g_sipush 31 hX 293 dX12_keepsPast_28 rfl kc_s_293 ?_
      refine g_iadd 32 hX dX12_keepsPast_31 rfl ?_
      refine g_iald 33 hX dX12_keepsPast_32 rfl ?_
      refine g_iast 34 hX dX12_keepsPast_33 rfl ?_
      refine g_klM (fun M4 hM4 => ?_)
      refine g_kl (fun v5 hv5 => ?_)
      refine g_iinc 37 1 1 v5 [(1, .int v5), (0, .ref a0)] hX dX12_keepsPast_34 rfl rfl (by rw [hv5, kc_i_1]) (Nat.le_of_ble_eq_true rfl) rfl ?_
      refine g_goto 11 hX dX12_keepsPast_37 (by decide) ?_
      refine g_lv [1, 0] rfl ?_
      exact ih M4 a0 v5
set_option maxRecDepth 100000 in
set_option maxHeartbeats 4000000 in
theorem k_X12_keepsPast (l : Launch) (g : kG) (N : Nat) (M : kMem) (a0 : Nat) : kMet l g yX12_keepsPast cX12_keepsPast 2 none 2 0 0 [.ref a0] M (fun r : kMem => (none, r)) (F_X12_keepsPast N M a0) := by
  refine k_of (lv := [(0, .ref a0)]) RX12 (by decide) rfl rfl (Nat.le_of_ble_eq_true rfl) ?_
  intro p e s m args below meth c hX hr _
  unfold F_X12_keepsPast
  refine g_aload_n 1 0 hX dX12_keepsPast_0 rfl rfl ?_
  refine r_X12_295 4 hX dX12_keepsPast_1 rfl ?_
  refine g_bipush 6 hX 8 dX12_keepsPast_4 rfl kc_b_8 ?_
  refine g_icmp_ne 50 9 hX dX12_keepsPast_6 (by decide) rfl (fun _ => ?_) (fun _ => ?_)
  · exact k_X12_keepsPast_50 hX hr N M a0
  · refine g_iconst 10 hX 0 dX12_keepsPast_9 rfl kc_i_0 ?_
    refine g_istore_n 11 1 [(1, .int 0), (0, .ref a0)] hX dX12_keepsPast_10 rfl rfl (Nat.le_of_ble_eq_true rfl) rfl ?_
    refine g_lv [1, 0] rfl ?_
    exact k_X12_keepsPast_11 hX hr N N M a0 0
set_option maxRecDepth 100000 in
set_option maxHeartbeats 4000000 in
theorem k_X12_runScript (l : Launch) (g : kG) (N : Nat) (M : kMem) (a0 : Nat) : kMet l g yX12_runScript cX12_runScript 1 (some .int) 14 0 0 [.ref a0] M (fun r : Int32 × kMem => (some (.int r.1), r.2)) (F_X12_runScript N M a0) := by
  refine k_of (lv := [(0, .ref a0)]) RX12 (by decide) rfl rfl (Nat.le_of_ble_eq_true rfl) ?_
  intro p e s m args below meth c hX hr _
  unfold F_X12_runScript
  refine g_aload_n 1 0 hX dX12_runScript_0 rfl rfl ?_
  refine g_iconst 2 hX 0 dX12_runScript_1 rfl kc_i_0 ?_
  refine p_X12_63 5 hX dX12_runScript_2 rfl ?_
  refine g_klM (fun M1 hM1 => ?_)
  refine g_aload_n 6 0 hX dX12_runScript_5 rfl rfl ?_
  refine g_callV_v 9 hX (k_X12_takesText l g N M1 a0) lk_X12_takesText rfl (ci := 12) rfl (Nat.le_of_ble_eq_true rfl) q_1761 q_44 (by omega) rfl (Nat.le_of_ble_eq_true rfl) (Nat.zero_le _) (Nat.zero_le _) dX12_runScript_6 rfl (fun M2 => ?_)
  refine g_aload_n 10 0 hX dX12_runScript_9 rfl rfl ?_
  refine g_iconst 11 hX 0 dX12_runScript_10 rfl kc_i_0 ?_
  refine g_callV_v 14 hX (k_X12_goesThrough l g N M2 a0 0) lk_X12_goesThrough rfl (ci := 12) rfl (Nat.le_of_ble_eq_true rfl) q_1883 q_67 (by omega) rfl (Nat.le_of_ble_eq_true rfl) (Nat.zero_le _) (Nat.zero_le _) dX12_runScript_11 rfl (fun M3 => ?_)
  refine g_aload_n 15 0 hX dX12_runScript_14 rfl rfl ?_
  refine g_callV_v 18 hX (k_X12_tellsError l g N M3 a0) lk_X12_tellsError rfl (ci := 12) rfl (Nat.le_of_ble_eq_true rfl) q_1875 q_66 (by omega) rfl (Nat.le_of_ble_eq_true rfl) (Nat.zero_le _) (Nat.zero_le _) dX12_runScript_15 rfl (fun M4 => ?_)
  refine g_aload_n 19 0 hX dX12_runScript_18 rfl rfl ?_
  refine r_X12_209 22 hX dX12_runScript_19 rfl ?_
  refine g_if_eq 27 25 hX dX12_runScript_22 (by decide) rfl (fun _ => ?_) (fun _ => ?_)
  · refine g_aload_n 28 0 hX dX12_runScript_27 rfl rfl ?_
    refine g_callV_v 31 hX (k_X12_keepsPast l g N M4 a0) lk_X12_keepsPast rfl (ci := 12) rfl (Nat.le_of_ble_eq_true rfl) q_2068 q_109 (by omega) rfl (Nat.le_of_ble_eq_true rfl) (Nat.zero_le _) (Nat.zero_le _) dX12_runScript_28 rfl (fun M5 => ?_)
    refine g_aload_n 32 0 hX dX12_runScript_31 rfl rfl ?_
    refine g_iconst 33 hX 1 dX12_runScript_32 rfl kc_i_1 ?_
    refine g_callV_v 36 hX (k_X12_goesThrough l g N M5 a0 1) lk_X12_goesThrough rfl (ci := 12) rfl (Nat.le_of_ble_eq_true rfl) q_1883 q_67 (by omega) rfl (Nat.le_of_ble_eq_true rfl) (Nat.zero_le _) (Nat.zero_le _) dX12_runScript_33 rfl (fun M6 => ?_)
    refine g_aload_n 37 0 hX dX12_runScript_36 rfl rfl ?_
    refine r_X12_321 40 hX dX12_runScript_37 rfl ?_
    exact g_iret hX hr rfl (Nat.le_refl 0) (Nat.le_refl 0) dX12_runScript_40
  · refine g_iconst 26 hX (-1) dX12_runScript_25 rfl kc_i_m1 ?_
    exact g_iret hX hr rfl (Nat.le_refl 0) (Nat.le_refl 0) dX12_runScript_26
set_option maxRecDepth 100000 in
set_option maxHeartbeats 4000000 in
theorem k_X12_errorCode (l : Launch) (g : kG) (N : Nat) (M : kMem) (a0 : Nat) : kMet l g yX12_errorCode cX12_errorCode 1 (some .int) 1 0 0 [.ref a0] M (fun r : Int32 × kMem => (some (.int r.1), r.2)) (F_X12_errorCode N M a0) := by
  refine k_of (lv := [(0, .ref a0)]) RX12 (by decide) rfl rfl (Nat.le_of_ble_eq_true rfl) ?_
  intro p e s m args below meth c hX hr _
  unfold F_X12_errorCode
  refine g_aload_n 1 0 hX dX12_errorCode_0 rfl rfl ?_
  refine g_iconst 2 hX 0 dX12_errorCode_1 rfl kc_i_0 ?_
  refine p_X12_63 5 hX dX12_errorCode_2 rfl ?_
  refine g_klM (fun M1 hM1 => ?_)
  refine g_aload_n 6 0 hX dX12_errorCode_5 rfl rfl ?_
  refine r_X12_276 9 hX dX12_errorCode_6 rfl ?_
  exact g_iret hX hr rfl (Nat.le_refl 0) (Nat.le_refl 0) dX12_errorCode_9
set_option maxRecDepth 100000 in
set_option maxHeartbeats 4000000 in
theorem k_X12_errorPosition (l : Launch) (g : kG) (N : Nat) (M : kMem) (a0 : Nat) : kMet l g yX12_errorPosition cX12_errorPosition 1 (some .int) 1 0 0 [.ref a0] M (fun r : Int32 × kMem => (some (.int r.1), r.2)) (F_X12_errorPosition N M a0) := by
  refine k_of (lv := [(0, .ref a0)]) RX12 (by decide) rfl rfl (Nat.le_of_ble_eq_true rfl) ?_
  intro p e s m args below meth c hX hr _
  unfold F_X12_errorPosition
  refine g_aload_n 1 0 hX dX12_errorPosition_0 rfl rfl ?_
  refine g_iconst 2 hX 0 dX12_errorPosition_1 rfl kc_i_0 ?_
  refine p_X12_63 5 hX dX12_errorPosition_2 rfl ?_
  refine g_klM (fun M1 hM1 => ?_)
  refine g_aload_n 6 0 hX dX12_errorPosition_5 rfl rfl ?_
  refine r_X12_35 9 hX dX12_errorPosition_6 rfl ?_
  exact g_iret hX hr rfl (Nat.le_refl 0) (Nat.le_refl 0) dX12_errorPosition_9
set_option maxRecDepth 100000 in
set_option maxHeartbeats 4000000 in
theorem k_X12_noTrader (l : Launch) (g : kG) (N : Nat) (M : kMem) (a0 : Nat) (x1 : Int32) : kMet l g yX12_noTrader cX12_noTrader 2 (some .boolean) 2 0 0 [.ref a0, .int x1] M (fun r : Int32 × kMem => (some (.int r.1), r.2)) (F_X12_noTrader N M a0 x1) := by
  refine k_of (lv := [(0, .ref a0), (1, .int x1)]) RX12 (by decide) rfl rfl (Nat.le_of_ble_eq_true rfl) ?_
  intro p e s m args below meth c hX hr _
  unfold F_X12_noTrader
  refine g_aload_n 1 0 hX dX12_noTrader_0 rfl rfl ?_
  refine g_iload_n 2 1 hX dX12_noTrader_1 rfl rfl ?_
  refine g_i2l 3 hX dX12_noTrader_2 rfl ?_
  refine g_lconst 4 hX 0 dX12_noTrader_3 rfl rfl ?_
  refine g_aload_n 5 0 hX dX12_noTrader_4 rfl rfl ?_
  refine r_X12_7 8 hX dX12_noTrader_5 rfl ?_
  refine g_bipush 10 hX 8 dX12_noTrader_8 rfl kc_b_8 ?_
  refine g_iald 11 hX dX12_noTrader_10 rfl ?_
  refine g_iconst 12 hX 1 dX12_noTrader_11 rfl kc_i_1 ?_
  refine g_isub 13 hX dX12_noTrader_12 rfl ?_
  refine g_i2l 14 hX dX12_noTrader_13 rfl ?_
  refine g_callS_ip 17 hX (k_X12_in l g N M x1.toInt64 0 (((kI M (kR M a0 0) (kx 8)) - 1).toInt64)) lk_X12_in q_1754 (by omega) rfl (Nat.le_of_ble_eq_true rfl) (Nat.zero_le _) (Nat.zero_le _) dX12_noTrader_14 rfl (fun r1 => ?_)
  refine g_if_ne 24 20 hX dX12_noTrader_17 (by decide) rfl (fun _ => ?_) (fun _ => ?_)
  · refine g_iconst 25 hX 0 dX12_noTrader_24 rfl kc_i_0 ?_
    refine g_iconst 26 hX 1 dX12_noTrader_25 rfl kc_i_1 ?_
    refine g_callV_i 29 hX (k_X12_stops l g N M a0 0 1) lk_X12_stops rfl (ci := 12) rfl (Nat.le_of_ble_eq_true rfl) q_1742 q_42 (by omega) rfl (Nat.le_of_ble_eq_true rfl) (Nat.zero_le _) (Nat.zero_le _) dX12_noTrader_26 rfl (fun r2 => ?_)
    exact g_zret hX hr rfl (Nat.le_refl 0) (Nat.le_refl 0) dX12_noTrader_29
  · refine g_iconst 21 hX 1 dX12_noTrader_20 rfl kc_i_1 ?_
    refine g_goto 25 hX dX12_noTrader_21 (by decide) ?_
    refine g_iconst 26 hX 1 dX12_noTrader_25 rfl kc_i_1 ?_
    refine g_callV_i 29 hX (k_X12_stops l g N M a0 1 1) lk_X12_stops rfl (ci := 12) rfl (Nat.le_of_ble_eq_true rfl) q_1742 q_42 (by omega) rfl (Nat.le_of_ble_eq_true rfl) (Nat.zero_le _) (Nat.zero_le _) dX12_noTrader_26 rfl (fun r3 => ?_)
    exact g_zret hX hr rfl (Nat.le_refl 0) (Nat.le_refl 0) dX12_noTrader_29
set_option maxRecDepth 100000 in
set_option maxHeartbeats 4000000 in
theorem k_X12_noBoard (l : Launch) (g : kG) (N : Nat) (M : kMem) (a0 : Nat) (x1 : Int32) : kMet l g yX12_noBoard cX12_noBoard 2 (some .boolean) 2 0 0 [.ref a0, .int x1] M (fun r : Int32 × kMem => (some (.int r.1), r.2)) (F_X12_noBoard N M a0 x1) := by
  refine k_of (lv := [(0, .ref a0), (1, .int x1)]) RX12 (by decide) rfl rfl (Nat.le_of_ble_eq_true rfl) ?_
  intro p e s m args below meth c hX hr _
  unfold F_X12_noBoard
  refine g_aload_n 1 0 hX dX12_noBoard_0 rfl rfl ?_
  refine g_iload_n 2 1 hX dX12_noBoard_1 rfl rfl ?_
  refine g_i2l 3 hX dX12_noBoard_2 rfl ?_
  refine g_lconst 4 hX 0 dX12_noBoard_3 rfl rfl ?_
  refine g_aload_n 5 0 hX dX12_noBoard_4 rfl rfl ?_
  refine r_X12_7 8 hX dX12_noBoard_5 rfl ?_
  refine g_bipush 10 hX 7 dX12_noBoard_8 rfl kc_b_7 ?_
  refine g_iald 11 hX dX12_noBoard_10 rfl ?_
  refine g_iconst 12 hX 1 dX12_noBoard_11 rfl kc_i_1 ?_
  refine g_isub 13 hX dX12_noBoard_12 rfl ?_
  refine g_i2l 14 hX dX12_noBoard_13 rfl ?_
  refine g_callS_ip 17 hX (k_X12_in l g N M x1.toInt64 0 (((kI M (kR M a0 0) (kx 7)) - 1).toInt64)) lk_X12_in q_1754 (by omega) rfl (Nat.le_of_ble_eq_true rfl) (Nat.zero_le _) (Nat.zero_le _) dX12_noBoard_14 rfl (fun r1 => ?_)
  refine g_if_ne 24 20 hX dX12_noBoard_17 (by decide) rfl (fun _ => ?_) (fun _ => ?_)
  · refine g_iconst 25 hX 0 dX12_noBoard_24 rfl kc_i_0 ?_
    refine g_iconst 26 hX 1 dX12_noBoard_25 rfl kc_i_1 ?_
    refine g_callV_i 29 hX (k_X12_stops l g N M a0 0 1) lk_X12_stops rfl (ci := 12) rfl (Nat.le_of_ble_eq_true rfl) q_1742 q_42 (by omega) rfl (Nat.le_of_ble_eq_true rfl) (Nat.zero_le _) (Nat.zero_le _) dX12_noBoard_26 rfl (fun r2 => ?_)
    exact g_zret hX hr rfl (Nat.le_refl 0) (Nat.le_refl 0) dX12_noBoard_29
  · refine g_iconst 21 hX 1 dX12_noBoard_20 rfl kc_i_1 ?_
    refine g_goto 25 hX dX12_noBoard_21 (by decide) ?_
    refine g_iconst 26 hX 1 dX12_noBoard_25 rfl kc_i_1 ?_
    refine g_callV_i 29 hX (k_X12_stops l g N M a0 1 1) lk_X12_stops rfl (ci := 12) rfl (Nat.le_of_ble_eq_true rfl) q_1742 q_42 (by omega) rfl (Nat.le_of_ble_eq_true rfl) (Nat.zero_le _) (Nat.zero_le _) dX12_noBoard_26 rfl (fun r3 => ?_)
    exact g_zret hX hr rfl (Nat.le_refl 0) (Nat.le_refl 0) dX12_noBoard_29
set_option maxRecDepth 100000 in
set_option maxHeartbeats 4000000 in
theorem k_X12_noSeat (l : Launch) (g : kG) (N : Nat) (M : kMem) (a0 : Nat) (x1 : Int32) (x2 : Int32) : kMet l g yX12_noSeat cX12_noSeat 3 (some .boolean) 4 0 0 [.ref a0, .int x1, .int x2] M (fun r : Int32 × kMem => (some (.int r.1), r.2)) (F_X12_noSeat N M a0 x1 x2) := by
  refine k_of (lv := [(0, .ref a0), (1, .int x1), (2, .int x2)]) RX12 (by decide) rfl rfl (Nat.le_of_ble_eq_true rfl) ?_
  intro p e s m args below meth c hX hr _
  unfold F_X12_noSeat
  refine g_aload_n 1 0 hX dX12_noSeat_0 rfl rfl ?_
  refine g_iload_n 2 1 hX dX12_noSeat_1 rfl rfl ?_
  refine g_callV_i 5 hX (k_X12_noBoard l g N M a0 x1) lk_X12_noBoard rfl (ci := 12) rfl (Nat.le_of_ble_eq_true rfl) q_2102 q_113 (by omega) rfl (Nat.le_of_ble_eq_true rfl) (Nat.zero_le _) (Nat.zero_le _) dX12_noSeat_2 rfl (fun r1 => ?_)
  refine g_if_ne 30 8 hX dX12_noSeat_5 (by decide) rfl (fun _ => ?_) (fun _ => ?_)
  · refine g_iconst 31 hX 1 dX12_noSeat_30 rfl kc_i_1 ?_
    refine g_goto 35 hX dX12_noSeat_31 (by decide) ?_
    exact g_zretL hX hr rfl rfl (Nat.le_refl 0) (Nat.le_refl 0) dX12_noSeat_35
  · refine g_aload_n 9 0 hX dX12_noSeat_8 rfl rfl ?_
    refine g_aload_n 10 0 hX dX12_noSeat_9 rfl rfl ?_
    refine g_iload_n 11 1 hX dX12_noSeat_10 rfl rfl ?_
    refine g_iload_n 12 2 hX dX12_noSeat_11 rfl rfl ?_
    refine g_callV_ip 15 hX (k_X12_isPosition l g N r1.2 a0 x1 x2) lk_X12_isPosition rfl (ci := 12) rfl (Nat.le_of_ble_eq_true rfl) q_1942 q_79 (by omega) rfl (Nat.le_of_ble_eq_true rfl) (Nat.zero_le _) (Nat.zero_le _) dX12_noSeat_12 rfl (fun r2 => ?_)
    refine g_if_ne 22 18 hX dX12_noSeat_15 (by decide) rfl (fun _ => ?_) (fun _ => ?_)
    · refine g_iconst 23 hX 0 dX12_noSeat_22 rfl kc_i_0 ?_
      refine g_iconst 24 hX 1 dX12_noSeat_23 rfl kc_i_1 ?_
      refine g_callV_i 27 hX (k_X12_stops l g N r1.2 a0 0 1) lk_X12_stops rfl (ci := 12) rfl (Nat.le_of_ble_eq_true rfl) q_1742 q_42 (by omega) rfl (Nat.le_of_ble_eq_true rfl) (Nat.zero_le _) (Nat.zero_le _) dX12_noSeat_24 rfl (fun r3 => ?_)
      refine g_if_eq 34 30 hX dX12_noSeat_27 (by decide) rfl (fun _ => ?_) (fun _ => ?_)
      · refine g_iconst 35 hX 0 dX12_noSeat_34 rfl kc_i_0 ?_
        exact g_zretL hX hr rfl rfl (Nat.le_refl 0) (Nat.le_refl 0) dX12_noSeat_35
      · refine g_iconst 31 hX 1 dX12_noSeat_30 rfl kc_i_1 ?_
        refine g_goto 35 hX dX12_noSeat_31 (by decide) ?_
        exact g_zretL hX hr rfl rfl (Nat.le_refl 0) (Nat.le_refl 0) dX12_noSeat_35
    · refine g_iconst 19 hX 1 dX12_noSeat_18 rfl kc_i_1 ?_
      refine g_goto 23 hX dX12_noSeat_19 (by decide) ?_
      refine g_iconst 24 hX 1 dX12_noSeat_23 rfl kc_i_1 ?_
      refine g_callV_i 27 hX (k_X12_stops l g N r1.2 a0 1 1) lk_X12_stops rfl (ci := 12) rfl (Nat.le_of_ble_eq_true rfl) q_1742 q_42 (by omega) rfl (Nat.le_of_ble_eq_true rfl) (Nat.zero_le _) (Nat.zero_le _) dX12_noSeat_24 rfl (fun r4 => ?_)
      refine g_if_eq 34 30 hX dX12_noSeat_27 (by decide) rfl (fun _ => ?_) (fun _ => ?_)
      · refine g_iconst 35 hX 0 dX12_noSeat_34 rfl kc_i_0 ?_
        exact g_zretL hX hr rfl rfl (Nat.le_refl 0) (Nat.le_refl 0) dX12_noSeat_35
      · refine g_iconst 31 hX 1 dX12_noSeat_30 rfl kc_i_1 ?_
        refine g_goto 35 hX dX12_noSeat_31 (by decide) ?_
        exact g_zretL hX hr rfl rfl (Nat.le_refl 0) (Nat.le_refl 0) dX12_noSeat_35
set_option maxRecDepth 100000 in
set_option maxHeartbeats 4000000 in
theorem k_X12_wholeName_4 {p : Program} {l : Launch} {e : Env} {s : State} {m : MethodId} {args : Array Value} {below : List Frame} {meth : Method} {c : Code} {g : kG} (hX : Cok (p, l, e, { frames := 2 * 3, cells := 0, slots := 0, locals := 60 * 3 }, s, m, args, below, meth, c, cX12_wholeName, 3, RX12, g, 3)) (hr : meth.sig.returnType = (some .int)) (N : Nat) (M : kMem) : ∀ (n : Nat) (a0 : Nat) (x1 : Int32) (x2 : Int32), GG (p, l, e, { frames := 2 * 3, cells := 0, slots := 0, locals := 60 * 3 }, s, m, args, below, meth, c, cX12_wholeName, 3, RX12, g, 3) (fun b => MQ below (kQ g ((fun r : Int32 => (some (.int r), M)) b)) args s 0 0 (kZ g.2.2.1)) 0 0 (F_X12_wholeName_4 N M n a0 x1 x2) 4 [(0, .ref a0), (1, .int x1), (2, .int x2)] [] M := by
  intro n
  induction n with
  | zero => intro _ _ _; exact g_none
  | succ n ih =>
    intro a0 x1 x2
    unfold F_X12_wholeName_4
    refine g_iload_n 5 2 hX dX12_wholeName_4 rfl rfl ?_
    refine g_aload_n 6 0 hX dX12_wholeName_5 rfl rfl ?_
    refine r_X12_155 9 hX dX12_wholeName_6 rfl ?_
    refine g_icmp_ge 53 12 hX dX12_wholeName_9 (by decide) rfl (fun _ => ?_) (fun _ => ?_)
    · refine g_iload_n 54 1 hX dX12_wholeName_53 rfl rfl ?_
      exact g_iret hX hr rfl (Nat.le_refl 0) (Nat.le_refl 0) dX12_wholeName_54
    · refine g_aload_n 13 0 hX dX12_wholeName_12 rfl rfl ?_
      refine r_X12_29 16 hX dX12_wholeName_13 rfl ?_
      refine g_iload_n 17 2 hX dX12_wholeName_16 rfl rfl ?_
      refine g_iald 18 hX dX12_wholeName_17 rfl ?_
      refine g_callS_ip 21 hX (k_X12_isSmall l g N M (kI M (kR M a0 8) (kx x2))) lk_X12_isSmall q_1780 (by omega) rfl (Nat.le_of_ble_eq_true rfl) (Nat.zero_le _) (Nat.zero_le _) dX12_wholeName_18 rfl (fun r1 => ?_)
      refine g_if_eq 30 24 hX dX12_wholeName_21 (by decide) rfl (fun _ => ?_) (fun _ => ?_)
      · refine g_iconst 31 hX 0 dX12_wholeName_30 rfl kc_i_0 ?_
        exact g_iret hX hr rfl (Nat.le_refl 0) (Nat.le_refl 0) dX12_wholeName_31
      · refine g_iload_n 25 2 hX dX12_wholeName_24 rfl rfl ?_
        refine g_bipush 27 hX 6 dX12_wholeName_25 rfl kc_b_6 ?_
        refine g_icmp_ne 32 30 hX dX12_wholeName_27 (by decide) rfl (fun _ => ?_) (fun _ => ?_)
        · refine g_bipush 34 hX 32 dX12_wholeName_32 rfl kc_b_32 ?_
          refine g_iload_n 35 1 hX dX12_wholeName_34 rfl rfl ?_
          refine g_imul 36 hX dX12_wholeName_35 rfl ?_
          refine g_aload_n 37 0 hX dX12_wholeName_36 rfl rfl ?_
          refine r_X12_29 40 hX dX12_wholeName_37 rfl ?_
          refine g_iload_n 41 2 hX dX12_wholeName_40 rfl rfl ?_
          refine g_iald 42 hX dX12_wholeName_41 rfl ?_
          refine g_iadd 43 hX dX12_wholeName_42 rfl ?_
          refine g_bipush 45 hX 96 dX12_wholeName_43 rfl kc_b_96 ?_
          refine g_isub 46 hX dX12_wholeName_45 rfl ?_
          refine g_klI (fun v2 hv2 => ?_)
          refine g_istore_n 47 1 [(1, .int v2), (0, .ref a0), (2, .int x2)] hX dX12_wholeName_46 rfl rfl (Nat.le_of_ble_eq_true rfl) rfl ?_
          refine g_kl (fun v3 hv3 => ?_)
          refine g_iinc 50 2 2 v3 [(2, .int v3), (1, .int v2), (0, .ref a0)] hX dX12_wholeName_47 rfl rfl (by rw [hv3, kc_i_1]) (Nat.le_of_ble_eq_true rfl) rfl ?_
          refine g_goto 4 hX dX12_wholeName_50 (by decide) ?_
          refine g_lv [2, 1, 0] rfl ?_
          exact ih a0 v2 v3
        · refine g_iconst 31 hX 0 dX12_wholeName_30 rfl kc_i_0 ?_
          exact g_iret hX hr rfl (Nat.le_refl 0) (Nat.le_refl 0) dX12_wholeName_31
set_option maxRecDepth 100000 in
set_option maxHeartbeats 4000000 in
theorem k_X12_wholeName (l : Launch) (g : kG) (N : Nat) (M : kMem) (a0 : Nat) : kMet l g yX12_wholeName cX12_wholeName 3 (some .int) 3 0 0 [.ref a0] M (fun r : Int32 => (some (.int r), M)) (F_X12_wholeName N M a0) := by
  refine k_of (lv := [(0, .ref a0)]) RX12 (by decide) rfl rfl (Nat.le_of_ble_eq_true rfl) ?_
  intro p e s m args below meth c hX hr _
  unfold F_X12_wholeName
  refine g_iconst 1 hX 0 dX12_wholeName_0 rfl kc_i_0 ?_
  refine g_istore_n 2 1 [(1, .int 0), (0, .ref a0)] hX dX12_wholeName_1 rfl rfl (Nat.le_of_ble_eq_true rfl) rfl ?_
  refine g_iconst 3 hX 0 dX12_wholeName_2 rfl kc_i_0 ?_
  refine g_istore_n 4 2 [(2, .int 0), (1, .int 0), (0, .ref a0)] hX dX12_wholeName_3 rfl rfl (Nat.le_of_ble_eq_true rfl) rfl ?_
  refine g_lv [2, 1, 0] rfl ?_
  exact k_X12_wholeName_4 hX hr N M N a0 0 0
set_option maxRecDepth 100000 in
set_option maxHeartbeats 4000000 in
theorem k_X12_join_80 {p : Program} {l : Launch} {e : Env} {s : State} {m : MethodId} {args : Array Value} {below : List Frame} {meth : Method} {c : Code} {g : kG} (hX : Cok (p, l, e, { frames := 2 * 4, cells := 0, slots := 0, locals := 60 * 4 }, s, m, args, below, meth, c, cX12_join, 4, RX12, g, 4)) (hr : meth.sig.returnType = (some .int)) (N : Nat) : ∀ (M : kMem) (a0 : Nat) (x1 : Int32) (x2 : Int32) (x3 : Int32) (y0 : Nat) (y1 : Int32), GG (p, l, e, { frames := 2 * 4, cells := 0, slots := 0, locals := 60 * 4 }, s, m, args, below, meth, c, cX12_join, 4, RX12, g, 4) (fun b => MQ below (kQ g ((fun r : Int32 × kMem => (some (.int r.1), r.2)) b)) args s 0 0 (kZ g.2.2.1)) 0 0 (F_X12_join_80 N M a0 x1 x2 x3 y0 y1) 80 [(0, .ref a0), (1, .int x1), (2, .int x2), (3, .int x3)] [.int y1, .ref y0] M := by
  intro M a0 x1 x2 x3 y0 y1
  unfold F_X12_join_80
  refine g_iconst 81 hX 2 dX12_join_80 rfl kc_i_2 ?_
  refine g_callV_i 84 hX (k_X12_stops l g N M y0 y1 2) lk_X12_stops rfl (ci := 12) rfl (Nat.le_of_ble_eq_true rfl) q_1742 q_42 (by omega) rfl (Nat.le_of_ble_eq_true rfl) (Nat.zero_le _) (Nat.zero_le _) dX12_join_81 rfl (fun r5 => ?_)
  refine g_if_eq 89 87 hX dX12_join_84 (by decide) rfl (fun _ => ?_) (fun _ => ?_)
  · refine g_aload_n 90 0 hX dX12_join_89 rfl rfl ?_
    refine g_callV_v 93 hX (k_X12_keepsPast l g N r5.2 a0) lk_X12_keepsPast rfl (ci := 12) rfl (Nat.le_of_ble_eq_true rfl) q_2068 q_109 (by omega) rfl (Nat.le_of_ble_eq_true rfl) (Nat.zero_le _) (Nat.zero_le _) dX12_join_90 rfl (fun M6 => ?_)
    refine g_aload_n 94 0 hX dX12_join_93 rfl rfl ?_
    refine g_iconst 95 hX 0 dX12_join_94 rfl kc_i_0 ?_
    refine p_X12_155 98 hX dX12_join_95 rfl ?_
    refine g_klM (fun M7 hM7 => ?_)
    refine g_aload_n 99 0 hX dX12_join_98 rfl rfl ?_
    refine g_iload_n 100 3 hX dX12_join_99 rfl rfl ?_
    refine g_iload_n 101 1 hX dX12_join_100 rfl rfl ?_
    refine g_iload_n 102 2 hX dX12_join_101 rfl rfl ?_
    refine g_callV_i 105 hX (k_X12_joins l g N M7 a0 x3 x1 x2) lk_X12_joins rfl (ci := 12) rfl (Nat.le_of_ble_eq_true rfl) q_1927 q_76 (by omega) rfl (Nat.le_of_ble_eq_true rfl) (Nat.zero_le _) (Nat.zero_le _) dX12_join_102 rfl (fun r8 => ?_)
    exact g_iret hX hr rfl (Nat.le_refl 0) (Nat.le_refl 0) dX12_join_105
  · refine g_iconst 88 hX 0 dX12_join_87 rfl kc_i_0 ?_
    exact g_iret hX hr rfl (Nat.le_refl 0) (Nat.le_refl 0) dX12_join_88
set_option maxRecDepth 100000 in
set_option maxHeartbeats 4000000 in
theorem k_X12_join_75 {p : Program} {l : Launch} {e : Env} {s : State} {m : MethodId} {args : Array Value} {below : List Frame} {meth : Method} {c : Code} {g : kG} (hX : Cok (p, l, e, { frames := 2 * 4, cells := 0, slots := 0, locals := 60 * 4 }, s, m, args, below, meth, c, cX12_join, 4, RX12, g, 4)) (hr : meth.sig.returnType = (some .int)) (N : Nat) : ∀ (M : kMem) (a0 : Nat) (x1 : Int32) (x2 : Int32) (x3 : Int32) (y0 : Nat), GG (p, l, e, { frames := 2 * 4, cells := 0, slots := 0, locals := 60 * 4 }, s, m, args, below, meth, c, cX12_join, 4, RX12, g, 4) (fun b => MQ below (kQ g ((fun r : Int32 × kMem => (some (.int r.1), r.2)) b)) args s 0 0 (kZ g.2.2.1)) 0 0 (F_X12_join_75 N M a0 x1 x2 x3 y0) 75 [(0, .ref a0), (1, .int x1), (2, .int x2), (3, .int x3)] [.ref y0] M := by
  intro M a0 x1 x2 x3 y0
  unfold F_X12_join_75
  refine g_iconst 76 hX 1 dX12_join_75 rfl kc_i_1 ?_
  refine g_goto 80 hX dX12_join_76 (by decide) ?_
  exact k_X12_join_80 hX hr N M a0 x1 x2 x3 y0 1
set_option maxRecDepth 100000 in
set_option maxHeartbeats 4000000 in
theorem k_X12_join_35 {p : Program} {l : Launch} {e : Env} {s : State} {m : MethodId} {args : Array Value} {below : List Frame} {meth : Method} {c : Code} {g : kG} (hX : Cok (p, l, e, { frames := 2 * 4, cells := 0, slots := 0, locals := 60 * 4 }, s, m, args, below, meth, c, cX12_join, 4, RX12, g, 4)) (hr : meth.sig.returnType = (some .int)) (N : Nat) : ∀ (M : kMem) (a0 : Nat) (x1 : Int32) (x2 : Int32) (y0 : Nat) (y1 : Int32), GG (p, l, e, { frames := 2 * 4, cells := 0, slots := 0, locals := 60 * 4 }, s, m, args, below, meth, c, cX12_join, 4, RX12, g, 4) (fun b => MQ below (kQ g ((fun r : Int32 × kMem => (some (.int r.1), r.2)) b)) args s 0 0 (kZ g.2.2.1)) 0 0 (F_X12_join_35 N M a0 x1 x2 y0 y1) 35 [(0, .ref a0), (1, .int x1), (2, .int x2)] [.int y1, .ref y0] M := by
  intro M a0 x1 x2 y0 y1
  unfold F_X12_join_35
  refine g_iconst 36 hX 1 dX12_join_35 rfl kc_i_1 ?_
  refine g_callV_i 39 hX (k_X12_stops l g N M y0 y1 1) lk_X12_stops rfl (ci := 12) rfl (Nat.le_of_ble_eq_true rfl) q_1742 q_42 (by omega) rfl (Nat.le_of_ble_eq_true rfl) (Nat.zero_le _) (Nat.zero_le _) dX12_join_36 rfl (fun r3 => ?_)
  refine g_if_eq 44 42 hX dX12_join_39 (by decide) rfl (fun _ => ?_) (fun _ => ?_)
  · refine g_aload_n 45 0 hX dX12_join_44 rfl rfl ?_
    refine g_callV_ip 48 hX (k_X12_wholeName l g N r3.2 a0) lk_X12_wholeName rfl (ci := 12) rfl (Nat.le_of_ble_eq_true rfl) q_2086 q_110 (by omega) rfl (Nat.le_of_ble_eq_true rfl) (Nat.zero_le _) (Nat.zero_le _) dX12_join_45 rfl (fun r4 => ?_)
    refine g_istore_n 49 3 [(3, .int r4), (0, .ref a0), (1, .int x1), (2, .int x2)] hX dX12_join_48 rfl rfl (Nat.le_of_ble_eq_true rfl) rfl ?_
    refine g_aload_n 50 1 hX dX12_join_49 rfl rfl ?_
    refine g_aload_n 51 1 hX dX12_join_50 rfl rfl ?_
    refine r_X12_7 54 hX dX12_join_51 rfl ?_
    refine g_bipush 56 hX 8 dX12_join_54 rfl kc_b_8 ?_
    refine g_iald 57 hX dX12_join_56 rfl ?_
    refine g_bipush 59 hX 24 dX12_join_57 rfl kc_b_24 ?_
    refine g_icmp_eq 75 62 hX dX12_join_59 (by decide) rfl (fun _ => ?_) (fun _ => ?_)
    · refine g_lv [1, 2, 3, 0] rfl ?_
      exact k_X12_join_75 hX hr N r3.2 a0 x1 x2 r4 a0
    · refine g_iload_n 63 0 hX dX12_join_62 rfl rfl ?_
      refine g_if_eq 75 66 hX dX12_join_63 (by decide) rfl (fun _ => ?_) (fun _ => ?_)
      · refine g_lv [1, 2, 3, 0] rfl ?_
        exact k_X12_join_75 hX hr N r3.2 a0 x1 x2 r4 a0
      · refine g_aload_n 67 1 hX dX12_join_66 rfl rfl ?_
        refine g_iload_n 68 0 hX dX12_join_67 rfl rfl ?_
        refine g_callV_ip 71 hX (k_X12_traderNamed l g N r3.2 a0 r4) lk_X12_traderNamed rfl (ci := 12) rfl (Nat.le_of_ble_eq_true rfl) q_1845 q_60 (by omega) rfl (Nat.le_of_ble_eq_true rfl) (Nat.zero_le _) (Nat.zero_le _) dX12_join_68 rfl (fun r9 => ?_)
        refine g_iconst 72 hX (-1) dX12_join_71 rfl kc_i_m1 ?_
        refine g_icmp_eq 79 75 hX dX12_join_72 (by decide) rfl (fun _ => ?_) (fun _ => ?_)
        · refine g_iconst 80 hX 0 dX12_join_79 rfl kc_i_0 ?_
          refine g_lv [1, 2, 3, 0] rfl ?_
          exact k_X12_join_80 hX hr N r3.2 a0 x1 x2 r4 a0 0
        · refine g_lv [1, 2, 3, 0] rfl ?_
          exact k_X12_join_75 hX hr N r3.2 a0 x1 x2 r4 a0
  · refine g_iconst 43 hX 0 dX12_join_42 rfl kc_i_0 ?_
    exact g_iret hX hr rfl (Nat.le_refl 0) (Nat.le_refl 0) dX12_join_43
set_option maxRecDepth 100000 in
set_option maxHeartbeats 4000000 in
theorem k_X12_join_30 {p : Program} {l : Launch} {e : Env} {s : State} {m : MethodId} {args : Array Value} {below : List Frame} {meth : Method} {c : Code} {g : kG} (hX : Cok (p, l, e, { frames := 2 * 4, cells := 0, slots := 0, locals := 60 * 4 }, s, m, args, below, meth, c, cX12_join, 4, RX12, g, 4)) (hr : meth.sig.returnType = (some .int)) (N : Nat) : ∀ (M : kMem) (a0 : Nat) (x1 : Int32) (x2 : Int32) (y0 : Nat), GG (p, l, e, { frames := 2 * 4, cells := 0, slots := 0, locals := 60 * 4 }, s, m, args, below, meth, c, cX12_join, 4, RX12, g, 4) (fun b => MQ below (kQ g ((fun r : Int32 × kMem => (some (.int r.1), r.2)) b)) args s 0 0 (kZ g.2.2.1)) 0 0 (F_X12_join_30 N M a0 x1 x2 y0) 30 [(0, .ref a0), (1, .int x1), (2, .int x2)] [.ref y0] M := by
  intro M a0 x1 x2 y0
  unfold F_X12_join_30
  refine g_iconst 31 hX 1 dX12_join_30 rfl kc_i_1 ?_
  refine g_goto 35 hX dX12_join_31 (by decide) ?_
  exact k_X12_join_35 hX hr N M a0 x1 x2 y0 1
set_option maxRecDepth 100000 in
set_option maxHeartbeats 4000000 in
theorem k_X12_join (l : Launch) (g : kG) (N : Nat) (M : kMem) (a0 : Nat) (x1 : Int32) (x2 : Int32) : kMet l g yX12_join cX12_join 4 (some .int) 4 0 0 [.ref a0, .int x1, .int x2] M (fun r : Int32 × kMem => (some (.int r.1), r.2)) (F_X12_join N M a0 x1 x2) := by
  refine k_of (lv := [(0, .ref a0), (1, .int x1), (2, .int x2)]) RX12 (by decide) rfl rfl (Nat.le_of_ble_eq_true rfl) ?_
  intro p e s m args below meth c hX hr _
  unfold F_X12_join
  refine g_aload_n 1 0 hX dX12_join_0 rfl rfl ?_
  refine g_iconst 2 hX 0 dX12_join_1 rfl kc_i_0 ?_
  refine p_X12_63 5 hX dX12_join_2 rfl ?_
  refine g_klM (fun M1 hM1 => ?_)
  refine g_aload_n 6 0 hX dX12_join_5 rfl rfl ?_
  refine g_iload_n 7 1 hX dX12_join_6 rfl rfl ?_
  refine g_i2l 8 hX dX12_join_7 rfl ?_
  refine g_lconst 9 hX 1 dX12_join_8 rfl rfl ?_
  refine g_ldc2 12 hX 99 dX12_join_9 rfl q_2084 ?_
  refine g_callS_ip 15 hX (k_X12_in l g N M1 x1.toInt64 1 99) lk_X12_in q_1754 (by omega) rfl (Nat.le_of_ble_eq_true rfl) (Nat.zero_le _) (Nat.zero_le _) dX12_join_12 rfl (fun r2 => ?_)
  refine g_if_eq 30 18 hX dX12_join_15 (by decide) rfl (fun _ => ?_) (fun _ => ?_)
  · exact k_X12_join_30 hX hr N M1 a0 x1 x2 a0
  · refine g_iload_n 19 2 hX dX12_join_18 rfl rfl ?_
    refine g_i2l 20 hX dX12_join_19 rfl ?_
    refine g_lconst 21 hX 0 dX12_join_20 rfl rfl ?_
    refine g_ldc2 24 hX 9999 dX12_join_21 rfl q_2085 ?_
    refine g_callS_ip 27 hX (k_X12_in l g N M1 x2.toInt64 0 9999) lk_X12_in q_1754 (by omega) rfl (Nat.le_of_ble_eq_true rfl) (Nat.zero_le _) (Nat.zero_le _) dX12_join_24 rfl (fun r10 => ?_)
    refine g_if_ne 34 30 hX dX12_join_27 (by decide) rfl (fun _ => ?_) (fun _ => ?_)
    · refine g_iconst 35 hX 0 dX12_join_34 rfl kc_i_0 ?_
      exact k_X12_join_35 hX hr N M1 a0 x1 x2 a0 0
    · exact k_X12_join_30 hX hr N M1 a0 x1 x2 a0
set_option maxRecDepth 100000 in
set_option maxHeartbeats 4000000 in
theorem k_X12_buySeat_38 {p : Program} {l : Launch} {e : Env} {s : State} {m : MethodId} {args : Array Value} {below : List Frame} {meth : Method} {c : Code} {g : kG} (hX : Cok (p, l, e, { frames := 2 * 8, cells := 0, slots := 0, locals := 60 * 8 }, s, m, args, below, meth, c, cX12_buySeat, 4, RX12, g, 8)) (hr : meth.sig.returnType = (some .int)) (N : Nat) : ∀ (M : kMem) (a0 : Nat) (x1 : Int32) (x2 : Int32) (x3 : Int32) (y0 : Nat) (y1 : Int32), GG (p, l, e, { frames := 2 * 8, cells := 0, slots := 0, locals := 60 * 8 }, s, m, args, below, meth, c, cX12_buySeat, 4, RX12, g, 8) (fun b => MQ below (kQ g ((fun r : Int32 × kMem => (some (.int r.1), r.2)) b)) args s 0 0 (kZ g.2.2.1)) 0 0 (F_X12_buySeat_38 N M a0 x1 x2 x3 y0 y1) 38 [(0, .ref a0), (1, .int x1), (2, .int x2), (3, .int x3)] [.int y1, .ref y0] M := by
  intro M a0 x1 x2 x3 y0 y1
  unfold F_X12_buySeat_38
  refine g_iconst 39 hX 2 dX12_buySeat_38 rfl kc_i_2 ?_
  refine g_callV_i 42 hX (k_X12_stops l g N M y0 y1 2) lk_X12_stops rfl (ci := 12) rfl (Nat.le_of_ble_eq_true rfl) q_1742 q_42 (by omega) rfl (Nat.le_of_ble_eq_true rfl) (Nat.zero_le _) (Nat.zero_le _) dX12_buySeat_39 rfl (fun r5 => ?_)
  refine g_if_eq 47 45 hX dX12_buySeat_42 (by decide) rfl (fun _ => ?_) (fun _ => ?_)
  · refine g_aload_n 48 0 hX dX12_buySeat_47 rfl rfl ?_
    refine g_callV_v 51 hX (k_X12_keepsPast l g N r5.2 a0) lk_X12_keepsPast rfl (ci := 12) rfl (Nat.le_of_ble_eq_true rfl) q_2068 q_109 (by omega) rfl (Nat.le_of_ble_eq_true rfl) (Nat.zero_le _) (Nat.zero_le _) dX12_buySeat_48 rfl (fun M6 => ?_)
    refine g_aload_n 52 0 hX dX12_buySeat_51 rfl rfl ?_
    refine g_iload_n 53 1 hX dX12_buySeat_52 rfl rfl ?_
    refine g_iload_n 54 2 hX dX12_buySeat_53 rfl rfl ?_
    refine g_iload_n 55 3 hX dX12_buySeat_54 rfl rfl ?_
    refine g_callV_i 58 hX (k_X12_buys l g N M6 a0 x1 x2 x3) lk_X12_buys rfl (ci := 12) rfl (Nat.le_of_ble_eq_true rfl) q_1980 q_87 (by omega) rfl (Nat.le_of_ble_eq_true rfl) (Nat.zero_le _) (Nat.zero_le _) dX12_buySeat_55 rfl (fun r7 => ?_)
    exact g_iret hX hr rfl (Nat.le_refl 0) (Nat.le_refl 0) dX12_buySeat_58
  · refine g_iconst 46 hX 0 dX12_buySeat_45 rfl kc_i_0 ?_
    exact g_iret hX hr rfl (Nat.le_refl 0) (Nat.le_refl 0) dX12_buySeat_46
set_option maxRecDepth 100000 in
set_option maxHeartbeats 4000000 in
theorem k_X12_buySeat (l : Launch) (g : kG) (N : Nat) (M : kMem) (a0 : Nat) (x1 : Int32) (x2 : Int32) (x3 : Int32) : kMet l g yX12_buySeat cX12_buySeat 4 (some .int) 8 0 0 [.ref a0, .int x1, .int x2, .int x3] M (fun r : Int32 × kMem => (some (.int r.1), r.2)) (F_X12_buySeat N M a0 x1 x2 x3) := by
  refine k_of (lv := [(0, .ref a0), (1, .int x1), (2, .int x2), (3, .int x3)]) RX12 (by decide) rfl rfl (Nat.le_of_ble_eq_true rfl) ?_
  intro p e s m args below meth c hX hr _
  unfold F_X12_buySeat
  refine g_aload_n 1 0 hX dX12_buySeat_0 rfl rfl ?_
  refine g_iconst 2 hX 0 dX12_buySeat_1 rfl kc_i_0 ?_
  refine p_X12_63 5 hX dX12_buySeat_2 rfl ?_
  refine g_klM (fun M1 hM1 => ?_)
  refine g_aload_n 6 0 hX dX12_buySeat_5 rfl rfl ?_
  refine g_iload_n 7 1 hX dX12_buySeat_6 rfl rfl ?_
  refine g_callV_i 10 hX (k_X12_noTrader l g N M1 a0 x1) lk_X12_noTrader rfl (ci := 12) rfl (Nat.le_of_ble_eq_true rfl) q_2094 q_111 (by omega) rfl (Nat.le_of_ble_eq_true rfl) (Nat.zero_le _) (Nat.zero_le _) dX12_buySeat_7 rfl (fun r2 => ?_)
  refine g_if_ne 45 13 hX dX12_buySeat_10 (by decide) rfl (fun _ => ?_) (fun _ => ?_)
  · refine g_iconst 46 hX 0 dX12_buySeat_45 rfl kc_i_0 ?_
    exact g_iret hX hr rfl (Nat.le_refl 0) (Nat.le_refl 0) dX12_buySeat_46
  · refine g_aload_n 14 0 hX dX12_buySeat_13 rfl rfl ?_
    refine g_iload_n 15 2 hX dX12_buySeat_14 rfl rfl ?_
    refine g_iload_n 16 3 hX dX12_buySeat_15 rfl rfl ?_
    refine g_callV_i 19 hX (k_X12_noSeat l g N r2.2 a0 x2 x3) lk_X12_noSeat rfl (ci := 12) rfl (Nat.le_of_ble_eq_true rfl) q_2098 q_112 (by omega) rfl (Nat.le_of_ble_eq_true rfl) (Nat.zero_le _) (Nat.zero_le _) dX12_buySeat_16 rfl (fun r3 => ?_)
    refine g_if_ne 45 22 hX dX12_buySeat_19 (by decide) rfl (fun _ => ?_) (fun _ => ?_)
    · refine g_iconst 46 hX 0 dX12_buySeat_45 rfl kc_i_0 ?_
      exact g_iret hX hr rfl (Nat.le_refl 0) (Nat.le_refl 0) dX12_buySeat_46
    · refine g_aload_n 23 0 hX dX12_buySeat_22 rfl rfl ?_
      refine g_aload_n 24 0 hX dX12_buySeat_23 rfl rfl ?_
      refine g_iload_n 25 1 hX dX12_buySeat_24 rfl rfl ?_
      refine g_iload_n 26 2 hX dX12_buySeat_25 rfl rfl ?_
      refine g_iload_n 27 3 hX dX12_buySeat_26 rfl rfl ?_
      refine g_callV_ip 30 hX (k_X12_againstSeat l g N r3.2 a0 x1 x2 x3) lk_X12_againstSeat rfl (ci := 12) rfl (Nat.le_of_ble_eq_true rfl) q_1946 q_80 (by omega) rfl (Nat.le_of_ble_eq_true rfl) (Nat.zero_le _) (Nat.zero_le _) dX12_buySeat_27 rfl (fun r4 => ?_)
      refine g_if_eq 37 33 hX dX12_buySeat_30 (by decide) rfl (fun _ => ?_) (fun _ => ?_)
      · refine g_iconst 38 hX 0 dX12_buySeat_37 rfl kc_i_0 ?_
        exact k_X12_buySeat_38 hX hr N r3.2 a0 x1 x2 x3 a0 0
      · refine g_iconst 34 hX 1 dX12_buySeat_33 rfl kc_i_1 ?_
        refine g_goto 38 hX dX12_buySeat_34 (by decide) ?_
        exact k_X12_buySeat_38 hX hr N r3.2 a0 x1 x2 x3 a0 1
set_option maxRecDepth 100000 in
set_option maxHeartbeats 4000000 in
theorem k_X12_leaveSeat_27 {p : Program} {l : Launch} {e : Env} {s : State} {m : MethodId} {args : Array Value} {below : List Frame} {meth : Method} {c : Code} {g : kG} (hX : Cok (p, l, e, { frames := 2 * 6, cells := 0, slots := 0, locals := 60 * 6 }, s, m, args, below, meth, c, cX12_leaveSeat, 2, RX12, g, 6)) (hr : meth.sig.returnType = (some .int)) (N : Nat) : ∀ (M : kMem) (a0 : Nat) (x1 : Int32) (y0 : Nat) (y1 : Int32), GG (p, l, e, { frames := 2 * 6, cells := 0, slots := 0, locals := 60 * 6 }, s, m, args, below, meth, c, cX12_leaveSeat, 2, RX12, g, 6) (fun b => MQ below (kQ g ((fun r : Int32 × kMem => (some (.int r.1), r.2)) b)) args s 0 0 (kZ g.2.2.1)) 0 0 (F_X12_leaveSeat_27 N M a0 x1 y0 y1) 27 [(0, .ref a0), (1, .int x1)] [.int y1, .ref y0] M := by
  intro M a0 x1 y0 y1
  unfold F_X12_leaveSeat_27
  refine g_iconst 28 hX 2 dX12_leaveSeat_27 rfl kc_i_2 ?_
  refine g_callV_i 31 hX (k_X12_stops l g N M y0 y1 2) lk_X12_stops rfl (ci := 12) rfl (Nat.le_of_ble_eq_true rfl) q_1742 q_42 (by omega) rfl (Nat.le_of_ble_eq_true rfl) (Nat.zero_le _) (Nat.zero_le _) dX12_leaveSeat_28 rfl (fun r4 => ?_)
  refine g_if_eq 36 34 hX dX12_leaveSeat_31 (by decide) rfl (fun _ => ?_) (fun _ => ?_)
  · refine g_aload_n 37 0 hX dX12_leaveSeat_36 rfl rfl ?_
    refine g_callV_v 40 hX (k_X12_keepsPast l g N r4.2 a0) lk_X12_keepsPast rfl (ci := 12) rfl (Nat.le_of_ble_eq_true rfl) q_2068 q_109 (by omega) rfl (Nat.le_of_ble_eq_true rfl) (Nat.zero_le _) (Nat.zero_le _) dX12_leaveSeat_37 rfl (fun M5 => ?_)
    refine g_aload_n 41 0 hX dX12_leaveSeat_40 rfl rfl ?_
    refine g_iload_n 42 1 hX dX12_leaveSeat_41 rfl rfl ?_
    refine g_callV_i 45 hX (k_X12_leaves l g N M5 a0 x1) lk_X12_leaves rfl (ci := 12) rfl (Nat.le_of_ble_eq_true rfl) q_1996 q_91 (by omega) rfl (Nat.le_of_ble_eq_true rfl) (Nat.zero_le _) (Nat.zero_le _) dX12_leaveSeat_42 rfl (fun r6 => ?_)
    exact g_iret hX hr rfl (Nat.le_refl 0) (Nat.le_refl 0) dX12_leaveSeat_45
  · refine g_iconst 35 hX 0 dX12_leaveSeat_34 rfl kc_i_0 ?_
    exact g_iret hX hr rfl (Nat.le_refl 0) (Nat.le_refl 0) dX12_leaveSeat_35
set_option maxRecDepth 100000 in
set_option maxHeartbeats 4000000 in
theorem k_X12_leaveSeat (l : Launch) (g : kG) (N : Nat) (M : kMem) (a0 : Nat) (x1 : Int32) : kMet l g yX12_leaveSeat cX12_leaveSeat 2 (some .int) 6 0 0 [.ref a0, .int x1] M (fun r : Int32 × kMem => (some (.int r.1), r.2)) (F_X12_leaveSeat N M a0 x1) := by
  refine k_of (lv := [(0, .ref a0), (1, .int x1)]) RX12 (by decide) rfl rfl (Nat.le_of_ble_eq_true rfl) ?_
  intro p e s m args below meth c hX hr _
  unfold F_X12_leaveSeat
  refine g_aload_n 1 0 hX dX12_leaveSeat_0 rfl rfl ?_
  refine g_iconst 2 hX 0 dX12_leaveSeat_1 rfl kc_i_0 ?_
  refine p_X12_63 5 hX dX12_leaveSeat_2 rfl ?_
  refine g_klM (fun M1 hM1 => ?_)
  refine g_aload_n 6 0 hX dX12_leaveSeat_5 rfl rfl ?_
  refine g_iload_n 7 1 hX dX12_leaveSeat_6 rfl rfl ?_
  refine g_callV_i 10 hX (k_X12_noTrader l g N M1 a0 x1) lk_X12_noTrader rfl (ci := 12) rfl (Nat.le_of_ble_eq_true rfl) q_2094 q_111 (by omega) rfl (Nat.le_of_ble_eq_true rfl) (Nat.zero_le _) (Nat.zero_le _) dX12_leaveSeat_7 rfl (fun r2 => ?_)
  refine g_if_ne 34 13 hX dX12_leaveSeat_10 (by decide) rfl (fun _ => ?_) (fun _ => ?_)
  · refine g_iconst 35 hX 0 dX12_leaveSeat_34 rfl kc_i_0 ?_
    exact g_iret hX hr rfl (Nat.le_refl 0) (Nat.le_refl 0) dX12_leaveSeat_35
  · refine g_aload_n 14 0 hX dX12_leaveSeat_13 rfl rfl ?_
    refine g_aload_n 15 0 hX dX12_leaveSeat_14 rfl rfl ?_
    refine g_iload_n 16 1 hX dX12_leaveSeat_15 rfl rfl ?_
    refine g_callV_ip 19 hX (k_X12_isSeated l g N r2.2 a0 x1) lk_X12_isSeated rfl (ci := 12) rfl (Nat.le_of_ble_eq_true rfl) q_1857 q_62 (by omega) rfl (Nat.le_of_ble_eq_true rfl) (Nat.zero_le _) (Nat.zero_le _) dX12_leaveSeat_16 rfl (fun r3 => ?_)
    refine g_if_ne 26 22 hX dX12_leaveSeat_19 (by decide) rfl (fun _ => ?_) (fun _ => ?_)
    · refine g_iconst 27 hX 0 dX12_leaveSeat_26 rfl kc_i_0 ?_
      exact k_X12_leaveSeat_27 hX hr N r2.2 a0 x1 a0 0
    · refine g_iconst 23 hX 1 dX12_leaveSeat_22 rfl kc_i_1 ?_
      refine g_goto 27 hX dX12_leaveSeat_23 (by decide) ?_
      exact k_X12_leaveSeat_27 hX hr N r2.2 a0 x1 a0 1
set_option maxRecDepth 100000 in
set_option maxHeartbeats 4000000 in
theorem k_X12_noSale (l : Launch) (g : kG) (N : Nat) (M : kMem) (a0 : Nat) (x1 : Int32) (x2 : Int32) (x3 : Int32) : kMet l g yX12_noSale cX12_noSale 4 (some .boolean) 3 0 0 [.ref a0, .int x1, .int x2, .int x3] M (fun r : Int32 × kMem => (some (.int r.1), r.2)) (F_X12_noSale N M a0 x1 x2 x3) := by
  refine k_of (lv := [(0, .ref a0), (1, .int x1), (2, .int x2), (3, .int x3)]) RX12 (by decide) rfl rfl (Nat.le_of_ble_eq_true rfl) ?_
  intro p e s m args below meth c hX hr _
  unfold F_X12_noSale
  refine g_aload_n 1 0 hX dX12_noSale_0 rfl rfl ?_
  refine g_iload_n 2 1 hX dX12_noSale_1 rfl rfl ?_
  refine g_callV_i 5 hX (k_X12_noTrader l g N M a0 x1) lk_X12_noTrader rfl (ci := 12) rfl (Nat.le_of_ble_eq_true rfl) q_2094 q_111 (by omega) rfl (Nat.le_of_ble_eq_true rfl) (Nat.zero_le _) (Nat.zero_le _) dX12_noSale_2 rfl (fun r1 => ?_)
  refine g_if_ne 46 8 hX dX12_noSale_5 (by decide) rfl (fun _ => ?_) (fun _ => ?_)
  · refine g_iconst 47 hX 1 dX12_noSale_46 rfl kc_i_1 ?_
    refine g_goto 51 hX dX12_noSale_47 (by decide) ?_
    exact g_zretL hX hr rfl rfl (Nat.le_refl 0) (Nat.le_refl 0) dX12_noSale_51
  · refine g_aload_n 9 0 hX dX12_noSale_8 rfl rfl ?_
    refine g_iload_n 10 2 hX dX12_noSale_9 rfl rfl ?_
    refine g_callV_i 13 hX (k_X12_noTrader l g N r1.2 a0 x2) lk_X12_noTrader rfl (ci := 12) rfl (Nat.le_of_ble_eq_true rfl) q_2094 q_111 (by omega) rfl (Nat.le_of_ble_eq_true rfl) (Nat.zero_le _) (Nat.zero_le _) dX12_noSale_10 rfl (fun r2 => ?_)
    refine g_if_ne 46 16 hX dX12_noSale_13 (by decide) rfl (fun _ => ?_) (fun _ => ?_)
    · refine g_iconst 47 hX 1 dX12_noSale_46 rfl kc_i_1 ?_
      refine g_goto 51 hX dX12_noSale_47 (by decide) ?_
      exact g_zretL hX hr rfl rfl (Nat.le_refl 0) (Nat.le_refl 0) dX12_noSale_51
    · refine g_aload_n 17 0 hX dX12_noSale_16 rfl rfl ?_
      refine g_iload_n 18 1 hX dX12_noSale_17 rfl rfl ?_
      refine g_iload_n 19 2 hX dX12_noSale_18 rfl rfl ?_
      refine g_icmp_eq 34 22 hX dX12_noSale_19 (by decide) rfl (fun _ => ?_) (fun _ => ?_)
      · refine g_iconst 35 hX 1 dX12_noSale_34 rfl kc_i_1 ?_
        refine g_goto 39 hX dX12_noSale_35 (by decide) ?_
        refine g_iconst 40 hX 2 dX12_noSale_39 rfl kc_i_2 ?_
        refine g_callV_i 43 hX (k_X12_stops l g N r2.2 a0 1 2) lk_X12_stops rfl (ci := 12) rfl (Nat.le_of_ble_eq_true rfl) q_1742 q_42 (by omega) rfl (Nat.le_of_ble_eq_true rfl) (Nat.zero_le _) (Nat.zero_le _) dX12_noSale_40 rfl (fun r3 => ?_)
        refine g_if_eq 50 46 hX dX12_noSale_43 (by decide) rfl (fun _ => ?_) (fun _ => ?_)
        · refine g_iconst 51 hX 0 dX12_noSale_50 rfl kc_i_0 ?_
          exact g_zretL hX hr rfl rfl (Nat.le_refl 0) (Nat.le_refl 0) dX12_noSale_51
        · refine g_iconst 47 hX 1 dX12_noSale_46 rfl kc_i_1 ?_
          refine g_goto 51 hX dX12_noSale_47 (by decide) ?_
          exact g_zretL hX hr rfl rfl (Nat.le_refl 0) (Nat.le_refl 0) dX12_noSale_51
      · refine g_iload_n 23 3 hX dX12_noSale_22 rfl rfl ?_
        refine g_i2l 24 hX dX12_noSale_23 rfl ?_
        refine g_lconst 25 hX 1 dX12_noSale_24 rfl rfl ?_
        refine g_ldc2 28 hX 50 dX12_noSale_25 rfl q_2118 ?_
        refine g_callS_ip 31 hX (k_X12_in l g N r2.2 x3.toInt64 1 50) lk_X12_in q_1754 (by omega) rfl (Nat.le_of_ble_eq_true rfl) (Nat.zero_le _) (Nat.zero_le _) dX12_noSale_28 rfl (fun r4 => ?_)
        refine g_if_ne 38 34 hX dX12_noSale_31 (by decide) rfl (fun _ => ?_) (fun _ => ?_)
        · refine g_iconst 39 hX 0 dX12_noSale_38 rfl kc_i_0 ?_
          refine g_iconst 40 hX 2 dX12_noSale_39 rfl kc_i_2 ?_
          refine g_callV_i 43 hX (k_X12_stops l g N r2.2 a0 0 2) lk_X12_stops rfl (ci := 12) rfl (Nat.le_of_ble_eq_true rfl) q_1742 q_42 (by omega) rfl (Nat.le_of_ble_eq_true rfl) (Nat.zero_le _) (Nat.zero_le _) dX12_noSale_40 rfl (fun r5 => ?_)
          refine g_if_eq 50 46 hX dX12_noSale_43 (by decide) rfl (fun _ => ?_) (fun _ => ?_)
          · refine g_iconst 51 hX 0 dX12_noSale_50 rfl kc_i_0 ?_
            exact g_zretL hX hr rfl rfl (Nat.le_refl 0) (Nat.le_refl 0) dX12_noSale_51
          · refine g_iconst 47 hX 1 dX12_noSale_46 rfl kc_i_1 ?_
            refine g_goto 51 hX dX12_noSale_47 (by decide) ?_
            exact g_zretL hX hr rfl rfl (Nat.le_refl 0) (Nat.le_refl 0) dX12_noSale_51
        · refine g_iconst 35 hX 1 dX12_noSale_34 rfl kc_i_1 ?_
          refine g_goto 39 hX dX12_noSale_35 (by decide) ?_
          refine g_iconst 40 hX 2 dX12_noSale_39 rfl kc_i_2 ?_
          refine g_callV_i 43 hX (k_X12_stops l g N r2.2 a0 1 2) lk_X12_stops rfl (ci := 12) rfl (Nat.le_of_ble_eq_true rfl) q_1742 q_42 (by omega) rfl (Nat.le_of_ble_eq_true rfl) (Nat.zero_le _) (Nat.zero_le _) dX12_noSale_40 rfl (fun r6 => ?_)
          refine g_if_eq 50 46 hX dX12_noSale_43 (by decide) rfl (fun _ => ?_) (fun _ => ?_)
          · refine g_iconst 51 hX 0 dX12_noSale_50 rfl kc_i_0 ?_
            exact g_zretL hX hr rfl rfl (Nat.le_refl 0) (Nat.le_refl 0) dX12_noSale_51
          · refine g_iconst 47 hX 1 dX12_noSale_46 rfl kc_i_1 ?_
            refine g_goto 51 hX dX12_noSale_47 (by decide) ?_
            exact g_zretL hX hr rfl rfl (Nat.le_refl 0) (Nat.le_refl 0) dX12_noSale_51
set_option maxRecDepth 100000 in
set_option maxHeartbeats 4000000 in
theorem k_X12_sellWeight_31 {p : Program} {l : Launch} {e : Env} {s : State} {m : MethodId} {args : Array Value} {below : List Frame} {meth : Method} {c : Code} {g : kG} (hX : Cok (p, l, e, { frames := 2 * 9, cells := 0, slots := 0, locals := 60 * 9 }, s, m, args, below, meth, c, cX12_sellWeight, 4, RX12, g, 9)) (hr : meth.sig.returnType = (some .int)) (N : Nat) : ∀ (M : kMem) (a0 : Nat) (x1 : Int32) (x2 : Int32) (x3 : Int32) (y0 : Nat) (y1 : Int32), GG (p, l, e, { frames := 2 * 9, cells := 0, slots := 0, locals := 60 * 9 }, s, m, args, below, meth, c, cX12_sellWeight, 4, RX12, g, 9) (fun b => MQ below (kQ g ((fun r : Int32 × kMem => (some (.int r.1), r.2)) b)) args s 0 0 (kZ g.2.2.1)) 0 0 (F_X12_sellWeight_31 N M a0 x1 x2 x3 y0 y1) 31 [(0, .ref a0), (1, .int x1), (2, .int x2), (3, .int x3)] [.int y1, .ref y0] M := by
  intro M a0 x1 x2 x3 y0 y1
  unfold F_X12_sellWeight_31
  refine g_iconst 32 hX 3 dX12_sellWeight_31 rfl kc_i_3 ?_
  refine g_callV_i 35 hX (k_X12_stops l g N M y0 y1 3) lk_X12_stops rfl (ci := 12) rfl (Nat.le_of_ble_eq_true rfl) q_1742 q_42 (by omega) rfl (Nat.le_of_ble_eq_true rfl) (Nat.zero_le _) (Nat.zero_le _) dX12_sellWeight_32 rfl (fun r4 => ?_)
  refine g_if_eq 40 38 hX dX12_sellWeight_35 (by decide) rfl (fun _ => ?_) (fun _ => ?_)
  · refine g_aload_n 41 0 hX dX12_sellWeight_40 rfl rfl ?_
    refine g_callV_v 44 hX (k_X12_keepsPast l g N r4.2 a0) lk_X12_keepsPast rfl (ci := 12) rfl (Nat.le_of_ble_eq_true rfl) q_2068 q_109 (by omega) rfl (Nat.le_of_ble_eq_true rfl) (Nat.zero_le _) (Nat.zero_le _) dX12_sellWeight_41 rfl (fun M5 => ?_)
    refine g_aload_n 45 0 hX dX12_sellWeight_44 rfl rfl ?_
    refine g_iload_n 46 1 hX dX12_sellWeight_45 rfl rfl ?_
    refine g_iload_n 47 2 hX dX12_sellWeight_46 rfl rfl ?_
    refine g_iload_n 48 3 hX dX12_sellWeight_47 rfl rfl ?_
    refine g_callV_i 51 hX (k_X12_sells l g N M5 a0 x1 x2 x3) lk_X12_sells rfl (ci := 12) rfl (Nat.le_of_ble_eq_true rfl) q_2028 q_99 (by omega) rfl (Nat.le_of_ble_eq_true rfl) (Nat.zero_le _) (Nat.zero_le _) dX12_sellWeight_48 rfl (fun r6 => ?_)
    exact g_iret hX hr rfl (Nat.le_refl 0) (Nat.le_refl 0) dX12_sellWeight_51
  · refine g_iconst 39 hX 0 dX12_sellWeight_38 rfl kc_i_0 ?_
    exact g_iret hX hr rfl (Nat.le_refl 0) (Nat.le_refl 0) dX12_sellWeight_39
set_option maxRecDepth 100000 in
set_option maxHeartbeats 4000000 in
theorem k_X12_sellWeight (l : Launch) (g : kG) (N : Nat) (M : kMem) (a0 : Nat) (x1 : Int32) (x2 : Int32) (x3 : Int32) : kMet l g yX12_sellWeight cX12_sellWeight 4 (some .int) 9 0 0 [.ref a0, .int x1, .int x2, .int x3] M (fun r : Int32 × kMem => (some (.int r.1), r.2)) (F_X12_sellWeight N M a0 x1 x2 x3) := by
  refine k_of (lv := [(0, .ref a0), (1, .int x1), (2, .int x2), (3, .int x3)]) RX12 (by decide) rfl rfl (Nat.le_of_ble_eq_true rfl) ?_
  intro p e s m args below meth c hX hr _
  unfold F_X12_sellWeight
  refine g_aload_n 1 0 hX dX12_sellWeight_0 rfl rfl ?_
  refine g_iconst 2 hX 0 dX12_sellWeight_1 rfl kc_i_0 ?_
  refine p_X12_63 5 hX dX12_sellWeight_2 rfl ?_
  refine g_klM (fun M1 hM1 => ?_)
  refine g_aload_n 6 0 hX dX12_sellWeight_5 rfl rfl ?_
  refine g_iload_n 7 1 hX dX12_sellWeight_6 rfl rfl ?_
  refine g_iload_n 8 2 hX dX12_sellWeight_7 rfl rfl ?_
  refine g_iload_n 9 3 hX dX12_sellWeight_8 rfl rfl ?_
  refine g_callV_i 12 hX (k_X12_noSale l g N M1 a0 x1 x2 x3) lk_X12_noSale rfl (ci := 12) rfl (Nat.le_of_ble_eq_true rfl) q_2114 q_114 (by omega) rfl (Nat.le_of_ble_eq_true rfl) (Nat.zero_le _) (Nat.zero_le _) dX12_sellWeight_9 rfl (fun r2 => ?_)
  refine g_if_ne 38 15 hX dX12_sellWeight_12 (by decide) rfl (fun _ => ?_) (fun _ => ?_)
  · refine g_iconst 39 hX 0 dX12_sellWeight_38 rfl kc_i_0 ?_
    exact g_iret hX hr rfl (Nat.le_refl 0) (Nat.le_refl 0) dX12_sellWeight_39
  · refine g_aload_n 16 0 hX dX12_sellWeight_15 rfl rfl ?_
    refine g_aload_n 17 0 hX dX12_sellWeight_16 rfl rfl ?_
    refine g_iload_n 18 1 hX dX12_sellWeight_17 rfl rfl ?_
    refine g_iload_n 19 2 hX dX12_sellWeight_18 rfl rfl ?_
    refine g_iload_n 20 3 hX dX12_sellWeight_19 rfl rfl ?_
    refine g_callV_ip 23 hX (k_X12_againstSale l g N r2.2 a0 x1 x2 x3) lk_X12_againstSale rfl (ci := 12) rfl (Nat.le_of_ble_eq_true rfl) q_2008 q_94 (by omega) rfl (Nat.le_of_ble_eq_true rfl) (Nat.zero_le _) (Nat.zero_le _) dX12_sellWeight_20 rfl (fun r3 => ?_)
    refine g_if_eq 30 26 hX dX12_sellWeight_23 (by decide) rfl (fun _ => ?_) (fun _ => ?_)
    · refine g_iconst 31 hX 0 dX12_sellWeight_30 rfl kc_i_0 ?_
      exact k_X12_sellWeight_31 hX hr N r2.2 a0 x1 x2 x3 a0 0
    · refine g_iconst 27 hX 1 dX12_sellWeight_26 rfl kc_i_1 ?_
      refine g_goto 31 hX dX12_sellWeight_27 (by decide) ?_
      exact k_X12_sellWeight_31 hX hr N r2.2 a0 x1 x2 x3 a0 1
set_option maxRecDepth 100000 in
set_option maxHeartbeats 4000000 in
theorem k_X12_noPair (l : Launch) (g : kG) (N : Nat) (M : kMem) (a0 : Nat) (x1 : Int32) (x2 : Int32) : kMet l g yX12_noPair cX12_noPair 3 (some .boolean) 3 0 0 [.ref a0, .int x1, .int x2] M (fun r : Int32 × kMem => (some (.int r.1), r.2)) (F_X12_noPair N M a0 x1 x2) := by
  refine k_of (lv := [(0, .ref a0), (1, .int x1), (2, .int x2)]) RX12 (by decide) rfl rfl (Nat.le_of_ble_eq_true rfl) ?_
  intro p e s m args below meth c hX hr _
  unfold F_X12_noPair
  refine g_aload_n 1 0 hX dX12_noPair_0 rfl rfl ?_
  refine g_iload_n 2 1 hX dX12_noPair_1 rfl rfl ?_
  refine g_callV_i 5 hX (k_X12_noTrader l g N M a0 x1) lk_X12_noTrader rfl (ci := 12) rfl (Nat.le_of_ble_eq_true rfl) q_2094 q_111 (by omega) rfl (Nat.le_of_ble_eq_true rfl) (Nat.zero_le _) (Nat.zero_le _) dX12_noPair_2 rfl (fun r1 => ?_)
  refine g_if_ne 34 8 hX dX12_noPair_5 (by decide) rfl (fun _ => ?_) (fun _ => ?_)
  · refine g_iconst 35 hX 1 dX12_noPair_34 rfl kc_i_1 ?_
    refine g_goto 39 hX dX12_noPair_35 (by decide) ?_
    exact g_zretL hX hr rfl rfl (Nat.le_refl 0) (Nat.le_refl 0) dX12_noPair_39
  · refine g_aload_n 9 0 hX dX12_noPair_8 rfl rfl ?_
    refine g_iload_n 10 2 hX dX12_noPair_9 rfl rfl ?_
    refine g_callV_i 13 hX (k_X12_noTrader l g N r1.2 a0 x2) lk_X12_noTrader rfl (ci := 12) rfl (Nat.le_of_ble_eq_true rfl) q_2094 q_111 (by omega) rfl (Nat.le_of_ble_eq_true rfl) (Nat.zero_le _) (Nat.zero_le _) dX12_noPair_10 rfl (fun r2 => ?_)
    refine g_if_ne 34 16 hX dX12_noPair_13 (by decide) rfl (fun _ => ?_) (fun _ => ?_)
    · refine g_iconst 35 hX 1 dX12_noPair_34 rfl kc_i_1 ?_
      refine g_goto 39 hX dX12_noPair_35 (by decide) ?_
      exact g_zretL hX hr rfl rfl (Nat.le_refl 0) (Nat.le_refl 0) dX12_noPair_39
    · refine g_aload_n 17 0 hX dX12_noPair_16 rfl rfl ?_
      refine g_iload_n 18 1 hX dX12_noPair_17 rfl rfl ?_
      refine g_iload_n 19 2 hX dX12_noPair_18 rfl rfl ?_
      refine g_icmp_ne 26 22 hX dX12_noPair_19 (by decide) rfl (fun _ => ?_) (fun _ => ?_)
      · refine g_iconst 27 hX 0 dX12_noPair_26 rfl kc_i_0 ?_
        refine g_iconst 28 hX 2 dX12_noPair_27 rfl kc_i_2 ?_
        refine g_callV_i 31 hX (k_X12_stops l g N r2.2 a0 0 2) lk_X12_stops rfl (ci := 12) rfl (Nat.le_of_ble_eq_true rfl) q_1742 q_42 (by omega) rfl (Nat.le_of_ble_eq_true rfl) (Nat.zero_le _) (Nat.zero_le _) dX12_noPair_28 rfl (fun r3 => ?_)
        refine g_if_eq 38 34 hX dX12_noPair_31 (by decide) rfl (fun _ => ?_) (fun _ => ?_)
        · refine g_iconst 39 hX 0 dX12_noPair_38 rfl kc_i_0 ?_
          exact g_zretL hX hr rfl rfl (Nat.le_refl 0) (Nat.le_refl 0) dX12_noPair_39
        · refine g_iconst 35 hX 1 dX12_noPair_34 rfl kc_i_1 ?_
          refine g_goto 39 hX dX12_noPair_35 (by decide) ?_
          exact g_zretL hX hr rfl rfl (Nat.le_refl 0) (Nat.le_refl 0) dX12_noPair_39
      · refine g_iconst 23 hX 1 dX12_noPair_22 rfl kc_i_1 ?_
        refine g_goto 27 hX dX12_noPair_23 (by decide) ?_
        refine g_iconst 28 hX 2 dX12_noPair_27 rfl kc_i_2 ?_
        refine g_callV_i 31 hX (k_X12_stops l g N r2.2 a0 1 2) lk_X12_stops rfl (ci := 12) rfl (Nat.le_of_ble_eq_true rfl) q_1742 q_42 (by omega) rfl (Nat.le_of_ble_eq_true rfl) (Nat.zero_le _) (Nat.zero_le _) dX12_noPair_28 rfl (fun r4 => ?_)
        refine g_if_eq 38 34 hX dX12_noPair_31 (by decide) rfl (fun _ => ?_) (fun _ => ?_)
        · refine g_iconst 39 hX 0 dX12_noPair_38 rfl kc_i_0 ?_
          exact g_zretL hX hr rfl rfl (Nat.le_refl 0) (Nat.le_refl 0) dX12_noPair_39
        · refine g_iconst 35 hX 1 dX12_noPair_34 rfl kc_i_1 ?_
          refine g_goto 39 hX dX12_noPair_35 (by decide) ?_
          exact g_zretL hX hr rfl rfl (Nat.le_refl 0) (Nat.le_refl 0) dX12_noPair_39
set_option maxRecDepth 100000 in
set_option maxHeartbeats 4000000 in
theorem k_X12_swapSeats_29 {p : Program} {l : Launch} {e : Env} {s : State} {m : MethodId} {args : Array Value} {below : List Frame} {meth : Method} {c : Code} {g : kG} (hX : Cok (p, l, e, { frames := 2 * 8, cells := 0, slots := 0, locals := 60 * 8 }, s, m, args, below, meth, c, cX12_swapSeats, 3, RX12, g, 8)) (hr : meth.sig.returnType = (some .int)) (N : Nat) : ∀ (M : kMem) (a0 : Nat) (x1 : Int32) (x2 : Int32) (y0 : Nat) (y1 : Int32), GG (p, l, e, { frames := 2 * 8, cells := 0, slots := 0, locals := 60 * 8 }, s, m, args, below, meth, c, cX12_swapSeats, 3, RX12, g, 8) (fun b => MQ below (kQ g ((fun r : Int32 × kMem => (some (.int r.1), r.2)) b)) args s 0 0 (kZ g.2.2.1)) 0 0 (F_X12_swapSeats_29 N M a0 x1 x2 y0 y1) 29 [(0, .ref a0), (1, .int x1), (2, .int x2)] [.int y1, .ref y0] M := by
  intro M a0 x1 x2 y0 y1
  unfold F_X12_swapSeats_29
  refine g_iconst 30 hX 3 dX12_swapSeats_29 rfl kc_i_3 ?_
  refine g_callV_i 33 hX (k_X12_stops l g N M y0 y1 3) lk_X12_stops rfl (ci := 12) rfl (Nat.le_of_ble_eq_true rfl) q_1742 q_42 (by omega) rfl (Nat.le_of_ble_eq_true rfl) (Nat.zero_le _) (Nat.zero_le _) dX12_swapSeats_30 rfl (fun r4 => ?_)
  refine g_if_eq 38 36 hX dX12_swapSeats_33 (by decide) rfl (fun _ => ?_) (fun _ => ?_)
  · refine g_aload_n 39 0 hX dX12_swapSeats_38 rfl rfl ?_
    refine g_callV_v 42 hX (k_X12_keepsPast l g N r4.2 a0) lk_X12_keepsPast rfl (ci := 12) rfl (Nat.le_of_ble_eq_true rfl) q_2068 q_109 (by omega) rfl (Nat.le_of_ble_eq_true rfl) (Nat.zero_le _) (Nat.zero_le _) dX12_swapSeats_39 rfl (fun M5 => ?_)
    refine g_aload_n 43 0 hX dX12_swapSeats_42 rfl rfl ?_
    refine g_iload_n 44 1 hX dX12_swapSeats_43 rfl rfl ?_
    refine g_iload_n 45 2 hX dX12_swapSeats_44 rfl rfl ?_
    refine g_callV_i 48 hX (k_X12_swaps l g N M5 a0 x1 x2) lk_X12_swaps rfl (ci := 12) rfl (Nat.le_of_ble_eq_true rfl) q_2032 q_100 (by omega) rfl (Nat.le_of_ble_eq_true rfl) (Nat.zero_le _) (Nat.zero_le _) dX12_swapSeats_45 rfl (fun r6 => ?_)
    exact g_iret hX hr rfl (Nat.le_refl 0) (Nat.le_refl 0) dX12_swapSeats_48
  · refine g_iconst 37 hX 0 dX12_swapSeats_36 rfl kc_i_0 ?_
    exact g_iret hX hr rfl (Nat.le_refl 0) (Nat.le_refl 0) dX12_swapSeats_37
set_option maxRecDepth 100000 in
set_option maxHeartbeats 4000000 in
theorem k_X12_swapSeats (l : Launch) (g : kG) (N : Nat) (M : kMem) (a0 : Nat) (x1 : Int32) (x2 : Int32) : kMet l g yX12_swapSeats cX12_swapSeats 3 (some .int) 8 0 0 [.ref a0, .int x1, .int x2] M (fun r : Int32 × kMem => (some (.int r.1), r.2)) (F_X12_swapSeats N M a0 x1 x2) := by
  refine k_of (lv := [(0, .ref a0), (1, .int x1), (2, .int x2)]) RX12 (by decide) rfl rfl (Nat.le_of_ble_eq_true rfl) ?_
  intro p e s m args below meth c hX hr _
  unfold F_X12_swapSeats
  refine g_aload_n 1 0 hX dX12_swapSeats_0 rfl rfl ?_
  refine g_iconst 2 hX 0 dX12_swapSeats_1 rfl kc_i_0 ?_
  refine p_X12_63 5 hX dX12_swapSeats_2 rfl ?_
  refine g_klM (fun M1 hM1 => ?_)
  refine g_aload_n 6 0 hX dX12_swapSeats_5 rfl rfl ?_
  refine g_iload_n 7 1 hX dX12_swapSeats_6 rfl rfl ?_
  refine g_iload_n 8 2 hX dX12_swapSeats_7 rfl rfl ?_
  refine g_callV_i 11 hX (k_X12_noPair l g N M1 a0 x1 x2) lk_X12_noPair rfl (ci := 12) rfl (Nat.le_of_ble_eq_true rfl) q_2123 q_115 (by omega) rfl (Nat.le_of_ble_eq_true rfl) (Nat.zero_le _) (Nat.zero_le _) dX12_swapSeats_8 rfl (fun r2 => ?_)
  refine g_if_ne 36 14 hX dX12_swapSeats_11 (by decide) rfl (fun _ => ?_) (fun _ => ?_)
  · refine g_iconst 37 hX 0 dX12_swapSeats_36 rfl kc_i_0 ?_
    exact g_iret hX hr rfl (Nat.le_refl 0) (Nat.le_refl 0) dX12_swapSeats_37
  · refine g_aload_n 15 0 hX dX12_swapSeats_14 rfl rfl ?_
    refine g_aload_n 16 0 hX dX12_swapSeats_15 rfl rfl ?_
    refine g_iload_n 17 1 hX dX12_swapSeats_16 rfl rfl ?_
    refine g_iload_n 18 2 hX dX12_swapSeats_17 rfl rfl ?_
    refine g_callV_ip 21 hX (k_X12_againstSwap l g N r2.2 a0 x1 x2) lk_X12_againstSwap rfl (ci := 12) rfl (Nat.le_of_ble_eq_true rfl) q_2020 q_97 (by omega) rfl (Nat.le_of_ble_eq_true rfl) (Nat.zero_le _) (Nat.zero_le _) dX12_swapSeats_18 rfl (fun r3 => ?_)
    refine g_if_eq 28 24 hX dX12_swapSeats_21 (by decide) rfl (fun _ => ?_) (fun _ => ?_)
    · refine g_iconst 29 hX 0 dX12_swapSeats_28 rfl kc_i_0 ?_
      exact k_X12_swapSeats_29 hX hr N r2.2 a0 x1 x2 a0 0
    · refine g_iconst 25 hX 1 dX12_swapSeats_24 rfl kc_i_1 ?_
      refine g_goto 29 hX dX12_swapSeats_25 (by decide) ?_
      exact k_X12_swapSeats_29 hX hr N r2.2 a0 x1 x2 a0 1
set_option maxRecDepth 100000 in
set_option maxHeartbeats 4000000 in
theorem k_X12_setWage_23 {p : Program} {l : Launch} {e : Env} {s : State} {m : MethodId} {args : Array Value} {below : List Frame} {meth : Method} {c : Code} {g : kG} (hX : Cok (p, l, e, { frames := 2 * 3, cells := 0, slots := 0, locals := 60 * 3 }, s, m, args, below, meth, c, cX12_setWage, 2, RX12, g, 3)) (hr : meth.sig.returnType = (some .int)) (N : Nat) : ∀ (M : kMem) (a0 : Nat) (x1 : Int32) (y0 : Nat) (y1 : Int32), GG (p, l, e, { frames := 2 * 3, cells := 0, slots := 0, locals := 60 * 3 }, s, m, args, below, meth, c, cX12_setWage, 2, RX12, g, 3) (fun b => MQ below (kQ g ((fun r : Int32 × kMem => (some (.int r.1), r.2)) b)) args s 0 0 (kZ g.2.2.1)) 0 0 (F_X12_setWage_23 N M a0 x1 y0 y1) 23 [(0, .ref a0), (1, .int x1)] [.int y1, .ref y0] M := by
  intro M a0 x1 y0 y1
  unfold F_X12_setWage_23
  refine g_iconst 24 hX 1 dX12_setWage_23 rfl kc_i_1 ?_
  refine g_callV_i 27 hX (k_X12_stops l g N M y0 y1 1) lk_X12_stops rfl (ci := 12) rfl (Nat.le_of_ble_eq_true rfl) q_1742 q_42 (by omega) rfl (Nat.le_of_ble_eq_true rfl) (Nat.zero_le _) (Nat.zero_le _) dX12_setWage_24 rfl (fun r3 => ?_)
  refine g_if_eq 32 30 hX dX12_setWage_27 (by decide) rfl (fun _ => ?_) (fun _ => ?_)
  · refine g_aload_n 33 0 hX dX12_setWage_32 rfl rfl ?_
    refine g_callV_v 36 hX (k_X12_keepsPast l g N r3.2 a0) lk_X12_keepsPast rfl (ci := 12) rfl (Nat.le_of_ble_eq_true rfl) q_2068 q_109 (by omega) rfl (Nat.le_of_ble_eq_true rfl) (Nat.zero_le _) (Nat.zero_le _) dX12_setWage_33 rfl (fun M4 => ?_)
    refine g_aload_n 37 0 hX dX12_setWage_36 rfl rfl ?_
    refine g_iload_n 38 1 hX dX12_setWage_37 rfl rfl ?_
    refine g_callV_i 41 hX (k_X12_setsWage l g N M4 a0 x1) lk_X12_setsWage rfl (ci := 12) rfl (Nat.le_of_ble_eq_true rfl) q_2040 q_102 (by omega) rfl (Nat.le_of_ble_eq_true rfl) (Nat.zero_le _) (Nat.zero_le _) dX12_setWage_38 rfl (fun r5 => ?_)
    exact g_iret hX hr rfl (Nat.le_refl 0) (Nat.le_refl 0) dX12_setWage_41
  · refine g_iconst 31 hX 0 dX12_setWage_30 rfl kc_i_0 ?_
    exact g_iret hX hr rfl (Nat.le_refl 0) (Nat.le_refl 0) dX12_setWage_31
set_option maxRecDepth 100000 in
set_option maxHeartbeats 4000000 in
theorem k_X12_setWage (l : Launch) (g : kG) (N : Nat) (M : kMem) (a0 : Nat) (x1 : Int32) : kMet l g yX12_setWage cX12_setWage 2 (some .int) 3 0 0 [.ref a0, .int x1] M (fun r : Int32 × kMem => (some (.int r.1), r.2)) (F_X12_setWage N M a0 x1) := by
  refine k_of (lv := [(0, .ref a0), (1, .int x1)]) RX12 (by decide) rfl rfl (Nat.le_of_ble_eq_true rfl) ?_
  intro p e s m args below meth c hX hr _
  unfold F_X12_setWage
  refine g_aload_n 1 0 hX dX12_setWage_0 rfl rfl ?_
  refine g_iconst 2 hX 0 dX12_setWage_1 rfl kc_i_0 ?_
  refine p_X12_63 5 hX dX12_setWage_2 rfl ?_
  refine g_klM (fun M1 hM1 => ?_)
  refine g_aload_n 6 0 hX dX12_setWage_5 rfl rfl ?_
  refine g_iload_n 7 1 hX dX12_setWage_6 rfl rfl ?_
  refine g_i2l 8 hX dX12_setWage_7 rfl ?_
  refine g_lconst 9 hX 0 dX12_setWage_8 rfl rfl ?_
  refine g_ldc2 12 hX 20 dX12_setWage_9 rfl q_2131 ?_
  refine g_callS_ip 15 hX (k_X12_in l g N M1 x1.toInt64 0 20) lk_X12_in q_1754 (by omega) rfl (Nat.le_of_ble_eq_true rfl) (Nat.zero_le _) (Nat.zero_le _) dX12_setWage_12 rfl (fun r2 => ?_)
  refine g_if_ne 22 18 hX dX12_setWage_15 (by decide) rfl (fun _ => ?_) (fun _ => ?_)
  · refine g_iconst 23 hX 0 dX12_setWage_22 rfl kc_i_0 ?_
    exact k_X12_setWage_23 hX hr N M1 a0 x1 a0 0
  · refine g_iconst 19 hX 1 dX12_setWage_18 rfl kc_i_1 ?_
    refine g_goto 23 hX dX12_setWage_19 (by decide) ?_
    exact k_X12_setWage_23 hX hr N M1 a0 x1 a0 1
set_option maxRecDepth 100000 in
set_option maxHeartbeats 4000000 in
theorem k_X12_advance_51 {p : Program} {l : Launch} {e : Env} {s : State} {m : MethodId} {args : Array Value} {below : List Frame} {meth : Method} {c : Code} {g : kG} (hX : Cok (p, l, e, { frames := 2 * 10, cells := 0, slots := 0, locals := 60 * 10 }, s, m, args, below, meth, c, cX12_advance, 2, RX12, g, 10)) (hr : meth.sig.returnType = (some .int)) (N : Nat) : ∀ (M : kMem) (a0 : Nat) (x1 : Int32) (y0 : Nat) (y1 : Int32), GG (p, l, e, { frames := 2 * 10, cells := 0, slots := 0, locals := 60 * 10 }, s, m, args, below, meth, c, cX12_advance, 2, RX12, g, 10) (fun b => MQ below (kQ g ((fun r : Int32 × kMem => (some (.int r.1), r.2)) b)) args s 0 0 (kZ g.2.2.1)) 0 0 (F_X12_advance_51 N M a0 x1 y0 y1) 51 [(0, .ref a0), (1, .int x1)] [.int y1, .ref y0] M := by
  intro M a0 x1 y0 y1
  unfold F_X12_advance_51
  refine g_iconst 52 hX 2 dX12_advance_51 rfl kc_i_2 ?_
  refine g_callV_i 55 hX (k_X12_stops l g N M y0 y1 2) lk_X12_stops rfl (ci := 12) rfl (Nat.le_of_ble_eq_true rfl) q_1742 q_42 (by omega) rfl (Nat.le_of_ble_eq_true rfl) (Nat.zero_le _) (Nat.zero_le _) dX12_advance_52 rfl (fun r4 => ?_)
  refine g_if_eq 60 58 hX dX12_advance_55 (by decide) rfl (fun _ => ?_) (fun _ => ?_)
  · refine g_aload_n 61 0 hX dX12_advance_60 rfl rfl ?_
    refine g_callV_v 64 hX (k_X12_keepsPast l g N r4.2 a0) lk_X12_keepsPast rfl (ci := 12) rfl (Nat.le_of_ble_eq_true rfl) q_2068 q_109 (by omega) rfl (Nat.le_of_ble_eq_true rfl) (Nat.zero_le _) (Nat.zero_le _) dX12_advance_61 rfl (fun M5 => ?_)
    refine g_aload_n 65 0 hX dX12_advance_64 rfl rfl ?_
    refine g_iload_n 66 1 hX dX12_advance_65 rfl rfl ?_
    refine g_callV_i 69 hX (k_X12_days1 l g N M5 a0 x1) lk_X12_days1 rfl (ci := 12) rfl (Nat.le_of_ble_eq_true rfl) q_2044 q_103 (by omega) rfl (Nat.le_of_ble_eq_true rfl) (Nat.zero_le _) (Nat.zero_le _) dX12_advance_66 rfl (fun r6 => ?_)
    exact g_iret hX hr rfl (Nat.le_refl 0) (Nat.le_refl 0) dX12_advance_69
  · refine g_iconst 59 hX 0 dX12_advance_58 rfl kc_i_0 ?_
    exact g_iret hX hr rfl (Nat.le_refl 0) (Nat.le_refl 0) dX12_advance_59
set_option maxRecDepth 100000 in
set_option maxHeartbeats 4000000 in
theorem k_X12_advance_23 {p : Program} {l : Launch} {e : Env} {s : State} {m : MethodId} {args : Array Value} {below : List Frame} {meth : Method} {c : Code} {g : kG} (hX : Cok (p, l, e, { frames := 2 * 10, cells := 0, slots := 0, locals := 60 * 10 }, s, m, args, below, meth, c, cX12_advance, 2, RX12, g, 10)) (hr : meth.sig.returnType = (some .int)) (N : Nat) : ∀ (M : kMem) (a0 : Nat) (x1 : Int32) (y0 : Nat) (y1 : Int32), GG (p, l, e, { frames := 2 * 10, cells := 0, slots := 0, locals := 60 * 10 }, s, m, args, below, meth, c, cX12_advance, 2, RX12, g, 10) (fun b => MQ below (kQ g ((fun r : Int32 × kMem => (some (.int r.1), r.2)) b)) args s 0 0 (kZ g.2.2.1)) 0 0 (F_X12_advance_23 N M a0 x1 y0 y1) 23 [(0, .ref a0), (1, .int x1)] [.int y1, .ref y0] M := by
  intro M a0 x1 y0 y1
  unfold F_X12_advance_23
  refine g_iconst 24 hX 1 dX12_advance_23 rfl kc_i_1 ?_
  refine g_callV_i 27 hX (k_X12_stops l g N M y0 y1 1) lk_X12_stops rfl (ci := 12) rfl (Nat.le_of_ble_eq_true rfl) q_1742 q_42 (by omega) rfl (Nat.le_of_ble_eq_true rfl) (Nat.zero_le _) (Nat.zero_le _) dX12_advance_24 rfl (fun r3 => ?_)
  refine g_if_ne 58 30 hX dX12_advance_27 (by decide) rfl (fun _ => ?_) (fun _ => ?_)
  · refine g_iconst 59 hX 0 dX12_advance_58 rfl kc_i_0 ?_
    exact g_iret hX hr rfl (Nat.le_refl 0) (Nat.le_refl 0) dX12_advance_59
  · refine g_aload_n 31 0 hX dX12_advance_30 rfl rfl ?_
    refine g_aload_n 32 0 hX dX12_advance_31 rfl rfl ?_
    refine r_X12_7 35 hX dX12_advance_32 rfl ?_
    refine g_bipush 37 hX 6 dX12_advance_35 rfl kc_b_6 ?_
    refine g_iald 38 hX dX12_advance_37 rfl ?_
    refine g_iload_n 39 1 hX dX12_advance_38 rfl rfl ?_
    refine g_iadd 40 hX dX12_advance_39 rfl ?_
    refine g_sipush 43 hX 9999 dX12_advance_40 rfl kc_s_9999 ?_
    refine g_icmp_le 50 46 hX dX12_advance_43 (by decide) rfl (fun _ => ?_) (fun _ => ?_)
    · refine g_iconst 51 hX 0 dX12_advance_50 rfl kc_i_0 ?_
      exact k_X12_advance_51 hX hr N r3.2 a0 x1 a0 0
    · refine g_iconst 47 hX 1 dX12_advance_46 rfl kc_i_1 ?_
      refine g_goto 51 hX dX12_advance_47 (by decide) ?_
      exact k_X12_advance_51 hX hr N r3.2 a0 x1 a0 1
set_option maxRecDepth 100000 in
set_option maxHeartbeats 4000000 in
theorem k_X12_advance (l : Launch) (g : kG) (N : Nat) (M : kMem) (a0 : Nat) (x1 : Int32) : kMet l g yX12_advance cX12_advance 2 (some .int) 10 0 0 [.ref a0, .int x1] M (fun r : Int32 × kMem => (some (.int r.1), r.2)) (F_X12_advance N M a0 x1) := by
  refine k_of (lv := [(0, .ref a0), (1, .int x1)]) RX12 (by decide) rfl rfl (Nat.le_of_ble_eq_true rfl) ?_
  intro p e s m args below meth c hX hr _
  unfold F_X12_advance
  refine g_aload_n 1 0 hX dX12_advance_0 rfl rfl ?_
  refine g_iconst 2 hX 0 dX12_advance_1 rfl kc_i_0 ?_
  refine p_X12_63 5 hX dX12_advance_2 rfl ?_
  refine g_klM (fun M1 hM1 => ?_)
  refine g_aload_n 6 0 hX dX12_advance_5 rfl rfl ?_
  refine g_iload_n 7 1 hX dX12_advance_6 rfl rfl ?_
  refine g_i2l 8 hX dX12_advance_7 rfl ?_
  refine g_lconst 9 hX 1 dX12_advance_8 rfl rfl ?_
  refine g_ldc2 12 hX 30 dX12_advance_9 rfl q_2136 ?_
  refine g_callS_ip 15 hX (k_X12_in l g N M1 x1.toInt64 1 30) lk_X12_in q_1754 (by omega) rfl (Nat.le_of_ble_eq_true rfl) (Nat.zero_le _) (Nat.zero_le _) dX12_advance_12 rfl (fun r2 => ?_)
  refine g_if_ne 22 18 hX dX12_advance_15 (by decide) rfl (fun _ => ?_) (fun _ => ?_)
  · refine g_iconst 23 hX 0 dX12_advance_22 rfl kc_i_0 ?_
    exact k_X12_advance_23 hX hr N M1 a0 x1 a0 0
  · refine g_iconst 19 hX 1 dX12_advance_18 rfl kc_i_1 ?_
    refine g_goto 23 hX dX12_advance_19 (by decide) ?_
    exact k_X12_advance_23 hX hr N M1 a0 x1 a0 1
set_option maxRecDepth 100000 in
set_option maxHeartbeats 4000000 in
theorem k_X12_undoCount (l : Launch) (g : kG) (N : Nat) (M : kMem) (a0 : Nat) : kMet l g yX12_undoCount cX12_undoCount 1 (some .int) 1 0 0 [.ref a0] M (fun r : Int32 × kMem => (some (.int r.1), r.2)) (F_X12_undoCount N M a0) := by
  refine k_of (lv := [(0, .ref a0)]) RX12 (by decide) rfl rfl (Nat.le_of_ble_eq_true rfl) ?_
  intro p e s m args below meth c hX hr _
  unfold F_X12_undoCount
  refine g_aload_n 1 0 hX dX12_undoCount_0 rfl rfl ?_
  refine g_iconst 2 hX 0 dX12_undoCount_1 rfl kc_i_0 ?_
  refine p_X12_63 5 hX dX12_undoCount_2 rfl ?_
  refine g_klM (fun M1 hM1 => ?_)
  refine g_aload_n 6 0 hX dX12_undoCount_5 rfl rfl ?_
  refine r_X12_295 9 hX dX12_undoCount_6 rfl ?_
  exact g_iret hX hr rfl (Nat.le_refl 0) (Nat.le_refl 0) dX12_undoCount_9
set_option maxRecDepth 100000 in
set_option maxHeartbeats 4000000 in
theorem k_X12_undo_18 {p : Program} {l : Launch} {e : Env} {s : State} {m : MethodId} {args : Array Value} {below : List Frame} {meth : Method} {c : Code} {g : kG} (hX : Cok (p, l, e, { frames := 2 * 2, cells := 0, slots := 0, locals := 60 * 2 }, s, m, args, below, meth, c, cX12_undo, 1, RX12, g, 2)) (hr : meth.sig.returnType = (some .int)) (N : Nat) : ∀ (M : kMem) (a0 : Nat) (y0 : Nat) (y1 : Int32), GG (p, l, e, { frames := 2 * 2, cells := 0, slots := 0, locals := 60 * 2 }, s, m, args, below, meth, c, cX12_undo, 1, RX12, g, 2) (fun b => MQ below (kQ g ((fun r : Int32 × kMem => (some (.int r.1), r.2)) b)) args s 0 0 (kZ g.2.2.1)) 0 0 (F_X12_undo_18 N M a0 y0 y1) 18 [(0, .ref a0)] [.int y1, .ref y0] M := by
  intro M a0 y0 y1
  unfold F_X12_undo_18
  refine g_iconst 19 hX 1 dX12_undo_18 rfl kc_i_1 ?_
  refine g_callV_i 22 hX (k_X12_stops l g N M y0 y1 1) lk_X12_stops rfl (ci := 12) rfl (Nat.le_of_ble_eq_true rfl) q_1742 q_42 (by omega) rfl (Nat.le_of_ble_eq_true rfl) (Nat.zero_le _) (Nat.zero_le _) dX12_undo_19 rfl (fun r2 => ?_)
  refine g_if_eq 27 25 hX dX12_undo_22 (by decide) rfl (fun _ => ?_) (fun _ => ?_)
  · refine g_aload_n 28 0 hX dX12_undo_27 rfl rfl ?_
    refine g_dup 29 hX dX12_undo_28 rfl rfl ?_
    refine r_X12_295 32 hX dX12_undo_29 rfl ?_
    refine g_iconst 33 hX 1 dX12_undo_32 rfl kc_i_1 ?_
    refine g_isub 34 hX dX12_undo_33 rfl ?_
    refine p_X12_295 37 hX dX12_undo_34 rfl ?_
    refine g_klM (fun M3 hM3 => ?_)
    refine g_aload_n 38 0 hX dX12_undo_37 rfl rfl ?_
    refine r_X12_16 41 hX dX12_undo_38 rfl ?_
    refine g_sipush 44 hX 293 dX12_undo_41 rfl kc_s_293 ?_
    refine g_aload_n 45 0 hX dX12_undo_44 rfl rfl ?_
    refine r_X12_295 48 hX dX12_undo_45 rfl ?_
    refine g_imul 49 hX dX12_undo_48 rfl ?_
    refine g_aload_n 50 0 hX dX12_undo_49 rfl rfl ?_
    refine r_X12_7 53 hX dX12_undo_50 rfl ?_
    refine g_iconst 54 hX 0 dX12_undo_53 rfl kc_i_0 ?_
    refine g_callS_v 57 hX (k_X12_copies l g N M3 (kR M3 a0 2) (293 * (kI M3 a0 5)) (kR M3 a0 0) 0) lk_X12_copies q_1765 (by omega) rfl (Nat.le_of_ble_eq_true rfl) (Nat.zero_le _) (Nat.zero_le _) dX12_undo_54 rfl (fun M4 => ?_)
    refine g_aload_n 58 0 hX dX12_undo_57 rfl rfl ?_
    refine r_X12_295 61 hX dX12_undo_58 rfl ?_
    exact g_iret hX hr rfl (Nat.le_refl 0) (Nat.le_refl 0) dX12_undo_61
  · refine g_iconst 26 hX 0 dX12_undo_25 rfl kc_i_0 ?_
    exact g_iret hX hr rfl (Nat.le_refl 0) (Nat.le_refl 0) dX12_undo_26
set_option maxRecDepth 100000 in
set_option maxHeartbeats 4000000 in
theorem k_X12_undo (l : Launch) (g : kG) (N : Nat) (M : kMem) (a0 : Nat) : kMet l g yX12_undo cX12_undo 1 (some .int) 2 0 0 [.ref a0] M (fun r : Int32 × kMem => (some (.int r.1), r.2)) (F_X12_undo N M a0) := by
  refine k_of (lv := [(0, .ref a0)]) RX12 (by decide) rfl rfl (Nat.le_of_ble_eq_true rfl) ?_
  intro p e s m args below meth c hX hr _
  unfold F_X12_undo
  refine g_aload_n 1 0 hX dX12_undo_0 rfl rfl ?_
  refine g_iconst 2 hX 0 dX12_undo_1 rfl kc_i_0 ?_
  refine p_X12_63 5 hX dX12_undo_2 rfl ?_
  refine g_klM (fun M1 hM1 => ?_)
  refine g_aload_n 6 0 hX dX12_undo_5 rfl rfl ?_
  refine g_aload_n 7 0 hX dX12_undo_6 rfl rfl ?_
  refine r_X12_295 10 hX dX12_undo_7 rfl ?_
  refine g_if_ne 17 13 hX dX12_undo_10 (by decide) rfl (fun _ => ?_) (fun _ => ?_)
  · refine g_iconst 18 hX 0 dX12_undo_17 rfl kc_i_0 ?_
    exact k_X12_undo_18 hX hr N M1 a0 a0 0
  · refine g_iconst 14 hX 1 dX12_undo_13 rfl kc_i_1 ?_
    refine g_goto 18 hX dX12_undo_14 (by decide) ?_
    exact k_X12_undo_18 hX hr N M1 a0 a0 1
set_option maxRecDepth 100000 in
set_option maxHeartbeats 4000000 in
theorem k_X12_noSlot (l : Launch) (g : kG) (N : Nat) (M : kMem) (a0 : Nat) (x1 : Int32) : kMet l g yX12_noSlot cX12_noSlot 2 (some .boolean) 2 0 0 [.ref a0, .int x1] M (fun r : Int32 × kMem => (some (.int r.1), r.2)) (F_X12_noSlot N M a0 x1) := by
  refine k_of (lv := [(0, .ref a0), (1, .int x1)]) RX12 (by decide) rfl rfl (Nat.le_of_ble_eq_true rfl) ?_
  intro p e s m args below meth c hX hr _
  unfold F_X12_noSlot
  refine g_aload_n 1 0 hX dX12_noSlot_0 rfl rfl ?_
  refine g_iload_n 2 1 hX dX12_noSlot_1 rfl rfl ?_
  refine g_i2l 3 hX dX12_noSlot_2 rfl ?_
  refine g_lconst 4 hX 0 dX12_noSlot_3 rfl rfl ?_
  refine g_lconst 5 hX 1 dX12_noSlot_4 rfl rfl ?_
  refine g_callS_ip 8 hX (k_X12_in l g N M x1.toInt64 0 1) lk_X12_in q_1754 (by omega) rfl (Nat.le_of_ble_eq_true rfl) (Nat.zero_le _) (Nat.zero_le _) dX12_noSlot_5 rfl (fun r1 => ?_)
  refine g_if_ne 15 11 hX dX12_noSlot_8 (by decide) rfl (fun _ => ?_) (fun _ => ?_)
  · refine g_iconst 16 hX 0 dX12_noSlot_15 rfl kc_i_0 ?_
    refine g_iconst 17 hX 1 dX12_noSlot_16 rfl kc_i_1 ?_
    refine g_callV_i 20 hX (k_X12_stops l g N M a0 0 1) lk_X12_stops rfl (ci := 12) rfl (Nat.le_of_ble_eq_true rfl) q_1742 q_42 (by omega) rfl (Nat.le_of_ble_eq_true rfl) (Nat.zero_le _) (Nat.zero_le _) dX12_noSlot_17 rfl (fun r2 => ?_)
    exact g_zret hX hr rfl (Nat.le_refl 0) (Nat.le_refl 0) dX12_noSlot_20
  · refine g_iconst 12 hX 1 dX12_noSlot_11 rfl kc_i_1 ?_
    refine g_goto 16 hX dX12_noSlot_12 (by decide) ?_
    refine g_iconst 17 hX 1 dX12_noSlot_16 rfl kc_i_1 ?_
    refine g_callV_i 20 hX (k_X12_stops l g N M a0 1 1) lk_X12_stops rfl (ci := 12) rfl (Nat.le_of_ble_eq_true rfl) q_1742 q_42 (by omega) rfl (Nat.le_of_ble_eq_true rfl) (Nat.zero_le _) (Nat.zero_le _) dX12_noSlot_17 rfl (fun r3 => ?_)
    exact g_zret hX hr rfl (Nat.le_refl 0) (Nat.le_refl 0) dX12_noSlot_20
set_option maxRecDepth 100000 in
set_option maxHeartbeats 4000000 in
theorem k_X12_save (l : Launch) (g : kG) (N : Nat) (M : kMem) (a0 : Nat) (x1 : Int32) : kMet l g yX12_save cX12_save 2 (some .int) 3 0 0 [.ref a0, .int x1] M (fun r : Int32 × kMem => (some (.int r.1), r.2)) (F_X12_save N M a0 x1) := by
  refine k_of (lv := [(0, .ref a0), (1, .int x1)]) RX12 (by decide) rfl rfl (Nat.le_of_ble_eq_true rfl) ?_
  intro p e s m args below meth c hX hr _
  unfold F_X12_save
  refine g_aload_n 1 0 hX dX12_save_0 rfl rfl ?_
  refine g_iconst 2 hX 0 dX12_save_1 rfl kc_i_0 ?_
  refine p_X12_63 5 hX dX12_save_2 rfl ?_
  refine g_klM (fun M1 hM1 => ?_)
  refine g_aload_n 6 0 hX dX12_save_5 rfl rfl ?_
  refine g_iload_n 7 1 hX dX12_save_6 rfl rfl ?_
  refine g_callV_i 10 hX (k_X12_noSlot l g N M1 a0 x1) lk_X12_noSlot rfl (ci := 12) rfl (Nat.le_of_ble_eq_true rfl) q_2149 q_116 (by omega) rfl (Nat.le_of_ble_eq_true rfl) (Nat.zero_le _) (Nat.zero_le _) dX12_save_7 rfl (fun r2 => ?_)
  refine g_if_eq 15 13 hX dX12_save_10 (by decide) rfl (fun _ => ?_) (fun _ => ?_)
  · refine g_aload_n 16 0 hX dX12_save_15 rfl rfl ?_
    refine r_X12_7 19 hX dX12_save_16 rfl ?_
    refine g_iconst 20 hX 0 dX12_save_19 rfl kc_i_0 ?_
    refine g_aload_n 21 0 hX dX12_save_20 rfl rfl ?_
    refine r_X12_19 24 hX dX12_save_21 rfl ?_
    refine g_sipush 27 hX 293 dX12_save_24 rfl kc_s_293 ?_
    refine g_iload_n 28 1 hX dX12_save_27 rfl rfl ?_
    refine g_imul 29 hX dX12_save_28 rfl ?_
    refine g_callS_v 32 hX (k_X12_copies l g N r2.2 (kR r2.2 a0 0) 0 (kR r2.2 a0 3) (293 * x1)) lk_X12_copies q_1765 (by omega) rfl (Nat.le_of_ble_eq_true rfl) (Nat.zero_le _) (Nat.zero_le _) dX12_save_29 rfl (fun M3 => ?_)
    refine g_aload_n 33 0 hX dX12_save_32 rfl rfl ?_
    refine r_X12_22 36 hX dX12_save_33 rfl ?_
    refine g_iload_n 37 1 hX dX12_save_36 rfl rfl ?_
    refine g_iconst 38 hX 1 dX12_save_37 rfl kc_i_1 ?_
    refine g_zast 39 hX dX12_save_38 rfl ?_
    refine g_klM (fun M4 hM4 => ?_)
    refine g_aload_n 40 0 hX dX12_save_39 rfl rfl ?_
    refine r_X12_7 43 hX dX12_save_40 rfl ?_
    refine g_bipush 45 hX 6 dX12_save_43 rfl kc_b_6 ?_
    refine g_iald 46 hX dX12_save_45 rfl ?_
    exact g_iret hX hr rfl (Nat.le_refl 0) (Nat.le_refl 0) dX12_save_46
  · refine g_iconst 14 hX 0 dX12_save_13 rfl kc_i_0 ?_
    exact g_iret hX hr rfl (Nat.le_refl 0) (Nat.le_refl 0) dX12_save_14
set_option maxRecDepth 100000 in
set_option maxHeartbeats 4000000 in
theorem k_X12_restore_28 {p : Program} {l : Launch} {e : Env} {s : State} {m : MethodId} {args : Array Value} {below : List Frame} {meth : Method} {c : Code} {g : kG} (hX : Cok (p, l, e, { frames := 2 * 3, cells := 0, slots := 0, locals := 60 * 3 }, s, m, args, below, meth, c, cX12_restore, 2, RX12, g, 3)) (hr : meth.sig.returnType = (some .int)) (N : Nat) : ∀ (M : kMem) (a0 : Nat) (x1 : Int32) (y0 : Nat) (y1 : Int32), GG (p, l, e, { frames := 2 * 3, cells := 0, slots := 0, locals := 60 * 3 }, s, m, args, below, meth, c, cX12_restore, 2, RX12, g, 3) (fun b => MQ below (kQ g ((fun r : Int32 × kMem => (some (.int r.1), r.2)) b)) args s 0 0 (kZ g.2.2.1)) 0 0 (F_X12_restore_28 N M a0 x1 y0 y1) 28 [(0, .ref a0), (1, .int x1)] [.int y1, .ref y0] M := by
  intro M a0 x1 y0 y1
  unfold F_X12_restore_28
  refine g_iconst 29 hX 2 dX12_restore_28 rfl kc_i_2 ?_
  refine g_callV_i 32 hX (k_X12_stops l g N M y0 y1 2) lk_X12_stops rfl (ci := 12) rfl (Nat.le_of_ble_eq_true rfl) q_1742 q_42 (by omega) rfl (Nat.le_of_ble_eq_true rfl) (Nat.zero_le _) (Nat.zero_le _) dX12_restore_29 rfl (fun r3 => ?_)
  refine g_if_eq 37 35 hX dX12_restore_32 (by decide) rfl (fun _ => ?_) (fun _ => ?_)
  · refine g_aload_n 38 0 hX dX12_restore_37 rfl rfl ?_
    refine r_X12_19 41 hX dX12_restore_38 rfl ?_
    refine g_sipush 44 hX 293 dX12_restore_41 rfl kc_s_293 ?_
    refine g_iload_n 45 1 hX dX12_restore_44 rfl rfl ?_
    refine g_imul 46 hX dX12_restore_45 rfl ?_
    refine g_aload_n 47 0 hX dX12_restore_46 rfl rfl ?_
    refine r_X12_7 50 hX dX12_restore_47 rfl ?_
    refine g_iconst 51 hX 0 dX12_restore_50 rfl kc_i_0 ?_
    refine g_callS_v 54 hX (k_X12_copies l g N r3.2 (kR r3.2 a0 3) (293 * x1) (kR r3.2 a0 0) 0) lk_X12_copies q_1765 (by omega) rfl (Nat.le_of_ble_eq_true rfl) (Nat.zero_le _) (Nat.zero_le _) dX12_restore_51 rfl (fun M4 => ?_)
    refine g_aload_n 55 0 hX dX12_restore_54 rfl rfl ?_
    refine g_iconst 56 hX 0 dX12_restore_55 rfl kc_i_0 ?_
    refine p_X12_295 59 hX dX12_restore_56 rfl ?_
    refine g_klM (fun M5 hM5 => ?_)
    refine g_aload_n 60 0 hX dX12_restore_59 rfl rfl ?_
    refine r_X12_7 63 hX dX12_restore_60 rfl ?_
    refine g_bipush 65 hX 6 dX12_restore_63 rfl kc_b_6 ?_
    refine g_iald 66 hX dX12_restore_65 rfl ?_
    exact g_iret hX hr rfl (Nat.le_refl 0) (Nat.le_refl 0) dX12_restore_66
  · refine g_iconst 36 hX 0 dX12_restore_35 rfl kc_i_0 ?_
    exact g_iret hX hr rfl (Nat.le_refl 0) (Nat.le_refl 0) dX12_restore_36
set_option maxRecDepth 100000 in
set_option maxHeartbeats 4000000 in
theorem k_X12_restore (l : Launch) (g : kG) (N : Nat) (M : kMem) (a0 : Nat) (x1 : Int32) : kMet l g yX12_restore cX12_restore 2 (some .int) 3 0 0 [.ref a0, .int x1] M (fun r : Int32 × kMem => (some (.int r.1), r.2)) (F_X12_restore N M a0 x1) := by
  refine k_of (lv := [(0, .ref a0), (1, .int x1)]) RX12 (by decide) rfl rfl (Nat.le_of_ble_eq_true rfl) ?_
  intro p e s m args below meth c hX hr _
  unfold F_X12_restore
  refine g_aload_n 1 0 hX dX12_restore_0 rfl rfl ?_
  refine g_iconst 2 hX 0 dX12_restore_1 rfl kc_i_0 ?_
  refine p_X12_63 5 hX dX12_restore_2 rfl ?_
  refine g_klM (fun M1 hM1 => ?_)
  refine g_aload_n 6 0 hX dX12_restore_5 rfl rfl ?_
  refine g_iload_n 7 1 hX dX12_restore_6 rfl rfl ?_
  refine g_callV_i 10 hX (k_X12_noSlot l g N M1 a0 x1) lk_X12_noSlot rfl (ci := 12) rfl (Nat.le_of_ble_eq_true rfl) q_2149 q_116 (by omega) rfl (Nat.le_of_ble_eq_true rfl) (Nat.zero_le _) (Nat.zero_le _) dX12_restore_7 rfl (fun r2 => ?_)
  refine g_if_ne 35 13 hX dX12_restore_10 (by decide) rfl (fun _ => ?_) (fun _ => ?_)
  · refine g_iconst 36 hX 0 dX12_restore_35 rfl kc_i_0 ?_
    exact g_iret hX hr rfl (Nat.le_refl 0) (Nat.le_refl 0) dX12_restore_36
  · refine g_aload_n 14 0 hX dX12_restore_13 rfl rfl ?_
    refine g_aload_n 15 0 hX dX12_restore_14 rfl rfl ?_
    refine r_X12_22 18 hX dX12_restore_15 rfl ?_
    refine g_iload_n 19 1 hX dX12_restore_18 rfl rfl ?_
    refine g_zald 20 hX dX12_restore_19 rfl ?_
    refine g_if_ne 27 23 hX dX12_restore_20 (by decide) rfl (fun _ => ?_) (fun _ => ?_)
    · refine g_iconst 28 hX 0 dX12_restore_27 rfl kc_i_0 ?_
      exact k_X12_restore_28 hX hr N r2.2 a0 x1 a0 0
    · refine g_iconst 24 hX 1 dX12_restore_23 rfl kc_i_1 ?_
      refine g_goto 28 hX dX12_restore_24 (by decide) ?_
      exact k_X12_restore_28 hX hr N r2.2 a0 x1 a0 1
set_option maxRecDepth 100000 in
set_option maxHeartbeats 4000000 in
theorem k_X12_day (l : Launch) (g : kG) (N : Nat) (M : kMem) (a0 : Nat) : kMet l g yX12_day cX12_day 1 (some .int) 1 0 0 [.ref a0] M (fun r : Int32 × kMem => (some (.int r.1), r.2)) (F_X12_day N M a0) := by
  refine k_of (lv := [(0, .ref a0)]) RX12 (by decide) rfl rfl (Nat.le_of_ble_eq_true rfl) ?_
  intro p e s m args below meth c hX hr _
  unfold F_X12_day
  refine g_aload_n 1 0 hX dX12_day_0 rfl rfl ?_
  refine g_iconst 2 hX 0 dX12_day_1 rfl kc_i_0 ?_
  refine p_X12_63 5 hX dX12_day_2 rfl ?_
  refine g_klM (fun M1 hM1 => ?_)
  refine g_aload_n 6 0 hX dX12_day_5 rfl rfl ?_
  refine r_X12_7 9 hX dX12_day_6 rfl ?_
  refine g_bipush 11 hX 6 dX12_day_9 rfl kc_b_6 ?_
  refine g_iald 12 hX dX12_day_11 rfl ?_
  exact g_iret hX hr rfl (Nat.le_refl 0) (Nat.le_refl 0) dX12_day_12
set_option maxRecDepth 100000 in
set_option maxHeartbeats 4000000 in
theorem k_X12_bank (l : Launch) (g : kG) (N : Nat) (M : kMem) (a0 : Nat) : kMet l g yX12_bank cX12_bank 1 (some .int) 1 0 0 [.ref a0] M (fun r : Int32 × kMem => (some (.int r.1), r.2)) (F_X12_bank N M a0) := by
  refine k_of (lv := [(0, .ref a0)]) RX12 (by decide) rfl rfl (Nat.le_of_ble_eq_true rfl) ?_
  intro p e s m args below meth c hX hr _
  unfold F_X12_bank
  refine g_aload_n 1 0 hX dX12_bank_0 rfl rfl ?_
  refine g_iconst 2 hX 0 dX12_bank_1 rfl kc_i_0 ?_
  refine p_X12_63 5 hX dX12_bank_2 rfl ?_
  refine g_klM (fun M1 hM1 => ?_)
  refine g_aload_n 6 0 hX dX12_bank_5 rfl rfl ?_
  refine r_X12_7 9 hX dX12_bank_6 rfl ?_
  refine g_iconst 10 hX 5 dX12_bank_9 rfl kc_i_5 ?_
  refine g_iald 11 hX dX12_bank_10 rfl ?_
  exact g_iret hX hr rfl (Nat.le_refl 0) (Nat.le_refl 0) dX12_bank_11
set_option maxRecDepth 100000 in
set_option maxHeartbeats 4000000 in
theorem k_X12_wage (l : Launch) (g : kG) (N : Nat) (M : kMem) (a0 : Nat) : kMet l g yX12_wage cX12_wage 1 (some .int) 1 0 0 [.ref a0] M (fun r : Int32 × kMem => (some (.int r.1), r.2)) (F_X12_wage N M a0) := by
  refine k_of (lv := [(0, .ref a0)]) RX12 (by decide) rfl rfl (Nat.le_of_ble_eq_true rfl) ?_
  intro p e s m args below meth c hX hr _
  unfold F_X12_wage
  refine g_aload_n 1 0 hX dX12_wage_0 rfl rfl ?_
  refine g_iconst 2 hX 0 dX12_wage_1 rfl kc_i_0 ?_
  refine p_X12_63 5 hX dX12_wage_2 rfl ?_
  refine g_klM (fun M1 hM1 => ?_)
  refine g_aload_n 6 0 hX dX12_wage_5 rfl rfl ?_
  refine r_X12_7 9 hX dX12_wage_6 rfl ?_
  refine g_iconst 10 hX 0 dX12_wage_9 rfl kc_i_0 ?_
  refine g_iald 11 hX dX12_wage_10 rfl ?_
  exact g_iret hX hr rfl (Nat.le_refl 0) (Nat.le_refl 0) dX12_wage_11
set_option maxRecDepth 100000 in
set_option maxHeartbeats 4000000 in
theorem k_X12_basePrice (l : Launch) (g : kG) (N : Nat) (M : kMem) (a0 : Nat) : kMet l g yX12_basePrice cX12_basePrice 1 (some .int) 1 0 0 [.ref a0] M (fun r : Int32 × kMem => (some (.int r.1), r.2)) (F_X12_basePrice N M a0) := by
  refine k_of (lv := [(0, .ref a0)]) RX12 (by decide) rfl rfl (Nat.le_of_ble_eq_true rfl) ?_
  intro p e s m args below meth c hX hr _
  unfold F_X12_basePrice
  refine g_aload_n 1 0 hX dX12_basePrice_0 rfl rfl ?_
  refine g_iconst 2 hX 0 dX12_basePrice_1 rfl kc_i_0 ?_
  refine p_X12_63 5 hX dX12_basePrice_2 rfl ?_
  refine g_klM (fun M1 hM1 => ?_)
  refine g_aload_n 6 0 hX dX12_basePrice_5 rfl rfl ?_
  refine r_X12_7 9 hX dX12_basePrice_6 rfl ?_
  refine g_iconst 10 hX 1 dX12_basePrice_9 rfl kc_i_1 ?_
  refine g_iald 11 hX dX12_basePrice_10 rfl ?_
  exact g_iret hX hr rfl (Nat.le_refl 0) (Nat.le_refl 0) dX12_basePrice_11
set_option maxRecDepth 100000 in
set_option maxHeartbeats 4000000 in
theorem k_X12_retirementAge (l : Launch) (g : kG) (N : Nat) (M : kMem) (a0 : Nat) : kMet l g yX12_retirementAge cX12_retirementAge 1 (some .int) 1 0 0 [.ref a0] M (fun r : Int32 × kMem => (some (.int r.1), r.2)) (F_X12_retirementAge N M a0) := by
  refine k_of (lv := [(0, .ref a0)]) RX12 (by decide) rfl rfl (Nat.le_of_ble_eq_true rfl) ?_
  intro p e s m args below meth c hX hr _
  unfold F_X12_retirementAge
  refine g_aload_n 1 0 hX dX12_retirementAge_0 rfl rfl ?_
  refine g_iconst 2 hX 0 dX12_retirementAge_1 rfl kc_i_0 ?_
  refine p_X12_63 5 hX dX12_retirementAge_2 rfl ?_
  refine g_klM (fun M1 hM1 => ?_)
  refine g_aload_n 6 0 hX dX12_retirementAge_5 rfl rfl ?_
  refine r_X12_7 9 hX dX12_retirementAge_6 rfl ?_
  refine g_iconst 10 hX 3 dX12_retirementAge_9 rfl kc_i_3 ?_
  refine g_iald 11 hX dX12_retirementAge_10 rfl ?_
  exact g_iret hX hr rfl (Nat.le_refl 0) (Nat.le_refl 0) dX12_retirementAge_11
set_option maxRecDepth 100000 in
set_option maxHeartbeats 4000000 in
theorem k_X12_boardCount (l : Launch) (g : kG) (N : Nat) (M : kMem) (a0 : Nat) : kMet l g yX12_boardCount cX12_boardCount 1 (some .int) 1 0 0 [.ref a0] M (fun r : Int32 × kMem => (some (.int r.1), r.2)) (F_X12_boardCount N M a0) := by
  refine k_of (lv := [(0, .ref a0)]) RX12 (by decide) rfl rfl (Nat.le_of_ble_eq_true rfl) ?_
  intro p e s m args below meth c hX hr _
  unfold F_X12_boardCount
  refine g_aload_n 1 0 hX dX12_boardCount_0 rfl rfl ?_
  refine g_iconst 2 hX 0 dX12_boardCount_1 rfl kc_i_0 ?_
  refine p_X12_63 5 hX dX12_boardCount_2 rfl ?_
  refine g_klM (fun M1 hM1 => ?_)
  refine g_aload_n 6 0 hX dX12_boardCount_5 rfl rfl ?_
  refine r_X12_7 9 hX dX12_boardCount_6 rfl ?_
  refine g_bipush 11 hX 7 dX12_boardCount_9 rfl kc_b_7 ?_
  refine g_iald 12 hX dX12_boardCount_11 rfl ?_
  exact g_iret hX hr rfl (Nat.le_refl 0) (Nat.le_refl 0) dX12_boardCount_12
set_option maxRecDepth 100000 in
set_option maxHeartbeats 4000000 in
theorem k_X12_armLength (l : Launch) (g : kG) (N : Nat) (M : kMem) (a0 : Nat) (x1 : Int32) : kMet l g yX12_armLength cX12_armLength 2 (some .int) 3 0 0 [.ref a0, .int x1] M (fun r : Int32 × kMem => (some (.int r.1), r.2)) (F_X12_armLength N M a0 x1) := by
  refine k_of (lv := [(0, .ref a0), (1, .int x1)]) RX12 (by decide) rfl rfl (Nat.le_of_ble_eq_true rfl) ?_
  intro p e s m args below meth c hX hr _
  unfold F_X12_armLength
  refine g_aload_n 1 0 hX dX12_armLength_0 rfl rfl ?_
  refine g_iconst 2 hX 0 dX12_armLength_1 rfl kc_i_0 ?_
  refine p_X12_63 5 hX dX12_armLength_2 rfl ?_
  refine g_klM (fun M1 hM1 => ?_)
  refine g_aload_n 6 0 hX dX12_armLength_5 rfl rfl ?_
  refine g_iload_n 7 1 hX dX12_armLength_6 rfl rfl ?_
  refine g_callV_i 10 hX (k_X12_noBoard l g N M1 a0 x1) lk_X12_noBoard rfl (ci := 12) rfl (Nat.le_of_ble_eq_true rfl) q_2102 q_113 (by omega) rfl (Nat.le_of_ble_eq_true rfl) (Nat.zero_le _) (Nat.zero_le _) dX12_armLength_7 rfl (fun r2 => ?_)
  refine g_if_eq 17 13 hX dX12_armLength_10 (by decide) rfl (fun _ => ?_) (fun _ => ?_)
  · refine g_aload_n 18 0 hX dX12_armLength_17 rfl rfl ?_
    refine g_iload_n 19 1 hX dX12_armLength_18 rfl rfl ?_
    refine g_iconst 20 hX 0 dX12_armLength_19 rfl kc_i_0 ?_
    refine g_callV_ip 23 hX (k_X12_ofBoard l g N r2.2 a0 x1 0) lk_X12_ofBoard rfl (ci := 12) rfl (Nat.le_of_ble_eq_true rfl) q_1867 q_64 (by omega) rfl (Nat.le_of_ble_eq_true rfl) (Nat.zero_le _) (Nat.zero_le _) dX12_armLength_20 rfl (fun r3 => ?_)
    exact g_iret hX hr rfl (Nat.le_refl 0) (Nat.le_refl 0) dX12_armLength_23
  · refine g_iconst 14 hX 0 dX12_armLength_13 rfl kc_i_0 ?_
    refine g_goto 23 hX dX12_armLength_14 (by decide) ?_
    exact g_iret hX hr rfl (Nat.le_refl 0) (Nat.le_refl 0) dX12_armLength_23
