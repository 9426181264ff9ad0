set_option maxRecDepth 100000 in
set_option maxHeartbeats 4000000 in
theorem k_X4_retire (l : Launch) (g : kG) (N : Nat) (M : kMem) (a0 : Nat) (a1 : Nat) : kMet l g yX4_retire cX4_retire 2 none 3 0 0 [.ref a0, .ref a1] M (fun r : kMem => (none, r)) (F_X4_retire N M a0 a1) := by
  refine k_of (lv := [(0, .ref a0), (1, .ref a1)]) RX4 (by decide) rfl rfl (Nat.le_of_ble_eq_true rfl) ?_
  intro p e s m args below meth c hX hr _
  unfold F_X4_retire
  refine g_aload_n 1 0 hX dX4_retire_0 rfl rfl ?_
  refine g_aload_n 2 1 hX dX4_retire_1 rfl rfl ?_
  refine g_callV_v 5 hX (k_X4_unseat l g N M a0 a1) lk_X4_unseat rfl (ci := 4) rfl (Nat.le_of_ble_eq_true rfl) q_888 q_890 (by omega) rfl (Nat.le_of_ble_eq_true rfl) (Nat.zero_le _) (Nat.zero_le _) dX4_retire_2 rfl (fun M1 => ?_)
  refine g_aload_n 6 0 hX dX4_retire_5 rfl rfl ?_
  refine g_aload_n 7 1 hX dX4_retire_6 rfl rfl ?_
  refine g_aload_n 8 1 hX dX4_retire_7 rfl rfl ?_
  refine r_X4_102 11 hX dX4_retire_8 rfl ?_
  refine g_callV_v 14 hX (k_X4_payToBank l g N M1 a0 a1 (kI M1 a1 3)) lk_X4_payToBank rfl (ci := 4) rfl (Nat.le_of_ble_eq_true rfl) q_960 q_22 (by omega) rfl (Nat.le_of_ble_eq_true rfl) (Nat.zero_le _) (Nat.zero_le _) dX4_retire_11 rfl (fun M2 => ?_)
  refine g_aload_n 15 1 hX dX4_retire_14 rfl rfl ?_
  refine g_iconst 16 hX 0 dX4_retire_15 rfl kc_i_0 ?_
  refine p_X4_108 19 hX dX4_retire_16 rfl ?_
  refine g_klM (fun M3 hM3 => ?_)
  refine g_aload_n 20 0 hX dX4_retire_19 rfl rfl ?_
  refine r_X4_26 23 hX dX4_retire_20 rfl ?_
  refine g_iconst 24 hX 2 dX4_retire_23 rfl kc_i_2 ?_
  refine g_aload_n 25 1 hX dX4_retire_24 rfl rfl ?_
  refine r_X4_118 28 hX dX4_retire_25 rfl ?_
  refine g_aload_n 29 0 hX dX4_retire_28 rfl rfl ?_
  refine r_X4_34 32 hX dX4_retire_29 rfl ?_
  refine g_callV_v 35 hX (k_X2_add l g N M3 (kR M3 a0 15) 2 (kI M3 a1 0) (kI M3 a0 0)) lk_X2_add rfl (ci := 2) rfl (Nat.le_of_ble_eq_true rfl) q_964 q_966 (by omega) rfl (Nat.le_of_ble_eq_true rfl) (Nat.zero_le _) (Nat.zero_le _) dX4_retire_32 rfl (fun M4 => ?_)
  exact g_vret hX hr rfl (Nat.le_refl 0) (Nat.le_refl 0) dX4_retire_35
set_option maxRecDepth 100000 in
set_option maxHeartbeats 4000000 in
theorem k_X4_ageTraders_2 {p : Program} {l : Launch} {e : Env} {s : State} {m : MethodId} {args : Array Value} {below : List Frame} {meth : Method} {c : Code} {g : kG} (hX : Cok (p, l, e, { frames := 2 * 4, cells := 0, slots := 0, locals := 60 * 4 }, s, m, args, below, meth, c, cX4_ageTraders, 3, RX4, g, 4)) (hr : meth.sig.returnType = none) (N : Nat) : ∀ (n : Nat) (M : kMem) (a0 : Nat) (x1 : Int32), GG (p, l, e, { frames := 2 * 4, cells := 0, slots := 0, locals := 60 * 4 }, s, m, args, below, meth, c, cX4_ageTraders, 3, RX4, g, 4) (fun b => MQ below (kQ g ((fun r : kMem => (none, r)) b)) args s 0 0 (kZ g.2.2.1)) 0 0 (F_X4_ageTraders_2 N n M a0 x1) 2 [(0, .ref a0), (1, .int x1)] [] M := by
  intro n
  induction n with
  | zero => intro _ _ _; exact g_none
  | succ n ih =>
    intro M a0 x1
    unfold F_X4_ageTraders_2
    refine g_iload_n 3 1 hX dX4_ageTraders_2 rfl rfl ?_
    refine g_aload_n 4 0 hX dX4_ageTraders_3 rfl rfl ?_
    refine r_X4_50 7 hX dX4_ageTraders_4 rfl ?_
    refine g_icmp_ge 56 10 hX dX4_ageTraders_7 (by decide) rfl (fun _ => ?_) (fun _ => ?_)
    · exact g_vret hX hr rfl (Nat.le_refl 0) (Nat.le_refl 0) dX4_ageTraders_56
    · refine g_aload_n 11 0 hX dX4_ageTraders_10 rfl rfl ?_
      refine r_X4_19 14 hX dX4_ageTraders_11 rfl ?_
      refine g_iload_n 15 1 hX dX4_ageTraders_14 rfl rfl ?_
      refine g_aald 17 4 16 hX RX10 (Nat.le_of_ble_eq_true rfl) rfl dX4_ageTraders_15 rfl ?_
      refine g_klR (fun w1 hw1 => ?_)
      refine g_astore_n 17 2 [(2, .ref w1), (0, .ref a0), (1, .int x1)] hX dX4_ageTraders_16 rfl rfl (Nat.le_of_ble_eq_true rfl) rfl ?_
      refine g_aload_n 18 0 hX dX4_ageTraders_17 rfl rfl ?_
      refine r_X4_108 21 hX dX4_ageTraders_18 rfl ?_
      refine g_if_eq 50 24 hX dX4_ageTraders_21 (by decide) rfl (fun _ => ?_) (fun _ => ?_)
      · refine g_kl (fun v2 hv2 => ?_)
        refine g_iinc 53 1 2 v2 [(1, .int v2), (2, .ref w1), (0, .ref a0)] hX dX4_ageTraders_50 rfl rfl (by rw [hv2, kc_i_1]) (Nat.le_of_ble_eq_true rfl) rfl ?_
        refine g_goto 2 hX dX4_ageTraders_53 (by decide) ?_
        refine g_lv [2, 0] rfl ?_
        exact ih M a0 v2
      · refine g_aload_n 25 0 hX dX4_ageTraders_24 rfl rfl ?_
        refine g_dup 26 hX dX4_ageTraders_25 rfl rfl ?_
        refine r_X4_105 29 hX dX4_ageTraders_26 rfl ?_
        refine g_iconst 30 hX 1 dX4_ageTraders_29 rfl kc_i_1 ?_
        refine g_iadd 31 hX dX4_ageTraders_30 rfl ?_
        refine p_X4_105 34 hX dX4_ageTraders_31 rfl ?_
        refine g_klM (fun M3 hM3 => ?_)
        refine g_aload_n 35 0 hX dX4_ageTraders_34 rfl rfl ?_
        refine r_X4_105 38 hX dX4_ageTraders_35 rfl ?_
        refine g_aload_n 39 1 hX dX4_ageTraders_38 rfl rfl ?_
        refine r_X4_68 42 hX dX4_ageTraders_39 rfl ?_
        refine g_icmp_le 50 45 hX dX4_ageTraders_42 (by decide) rfl (fun _ => ?_) (fun _ => ?_)
        · refine g_kl (fun v4 hv4 => ?_)
          refine g_iinc 53 1 2 v4 [(1, .int v4), (2, .ref w1), (0, .ref a0)] hX dX4_ageTraders_50 rfl rfl (by rw [hv4, kc_i_1]) (Nat.le_of_ble_eq_true rfl) rfl ?_
          refine g_goto 2 hX dX4_ageTraders_53 (by decide) ?_
          refine g_lv [2, 0] rfl ?_
          exact ih M3 a0 v4
        · refine g_aload_n 46 1 hX dX4_ageTraders_45 rfl rfl ?_
          refine g_aload_n 47 0 hX dX4_ageTraders_46 rfl rfl ?_
          refine g_callV_v 50 hX (k_X4_retire l g N M3 a0 w1) lk_X4_retire rfl (ci := 4) rfl (Nat.le_of_ble_eq_true rfl) q_956 q_21 (by omega) rfl (Nat.le_of_ble_eq_true rfl) (Nat.zero_le _) (Nat.zero_le _) dX4_ageTraders_47 rfl (fun M5 => ?_)
          refine g_kl (fun v6 hv6 => ?_)
          refine g_iinc 53 1 2 v6 [(1, .int v6), (2, .ref w1), (0, .ref a0)] hX dX4_ageTraders_50 rfl rfl (by rw [hv6, kc_i_1]) (Nat.le_of_ble_eq_true rfl) rfl ?_
          refine g_goto 2 hX dX4_ageTraders_53 (by decide) ?_
          refine g_lv [2, 0] rfl ?_
          exact ih M5 a0 v6
set_option maxRecDepth 100000 in
set_option maxHeartbeats 4000000 in
theorem k_X4_ageTraders (l : Launch) (g : kG) (N : Nat) (M : kMem) (a0 : Nat) : kMet l g yX4_ageTraders cX4_ageTraders 3 none 4 0 0 [.ref a0] M (fun r : kMem => (none, r)) (F_X4_ageTraders N M a0) := by
  refine k_of (lv := [(0, .ref a0)]) RX4 (by decide) rfl rfl (Nat.le_of_ble_eq_true rfl) ?_
  intro p e s m args below meth c hX hr _
  unfold F_X4_ageTraders
  refine g_iconst 1 hX 0 dX4_ageTraders_0 rfl kc_i_0 ?_
  refine g_istore_n 2 1 [(1, .int 0), (0, .ref a0)] hX dX4_ageTraders_1 rfl rfl (Nat.le_of_ble_eq_true rfl) rfl ?_
  refine g_lv [1, 0] rfl ?_
  exact k_X4_ageTraders_2 hX hr N N M a0 0
set_option maxRecDepth 100000 in
set_option maxHeartbeats 4000000 in
theorem k_X4_payIncomes_48 {p : Program} {l : Launch} {e : Env} {s : State} {m : MethodId} {args : Array Value} {below : List Frame} {meth : Method} {c : Code} {g : kG} (hX : Cok (p, l, e, { frames := 2 * 4, cells := 0, slots := 0, locals := 60 * 4 }, s, m, args, below, meth, c, cX4_payIncomes, 5, RX4, g, 4)) (hr : meth.sig.returnType = none) (N : Nat) (k2 : kMem → Nat → Int32 → Option (kMem)) (h2 : ∀ (M : kMem) (a0 : Nat) (x1 : Int32), GG (p, l, e, { frames := 2 * 4, cells := 0, slots := 0, locals := 60 * 4 }, s, m, args, below, meth, c, cX4_payIncomes, 5, RX4, g, 4) (fun b => MQ below (kQ g ((fun r : kMem => (none, r)) b)) args s 0 0 (kZ g.2.2.1)) 0 0 (k2 M a0 x1) 2 [(0, .ref a0), (1, .int x1)] [] M) : ∀ (M : kMem) (a0 : Nat) (x1 : Int32) (a2 : Nat) (y0 : Int32), GG (p, l, e, { frames := 2 * 4, cells := 0, slots := 0, locals := 60 * 4 }, s, m, args, below, meth, c, cX4_payIncomes, 5, RX4, g, 4) (fun b => MQ below (kQ g ((fun r : kMem => (none, r)) b)) args s 0 0 (kZ g.2.2.1)) 0 0 (F_X4_payIncomes_48 N k2 M a0 x1 a2 y0) 48 [(0, .ref a0), (1, .int x1), (2, .ref a2)] [.int y0] M := by
  intro M a0 x1 a2 y0
  unfold F_X4_payIncomes_48
  refine g_istore 50 4 [(4, .int y0), (0, .ref a0), (1, .int x1), (2, .ref a2)] hX dX4_payIncomes_48 rfl (Nat.le_of_ble_eq_true rfl) rfl ?_
  refine g_aload_n 51 1 hX dX4_payIncomes_50 rfl rfl ?_
  refine g_dup 52 hX dX4_payIncomes_51 rfl rfl ?_
  refine r_X4_56 55 hX dX4_payIncomes_52 rfl ?_
  refine g_iload 57 0 hX dX4_payIncomes_55 rfl rfl ?_
  refine g_isub 58 hX dX4_payIncomes_57 rfl ?_
  refine p_X4_56 61 hX dX4_payIncomes_58 rfl ?_
  refine g_klM (fun M3 hM3 => ?_)
  refine g_aload_n 62 3 hX dX4_payIncomes_61 rfl rfl ?_
  refine g_dup 63 hX dX4_payIncomes_62 rfl rfl ?_
  refine r_X4_102 66 hX dX4_payIncomes_63 rfl ?_
  refine g_iload 68 0 hX dX4_payIncomes_66 rfl rfl ?_
  refine g_iadd 69 hX dX4_payIncomes_68 rfl ?_
  refine p_X4_102 72 hX dX4_payIncomes_69 rfl ?_
  refine g_klM (fun M4 hM4 => ?_)
  refine g_kl (fun v5 hv5 => ?_)
  refine g_iinc 75 1 2 v5 [(1, .int v5), (4, .int y0), (0, .ref a0), (2, .ref a2)] hX dX4_payIncomes_72 rfl rfl (by rw [hv5, kc_i_1]) (Nat.le_of_ble_eq_true rfl) rfl ?_
  refine g_goto 2 hX dX4_payIncomes_75 (by decide) ?_
  refine g_lv [2, 0] rfl ?_
  exact h2 M4 a0 v5
set_option maxRecDepth 100000 in
set_option maxHeartbeats 4000000 in
theorem k_X4_payIncomes_2 {p : Program} {l : Launch} {e : Env} {s : State} {m : MethodId} {args : Array Value} {below : List Frame} {meth : Method} {c : Code} {g : kG} (hX : Cok (p, l, e, { frames := 2 * 4, cells := 0, slots := 0, locals := 60 * 4 }, s, m, args, below, meth, c, cX4_payIncomes, 5, RX4, g, 4)) (hr : meth.sig.returnType = none) (N : Nat) : ∀ (n : Nat) (M : kMem) (a0 : Nat) (x1 : Int32), GG (p, l, e, { frames := 2 * 4, cells := 0, slots := 0, locals := 60 * 4 }, s, m, args, below, meth, c, cX4_payIncomes, 5, RX4, g, 4) (fun b => MQ below (kQ g ((fun r : kMem => (none, r)) b)) args s 0 0 (kZ g.2.2.1)) 0 0 (F_X4_payIncomes_2 N n M a0 x1) 2 [(0, .ref a0), (1, .int x1)] [] M := by
  intro n
  induction n with
  | zero => intro _ _ _; exact g_none
  | succ n ih =>
    intro M a0 x1
    unfold F_X4_payIncomes_2
    refine g_iload_n 3 1 hX dX4_payIncomes_2 rfl rfl ?_
    refine g_aload_n 4 0 hX dX4_payIncomes_3 rfl rfl ?_
    refine r_X4_50 7 hX dX4_payIncomes_4 rfl ?_
    refine g_icmp_ge 78 10 hX dX4_payIncomes_7 (by decide) rfl (fun _ => ?_) (fun _ => ?_)
    · exact g_vret hX hr rfl (Nat.le_refl 0) (Nat.le_refl 0) dX4_payIncomes_78
    · refine g_aload_n 11 0 hX dX4_payIncomes_10 rfl rfl ?_
      refine r_X4_19 14 hX dX4_payIncomes_11 rfl ?_
      refine g_iload_n 15 1 hX dX4_payIncomes_14 rfl rfl ?_
      refine g_aald 17 4 16 hX RX10 (Nat.le_of_ble_eq_true rfl) rfl dX4_payIncomes_15 rfl ?_
      refine g_klR (fun w1 hw1 => ?_)
      refine g_astore_n 17 2 [(2, .ref w1), (0, .ref a0), (1, .int x1)] hX dX4_payIncomes_16 rfl rfl (Nat.le_of_ble_eq_true rfl) rfl ?_
      refine g_aload_n 18 1 hX dX4_payIncomes_17 rfl rfl ?_
      refine g_aload_n 19 0 hX dX4_payIncomes_18 rfl rfl ?_
      refine g_callV_ip 22 hX (k_X4_incomeFor l g N M a0 w1) lk_X4_incomeFor rfl (ci := 4) rfl (Nat.le_of_ble_eq_true rfl) q_947 q_949 (by omega) rfl (Nat.le_of_ble_eq_true rfl) (Nat.zero_le _) (Nat.zero_le _) dX4_payIncomes_19 rfl (fun r2 => ?_)
      refine g_istore_n 23 3 [(3, .int r2), (2, .ref w1), (0, .ref a0), (1, .int x1)] hX dX4_payIncomes_22 rfl rfl (Nat.le_of_ble_eq_true rfl) rfl ?_
      refine g_iload_n 24 0 hX dX4_payIncomes_23 rfl rfl ?_
      refine g_if_le 38 27 hX dX4_payIncomes_24 (by decide) rfl (fun _ => ?_) (fun _ => ?_)
      · refine g_iload_n 39 0 hX dX4_payIncomes_38 rfl rfl ?_
        refine g_ineg 40 hX dX4_payIncomes_39 rfl ?_
        refine g_aload_n 41 1 hX dX4_payIncomes_40 rfl rfl ?_
        refine r_X4_102 44 hX dX4_payIncomes_41 rfl ?_
        refine g_mmin 47 hX q_951 dX4_payIncomes_44 rfl (Nat.le_of_ble_eq_true rfl) (by decide) (Nat.zero_le _) (Nat.zero_le _) ?_
        refine g_ineg 48 hX dX4_payIncomes_47 rfl ?_
        refine g_lv [2, 3, 1] rfl ?_
        exact k_X4_payIncomes_48 hX hr N (fun M a0 x1 => F_X4_payIncomes_2 N n M a0 x1) ih M a0 x1 w1 (-(kmin (-r2) (kI M w1 3)))
      · refine g_iload_n 28 0 hX dX4_payIncomes_27 rfl rfl ?_
        refine g_aload_n 29 2 hX dX4_payIncomes_28 rfl rfl ?_
        refine r_X4_56 32 hX dX4_payIncomes_29 rfl ?_
        refine g_mmin 35 hX q_951 dX4_payIncomes_32 rfl (Nat.le_of_ble_eq_true rfl) (by decide) (Nat.zero_le _) (Nat.zero_le _) ?_
        refine g_goto 48 hX dX4_payIncomes_35 (by decide) ?_
        refine g_lv [2, 3, 1] rfl ?_
        exact k_X4_payIncomes_48 hX hr N (fun M a0 x1 => F_X4_payIncomes_2 N n M a0 x1) ih M a0 x1 w1 (kmin r2 (kI M a0 1))
set_option maxRecDepth 100000 in
set_option maxHeartbeats 4000000 in
theorem k_X4_payIncomes (l : Launch) (g : kG) (N : Nat) (M : kMem) (a0 : Nat) : kMet l g yX4_payIncomes cX4_payIncomes 5 none 4 0 0 [.ref a0] M (fun r : kMem => (none, r)) (F_X4_payIncomes N M a0) := by
  refine k_of (lv := [(0, .ref a0)]) RX4 (by decide) rfl rfl (Nat.le_of_ble_eq_true rfl) ?_
  intro p e s m args below meth c hX hr _
  unfold F_X4_payIncomes
  refine g_iconst 1 hX 0 dX4_payIncomes_0 rfl kc_i_0 ?_
  refine g_istore_n 2 1 [(1, .int 0), (0, .ref a0)] hX dX4_payIncomes_1 rfl rfl (Nat.le_of_ble_eq_true rfl) rfl ?_
  refine g_lv [1, 0] rfl ?_
  exact k_X4_payIncomes_2 hX hr N N M a0 0
set_option maxRecDepth 100000 in
set_option maxHeartbeats 4000000 in
theorem k_X4_dropFarthest_5 {p : Program} {l : Launch} {e : Env} {s : State} {m : MethodId} {args : Array Value} {below : List Frame} {meth : Method} {c : Code} {g : kG} (hX : Cok (p, l, e, { frames := 2 * 3, cells := 0, slots := 0, locals := 60 * 3 }, s, m, args, below, meth, c, cX4_dropFarthest, 5, RX4, g, 3)) (hr : meth.sig.returnType = none) (N : Nat) : ∀ (n : Nat) (M : kMem) (a0 : Nat) (a1 : Nat) (x2 : Int32) (x3 : Int32), GG (p, l, e, { frames := 2 * 3, cells := 0, slots := 0, locals := 60 * 3 }, s, m, args, below, meth, c, cX4_dropFarthest, 5, RX4, g, 3) (fun b => MQ below (kQ g ((fun r : kMem => (none, r)) b)) args s 0 0 (kZ g.2.2.1)) 0 0 (F_X4_dropFarthest_5 N n M a0 a1 x2 x3) 5 [(0, .ref a0), (1, .ref a1), (2, .int x2), (3, .int x3)] [] M := by
  intro n
  induction n with
  | zero => intro _ _ _ _ _; exact g_none
  | succ n ih =>
    intro M a0 a1 x2 x3
    unfold F_X4_dropFarthest_5
    refine g_iload_n 6 3 hX dX4_dropFarthest_5 rfl rfl ?_
    refine g_iconst 7 hX 1 dX4_dropFarthest_6 rfl kc_i_1 ?_
    refine g_icmp_lt 68 10 hX dX4_dropFarthest_7 (by decide) rfl (fun _ => ?_) (fun _ => ?_)
    · exact g_vret hX hr rfl (Nat.le_refl 0) (Nat.le_refl 0) dX4_dropFarthest_68
    · refine g_aload_n 11 0 hX dX4_dropFarthest_10 rfl rfl ?_
      refine g_aload_n 12 1 hX dX4_dropFarthest_11 rfl rfl ?_
      refine g_iload_n 13 2 hX dX4_dropFarthest_12 rfl rfl ?_
      refine g_iload_n 14 3 hX dX4_dropFarthest_13 rfl rfl ?_
      refine g_imul 15 hX dX4_dropFarthest_14 rfl ?_
      refine g_callV_ip 18 hX (k_X0_ownerAt l g N M a1 (x2 * x3)) lk_X0_ownerAt rfl (ci := 0) rfl (Nat.le_of_ble_eq_true rfl) q_977 q_680 (by omega) rfl (Nat.le_of_ble_eq_true rfl) (Nat.zero_le _) (Nat.zero_le _) dX4_dropFarthest_15 rfl (fun r2 => ?_)
      refine g_callV_rp 21 hX (k_X4_traderNumbered l g N M a0 r2) lk_X4_traderNumbered rfl (ci := 4) rfl (Nat.le_of_ble_eq_true rfl) q_978 q_980 (by omega) rfl (Nat.le_of_ble_eq_true rfl) (Nat.zero_le _) (Nat.zero_le _) dX4_dropFarthest_18 rfl (fun r3 => ?_)
      refine g_astore 23 4 [(4, .ref r3), (0, .ref a0), (1, .ref a1), (2, .int x2), (3, .int x3)] hX dX4_dropFarthest_21 rfl (Nat.le_of_ble_eq_true rfl) rfl ?_
      refine g_aload 25 0 hX dX4_dropFarthest_23 rfl rfl ?_
      refine g_ifnull 62 28 hX dX4_dropFarthest_25 (by decide) rfl (fun _ => ?_) (fun _ => ?_)
      · refine g_kl (fun v4 hv4 => ?_)
        refine g_iinc 65 3 4 v4 [(3, .int v4), (4, .ref r3), (0, .ref a0), (1, .ref a1), (2, .int x2)] hX dX4_dropFarthest_62 rfl rfl (by rw [hv4, kc_i_m1]) (Nat.le_of_ble_eq_true rfl) rfl ?_
        refine g_goto 5 hX dX4_dropFarthest_65 (by decide) ?_
        refine g_lv [2, 3, 4, 0] rfl ?_
        exact ih M a0 a1 x2 v4
      · refine g_aload_n 29 1 hX dX4_dropFarthest_28 rfl rfl ?_
        refine g_aload 31 0 hX dX4_dropFarthest_29 rfl rfl ?_
        refine g_callV_v 34 hX (k_X4_unseat l g N M a0 r3) lk_X4_unseat rfl (ci := 4) rfl (Nat.le_of_ble_eq_true rfl) q_888 q_890 (by omega) rfl (Nat.le_of_ble_eq_true rfl) (Nat.zero_le _) (Nat.zero_le _) dX4_dropFarthest_31 rfl (fun M5 => ?_)
        refine g_aload_n 35 1 hX dX4_dropFarthest_34 rfl rfl ?_
        refine g_aload 37 0 hX dX4_dropFarthest_35 rfl rfl ?_
        refine g_aload_n 38 1 hX dX4_dropFarthest_37 rfl rfl ?_
        refine r_X4_71 41 hX dX4_dropFarthest_38 rfl ?_
        refine g_callV_v 44 hX (k_X4_payToBank l g N M5 a0 r3 (kI M5 a0 6)) lk_X4_payToBank rfl (ci := 4) rfl (Nat.le_of_ble_eq_true rfl) q_960 q_22 (by omega) rfl (Nat.le_of_ble_eq_true rfl) (Nat.zero_le _) (Nat.zero_le _) dX4_dropFarthest_41 rfl (fun M6 => ?_)
        refine g_aload_n 45 1 hX dX4_dropFarthest_44 rfl rfl ?_
        refine r_X4_26 48 hX dX4_dropFarthest_45 rfl ?_
        refine g_iconst 49 hX 1 dX4_dropFarthest_48 rfl kc_i_1 ?_
        refine g_aload 51 0 hX dX4_dropFarthest_49 rfl rfl ?_
        refine r_X4_118 54 hX dX4_dropFarthest_51 rfl ?_
        refine g_aload_n 55 1 hX dX4_dropFarthest_54 rfl rfl ?_
        refine r_X4_34 58 hX dX4_dropFarthest_55 rfl ?_
        refine g_callV_v 61 hX (k_X2_add l g N M6 (kR M6 a0 15) 1 (kI M6 r3 0) (kI M6 a0 0)) lk_X2_add rfl (ci := 2) rfl (Nat.le_of_ble_eq_true rfl) q_964 q_966 (by omega) rfl (Nat.le_of_ble_eq_true rfl) (Nat.zero_le _) (Nat.zero_le _) dX4_dropFarthest_58 rfl (fun M7 => ?_)
        exact g_vret hX hr rfl (Nat.le_refl 0) (Nat.le_refl 0) dX4_dropFarthest_61
set_option maxRecDepth 100000 in
set_option maxHeartbeats 4000000 in
theorem k_X4_dropFarthest (l : Launch) (g : kG) (N : Nat) (M : kMem) (a0 : Nat) (a1 : Nat) (x2 : Int32) : kMet l g yX4_dropFarthest cX4_dropFarthest 5 none 3 0 0 [.ref a0, .ref a1, .int x2] M (fun r : kMem => (none, r)) (F_X4_dropFarthest N M a0 a1 x2) := by
  refine k_of (lv := [(0, .ref a0), (1, .ref a1), (2, .int x2)]) RX4 (by decide) rfl rfl (Nat.le_of_ble_eq_true rfl) ?_
  intro p e s m args below meth c hX hr _
  unfold F_X4_dropFarthest
  refine g_aload_n 1 1 hX dX4_dropFarthest_0 rfl rfl ?_
  refine r_X4_155 4 hX dX4_dropFarthest_1 rfl ?_
  refine g_klI (fun v1 hv1 => ?_)
  refine g_istore_n 5 3 [(3, .int v1), (0, .ref a0), (1, .ref a1), (2, .int x2)] hX dX4_dropFarthest_4 rfl rfl (Nat.le_of_ble_eq_true rfl) rfl ?_
  refine g_lv [1, 2, 3, 0] rfl ?_
  exact k_X4_dropFarthest_5 hX hr N N M a0 a1 x2 v1
set_option maxRecDepth 100000 in
set_option maxHeartbeats 4000000 in
theorem k_X4_tipBoards_29 {p : Program} {l : Launch} {e : Env} {s : State} {m : MethodId} {args : Array Value} {below : List Frame} {meth : Method} {c : Code} {g : kG} (hX : Cok (p, l, e, { frames := 2 * 4, cells := 0, slots := 0, locals := 60 * 4 }, s, m, args, below, meth, c, cX4_tipBoards, 6, RX4, g, 4)) (hr : meth.sig.returnType = (some .int)) (N : Nat) (k4 : kMem → Nat → Int32 → Int32 → Option (Int32 × kMem)) (h4 : ∀ (M : kMem) (a0 : Nat) (x1 : Int32) (x2 : Int32), GG (p, l, e, { frames := 2 * 4, cells := 0, slots := 0, locals := 60 * 4 }, s, m, args, below, meth, c, cX4_tipBoards, 6, RX4, g, 4) (fun b => MQ below (kQ g ((fun r : Int32 × kMem => (some (.int r.1), r.2)) b)) args s 0 0 (kZ g.2.2.1)) 0 0 (k4 M a0 x1 x2) 4 [(0, .ref a0), (1, .int x1), (2, .int x2)] [] M) : ∀ (n : Nat) (M : kMem) (a0 : Nat) (x1 : Int32) (x2 : Int32) (a3 : Nat) (x4 : Int32) (x5 : Int32), GG (p, l, e, { frames := 2 * 4, cells := 0, slots := 0, locals := 60 * 4 }, s, m, args, below, meth, c, cX4_tipBoards, 6, RX4, g, 4) (fun b => MQ below (kQ g ((fun r : Int32 × kMem => (some (.int r.1), r.2)) b)) args s 0 0 (kZ g.2.2.1)) 0 0 (F_X4_tipBoards_29 N k4 n M a0 x1 x2 a3 x4 x5) 29 [(0, .ref a0), (1, .int x1), (2, .int x2), (3, .ref a3), (4, .int x4), (5, .int x5)] [] M := by
  intro n
  induction n with
  | zero => intro _ _ _ _ _ _ _; exact g_none
  | succ n ih =>
    intro M a0 x1 x2 a3 x4 x5
    unfold F_X4_tipBoards_29
    refine g_iload 31 5 hX dX4_tipBoards_29 rfl rfl ?_
    refine g_bipush 33 hX 12 dX4_tipBoards_31 rfl kc_b_12 ?_
    refine g_icmp_ge 76 36 hX dX4_tipBoards_33 (by decide) rfl (fun _ => ?_) (fun _ => ?_)
    · refine g_kl (fun v4 hv4 => ?_)
      refine g_iinc 79 2 2 v4 [(2, .int v4), (0, .ref a0), (1, .int x1), (3, .ref a3), (4, .int x4), (5, .int x5)] hX dX4_tipBoards_76 rfl rfl (by rw [hv4, kc_i_1]) (Nat.le_of_ble_eq_true rfl) rfl ?_
      refine g_goto 4 hX dX4_tipBoards_79 (by decide) ?_
      refine g_lv [1, 2, 0] rfl ?_
      exact h4 M a0 x1 v4
    · refine g_aload_n 37 3 hX dX4_tipBoards_36 rfl rfl ?_
      refine g_iload 39 4 hX dX4_tipBoards_37 rfl rfl ?_
      refine g_callV_ip 42 hX (k_X0_tipsUnder l g N M a3 x4) lk_X0_tipsUnder rfl (ci := 0) rfl (Nat.le_of_ble_eq_true rfl) q_879 q_881 (by omega) rfl (Nat.le_of_ble_eq_true rfl) (Nat.zero_le _) (Nat.zero_le _) dX4_tipBoards_39 rfl (fun r5 => ?_)
      refine g_if_eq 76 45 hX dX4_tipBoards_42 (by decide) rfl (fun _ => ?_) (fun _ => ?_)
      · refine g_kl (fun v6 hv6 => ?_)
        refine g_iinc 79 2 2 v6 [(2, .int v6), (0, .ref a0), (1, .int x1), (3, .ref a3), (4, .int x4), (5, .int x5)] hX dX4_tipBoards_76 rfl rfl (by rw [hv6, kc_i_1]) (Nat.le_of_ble_eq_true rfl) rfl ?_
        refine g_goto 4 hX dX4_tipBoards_79 (by decide) ?_
        refine g_lv [1, 2, 0] rfl ?_
        exact h4 M a0 x1 v6
      · refine g_aload_n 46 0 hX dX4_tipBoards_45 rfl rfl ?_
        refine g_aload_n 47 3 hX dX4_tipBoards_46 rfl rfl ?_
        refine g_iload 49 4 hX dX4_tipBoards_47 rfl rfl ?_
        refine g_if_le 56 52 hX dX4_tipBoards_49 (by decide) rfl (fun _ => ?_) (fun _ => ?_)
        · refine g_iconst 57 hX (-1) dX4_tipBoards_56 rfl kc_i_m1 ?_
          refine g_callV_v 60 hX (k_X4_dropFarthest l g N M a0 a3 (-1)) lk_X4_dropFarthest rfl (ci := 4) rfl (Nat.le_of_ble_eq_true rfl) q_973 q_24 (by omega) rfl (Nat.le_of_ble_eq_true rfl) (Nat.zero_le _) (Nat.zero_le _) dX4_tipBoards_57 rfl (fun M7 => ?_)
          refine g_kl (fun v8 hv8 => ?_)
          refine g_iinc 63 1 1 v8 [(1, .int v8), (0, .ref a0), (2, .int x2), (3, .ref a3), (4, .int x4), (5, .int x5)] hX dX4_tipBoards_60 rfl rfl (by rw [hv8, kc_i_1]) (Nat.le_of_ble_eq_true rfl) rfl ?_
          refine g_aload_n 64 1 hX dX4_tipBoards_63 rfl rfl ?_
          refine g_aload_n 65 3 hX dX4_tipBoards_64 rfl rfl ?_
          refine g_callV_ip 68 hX (k_X4_torqueOn l g N M7 a0 a3) lk_X4_torqueOn rfl (ci := 4) rfl (Nat.le_of_ble_eq_true rfl) q_862 q_864 (by omega) rfl (Nat.le_of_ble_eq_true rfl) (Nat.zero_le _) (Nat.zero_le _) dX4_tipBoards_65 rfl (fun r9 => ?_)
          refine g_istore 70 4 [(4, .int r9), (1, .int v8), (0, .ref a0), (2, .int x2), (3, .ref a3), (5, .int x5)] hX dX4_tipBoards_68 rfl (Nat.le_of_ble_eq_true rfl) rfl ?_
          refine g_kl (fun v10 hv10 => ?_)
          refine g_iinc 73 5 5 v10 [(5, .int v10), (4, .int r9), (1, .int v8), (0, .ref a0), (2, .int x2), (3, .ref a3)] hX dX4_tipBoards_70 rfl rfl (by rw [hv10, kc_i_1]) (Nat.le_of_ble_eq_true rfl) rfl ?_
          refine g_goto 29 hX dX4_tipBoards_73 (by decide) ?_
          refine g_lv [3, 2, 4, 5, 1, 0] rfl ?_
          exact ih M7 a0 v8 x2 a3 r9 v10
        · refine g_iconst 53 hX 1 dX4_tipBoards_52 rfl kc_i_1 ?_
          refine g_goto 57 hX dX4_tipBoards_53 (by decide) ?_
          refine g_callV_v 60 hX (k_X4_dropFarthest l g N M a0 a3 1) lk_X4_dropFarthest rfl (ci := 4) rfl (Nat.le_of_ble_eq_true rfl) q_973 q_24 (by omega) rfl (Nat.le_of_ble_eq_true rfl) (Nat.zero_le _) (Nat.zero_le _) dX4_tipBoards_57 rfl (fun M11 => ?_)
          refine g_kl (fun v12 hv12 => ?_)
          refine g_iinc 63 1 1 v12 [(1, .int v12), (0, .ref a0), (2, .int x2), (3, .ref a3), (4, .int x4), (5, .int x5)] hX dX4_tipBoards_60 rfl rfl (by rw [hv12, kc_i_1]) (Nat.le_of_ble_eq_true rfl) rfl ?_
          refine g_aload_n 64 1 hX dX4_tipBoards_63 rfl rfl ?_
          refine g_aload_n 65 3 hX dX4_tipBoards_64 rfl rfl ?_
          refine g_callV_ip 68 hX (k_X4_torqueOn l g N M11 a0 a3) lk_X4_torqueOn rfl (ci := 4) rfl (Nat.le_of_ble_eq_true rfl) q_862 q_864 (by omega) rfl (Nat.le_of_ble_eq_true rfl) (Nat.zero_le _) (Nat.zero_le _) dX4_tipBoards_65 rfl (fun r13 => ?_)
          refine g_istore 70 4 [(4, .int r13), (1, .int v12), (0, .ref a0), (2, .int x2), (3, .ref a3), (5, .int x5)] hX dX4_tipBoards_68 rfl (Nat.le_of_ble_eq_true rfl) rfl ?_
          refine g_kl (fun v14 hv14 => ?_)
          refine g_iinc 73 5 5 v14 [(5, .int v14), (4, .int r13), (1, .int v12), (0, .ref a0), (2, .int x2), (3, .ref a3)] hX dX4_tipBoards_70 rfl rfl (by rw [hv14, kc_i_1]) (Nat.le_of_ble_eq_true rfl) rfl ?_
          refine g_goto 29 hX dX4_tipBoards_73 (by decide) ?_
          refine g_lv [3, 2, 4, 5, 1, 0] rfl ?_
          exact ih M11 a0 v12 x2 a3 r13 v14
set_option maxRecDepth 100000 in
set_option maxHeartbeats 4000000 in
theorem k_X4_tipBoards_4 {p : Program} {l : Launch} {e : Env} {s : State} {m : MethodId} {args : Array Value} {below : List Frame} {meth : Method} {c : Code} {g : kG} (hX : Cok (p, l, e, { frames := 2 * 4, cells := 0, slots := 0, locals := 60 * 4 }, s, m, args, below, meth, c, cX4_tipBoards, 6, RX4, g, 4)) (hr : meth.sig.returnType = (some .int)) (N : Nat) : ∀ (n : Nat) (M : kMem) (a0 : Nat) (x1 : Int32) (x2 : Int32), GG (p, l, e, { frames := 2 * 4, cells := 0, slots := 0, locals := 60 * 4 }, s, m, args, below, meth, c, cX4_tipBoards, 6, RX4, g, 4) (fun b => MQ below (kQ g ((fun r : Int32 × kMem => (some (.int r.1), r.2)) b)) args s 0 0 (kZ g.2.2.1)) 0 0 (F_X4_tipBoards_4 N n M a0 x1 x2) 4 [(0, .ref a0), (1, .int x1), (2, .int x2)] [] M := by
  intro n
  induction n with
  | zero => intro _ _ _ _; exact g_none
  | succ n ih =>
    intro M a0 x1 x2
    unfold F_X4_tipBoards_4
    refine g_iload_n 5 2 hX dX4_tipBoards_4 rfl rfl ?_
    refine g_aload_n 6 0 hX dX4_tipBoards_5 rfl rfl ?_
    refine r_X4_47 9 hX dX4_tipBoards_6 rfl ?_
    refine g_icmp_ge 82 12 hX dX4_tipBoards_9 (by decide) rfl (fun _ => ?_) (fun _ => ?_)
    · refine g_aload_n 83 0 hX dX4_tipBoards_82 rfl rfl ?_
      refine g_dup 84 hX dX4_tipBoards_83 rfl rfl ?_
      refine r_X4_44 87 hX dX4_tipBoards_84 rfl ?_
      refine g_iload_n 88 1 hX dX4_tipBoards_87 rfl rfl ?_
      refine g_iadd 89 hX dX4_tipBoards_88 rfl ?_
      refine p_X4_44 92 hX dX4_tipBoards_89 rfl ?_
      refine g_klM (fun M1 hM1 => ?_)
      refine g_iload_n 93 1 hX dX4_tipBoards_92 rfl rfl ?_
      exact g_iret hX hr rfl (Nat.le_refl 0) (Nat.le_refl 0) dX4_tipBoards_93
    · refine g_aload_n 13 0 hX dX4_tipBoards_12 rfl rfl ?_
      refine r_X4_11 16 hX dX4_tipBoards_13 rfl ?_
      refine g_iload_n 17 2 hX dX4_tipBoards_16 rfl rfl ?_
      refine g_aald 16 3 18 hX RX0 (Nat.le_of_ble_eq_true rfl) rfl dX4_tipBoards_17 rfl ?_
      refine g_klR (fun w2 hw2 => ?_)
      refine g_astore_n 19 3 [(3, .ref w2), (0, .ref a0), (1, .int x1), (2, .int x2)] hX dX4_tipBoards_18 rfl rfl (Nat.le_of_ble_eq_true rfl) rfl ?_
      refine g_aload_n 20 1 hX dX4_tipBoards_19 rfl rfl ?_
      refine g_aload_n 21 0 hX dX4_tipBoards_20 rfl rfl ?_
      refine g_callV_ip 24 hX (k_X4_torqueOn l g N M a0 w2) lk_X4_torqueOn rfl (ci := 4) rfl (Nat.le_of_ble_eq_true rfl) q_862 q_864 (by omega) rfl (Nat.le_of_ble_eq_true rfl) (Nat.zero_le _) (Nat.zero_le _) dX4_tipBoards_21 rfl (fun r3 => ?_)
      refine g_istore 26 4 [(4, .int r3), (3, .ref w2), (0, .ref a0), (1, .int x1), (2, .int x2)] hX dX4_tipBoards_24 rfl (Nat.le_of_ble_eq_true rfl) rfl ?_
      refine g_iconst 27 hX 0 dX4_tipBoards_26 rfl kc_i_0 ?_
      refine g_istore 29 5 [(5, .int 0), (4, .int r3), (3, .ref w2), (0, .ref a0), (1, .int x1), (2, .int x2)] hX dX4_tipBoards_27 rfl (Nat.le_of_ble_eq_true rfl) rfl ?_
      refine g_lv [3, 4, 5, 2, 1, 0] rfl ?_
      exact k_X4_tipBoards_29 hX hr N (fun M a0 x1 x2 => F_X4_tipBoards_4 N n M a0 x1 x2) ih N M a0 x1 x2 w2 r3 0
set_option maxRecDepth 100000 in
set_option maxHeartbeats 4000000 in
theorem k_X4_tipBoards (l : Launch) (g : kG) (N : Nat) (M : kMem) (a0 : Nat) : kMet l g yX4_tipBoards cX4_tipBoards 6 (some .int) 4 0 0 [.ref a0] M (fun r : Int32 × kMem => (some (.int r.1), r.2)) (F_X4_tipBoards N M a0) := by
  refine k_of (lv := [(0, .ref a0)]) RX4 (by decide) rfl rfl (Nat.le_of_ble_eq_true rfl) ?_
  intro p e s m args below meth c hX hr _
  unfold F_X4_tipBoards
  refine g_iconst 1 hX 0 dX4_tipBoards_0 rfl kc_i_0 ?_
  refine g_istore_n 2 1 [(1, .int 0), (0, .ref a0)] hX dX4_tipBoards_1 rfl rfl (Nat.le_of_ble_eq_true rfl) rfl ?_
  refine g_iconst 3 hX 0 dX4_tipBoards_2 rfl kc_i_0 ?_
  refine g_istore_n 4 2 [(2, .int 0), (1, .int 0), (0, .ref a0)] hX dX4_tipBoards_3 rfl rfl (Nat.le_of_ble_eq_true rfl) rfl ?_
  refine g_lv [2, 1, 0] rfl ?_
  exact k_X4_tipBoards_4 hX hr N N M a0 0 0
set_option maxRecDepth 100000 in
set_option maxHeartbeats 4000000 in
theorem k_X4_passDays_4 {p : Program} {l : Launch} {e : Env} {s : State} {m : MethodId} {args : Array Value} {below : List Frame} {meth : Method} {c : Code} {g : kG} (hX : Cok (p, l, e, { frames := 2 * 5, cells := 0, slots := 0, locals := 60 * 5 }, s, m, args, below, meth, c, cX4_passDays, 4, RX4, g, 5)) (hr : meth.sig.returnType = (some .int)) (N : Nat) : ∀ (n : Nat) (M : kMem) (a0 : Nat) (x1 : Int32) (x2 : Int32) (x3 : Int32), GG (p, l, e, { frames := 2 * 5, cells := 0, slots := 0, locals := 60 * 5 }, s, m, args, below, meth, c, cX4_passDays, 4, RX4, g, 5) (fun b => MQ below (kQ g ((fun r : Int32 × kMem => (some (.int r.1), r.2)) b)) args s 0 0 (kZ g.2.2.1)) 0 0 (F_X4_passDays_4 N n M a0 x1 x2 x3) 4 [(0, .ref a0), (1, .int x1), (2, .int x2), (3, .int x3)] [] M := by
  intro n
  induction n with
  | zero => intro _ _ _ _ _; exact g_none
  | succ n ih =>
    intro M a0 x1 x2 x3
    unfold F_X4_passDays_4
    refine g_iload_n 5 3 hX dX4_passDays_4 rfl rfl ?_
    refine g_iload_n 6 1 hX dX4_passDays_5 rfl rfl ?_
    refine g_icmp_ge 40 9 hX dX4_passDays_6 (by decide) rfl (fun _ => ?_) (fun _ => ?_)
    · refine g_iload_n 41 2 hX dX4_passDays_40 rfl rfl ?_
      exact g_iret hX hr rfl (Nat.le_refl 0) (Nat.le_refl 0) dX4_passDays_41
    · refine g_aload_n 10 0 hX dX4_passDays_9 rfl rfl ?_
      refine g_dup 11 hX dX4_passDays_10 rfl rfl ?_
      refine r_X4_34 14 hX dX4_passDays_11 rfl ?_
      refine g_iconst 15 hX 1 dX4_passDays_14 rfl kc_i_1 ?_
      refine g_iadd 16 hX dX4_passDays_15 rfl ?_
      refine p_X4_34 19 hX dX4_passDays_16 rfl ?_
      refine g_klM (fun M1 hM1 => ?_)
      refine g_aload_n 20 0 hX dX4_passDays_19 rfl rfl ?_
      refine g_callV_v 23 hX (k_X4_payIncomes l g N M1 a0) lk_X4_payIncomes rfl (ci := 4) rfl (Nat.le_of_ble_eq_true rfl) q_943 q_19 (by omega) rfl (Nat.le_of_ble_eq_true rfl) (Nat.zero_le _) (Nat.zero_le _) dX4_passDays_20 rfl (fun M2 => ?_)
      refine g_aload_n 24 0 hX dX4_passDays_23 rfl rfl ?_
      refine g_callV_v 27 hX (k_X4_ageTraders l g N M2 a0) lk_X4_ageTraders rfl (ci := 4) rfl (Nat.le_of_ble_eq_true rfl) q_952 q_20 (by omega) rfl (Nat.le_of_ble_eq_true rfl) (Nat.zero_le _) (Nat.zero_le _) dX4_passDays_24 rfl (fun M3 => ?_)
      refine g_iload_n 28 2 hX dX4_passDays_27 rfl rfl ?_
      refine g_aload_n 29 0 hX dX4_passDays_28 rfl rfl ?_
      refine g_callV_i 32 hX (k_X4_tipBoards l g N M3 a0) lk_X4_tipBoards rfl (ci := 4) rfl (Nat.le_of_ble_eq_true rfl) q_969 q_23 (by omega) rfl (Nat.le_of_ble_eq_true rfl) (Nat.zero_le _) (Nat.zero_le _) dX4_passDays_29 rfl (fun r4 => ?_)
      refine g_iadd 33 hX dX4_passDays_32 rfl ?_
      refine g_klI (fun v5 hv5 => ?_)
      refine g_istore_n 34 2 [(2, .int v5), (0, .ref a0), (1, .int x1), (3, .int x3)] hX dX4_passDays_33 rfl rfl (Nat.le_of_ble_eq_true rfl) rfl ?_
      refine g_kl (fun v6 hv6 => ?_)
      refine g_iinc 37 3 3 v6 [(3, .int v6), (2, .int v5), (0, .ref a0), (1, .int x1)] hX dX4_passDays_34 rfl rfl (by rw [hv6, kc_i_1]) (Nat.le_of_ble_eq_true rfl) rfl ?_
      refine g_goto 4 hX dX4_passDays_37 (by decide) ?_
      refine g_lv [2, 3, 1, 0] rfl ?_
      exact ih r4.2 a0 x1 v5 v6
set_option maxRecDepth 100000 in
set_option maxHeartbeats 4000000 in
theorem k_X4_passDays (l : Launch) (g : kG) (N : Nat) (M : kMem) (a0 : Nat) (x1 : Int32) : kMet l g yX4_passDays cX4_passDays 4 (some .int) 5 0 0 [.ref a0, .int x1] M (fun r : Int32 × kMem => (some (.int r.1), r.2)) (F_X4_passDays N M a0 x1) := by
  refine k_of (lv := [(0, .ref a0), (1, .int x1)]) RX4 (by decide) rfl rfl (Nat.le_of_ble_eq_true rfl) ?_
  intro p e s m args below meth c hX hr _
  unfold F_X4_passDays
  refine g_iconst 1 hX 0 dX4_passDays_0 rfl kc_i_0 ?_
  refine g_istore_n 2 2 [(2, .int 0), (0, .ref a0), (1, .int x1)] hX dX4_passDays_1 rfl rfl (Nat.le_of_ble_eq_true rfl) rfl ?_
  refine g_iconst 3 hX 0 dX4_passDays_2 rfl kc_i_0 ?_
  refine g_istore_n 4 3 [(3, .int 0), (2, .int 0), (0, .ref a0), (1, .int x1)] hX dX4_passDays_3 rfl rfl (Nat.le_of_ble_eq_true rfl) rfl ?_
  refine g_lv [2, 3, 1, 0] rfl ?_
  exact k_X4_passDays_4 hX hr N N M a0 x1 0 0
set_option maxRecDepth 100000 in
set_option maxHeartbeats 4000000 in
theorem k_X4_passDaysUntilFall_2 {p : Program} {l : Launch} {e : Env} {s : State} {m : MethodId} {args : Array Value} {below : List Frame} {meth : Method} {c : Code} {g : kG} (hX : Cok (p, l, e, { frames := 2 * 6, cells := 0, slots := 0, locals := 60 * 6 }, s, m, args, below, meth, c, cX4_passDaysUntilFall, 3, RX4, g, 6)) (hr : meth.sig.returnType = (some .int)) (N : Nat) : ∀ (n : Nat) (M : kMem) (a0 : Nat) (a1 : Nat) (x2 : Int32), GG (p, l, e, { frames := 2 * 6, cells := 0, slots := 0, locals := 60 * 6 }, s, m, args, below, meth, c, cX4_passDaysUntilFall, 3, RX4, g, 6) (fun b => MQ below (kQ g ((fun r : Int32 × kMem => (some (.int r.1), r.2)) b)) args s 0 0 (kZ g.2.2.1)) 0 0 (F_X4_passDaysUntilFall_2 N n M a0 a1 x2) 2 [(0, .ref a0), (1, .ref a1), (2, .int x2)] [] M := by
  intro n
  induction n with
  | zero => intro _ _ _ _; exact g_none
  | succ n ih =>
    intro M a0 a1 x2
    unfold F_X4_passDaysUntilFall_2
    refine g_iload_n 3 2 hX dX4_passDaysUntilFall_2 rfl rfl ?_
    refine g_bipush 5 hX 100 dX4_passDaysUntilFall_3 rfl kc_b_100 ?_
    refine g_icmp_gt 47 8 hX dX4_passDaysUntilFall_5 (by decide) rfl (fun _ => ?_) (fun _ => ?_)
    · refine g_iconst 48 hX (-1) dX4_passDaysUntilFall_47 rfl kc_i_m1 ?_
      exact g_iret hX hr rfl (Nat.le_refl 0) (Nat.le_refl 0) dX4_passDaysUntilFall_48
    · refine g_aload_n 9 1 hX dX4_passDaysUntilFall_8 rfl rfl ?_
      refine g_ifnull 47 12 hX dX4_passDaysUntilFall_9 (by decide) rfl (fun _ => ?_) (fun _ => ?_)
      · refine g_iconst 48 hX (-1) dX4_passDaysUntilFall_47 rfl kc_i_m1 ?_
        exact g_iret hX hr rfl (Nat.le_refl 0) (Nat.le_refl 0) dX4_passDaysUntilFall_48
      · refine g_aload_n 13 1 hX dX4_passDaysUntilFall_12 rfl rfl ?_
        refine g_callV_ip 16 hX (k_X10_isSeated l g N M a1) lk_X10_isSeated rfl (ci := 10) rfl (Nat.le_of_ble_eq_true rfl) q_907 q_658 (by omega) rfl (Nat.le_of_ble_eq_true rfl) (Nat.zero_le _) (Nat.zero_le _) dX4_passDaysUntilFall_13 rfl (fun r1 => ?_)
        refine g_if_eq 47 19 hX dX4_passDaysUntilFall_16 (by decide) rfl (fun _ => ?_) (fun _ => ?_)
        · refine g_iconst 48 hX (-1) dX4_passDaysUntilFall_47 rfl kc_i_m1 ?_
          exact g_iret hX hr rfl (Nat.le_refl 0) (Nat.le_refl 0) dX4_passDaysUntilFall_48
        · refine g_aload_n 20 0 hX dX4_passDaysUntilFall_19 rfl rfl ?_
          refine g_iconst 21 hX 1 dX4_passDaysUntilFall_20 rfl kc_i_1 ?_
          refine g_callV_i 24 hX (k_X4_passDays l g N M a0 1) lk_X4_passDays rfl (ci := 4) rfl (Nat.le_of_ble_eq_true rfl) q_1485 q_941 (by omega) rfl (Nat.le_of_ble_eq_true rfl) (Nat.zero_le _) (Nat.zero_le _) dX4_passDaysUntilFall_21 rfl (fun r2 => ?_)
          refine g_pop 25 hX dX4_passDaysUntilFall_24 rfl rfl ?_
          refine g_aload_n 26 1 hX dX4_passDaysUntilFall_25 rfl rfl ?_
          refine r_X4_108 29 hX dX4_passDaysUntilFall_26 rfl ?_
          refine g_if_eq 41 32 hX dX4_passDaysUntilFall_29 (by decide) rfl (fun _ => ?_) (fun _ => ?_)
          · refine g_kl (fun v3 hv3 => ?_)
            refine g_iinc 44 2 2 v3 [(2, .int v3), (0, .ref a0), (1, .ref a1)] hX dX4_passDaysUntilFall_41 rfl rfl (by rw [hv3, kc_i_1]) (Nat.le_of_ble_eq_true rfl) rfl ?_
            refine g_goto 2 hX dX4_passDaysUntilFall_44 (by decide) ?_
            refine g_lv [1, 2, 0] rfl ?_
            exact ih r2.2 a0 a1 v3
          · refine g_aload_n 33 1 hX dX4_passDaysUntilFall_32 rfl rfl ?_
            refine g_callV_ip 36 hX (k_X10_isSeated l g N r2.2 a1) lk_X10_isSeated rfl (ci := 10) rfl (Nat.le_of_ble_eq_true rfl) q_907 q_658 (by omega) rfl (Nat.le_of_ble_eq_true rfl) (Nat.zero_le _) (Nat.zero_le _) dX4_passDaysUntilFall_33 rfl (fun r4 => ?_)
            refine g_if_ne 41 39 hX dX4_passDaysUntilFall_36 (by decide) rfl (fun _ => ?_) (fun _ => ?_)
            · refine g_kl (fun v5 hv5 => ?_)
              refine g_iinc 44 2 2 v5 [(2, .int v5), (0, .ref a0), (1, .ref a1)] hX dX4_passDaysUntilFall_41 rfl rfl (by rw [hv5, kc_i_1]) (Nat.le_of_ble_eq_true rfl) rfl ?_
              refine g_goto 2 hX dX4_passDaysUntilFall_44 (by decide) ?_
              refine g_lv [1, 2, 0] rfl ?_
              exact ih r2.2 a0 a1 v5
            · refine g_iload_n 40 2 hX dX4_passDaysUntilFall_39 rfl rfl ?_
              exact g_iret hX hr rfl (Nat.le_refl 0) (Nat.le_refl 0) dX4_passDaysUntilFall_40
set_option maxRecDepth 100000 in
set_option maxHeartbeats 4000000 in
theorem k_X4_passDaysUntilFall (l : Launch) (g : kG) (N : Nat) (M : kMem) (a0 : Nat) (a1 : Nat) : kMet l g yX4_passDaysUntilFall cX4_passDaysUntilFall 3 (some .int) 6 0 0 [.ref a0, .ref a1] M (fun r : Int32 × kMem => (some (.int r.1), r.2)) (F_X4_passDaysUntilFall N M a0 a1) := by
  refine k_of (lv := [(0, .ref a0), (1, .ref a1)]) RX4 (by decide) rfl rfl (Nat.le_of_ble_eq_true rfl) ?_
  intro p e s m args below meth c hX hr _
  unfold F_X4_passDaysUntilFall
  refine g_iconst 1 hX 1 dX4_passDaysUntilFall_0 rfl kc_i_1 ?_
  refine g_istore_n 2 2 [(2, .int 1), (0, .ref a0), (1, .ref a1)] hX dX4_passDaysUntilFall_1 rfl rfl (Nat.le_of_ble_eq_true rfl) rfl ?_
  refine g_lv [1, 2, 0] rfl ?_
  exact k_X4_passDaysUntilFall_2 hX hr N N M a0 a1 1
set_option maxRecDepth 100000 in
set_option maxHeartbeats 4000000 in
theorem k_X4_presentTraders_4 {p : Program} {l : Launch} {e : Env} {s : State} {m : MethodId} {args : Array Value} {below : List Frame} {meth : Method} {c : Code} {g : kG} (hX : Cok (p, l, e, { frames := 2 * 1, cells := 0, slots := 0, locals := 60 * 1 }, s, m, args, below, meth, c, cX4_presentTraders, 3, RX4, g, 1)) (hr : meth.sig.returnType = (some .int)) (N : Nat) (M : kMem) : ∀ (n : Nat) (a0 : Nat) (x1 : Int32) (x2 : Int32), GG (p, l, e, { frames := 2 * 1, cells := 0, slots := 0, locals := 60 * 1 }, s, m, args, below, meth, c, cX4_presentTraders, 3, RX4, g, 1) (fun b => MQ below (kQ g ((fun r : Int32 => (some (.int r), M)) b)) args s 0 0 (kZ g.2.2.1)) 0 0 (F_X4_presentTraders_4 N M n a0 x1 x2) 4 [(0, .ref a0), (1, .int x1), (2, .int x2)] [] M := by
  intro n
  induction n with
  | zero => intro _ _ _; exact g_none
  | succ n ih =>
    intro a0 x1 x2
    unfold F_X4_presentTraders_4
    refine g_iload_n 5 2 hX dX4_presentTraders_4 rfl rfl ?_
    refine g_aload_n 6 0 hX dX4_presentTraders_5 rfl rfl ?_
    refine r_X4_50 9 hX dX4_presentTraders_6 rfl ?_
    refine g_icmp_ge 33 12 hX dX4_presentTraders_9 (by decide) rfl (fun _ => ?_) (fun _ => ?_)
    · refine g_iload_n 34 1 hX dX4_presentTraders_33 rfl rfl ?_
      exact g_iret hX hr rfl (Nat.le_refl 0) (Nat.le_refl 0) dX4_presentTraders_34
    · refine g_aload_n 13 0 hX dX4_presentTraders_12 rfl rfl ?_
      refine r_X4_19 16 hX dX4_presentTraders_13 rfl ?_
      refine g_iload_n 17 2 hX dX4_presentTraders_16 rfl rfl ?_
      refine g_aald 17 4 18 hX RX10 (Nat.le_of_ble_eq_true rfl) rfl dX4_presentTraders_17 rfl ?_
      refine r_X4_108 21 hX dX4_presentTraders_18 rfl ?_
      refine g_if_eq 27 24 hX dX4_presentTraders_21 (by decide) rfl (fun _ => ?_) (fun _ => ?_)
      · refine g_kl (fun v1 hv1 => ?_)
        refine g_iinc 30 2 2 v1 [(2, .int v1), (0, .ref a0), (1, .int x1)] hX dX4_presentTraders_27 rfl rfl (by rw [hv1, kc_i_1]) (Nat.le_of_ble_eq_true rfl) rfl ?_
        refine g_goto 4 hX dX4_presentTraders_30 (by decide) ?_
        refine g_lv [1, 2, 0] rfl ?_
        exact ih a0 x1 v1
      · refine g_kl (fun v2 hv2 => ?_)
        refine g_iinc 27 1 1 v2 [(1, .int v2), (0, .ref a0), (2, .int x2)] hX dX4_presentTraders_24 rfl rfl (by rw [hv2, kc_i_1]) (Nat.le_of_ble_eq_true rfl) rfl ?_
        refine g_kl (fun v3 hv3 => ?_)
        refine g_iinc 30 2 2 v3 [(2, .int v3), (1, .int v2), (0, .ref a0)] hX dX4_presentTraders_27 rfl rfl (by rw [hv3, kc_i_1]) (Nat.le_of_ble_eq_true rfl) rfl ?_
        refine g_goto 4 hX dX4_presentTraders_30 (by decide) ?_
        refine g_lv [2, 1, 0] rfl ?_
        exact ih a0 v2 v3
set_option maxRecDepth 100000 in
set_option maxHeartbeats 4000000 in
theorem k_X4_presentTraders (l : Launch) (g : kG) (N : Nat) (M : kMem) (a0 : Nat) : kMet l g yX4_presentTraders cX4_presentTraders 3 (some .int) 1 0 0 [.ref a0] M (fun r : Int32 => (some (.int r), M)) (F_X4_presentTraders N M a0) := by
  refine k_of (lv := [(0, .ref a0)]) RX4 (by decide) rfl rfl (Nat.le_of_ble_eq_true rfl) ?_
  intro p e s m args below meth c hX hr _
  unfold F_X4_presentTraders
  refine g_iconst 1 hX 0 dX4_presentTraders_0 rfl kc_i_0 ?_
  refine g_istore_n 2 1 [(1, .int 0), (0, .ref a0)] hX dX4_presentTraders_1 rfl rfl (Nat.le_of_ble_eq_true rfl) rfl ?_
  refine g_iconst 3 hX 0 dX4_presentTraders_2 rfl kc_i_0 ?_
  refine g_istore_n 4 2 [(2, .int 0), (1, .int 0), (0, .ref a0)] hX dX4_presentTraders_3 rfl rfl (Nat.le_of_ble_eq_true rfl) rfl ?_
  refine g_lv [2, 1, 0] rfl ?_
  exact k_X4_presentTraders_4 hX hr N M N a0 0 0
set_option maxRecDepth 100000 in
set_option maxHeartbeats 4000000 in
theorem k_X4_coinsInPurses_4 {p : Program} {l : Launch} {e : Env} {s : State} {m : MethodId} {args : Array Value} {below : List Frame} {meth : Method} {c : Code} {g : kG} (hX : Cok (p, l, e, { frames := 2 * 1, cells := 0, slots := 0, locals := 60 * 1 }, s, m, args, below, meth, c, cX4_coinsInPurses, 3, RX4, g, 1)) (hr : meth.sig.returnType = (some .int)) (N : Nat) (M : kMem) : ∀ (n : Nat) (a0 : Nat) (x1 : Int32) (x2 : Int32), GG (p, l, e, { frames := 2 * 1, cells := 0, slots := 0, locals := 60 * 1 }, s, m, args, below, meth, c, cX4_coinsInPurses, 3, RX4, g, 1) (fun b => MQ below (kQ g ((fun r : Int32 => (some (.int r), M)) b)) args s 0 0 (kZ g.2.2.1)) 0 0 (F_X4_coinsInPurses_4 N M n a0 x1 x2) 4 [(0, .ref a0), (1, .int x1), (2, .int x2)] [] M := by
  intro n
  induction n with
  | zero => intro _ _ _; exact g_none
  | succ n ih =>
    intro a0 x1 x2
    unfold F_X4_coinsInPurses_4
    refine g_iload_n 5 2 hX dX4_coinsInPurses_4 rfl rfl ?_
    refine g_aload_n 6 0 hX dX4_coinsInPurses_5 rfl rfl ?_
    refine r_X4_50 9 hX dX4_coinsInPurses_6 rfl ?_
    refine g_icmp_ge 30 12 hX dX4_coinsInPurses_9 (by decide) rfl (fun _ => ?_) (fun _ => ?_)
    · refine g_iload_n 31 1 hX dX4_coinsInPurses_30 rfl rfl ?_
      exact g_iret hX hr rfl (Nat.le_refl 0) (Nat.le_refl 0) dX4_coinsInPurses_31
    · refine g_iload_n 13 1 hX dX4_coinsInPurses_12 rfl rfl ?_
      refine g_aload_n 14 0 hX dX4_coinsInPurses_13 rfl rfl ?_
      refine r_X4_19 17 hX dX4_coinsInPurses_14 rfl ?_
      refine g_iload_n 18 2 hX dX4_coinsInPurses_17 rfl rfl ?_
      refine g_aald 17 4 19 hX RX10 (Nat.le_of_ble_eq_true rfl) rfl dX4_coinsInPurses_18 rfl ?_
      refine r_X4_102 22 hX dX4_coinsInPurses_19 rfl ?_
      refine g_iadd 23 hX dX4_coinsInPurses_22 rfl ?_
      refine g_klI (fun v1 hv1 => ?_)
      refine g_istore_n 24 1 [(1, .int v1), (0, .ref a0), (2, .int x2)] hX dX4_coinsInPurses_23 rfl rfl (Nat.le_of_ble_eq_true rfl) rfl ?_
      refine g_kl (fun v2 hv2 => ?_)
      refine g_iinc 27 2 2 v2 [(2, .int v2), (1, .int v1), (0, .ref a0)] hX dX4_coinsInPurses_24 rfl rfl (by rw [hv2, kc_i_1]) (Nat.le_of_ble_eq_true rfl) rfl ?_
      refine g_goto 4 hX dX4_coinsInPurses_27 (by decide) ?_
      refine g_lv [2, 1, 0] rfl ?_
      exact ih a0 v1 v2
set_option maxRecDepth 100000 in
set_option maxHeartbeats 4000000 in
theorem k_X4_coinsInPurses (l : Launch) (g : kG) (N : Nat) (M : kMem) (a0 : Nat) : kMet l g yX4_coinsInPurses cX4_coinsInPurses 3 (some .int) 1 0 0 [.ref a0] M (fun r : Int32 => (some (.int r), M)) (F_X4_coinsInPurses N M a0) := by
  refine k_of (lv := [(0, .ref a0)]) RX4 (by decide) rfl rfl (Nat.le_of_ble_eq_true rfl) ?_
  intro p e s m args below meth c hX hr _
  unfold F_X4_coinsInPurses
  refine g_iconst 1 hX 0 dX4_coinsInPurses_0 rfl kc_i_0 ?_
  refine g_istore_n 2 1 [(1, .int 0), (0, .ref a0)] hX dX4_coinsInPurses_1 rfl rfl (Nat.le_of_ble_eq_true rfl) rfl ?_
  refine g_iconst 3 hX 0 dX4_coinsInPurses_2 rfl kc_i_0 ?_
  refine g_istore_n 4 2 [(2, .int 0), (1, .int 0), (0, .ref a0)] hX dX4_coinsInPurses_3 rfl rfl (Nat.le_of_ble_eq_true rfl) rfl ?_
  refine g_lv [2, 1, 0] rfl ?_
  exact k_X4_coinsInPurses_4 hX hr N M N a0 0 0
set_option maxRecDepth 100000 in
set_option maxHeartbeats 4000000 in
theorem k_X4_rankOf_52 {p : Program} {l : Launch} {e : Env} {s : State} {m : MethodId} {args : Array Value} {below : List Frame} {meth : Method} {c : Code} {g : kG} (hX : Cok (p, l, e, { frames := 2 * 1, cells := 0, slots := 0, locals := 60 * 1 }, s, m, args, below, meth, c, cX4_rankOf, 6, RX4, g, 1)) (hr : meth.sig.returnType = (some .int)) (N : Nat) (M : kMem) (k4 : Nat → Nat → Int32 → Int32 → Option (Int32)) (h4 : ∀ (a0 : Nat) (a1 : Nat) (x2 : Int32) (x3 : Int32), GG (p, l, e, { frames := 2 * 1, cells := 0, slots := 0, locals := 60 * 1 }, s, m, args, below, meth, c, cX4_rankOf, 6, RX4, g, 1) (fun b => MQ below (kQ g ((fun r : Int32 => (some (.int r), M)) b)) args s 0 0 (kZ g.2.2.1)) 0 0 (k4 a0 a1 x2 x3) 4 [(0, .ref a0), (1, .ref a1), (2, .int x2), (3, .int x3)] [] M) : ∀ (a0 : Nat) (a1 : Nat) (x2 : Int32) (x3 : Int32) (a4 : Nat), GG (p, l, e, { frames := 2 * 1, cells := 0, slots := 0, locals := 60 * 1 }, s, m, args, below, meth, c, cX4_rankOf, 6, RX4, g, 1) (fun b => MQ below (kQ g ((fun r : Int32 => (some (.int r), M)) b)) args s 0 0 (kZ g.2.2.1)) 0 0 (F_X4_rankOf_52 N M k4 a0 a1 x2 x3 a4) 52 [(0, .ref a0), (1, .ref a1), (2, .int x2), (3, .int x3), (4, .ref a4)] [] M := by
  intro a0 a1 x2 x3 a4
  unfold F_X4_rankOf_52
  refine g_iconst 53 hX 1 dX4_rankOf_52 rfl kc_i_1 ?_
  refine g_goto 57 hX dX4_rankOf_53 (by decide) ?_
  refine g_istore 59 5 [(5, .int 1), (0, .ref a0), (1, .ref a1), (2, .int x2), (3, .int x3), (4, .ref a4)] hX dX4_rankOf_57 rfl (Nat.le_of_ble_eq_true rfl) rfl ?_
  refine g_aload 61 5 hX dX4_rankOf_59 rfl rfl ?_
  refine r_X4_108 64 hX dX4_rankOf_61 rfl ?_
  refine g_if_eq 75 67 hX dX4_rankOf_64 (by decide) rfl (fun _ => ?_) (fun _ => ?_)
  · refine g_kl (fun v2 hv2 => ?_)
    refine g_iinc 78 3 4 v2 [(3, .int v2), (5, .int 1), (0, .ref a0), (1, .ref a1), (2, .int x2), (4, .ref a4)] hX dX4_rankOf_75 rfl rfl (by rw [hv2, kc_i_1]) (Nat.le_of_ble_eq_true rfl) rfl ?_
    refine g_goto 4 hX dX4_rankOf_78 (by decide) ?_
    refine g_lv [2, 3, 4, 0] rfl ?_
    exact h4 a0 a1 x2 v2
  · refine g_iload 69 0 hX dX4_rankOf_67 rfl rfl ?_
    refine g_if_eq 75 72 hX dX4_rankOf_69 (by decide) rfl (fun _ => ?_) (fun _ => ?_)
    · refine g_kl (fun v3 hv3 => ?_)
      refine g_iinc 78 3 4 v3 [(3, .int v3), (5, .int 1), (0, .ref a0), (1, .ref a1), (2, .int x2), (4, .ref a4)] hX dX4_rankOf_75 rfl rfl (by rw [hv3, kc_i_1]) (Nat.le_of_ble_eq_true rfl) rfl ?_
      refine g_goto 4 hX dX4_rankOf_78 (by decide) ?_
      refine g_lv [2, 3, 4, 0] rfl ?_
      exact h4 a0 a1 x2 v3
    · refine g_kl (fun v4 hv4 => ?_)
      refine g_iinc 75 2 3 v4 [(2, .int v4), (5, .int 1), (0, .ref a0), (1, .ref a1), (3, .int x3), (4, .ref a4)] hX dX4_rankOf_72 rfl rfl (by rw [hv4, kc_i_1]) (Nat.le_of_ble_eq_true rfl) rfl ?_
      refine g_kl (fun v5 hv5 => ?_)
      refine g_iinc 78 3 4 v5 [(3, .int v5), (2, .int v4), (5, .int 1), (0, .ref a0), (1, .ref a1), (4, .ref a4)] hX dX4_rankOf_75 rfl rfl (by rw [hv5, kc_i_1]) (Nat.le_of_ble_eq_true rfl) rfl ?_
      refine g_goto 4 hX dX4_rankOf_78 (by decide) ?_
      refine g_lv [3, 4, 1, 0] rfl ?_
      exact h4 a0 a1 v4 v5
set_option maxRecDepth 100000 in
set_option maxHeartbeats 4000000 in
theorem k_X4_rankOf_56 {p : Program} {l : Launch} {e : Env} {s : State} {m : MethodId} {args : Array Value} {below : List Frame} {meth : Method} {c : Code} {g : kG} (hX : Cok (p, l, e, { frames := 2 * 1, cells := 0, slots := 0, locals := 60 * 1 }, s, m, args, below, meth, c, cX4_rankOf, 6, RX4, g, 1)) (hr : meth.sig.returnType = (some .int)) (N : Nat) (M : kMem) (k4 : Nat → Nat → Int32 → Int32 → Option (Int32)) (h4 : ∀ (a0 : Nat) (a1 : Nat) (x2 : Int32) (x3 : Int32), GG (p, l, e, { frames := 2 * 1, cells := 0, slots := 0, locals := 60 * 1 }, s, m, args, below, meth, c, cX4_rankOf, 6, RX4, g, 1) (fun b => MQ below (kQ g ((fun r : Int32 => (some (.int r), M)) b)) args s 0 0 (kZ g.2.2.1)) 0 0 (k4 a0 a1 x2 x3) 4 [(0, .ref a0), (1, .ref a1), (2, .int x2), (3, .int x3)] [] M) : ∀ (a0 : Nat) (a1 : Nat) (x2 : Int32) (x3 : Int32) (a4 : Nat), GG (p, l, e, { frames := 2 * 1, cells := 0, slots := 0, locals := 60 * 1 }, s, m, args, below, meth, c, cX4_rankOf, 6, RX4, g, 1) (fun b => MQ below (kQ g ((fun r : Int32 => (some (.int r), M)) b)) args s 0 0 (kZ g.2.2.1)) 0 0 (F_X4_rankOf_56 N M k4 a0 a1 x2 x3 a4) 56 [(0, .ref a0), (1, .ref a1), (2, .int x2), (3, .int x3), (4, .ref a4)] [] M := by
  intro a0 a1 x2 x3 a4
  unfold F_X4_rankOf_56
  refine g_iconst 57 hX 0 dX4_rankOf_56 rfl kc_i_0 ?_
  refine g_istore 59 5 [(5, .int 0), (0, .ref a0), (1, .ref a1), (2, .int x2), (3, .int x3), (4, .ref a4)] hX dX4_rankOf_57 rfl (Nat.le_of_ble_eq_true rfl) rfl ?_
  refine g_aload 61 5 hX dX4_rankOf_59 rfl rfl ?_
  refine r_X4_108 64 hX dX4_rankOf_61 rfl ?_
  refine g_if_eq 75 67 hX dX4_rankOf_64 (by decide) rfl (fun _ => ?_) (fun _ => ?_)
  · refine g_kl (fun v6 hv6 => ?_)
    refine g_iinc 78 3 4 v6 [(3, .int v6), (5, .int 0), (0, .ref a0), (1, .ref a1), (2, .int x2), (4, .ref a4)] hX dX4_rankOf_75 rfl rfl (by rw [hv6, kc_i_1]) (Nat.le_of_ble_eq_true rfl) rfl ?_
    refine g_goto 4 hX dX4_rankOf_78 (by decide) ?_
    refine g_lv [2, 3, 4, 0] rfl ?_
    exact h4 a0 a1 x2 v6
  · refine g_iload 69 0 hX dX4_rankOf_67 rfl rfl ?_
    refine g_if_eq 75 72 hX dX4_rankOf_69 (by decide) rfl (fun _ => ?_) (fun _ => ?_)
    · refine g_kl (fun v7 hv7 => ?_)
      refine g_iinc 78 3 4 v7 [(3, .int v7), (5, .int 0), (0, .ref a0), (1, .ref a1), (2, .int x2), (4, .ref a4)] hX dX4_rankOf_75 rfl rfl (by rw [hv7, kc_i_1]) (Nat.le_of_ble_eq_true rfl) rfl ?_
      refine g_goto 4 hX dX4_rankOf_78 (by decide) ?_
      refine g_lv [2, 3, 4, 0] rfl ?_
      exact h4 a0 a1 x2 v7
    · refine g_kl (fun v8 hv8 => ?_)
      refine g_iinc 75 2 3 v8 [(2, .int v8), (5, .int 0), (0, .ref a0), (1, .ref a1), (3, .int x3), (4, .ref a4)] hX dX4_rankOf_72 rfl rfl (by rw [hv8, kc_i_1]) (Nat.le_of_ble_eq_true rfl) rfl ?_
      refine g_kl (fun v9 hv9 => ?_)
      refine g_iinc 78 3 4 v9 [(3, .int v9), (2, .int v8), (5, .int 0), (0, .ref a0), (1, .ref a1), (4, .ref a4)] hX dX4_rankOf_75 rfl rfl (by rw [hv9, kc_i_1]) (Nat.le_of_ble_eq_true rfl) rfl ?_
      refine g_goto 4 hX dX4_rankOf_78 (by decide) ?_
      refine g_lv [3, 4, 1, 0] rfl ?_
      exact h4 a0 a1 v8 v9
set_option maxRecDepth 100000 in
set_option maxHeartbeats 4000000 in
theorem k_X4_rankOf_4 {p : Program} {l : Launch} {e : Env} {s : State} {m : MethodId} {args : Array Value} {below : List Frame} {meth : Method} {c : Code} {g : kG} (hX : Cok (p, l, e, { frames := 2 * 1, cells := 0, slots := 0, locals := 60 * 1 }, s, m, args, below, meth, c, cX4_rankOf, 6, RX4, g, 1)) (hr : meth.sig.returnType = (some .int)) (N : Nat) (M : kMem) : ∀ (n : Nat) (a0 : Nat) (a1 : Nat) (x2 : Int32) (x3 : Int32), GG (p, l, e, { frames := 2 * 1, cells := 0, slots := 0, locals := 60 * 1 }, s, m, args, below, meth, c, cX4_rankOf, 6, RX4, g, 1) (fun b => MQ below (kQ g ((fun r : Int32 => (some (.int r), M)) b)) args s 0 0 (kZ g.2.2.1)) 0 0 (F_X4_rankOf_4 N M n a0 a1 x2 x3) 4 [(0, .ref a0), (1, .ref a1), (2, .int x2), (3, .int x3)] [] M := by
  intro n
  induction n with
  | zero => intro _ _ _ _; exact g_none
  | succ n ih =>
    intro a0 a1 x2 x3
    unfold F_X4_rankOf_4
    refine g_iload_n 5 3 hX dX4_rankOf_4 rfl rfl ?_
    refine g_aload_n 6 0 hX dX4_rankOf_5 rfl rfl ?_
    refine r_X4_50 9 hX dX4_rankOf_6 rfl ?_
    refine g_icmp_ge 81 12 hX dX4_rankOf_9 (by decide) rfl (fun _ => ?_) (fun _ => ?_)
    · refine g_iload_n 82 2 hX dX4_rankOf_81 rfl rfl ?_
      exact g_iret hX hr rfl (Nat.le_refl 0) (Nat.le_refl 0) dX4_rankOf_82
    · refine g_aload_n 13 0 hX dX4_rankOf_12 rfl rfl ?_
      refine r_X4_19 16 hX dX4_rankOf_13 rfl ?_
      refine g_iload_n 17 3 hX dX4_rankOf_16 rfl rfl ?_
      refine g_aald 17 4 18 hX RX10 (Nat.le_of_ble_eq_true rfl) rfl dX4_rankOf_17 rfl ?_
      refine g_klR (fun w1 hw1 => ?_)
      refine g_astore 20 4 [(4, .ref w1), (0, .ref a0), (1, .ref a1), (2, .int x2), (3, .int x3)] hX dX4_rankOf_18 rfl (Nat.le_of_ble_eq_true rfl) rfl ?_
      refine g_aload 22 0 hX dX4_rankOf_20 rfl rfl ?_
      refine r_X4_102 25 hX dX4_rankOf_22 rfl ?_
      refine g_aload_n 26 2 hX dX4_rankOf_25 rfl rfl ?_
      refine r_X4_102 29 hX dX4_rankOf_26 rfl ?_
      refine g_icmp_gt 52 32 hX dX4_rankOf_29 (by decide) rfl (fun _ => ?_) (fun _ => ?_)
      · refine g_lv [1, 2, 3, 4, 0] rfl ?_
        exact k_X4_rankOf_52 hX hr N M (fun a0 a1 x2 x3 => F_X4_rankOf_4 N M n a0 a1 x2 x3) ih a0 a1 x2 x3 w1
      · refine g_aload 34 0 hX dX4_rankOf_32 rfl rfl ?_
        refine r_X4_102 37 hX dX4_rankOf_34 rfl ?_
        refine g_aload_n 38 2 hX dX4_rankOf_37 rfl rfl ?_
        refine r_X4_102 41 hX dX4_rankOf_38 rfl ?_
        refine g_icmp_ne 56 44 hX dX4_rankOf_41 (by decide) rfl (fun _ => ?_) (fun _ => ?_)
        · refine g_lv [1, 2, 3, 4, 0] rfl ?_
          exact k_X4_rankOf_56 hX hr N M (fun a0 a1 x2 x3 => F_X4_rankOf_4 N M n a0 a1 x2 x3) ih a0 a1 x2 x3 w1
        · refine g_iload_n 45 4 hX dX4_rankOf_44 rfl rfl ?_
          refine g_aload_n 46 2 hX dX4_rankOf_45 rfl rfl ?_
          refine r_X4_118 49 hX dX4_rankOf_46 rfl ?_
          refine g_icmp_ge 56 52 hX dX4_rankOf_49 (by decide) rfl (fun _ => ?_) (fun _ => ?_)
          · refine g_lv [1, 2, 3, 4, 0] rfl ?_
            exact k_X4_rankOf_56 hX hr N M (fun a0 a1 x2 x3 => F_X4_rankOf_4 N M n a0 a1 x2 x3) ih a0 a1 x2 x3 w1
          · refine g_lv [1, 2, 3, 4, 0] rfl ?_
            exact k_X4_rankOf_52 hX hr N M (fun a0 a1 x2 x3 => F_X4_rankOf_4 N M n a0 a1 x2 x3) ih a0 a1 x2 x3 w1
set_option maxRecDepth 100000 in
set_option maxHeartbeats 4000000 in
theorem k_X4_rankOf (l : Launch) (g : kG) (N : Nat) (M : kMem) (a0 : Nat) (a1 : Nat) : kMet l g yX4_rankOf cX4_rankOf 6 (some .int) 1 0 0 [.ref a0, .ref a1] M (fun r : Int32 => (some (.int r), M)) (F_X4_rankOf N M a0 a1) := by
  refine k_of (lv := [(0, .ref a0), (1, .ref a1)]) RX4 (by decide) rfl rfl (Nat.le_of_ble_eq_true rfl) ?_
  intro p e s m args below meth c hX hr _
  unfold F_X4_rankOf
  refine g_iconst 1 hX 0 dX4_rankOf_0 rfl kc_i_0 ?_
  refine g_istore_n 2 2 [(2, .int 0), (0, .ref a0), (1, .ref a1)] hX dX4_rankOf_1 rfl rfl (Nat.le_of_ble_eq_true rfl) rfl ?_
  refine g_iconst 3 hX 0 dX4_rankOf_2 rfl kc_i_0 ?_
  refine g_istore_n 4 3 [(3, .int 0), (2, .int 0), (0, .ref a0), (1, .ref a1)] hX dX4_rankOf_3 rfl rfl (Nat.le_of_ble_eq_true rfl) rfl ?_
  refine g_lv [2, 3, 1, 0] rfl ?_
  exact k_X4_rankOf_4 hX hr N M N a0 a1 0 0
set_option maxRecDepth 100000 in
set_option maxHeartbeats 4000000 in
theorem k_X4_traderWithRank_2 {p : Program} {l : Launch} {e : Env} {s : State} {m : MethodId} {args : Array Value} {below : List Frame} {meth : Method} {c : Code} {g : kG} (hX : Cok (p, l, e, { frames := 2 * 2, cells := 0, slots := 0, locals := 60 * 2 }, s, m, args, below, meth, c, cX4_traderWithRank, 3, RX4, g, 2)) (hr : meth.sig.returnType = (some .int)) (N : Nat) (M : kMem) : ∀ (n : Nat) (a0 : Nat) (x1 : Int32) (x2 : Int32), GG (p, l, e, { frames := 2 * 2, cells := 0, slots := 0, locals := 60 * 2 }, s, m, args, below, meth, c, cX4_traderWithRank, 3, RX4, g, 2) (fun b => MQ below (kQ g ((fun r : Int32 => (some (.int r), M)) b)) args s 0 0 (kZ g.2.2.1)) 0 0 (F_X4_traderWithRank_2 N M n a0 x1 x2) 2 [(0, .ref a0), (1, .int x1), (2, .int x2)] [] M := by
  intro n
  induction n with
  | zero => intro _ _ _; exact g_none
  | succ n ih =>
    intro a0 x1 x2
    unfold F_X4_traderWithRank_2
    refine g_iload_n 3 2 hX dX4_traderWithRank_2 rfl rfl ?_
    refine g_aload_n 4 0 hX dX4_traderWithRank_3 rfl rfl ?_
    refine r_X4_50 7 hX dX4_traderWithRank_4 rfl ?_
    refine g_icmp_ge 44 10 hX dX4_traderWithRank_7 (by decide) rfl (fun _ => ?_) (fun _ => ?_)
    · refine g_iconst 45 hX (-1) dX4_traderWithRank_44 rfl kc_i_m1 ?_
      exact g_iret hX hr rfl (Nat.le_refl 0) (Nat.le_refl 0) dX4_traderWithRank_45
    · refine g_aload_n 11 0 hX dX4_traderWithRank_10 rfl rfl ?_
      refine r_X4_19 14 hX dX4_traderWithRank_11 rfl ?_
      refine g_iload_n 15 2 hX dX4_traderWithRank_14 rfl rfl ?_
      refine g_aald 17 4 16 hX RX10 (Nat.le_of_ble_eq_true rfl) rfl dX4_traderWithRank_15 rfl ?_
      refine r_X4_108 19 hX dX4_traderWithRank_16 rfl ?_
      refine g_if_eq 38 22 hX dX4_traderWithRank_19 (by decide) rfl (fun _ => ?_) (fun _ => ?_)
      · refine g_kl (fun v1 hv1 => ?_)
        refine g_iinc 41 2 2 v1 [(2, .int v1), (0, .ref a0), (1, .int x1)] hX dX4_traderWithRank_38 rfl rfl (by rw [hv1, kc_i_1]) (Nat.le_of_ble_eq_true rfl) rfl ?_
        refine g_goto 2 hX dX4_traderWithRank_41 (by decide) ?_
        refine g_lv [1, 2, 0] rfl ?_
        exact ih a0 x1 v1
      · refine g_aload_n 23 0 hX dX4_traderWithRank_22 rfl rfl ?_
        refine g_aload_n 24 0 hX dX4_traderWithRank_23 rfl rfl ?_
        refine r_X4_19 27 hX dX4_traderWithRank_24 rfl ?_
        refine g_iload_n 28 2 hX dX4_traderWithRank_27 rfl rfl ?_
        refine g_aald 17 4 29 hX RX10 (Nat.le_of_ble_eq_true rfl) rfl dX4_traderWithRank_28 rfl ?_
        refine g_callV_ip 32 hX (k_X4_rankOf l g N M a0 (kR M (kR M a0 14) (kx x2))) lk_X4_rankOf rfl (ci := 4) rfl (Nat.le_of_ble_eq_true rfl) q_1032 q_25 (by omega) rfl (Nat.le_of_ble_eq_true rfl) (Nat.zero_le _) (Nat.zero_le _) dX4_traderWithRank_29 rfl (fun r2 => ?_)
        refine g_iload_n 33 1 hX dX4_traderWithRank_32 rfl rfl ?_
        refine g_icmp_ne 38 36 hX dX4_traderWithRank_33 (by decide) rfl (fun _ => ?_) (fun _ => ?_)
        · refine g_kl (fun v3 hv3 => ?_)
          refine g_iinc 41 2 2 v3 [(2, .int v3), (0, .ref a0), (1, .int x1)] hX dX4_traderWithRank_38 rfl rfl (by rw [hv3, kc_i_1]) (Nat.le_of_ble_eq_true rfl) rfl ?_
          refine g_goto 2 hX dX4_traderWithRank_41 (by decide) ?_
          refine g_lv [1, 2, 0] rfl ?_
          exact ih a0 x1 v3
        · refine g_iload_n 37 2 hX dX4_traderWithRank_36 rfl rfl ?_
          exact g_iret hX hr rfl (Nat.le_refl 0) (Nat.le_refl 0) dX4_traderWithRank_37
set_option maxRecDepth 100000 in
set_option maxHeartbeats 4000000 in
theorem k_X4_traderWithRank (l : Launch) (g : kG) (N : Nat) (M : kMem) (a0 : Nat) (x1 : Int32) : kMet l g yX4_traderWithRank cX4_traderWithRank 3 (some .int) 2 0 0 [.ref a0, .int x1] M (fun r : Int32 => (some (.int r), M)) (F_X4_traderWithRank N M a0 x1) := by
  refine k_of (lv := [(0, .ref a0), (1, .int x1)]) RX4 (by decide) rfl rfl (Nat.le_of_ble_eq_true rfl) ?_
  intro p e s m args below meth c hX hr _
  unfold F_X4_traderWithRank
  refine g_iconst 1 hX 0 dX4_traderWithRank_0 rfl kc_i_0 ?_
  refine g_istore_n 2 2 [(2, .int 0), (0, .ref a0), (1, .int x1)] hX dX4_traderWithRank_1 rfl rfl (Nat.le_of_ble_eq_true rfl) rfl ?_
  refine g_lv [1, 2, 0] rfl ?_
  exact k_X4_traderWithRank_2 hX hr N M N a0 x1 0
set_option maxRecDepth 100000 in
set_option maxHeartbeats 4000000 in
theorem k_X4_seatCount_4 {p : Program} {l : Launch} {e : Env} {s : State} {m : MethodId} {args : Array Value} {below : List Frame} {meth : Method} {c : Code} {g : kG} (hX : Cok (p, l, e, { frames := 2 * 1, cells := 0, slots := 0, locals := 60 * 1 }, s, m, args, below, meth, c, cX4_seatCount, 3, RX4, g, 1)) (hr : meth.sig.returnType = (some .int)) (N : Nat) (M : kMem) : ∀ (n : Nat) (a0 : Nat) (x1 : Int32) (x2 : Int32), GG (p, l, e, { frames := 2 * 1, cells := 0, slots := 0, locals := 60 * 1 }, s, m, args, below, meth, c, cX4_seatCount, 3, RX4, g, 1) (fun b => MQ below (kQ g ((fun r : Int32 => (some (.int r), M)) b)) args s 0 0 (kZ g.2.2.1)) 0 0 (F_X4_seatCount_4 N M n a0 x1 x2) 4 [(0, .ref a0), (1, .int x1), (2, .int x2)] [] M := by
  intro n
  induction n with
  | zero => intro _ _ _; exact g_none
  | succ n ih =>
    intro a0 x1 x2
    unfold F_X4_seatCount_4
    refine g_iload_n 5 2 hX dX4_seatCount_4 rfl rfl ?_
    refine g_aload_n 6 0 hX dX4_seatCount_5 rfl rfl ?_
    refine r_X4_47 9 hX dX4_seatCount_6 rfl ?_
    refine g_icmp_ge 32 12 hX dX4_seatCount_9 (by decide) rfl (fun _ => ?_) (fun _ => ?_)
    · refine g_iload_n 33 1 hX dX4_seatCount_32 rfl rfl ?_
      exact g_iret hX hr rfl (Nat.le_refl 0) (Nat.le_refl 0) dX4_seatCount_33
    · refine g_iload_n 13 1 hX dX4_seatCount_12 rfl rfl ?_
      refine g_iconst 14 hX 2 dX4_seatCount_13 rfl kc_i_2 ?_
      refine g_aload_n 15 0 hX dX4_seatCount_14 rfl rfl ?_
      refine r_X4_11 18 hX dX4_seatCount_15 rfl ?_
      refine g_iload_n 19 2 hX dX4_seatCount_18 rfl rfl ?_
      refine g_aald 16 3 20 hX RX0 (Nat.le_of_ble_eq_true rfl) rfl dX4_seatCount_19 rfl ?_
      refine r_X4_155 23 hX dX4_seatCount_20 rfl ?_
      refine g_imul 24 hX dX4_seatCount_23 rfl ?_
      refine g_iadd 25 hX dX4_seatCount_24 rfl ?_
      refine g_klI (fun v1 hv1 => ?_)
      refine g_istore_n 26 1 [(1, .int v1), (0, .ref a0), (2, .int x2)] hX dX4_seatCount_25 rfl rfl (Nat.le_of_ble_eq_true rfl) rfl ?_
      refine g_kl (fun v2 hv2 => ?_)
      refine g_iinc 29 2 2 v2 [(2, .int v2), (1, .int v1), (0, .ref a0)] hX dX4_seatCount_26 rfl rfl (by rw [hv2, kc_i_1]) (Nat.le_of_ble_eq_true rfl) rfl ?_
      refine g_goto 4 hX dX4_seatCount_29 (by decide) ?_
      refine g_lv [2, 1, 0] rfl ?_
      exact ih a0 v1 v2
set_option maxRecDepth 100000 in
set_option maxHeartbeats 4000000 in
theorem k_X4_seatCount (l : Launch) (g : kG) (N : Nat) (M : kMem) (a0 : Nat) : kMet l g yX4_seatCount cX4_seatCount 3 (some .int) 1 0 0 [.ref a0] M (fun r : Int32 => (some (.int r), M)) (F_X4_seatCount N M a0) := by
  refine k_of (lv := [(0, .ref a0)]) RX4 (by decide) rfl rfl (Nat.le_of_ble_eq_true rfl) ?_
  intro p e s m args below meth c hX hr _
  unfold F_X4_seatCount
  refine g_iconst 1 hX 0 dX4_seatCount_0 rfl kc_i_0 ?_
  refine g_istore_n 2 1 [(1, .int 0), (0, .ref a0)] hX dX4_seatCount_1 rfl rfl (Nat.le_of_ble_eq_true rfl) rfl ?_
  refine g_iconst 3 hX 0 dX4_seatCount_2 rfl kc_i_0 ?_
  refine g_istore_n 4 2 [(2, .int 0), (1, .int 0), (0, .ref a0)] hX dX4_seatCount_3 rfl rfl (Nat.le_of_ble_eq_true rfl) rfl ?_
  refine g_lv [2, 1, 0] rfl ?_
  exact k_X4_seatCount_4 hX hr N M N a0 0 0
set_option maxRecDepth 100000 in
set_option maxHeartbeats 4000000 in
theorem k_X4_seatedTraders_4 {p : Program} {l : Launch} {e : Env} {s : State} {m : MethodId} {args : Array Value} {below : List Frame} {meth : Method} {c : Code} {g : kG} (hX : Cok (p, l, e, { frames := 2 * 2, cells := 0, slots := 0, locals := 60 * 2 }, s, m, args, below, meth, c, cX4_seatedTraders, 3, RX4, g, 2)) (hr : meth.sig.returnType = (some .int)) (N : Nat) (M : kMem) : ∀ (n : Nat) (a0 : Nat) (x1 : Int32) (x2 : Int32), GG (p, l, e, { frames := 2 * 2, cells := 0, slots := 0, locals := 60 * 2 }, s, m, args, below, meth, c, cX4_seatedTraders, 3, RX4, g, 2) (fun b => MQ below (kQ g ((fun r : Int32 => (some (.int r), M)) b)) args s 0 0 (kZ g.2.2.1)) 0 0 (F_X4_seatedTraders_4 N M n a0 x1 x2) 4 [(0, .ref a0), (1, .int x1), (2, .int x2)] [] M := by
  intro n
  induction n with
  | zero => intro _ _ _; exact g_none
  | succ n ih =>
    intro a0 x1 x2
    unfold F_X4_seatedTraders_4
    refine g_iload_n 5 2 hX dX4_seatedTraders_4 rfl rfl ?_
    refine g_aload_n 6 0 hX dX4_seatedTraders_5 rfl rfl ?_
    refine r_X4_50 9 hX dX4_seatedTraders_6 rfl ?_
    refine g_icmp_ge 33 12 hX dX4_seatedTraders_9 (by decide) rfl (fun _ => ?_) (fun _ => ?_)
    · refine g_iload_n 34 1 hX dX4_seatedTraders_33 rfl rfl ?_
      exact g_iret hX hr rfl (Nat.le_refl 0) (Nat.le_refl 0) dX4_seatedTraders_34
    · refine g_aload_n 13 0 hX dX4_seatedTraders_12 rfl rfl ?_
      refine r_X4_19 16 hX dX4_seatedTraders_13 rfl ?_
      refine g_iload_n 17 2 hX dX4_seatedTraders_16 rfl rfl ?_
      refine g_aald 17 4 18 hX RX10 (Nat.le_of_ble_eq_true rfl) rfl dX4_seatedTraders_17 rfl ?_
      refine g_callV_ip 21 hX (k_X10_isSeated l g N M (kR M (kR M a0 14) (kx x2))) lk_X10_isSeated rfl (ci := 10) rfl (Nat.le_of_ble_eq_true rfl) q_907 q_658 (by omega) rfl (Nat.le_of_ble_eq_true rfl) (Nat.zero_le _) (Nat.zero_le _) dX4_seatedTraders_18 rfl (fun r1 => ?_)
      refine g_if_eq 27 24 hX dX4_seatedTraders_21 (by decide) rfl (fun _ => ?_) (fun _ => ?_)
      · refine g_kl (fun v2 hv2 => ?_)
        refine g_iinc 30 2 2 v2 [(2, .int v2), (0, .ref a0), (1, .int x1)] hX dX4_seatedTraders_27 rfl rfl (by rw [hv2, kc_i_1]) (Nat.le_of_ble_eq_true rfl) rfl ?_
        refine g_goto 4 hX dX4_seatedTraders_30 (by decide) ?_
        refine g_lv [1, 2, 0] rfl ?_
        exact ih a0 x1 v2
      · refine g_kl (fun v3 hv3 => ?_)
        refine g_iinc 27 1 1 v3 [(1, .int v3), (0, .ref a0), (2, .int x2)] hX dX4_seatedTraders_24 rfl rfl (by rw [hv3, kc_i_1]) (Nat.le_of_ble_eq_true rfl) rfl ?_
        refine g_kl (fun v4 hv4 => ?_)
        refine g_iinc 30 2 2 v4 [(2, .int v4), (1, .int v3), (0, .ref a0)] hX dX4_seatedTraders_27 rfl rfl (by rw [hv4, kc_i_1]) (Nat.le_of_ble_eq_true rfl) rfl ?_
        refine g_goto 4 hX dX4_seatedTraders_30 (by decide) ?_
        refine g_lv [2, 1, 0] rfl ?_
        exact ih a0 v3 v4
set_option maxRecDepth 100000 in
set_option maxHeartbeats 4000000 in
theorem k_X4_seatedTraders (l : Launch) (g : kG) (N : Nat) (M : kMem) (a0 : Nat) : kMet l g yX4_seatedTraders cX4_seatedTraders 3 (some .int) 2 0 0 [.ref a0] M (fun r : Int32 => (some (.int r), M)) (F_X4_seatedTraders N M a0) := by
  refine k_of (lv := [(0, .ref a0)]) RX4 (by decide) rfl rfl (Nat.le_of_ble_eq_true rfl) ?_
  intro p e s m args below meth c hX hr _
  unfold F_X4_seatedTraders
  refine g_iconst 1 hX 0 dX4_seatedTraders_0 rfl kc_i_0 ?_
  refine g_istore_n 2 1 [(1, .int 0), (0, .ref a0)] hX dX4_seatedTraders_1 rfl rfl (Nat.le_of_ble_eq_true rfl) rfl ?_
  refine g_iconst 3 hX 0 dX4_seatedTraders_2 rfl kc_i_0 ?_
  refine g_istore_n 4 2 [(2, .int 0), (1, .int 0), (0, .ref a0)] hX dX4_seatedTraders_3 rfl rfl (Nat.le_of_ble_eq_true rfl) rfl ?_
  refine g_lv [2, 1, 0] rfl ?_
  exact k_X4_seatedTraders_4 hX hr N M N a0 0 0
set_option maxRecDepth 100000 in
set_option maxHeartbeats 4000000 in
theorem k_X4_weightOn (l : Launch) (g : kG) (N : Nat) (M : kMem) (a0 : Nat) (a1 : Nat) (x2 : Int32) : kMet l g yX4_weightOn cX4_weightOn 4 (some .int) 2 0 0 [.ref a0, .ref a1, .int x2] M (fun r : Int32 => (some (.int r), M)) (F_X4_weightOn N M a0 a1 x2) := by
  refine k_of (lv := [(0, .ref a0), (1, .ref a1), (2, .int x2)]) RX4 (by decide) rfl rfl (Nat.le_of_ble_eq_true rfl) ?_
  intro p e s m args below meth c hX hr _
  unfold F_X4_weightOn
  refine g_aload_n 1 0 hX dX4_weightOn_0 rfl rfl ?_
  refine g_aload_n 2 1 hX dX4_weightOn_1 rfl rfl ?_
  refine g_iload_n 3 2 hX dX4_weightOn_2 rfl rfl ?_
  refine g_callV_ip 6 hX (k_X0_ownerAt l g N M a1 x2) lk_X0_ownerAt rfl (ci := 0) rfl (Nat.le_of_ble_eq_true rfl) q_977 q_680 (by omega) rfl (Nat.le_of_ble_eq_true rfl) (Nat.zero_le _) (Nat.zero_le _) dX4_weightOn_3 rfl (fun r1 => ?_)
  refine g_callV_rp 9 hX (k_X4_traderNumbered l g N M a0 r1) lk_X4_traderNumbered rfl (ci := 4) rfl (Nat.le_of_ble_eq_true rfl) q_978 q_980 (by omega) rfl (Nat.le_of_ble_eq_true rfl) (Nat.zero_le _) (Nat.zero_le _) dX4_weightOn_6 rfl (fun r2 => ?_)
  refine g_astore_n 10 3 [(3, .ref r2), (0, .ref a0), (1, .ref a1), (2, .int x2)] hX dX4_weightOn_9 rfl rfl (Nat.le_of_ble_eq_true rfl) rfl ?_
  refine g_aload_n 11 0 hX dX4_weightOn_10 rfl rfl ?_
  refine g_ifnonnull 18 14 hX dX4_weightOn_11 (by decide) rfl (fun _ => ?_) (fun _ => ?_)
  · refine g_aload_n 19 0 hX dX4_weightOn_18 rfl rfl ?_
    refine r_X4_99 22 hX dX4_weightOn_19 rfl ?_
    exact g_iret hX hr rfl (Nat.le_refl 0) (Nat.le_refl 0) dX4_weightOn_22
  · refine g_iconst 15 hX 0 dX4_weightOn_14 rfl kc_i_0 ?_
    refine g_goto 22 hX dX4_weightOn_15 (by decide) ?_
    exact g_iret hX hr rfl (Nat.le_refl 0) (Nat.le_refl 0) dX4_weightOn_22
set_option maxRecDepth 100000 in
set_option maxHeartbeats 4000000 in
theorem k_X4_torqueByDistances_15 {p : Program} {l : Launch} {e : Env} {s : State} {m : MethodId} {args : Array Value} {below : List Frame} {meth : Method} {c : Code} {g : kG} (hX : Cok (p, l, e, { frames := 2 * 3, cells := 0, slots := 0, locals := 60 * 3 }, s, m, args, below, meth, c, cX4_torqueByDistances, 5, RX4, g, 3)) (hr : meth.sig.returnType = (some .int)) (N : Nat) (M : kMem) (k4 : Nat → Nat → Int32 → Int32 → Option (Int32)) (h4 : ∀ (a0 : Nat) (a1 : Nat) (x2 : Int32) (x3 : Int32), GG (p, l, e, { frames := 2 * 3, cells := 0, slots := 0, locals := 60 * 3 }, s, m, args, below, meth, c, cX4_torqueByDistances, 5, RX4, g, 3) (fun b => MQ below (kQ g ((fun r : Int32 => (some (.int r), M)) b)) args s 0 0 (kZ g.2.2.1)) 0 0 (k4 a0 a1 x2 x3) 4 [(0, .ref a0), (1, .ref a1), (2, .int x2), (3, .int x3)] [] M) : ∀ (n : Nat) (a0 : Nat) (a1 : Nat) (x2 : Int32) (x3 : Int32) (x4 : Int32), GG (p, l, e, { frames := 2 * 3, cells := 0, slots := 0, locals := 60 * 3 }, s, m, args, below, meth, c, cX4_torqueByDistances, 5, RX4, g, 3) (fun b => MQ below (kQ g ((fun r : Int32 => (some (.int r), M)) b)) args s 0 0 (kZ g.2.2.1)) 0 0 (F_X4_torqueByDistances_15 N M k4 n a0 a1 x2 x3 x4) 15 [(0, .ref a0), (1, .ref a1), (2, .int x2), (3, .int x3), (4, .int x4)] [] M := by
  intro n
  induction n with
  | zero => intro _ _ _ _ _; exact g_none
  | succ n ih =>
    intro a0 a1 x2 x3 x4
    unfold F_X4_torqueByDistances_15
    refine g_iload 17 4 hX dX4_torqueByDistances_15 rfl rfl ?_
    refine g_aload_n 18 1 hX dX4_torqueByDistances_17 rfl rfl ?_
    refine r_X4_155 21 hX dX4_torqueByDistances_18 rfl ?_
    refine g_icmp_gt 49 24 hX dX4_torqueByDistances_21 (by decide) rfl (fun _ => ?_) (fun _ => ?_)
    · refine g_kl (fun v1 hv1 => ?_)
      refine g_iinc 52 3 3 v1 [(3, .int v1), (0, .ref a0), (1, .ref a1), (2, .int x2), (4, .int x4)] hX dX4_torqueByDistances_49 rfl rfl (by rw [hv1, kc_i_1]) (Nat.le_of_ble_eq_true rfl) rfl ?_
      refine g_goto 4 hX dX4_torqueByDistances_52 (by decide) ?_
      refine g_lv [1, 2, 3, 0] rfl ?_
      exact h4 a0 a1 x2 v1
    · refine g_iload_n 25 2 hX dX4_torqueByDistances_24 rfl rfl ?_
      refine g_aload_n 26 0 hX dX4_torqueByDistances_25 rfl rfl ?_
      refine g_aload_n 27 1 hX dX4_torqueByDistances_26 rfl rfl ?_
      refine g_iload 29 4 hX dX4_torqueByDistances_27 rfl rfl ?_
      refine g_callV_ip 32 hX (k_X4_weightOn l g N M a0 a1 x4) lk_X4_weightOn rfl (ci := 4) rfl (Nat.le_of_ble_eq_true rfl) q_1085 q_27 (by omega) rfl (Nat.le_of_ble_eq_true rfl) (Nat.zero_le _) (Nat.zero_le _) dX4_torqueByDistances_29 rfl (fun r2 => ?_)
      refine g_aload_n 33 0 hX dX4_torqueByDistances_32 rfl rfl ?_
      refine g_aload_n 34 1 hX dX4_torqueByDistances_33 rfl rfl ?_
      refine g_iload 36 4 hX dX4_torqueByDistances_34 rfl rfl ?_
      refine g_ineg 37 hX dX4_torqueByDistances_36 rfl ?_
      refine g_callV_ip 40 hX (k_X4_weightOn l g N M a0 a1 (-x4)) lk_X4_weightOn rfl (ci := 4) rfl (Nat.le_of_ble_eq_true rfl) q_1085 q_27 (by omega) rfl (Nat.le_of_ble_eq_true rfl) (Nat.zero_le _) (Nat.zero_le _) dX4_torqueByDistances_37 rfl (fun r3 => ?_)
      refine g_isub 41 hX dX4_torqueByDistances_40 rfl ?_
      refine g_iadd 42 hX dX4_torqueByDistances_41 rfl ?_
      refine g_klI (fun v4 hv4 => ?_)
      refine g_istore_n 43 2 [(2, .int v4), (0, .ref a0), (1, .ref a1), (3, .int x3), (4, .int x4)] hX dX4_torqueByDistances_42 rfl rfl (Nat.le_of_ble_eq_true rfl) rfl ?_
      refine g_kl (fun v5 hv5 => ?_)
      refine g_iinc 46 4 4 v5 [(4, .int v5), (2, .int v4), (0, .ref a0), (1, .ref a1), (3, .int x3)] hX dX4_torqueByDistances_43 rfl rfl (by rw [hv5, kc_i_1]) (Nat.le_of_ble_eq_true rfl) rfl ?_
      refine g_goto 15 hX dX4_torqueByDistances_46 (by decide) ?_
      refine g_lv [2, 3, 1, 4, 0] rfl ?_
      exact ih a0 a1 v4 x3 v5
set_option maxRecDepth 100000 in
set_option maxHeartbeats 4000000 in
theorem k_X4_torqueByDistances_4 {p : Program} {l : Launch} {e : Env} {s : State} {m : MethodId} {args : Array Value} {below : List Frame} {meth : Method} {c : Code} {g : kG} (hX : Cok (p, l, e, { frames := 2 * 3, cells := 0, slots := 0, locals := 60 * 3 }, s, m, args, below, meth, c, cX4_torqueByDistances, 5, RX4, g, 3)) (hr : meth.sig.returnType = (some .int)) (N : Nat) (M : kMem) : ∀ (n : Nat) (a0 : Nat) (a1 : Nat) (x2 : Int32) (x3 : Int32), GG (p, l, e, { frames := 2 * 3, cells := 0, slots := 0, locals := 60 * 3 }, s, m, args, below, meth, c, cX4_torqueByDistances, 5, RX4, g, 3) (fun b => MQ below (kQ g ((fun r : Int32 => (some (.int r), M)) b)) args s 0 0 (kZ g.2.2.1)) 0 0 (F_X4_torqueByDistances_4 N M n a0 a1 x2 x3) 4 [(0, .ref a0), (1, .ref a1), (2, .int x2), (3, .int x3)] [] M := by
  intro n
  induction n with
  | zero => intro _ _ _ _; exact g_none
  | succ n ih =>
    intro a0 a1 x2 x3
    unfold F_X4_torqueByDistances_4
    refine g_iload_n 5 3 hX dX4_torqueByDistances_4 rfl rfl ?_
    refine g_aload_n 6 1 hX dX4_torqueByDistances_5 rfl rfl ?_
    refine r_X4_155 9 hX dX4_torqueByDistances_6 rfl ?_
    refine g_icmp_gt 55 12 hX dX4_torqueByDistances_9 (by decide) rfl (fun _ => ?_) (fun _ => ?_)
    · refine g_iload_n 56 2 hX dX4_torqueByDistances_55 rfl rfl ?_
      exact g_iret hX hr rfl (Nat.le_refl 0) (Nat.le_refl 0) dX4_torqueByDistances_56
    · refine g_iload_n 13 3 hX dX4_torqueByDistances_12 rfl rfl ?_
      refine g_istore 15 4 [(4, .int x3), (0, .ref a0), (1, .ref a1), (2, .int x2), (3, .int x3)] hX dX4_torqueByDistances_13 rfl (Nat.le_of_ble_eq_true rfl) rfl ?_
      refine g_lv [1, 2, 3, 4, 0] rfl ?_
      exact k_X4_torqueByDistances_15 hX hr N M (fun a0 a1 x2 x3 => F_X4_torqueByDistances_4 N M n a0 a1 x2 x3) ih N a0 a1 x2 x3 x3
set_option maxRecDepth 100000 in
set_option maxHeartbeats 4000000 in
theorem k_X4_torqueByDistances (l : Launch) (g : kG) (N : Nat) (M : kMem) (a0 : Nat) (a1 : Nat) : kMet l g yX4_torqueByDistances cX4_torqueByDistances 5 (some .int) 3 0 0 [.ref a0, .ref a1] M (fun r : Int32 => (some (.int r), M)) (F_X4_torqueByDistances N M a0 a1) := by
  refine k_of (lv := [(0, .ref a0), (1, .ref a1)]) RX4 (by decide) rfl rfl (Nat.le_of_ble_eq_true rfl) ?_
  intro p e s m args below meth c hX hr _
  unfold F_X4_torqueByDistances
  refine g_iconst 1 hX 0 dX4_torqueByDistances_0 rfl kc_i_0 ?_
  refine g_istore_n 2 2 [(2, .int 0), (0, .ref a0), (1, .ref a1)] hX dX4_torqueByDistances_1 rfl rfl (Nat.le_of_ble_eq_true rfl) rfl ?_
  refine g_iconst 3 hX 1 dX4_torqueByDistances_2 rfl kc_i_1 ?_
  refine g_istore_n 4 3 [(3, .int 1), (2, .int 0), (0, .ref a0), (1, .ref a1)] hX dX4_torqueByDistances_3 rfl rfl (Nat.le_of_ble_eq_true rfl) rfl ?_
  refine g_lv [2, 3, 1, 0] rfl ?_
  exact k_X4_torqueByDistances_4 hX hr N M N a0 a1 0 1
set_option maxRecDepth 100000 in
set_option maxHeartbeats 4000000 in
theorem k_X4_wrongSeats_8 {p : Program} {l : Launch} {e : Env} {s : State} {m : MethodId} {args : Array Value} {below : List Frame} {meth : Method} {c : Code} {g : kG} (hX : Cok (p, l, e, { frames := 2 * 2, cells := 0, slots := 0, locals := 60 * 2 }, s, m, args, below, meth, c, cX4_wrongSeats, 5, RX4, g, 2)) (hr : meth.sig.returnType = (some .int)) (N : Nat) (M : kMem) : ∀ (n : Nat) (a0 : Nat) (a1 : Nat) (x2 : Int32) (x3 : Int32), GG (p, l, e, { frames := 2 * 2, cells := 0, slots := 0, locals := 60 * 2 }, s, m, args, below, meth, c, cX4_wrongSeats, 5, RX4, g, 2) (fun b => MQ below (kQ g ((fun r : Int32 => (some (.int r), M)) b)) args s 0 0 (kZ g.2.2.1)) 0 0 (F_X4_wrongSeats_8 N M n a0 a1 x2 x3) 8 [(0, .ref a0), (1, .ref a1), (2, .int x2), (3, .int x3)] [] M := by
  intro n
  induction n with
  | zero => intro _ _ _ _; exact g_none
  | succ n ih =>
    intro a0 a1 x2 x3
    unfold F_X4_wrongSeats_8
    refine g_iload_n 9 3 hX dX4_wrongSeats_8 rfl rfl ?_
    refine g_aload_n 10 1 hX dX4_wrongSeats_9 rfl rfl ?_
    refine r_X4_155 13 hX dX4_wrongSeats_10 rfl ?_
    refine g_icmp_gt 62 16 hX dX4_wrongSeats_13 (by decide) rfl (fun _ => ?_) (fun _ => ?_)
    · refine g_iload_n 63 2 hX dX4_wrongSeats_62 rfl rfl ?_
      exact g_iret hX hr rfl (Nat.le_refl 0) (Nat.le_refl 0) dX4_wrongSeats_63
    · refine g_aload_n 17 0 hX dX4_wrongSeats_16 rfl rfl ?_
      refine g_aload_n 18 1 hX dX4_wrongSeats_17 rfl rfl ?_
      refine g_iload_n 19 3 hX dX4_wrongSeats_18 rfl rfl ?_
      refine g_callV_ip 22 hX (k_X0_ownerAt l g N M a1 x3) lk_X0_ownerAt rfl (ci := 0) rfl (Nat.le_of_ble_eq_true rfl) q_977 q_680 (by omega) rfl (Nat.le_of_ble_eq_true rfl) (Nat.zero_le _) (Nat.zero_le _) dX4_wrongSeats_19 rfl (fun r2 => ?_)
      refine g_callV_rp 25 hX (k_X4_traderNumbered l g N M a0 r2) lk_X4_traderNumbered rfl (ci := 4) rfl (Nat.le_of_ble_eq_true rfl) q_978 q_980 (by omega) rfl (Nat.le_of_ble_eq_true rfl) (Nat.zero_le _) (Nat.zero_le _) dX4_wrongSeats_22 rfl (fun r3 => ?_)
      refine g_astore 27 4 [(4, .ref r3), (0, .ref a0), (1, .ref a1), (2, .int x2), (3, .int x3)] hX dX4_wrongSeats_25 rfl (Nat.le_of_ble_eq_true rfl) rfl ?_
      refine g_aload 29 0 hX dX4_wrongSeats_27 rfl rfl ?_
      refine g_ifnull 56 32 hX dX4_wrongSeats_29 (by decide) rfl (fun _ => ?_) (fun _ => ?_)
      · refine g_kl (fun v4 hv4 => ?_)
        refine g_iinc 59 3 4 v4 [(3, .int v4), (4, .ref r3), (0, .ref a0), (1, .ref a1), (2, .int x2)] hX dX4_wrongSeats_56 rfl rfl (by rw [hv4, kc_i_1]) (Nat.le_of_ble_eq_true rfl) rfl ?_
        refine g_goto 8 hX dX4_wrongSeats_59 (by decide) ?_
        refine g_lv [2, 3, 4, 0] rfl ?_
        exact ih a0 a1 x2 v4
      · refine g_aload 34 0 hX dX4_wrongSeats_32 rfl rfl ?_
        refine r_X4_112 37 hX dX4_wrongSeats_34 rfl ?_
        refine g_aload_n 38 2 hX dX4_wrongSeats_37 rfl rfl ?_
        refine r_X4_121 41 hX dX4_wrongSeats_38 rfl ?_
        refine g_icmp_ne 53 44 hX dX4_wrongSeats_41 (by decide) rfl (fun _ => ?_) (fun _ => ?_)
        · refine g_kl (fun v5 hv5 => ?_)
          refine g_iinc 56 2 3 v5 [(2, .int v5), (4, .ref r3), (0, .ref a0), (1, .ref a1), (3, .int x3)] hX dX4_wrongSeats_53 rfl rfl (by rw [hv5, kc_i_1]) (Nat.le_of_ble_eq_true rfl) rfl ?_
          refine g_kl (fun v6 hv6 => ?_)
          refine g_iinc 59 3 4 v6 [(3, .int v6), (2, .int v5), (4, .ref r3), (0, .ref a0), (1, .ref a1)] hX dX4_wrongSeats_56 rfl rfl (by rw [hv6, kc_i_1]) (Nat.le_of_ble_eq_true rfl) rfl ?_
          refine g_goto 8 hX dX4_wrongSeats_59 (by decide) ?_
          refine g_lv [3, 4, 1, 0] rfl ?_
          exact ih a0 a1 v5 v6
        · refine g_aload 46 0 hX dX4_wrongSeats_44 rfl rfl ?_
          refine r_X4_115 49 hX dX4_wrongSeats_46 rfl ?_
          refine g_iload_n 50 4 hX dX4_wrongSeats_49 rfl rfl ?_
          refine g_icmp_eq 56 53 hX dX4_wrongSeats_50 (by decide) rfl (fun _ => ?_) (fun _ => ?_)
          · refine g_kl (fun v7 hv7 => ?_)
            refine g_iinc 59 3 4 v7 [(3, .int v7), (4, .ref r3), (0, .ref a0), (1, .ref a1), (2, .int x2)] hX dX4_wrongSeats_56 rfl rfl (by rw [hv7, kc_i_1]) (Nat.le_of_ble_eq_true rfl) rfl ?_
            refine g_goto 8 hX dX4_wrongSeats_59 (by decide) ?_
            refine g_lv [2, 3, 4, 0] rfl ?_
            exact ih a0 a1 x2 v7
          · refine g_kl (fun v8 hv8 => ?_)
            refine g_iinc 56 2 3 v8 [(2, .int v8), (4, .ref r3), (0, .ref a0), (1, .ref a1), (3, .int x3)] hX dX4_wrongSeats_53 rfl rfl (by rw [hv8, kc_i_1]) (Nat.le_of_ble_eq_true rfl) rfl ?_
            refine g_kl (fun v9 hv9 => ?_)
            refine g_iinc 59 3 4 v9 [(3, .int v9), (2, .int v8), (4, .ref r3), (0, .ref a0), (1, .ref a1)] hX dX4_wrongSeats_56 rfl rfl (by rw [hv9, kc_i_1]) (Nat.le_of_ble_eq_true rfl) rfl ?_
            refine g_goto 8 hX dX4_wrongSeats_59 (by decide) ?_
            refine g_lv [3, 4, 1, 0] rfl ?_
            exact ih a0 a1 v8 v9
set_option maxRecDepth 100000 in
set_option maxHeartbeats 4000000 in
theorem k_X4_wrongSeats (l : Launch) (g : kG) (N : Nat) (M : kMem) (a0 : Nat) (a1 : Nat) : kMet l g yX4_wrongSeats cX4_wrongSeats 5 (some .int) 2 0 0 [.ref a0, .ref a1] M (fun r : Int32 => (some (.int r), M)) (F_X4_wrongSeats N M a0 a1) := by
  refine k_of (lv := [(0, .ref a0), (1, .ref a1)]) RX4 (by decide) rfl rfl (Nat.le_of_ble_eq_true rfl) ?_
  intro p e s m args below meth c hX hr _
  unfold F_X4_wrongSeats
  refine g_iconst 1 hX 0 dX4_wrongSeats_0 rfl kc_i_0 ?_
  refine g_istore_n 2 2 [(2, .int 0), (0, .ref a0), (1, .ref a1)] hX dX4_wrongSeats_1 rfl rfl (Nat.le_of_ble_eq_true rfl) rfl ?_
  refine g_aload_n 3 2 hX dX4_wrongSeats_2 rfl rfl ?_
  refine r_X4_155 6 hX dX4_wrongSeats_3 rfl ?_
  refine g_ineg 7 hX dX4_wrongSeats_6 rfl ?_
  refine g_klI (fun v1 hv1 => ?_)
  refine g_istore_n 8 3 [(3, .int v1), (2, .int 0), (0, .ref a0), (1, .ref a1)] hX dX4_wrongSeats_7 rfl rfl (Nat.le_of_ble_eq_true rfl) rfl ?_
  refine g_lv [2, 3, 1, 0] rfl ?_
  exact k_X4_wrongSeats_8 hX hr N M N a0 a1 0 v1
set_option maxRecDepth 100000 in
set_option maxHeartbeats 4000000 in
theorem k_X4_countContradictions_20 {p : Program} {l : Launch} {e : Env} {s : State} {m : MethodId} {args : Array Value} {below : List Frame} {meth : Method} {c : Code} {g : kG} (hX : Cok (p, l, e, { frames := 2 * 4, cells := 0, slots := 0, locals := 60 * 4 }, s, m, args, below, meth, c, cX4_countContradictions, 4, RX4, g, 4)) (hr : meth.sig.returnType = (some .int)) (N : Nat) (M : kMem) : ∀ (n : Nat) (a0 : Nat) (x1 : Int32) (x2 : Int32), GG (p, l, e, { frames := 2 * 4, cells := 0, slots := 0, locals := 60 * 4 }, s, m, args, below, meth, c, cX4_countContradictions, 4, RX4, g, 4) (fun b => MQ below (kQ g ((fun r : Int32 => (some (.int r), M)) b)) args s 0 0 (kZ g.2.2.1)) 0 0 (F_X4_countContradictions_20 N M n a0 x1 x2) 20 [(0, .ref a0), (1, .int x1), (2, .int x2)] [] M := by
  intro n
  induction n with
  | zero => intro _ _ _; exact g_none
  | succ n ih =>
    intro a0 x1 x2
    unfold F_X4_countContradictions_20
    refine g_iload_n 21 2 hX dX4_countContradictions_20 rfl rfl ?_
    refine g_aload_n 22 0 hX dX4_countContradictions_21 rfl rfl ?_
    refine r_X4_47 25 hX dX4_countContradictions_22 rfl ?_
    refine g_icmp_ge 66 28 hX dX4_countContradictions_25 (by decide) rfl (fun _ => ?_) (fun _ => ?_)
    · refine g_iload_n 67 1 hX dX4_countContradictions_66 rfl rfl ?_
      exact g_iret hX hr rfl (Nat.le_refl 0) (Nat.le_refl 0) dX4_countContradictions_67
    · refine g_aload_n 29 0 hX dX4_countContradictions_28 rfl rfl ?_
      refine r_X4_11 32 hX dX4_countContradictions_29 rfl ?_
      refine g_iload_n 33 2 hX dX4_countContradictions_32 rfl rfl ?_
      refine g_aald 16 3 34 hX RX0 (Nat.le_of_ble_eq_true rfl) rfl dX4_countContradictions_33 rfl ?_
      refine g_klR (fun w3 hw3 => ?_)
      refine g_astore_n 35 3 [(3, .ref w3), (0, .ref a0), (1, .int x1), (2, .int x2)] hX dX4_countContradictions_34 rfl rfl (Nat.le_of_ble_eq_true rfl) rfl ?_
      refine g_iload_n 36 2 hX dX4_countContradictions_35 rfl rfl ?_
      refine g_aload_n 37 1 hX dX4_countContradictions_36 rfl rfl ?_
      refine g_aload_n 38 0 hX dX4_countContradictions_37 rfl rfl ?_
      refine g_callV_ip 41 hX (k_X4_torqueOn l g N M a0 w3) lk_X4_torqueOn rfl (ci := 4) rfl (Nat.le_of_ble_eq_true rfl) q_862 q_864 (by omega) rfl (Nat.le_of_ble_eq_true rfl) (Nat.zero_le _) (Nat.zero_le _) dX4_countContradictions_38 rfl (fun r4 => ?_)
      refine g_aload_n 42 1 hX dX4_countContradictions_41 rfl rfl ?_
      refine g_aload_n 43 0 hX dX4_countContradictions_42 rfl rfl ?_
      refine g_callV_ip 46 hX (k_X4_torqueByDistances l g N M a0 w3) lk_X4_torqueByDistances rfl (ci := 4) rfl (Nat.le_of_ble_eq_true rfl) q_1081 q_26 (by omega) rfl (Nat.le_of_ble_eq_true rfl) (Nat.zero_le _) (Nat.zero_le _) dX4_countContradictions_43 rfl (fun r5 => ?_)
      refine g_isub 47 hX dX4_countContradictions_46 rfl ?_
      refine g_mabs (y := 0) 50 hX q_855 dX4_countContradictions_47 rfl (Nat.le_of_ble_eq_true rfl) (by decide) (Nat.zero_le _) (Nat.zero_le _) ?_
      refine g_iadd 51 hX dX4_countContradictions_50 rfl ?_
      refine g_klI (fun v6 hv6 => ?_)
      refine g_istore_n 52 1 [(1, .int v6), (3, .ref w3), (0, .ref a0), (2, .int x2)] hX dX4_countContradictions_51 rfl rfl (Nat.le_of_ble_eq_true rfl) rfl ?_
      refine g_iload_n 53 0 hX dX4_countContradictions_52 rfl rfl ?_
      refine g_aload_n 54 2 hX dX4_countContradictions_53 rfl rfl ?_
      refine g_aload_n 55 1 hX dX4_countContradictions_54 rfl rfl ?_
      refine g_callV_ip 58 hX (k_X4_wrongSeats l g N M a0 w3) lk_X4_wrongSeats rfl (ci := 4) rfl (Nat.le_of_ble_eq_true rfl) q_1089 q_28 (by omega) rfl (Nat.le_of_ble_eq_true rfl) (Nat.zero_le _) (Nat.zero_le _) dX4_countContradictions_55 rfl (fun r7 => ?_)
      refine g_iadd 59 hX dX4_countContradictions_58 rfl ?_
      refine g_klI (fun v8 hv8 => ?_)
      refine g_istore_n 60 1 [(1, .int v8), (3, .ref w3), (0, .ref a0), (2, .int x2)] hX dX4_countContradictions_59 rfl rfl (Nat.le_of_ble_eq_true rfl) rfl ?_
      refine g_kl (fun v9 hv9 => ?_)
      refine g_iinc 63 2 3 v9 [(2, .int v9), (1, .int v8), (3, .ref w3), (0, .ref a0)] hX dX4_countContradictions_60 rfl rfl (by rw [hv9, kc_i_1]) (Nat.le_of_ble_eq_true rfl) rfl ?_
      refine g_goto 20 hX dX4_countContradictions_63 (by decide) ?_
      refine g_lv [3, 1, 0] rfl ?_
      exact ih a0 v8 v9
set_option maxRecDepth 100000 in
set_option maxHeartbeats 4000000 in
theorem k_X4_countContradictions (l : Launch) (g : kG) (N : Nat) (M : kMem) (a0 : Nat) : kMet l g yX4_countContradictions cX4_countContradictions 4 (some .int) 4 0 0 [.ref a0] M (fun r : Int32 => (some (.int r), M)) (F_X4_countContradictions N M a0) := by
  refine k_of (lv := [(0, .ref a0)]) RX4 (by decide) rfl rfl (Nat.le_of_ble_eq_true rfl) ?_
  intro p e s m args below meth c hX hr _
  unfold F_X4_countContradictions
  refine g_aload_n 1 0 hX dX4_countContradictions_0 rfl rfl ?_
  refine r_X4_74 4 hX dX4_countContradictions_1 rfl ?_
  refine g_aload_n 5 0 hX dX4_countContradictions_4 rfl rfl ?_
  refine g_callV_ip 8 hX (k_X4_coinsInPurses l g N M a0) lk_X4_coinsInPurses rfl (ci := 4) rfl (Nat.le_of_ble_eq_true rfl) q_1080 q_1058 (by omega) rfl (Nat.le_of_ble_eq_true rfl) (Nat.zero_le _) (Nat.zero_le _) dX4_countContradictions_5 rfl (fun r1 => ?_)
  refine g_isub 9 hX dX4_countContradictions_8 rfl ?_
  refine g_aload_n 10 0 hX dX4_countContradictions_9 rfl rfl ?_
  refine r_X4_56 13 hX dX4_countContradictions_10 rfl ?_
  refine g_isub 14 hX dX4_countContradictions_13 rfl ?_
  refine g_mabs (y := 0) 17 hX q_855 dX4_countContradictions_14 rfl (Nat.le_of_ble_eq_true rfl) (by decide) (Nat.zero_le _) (Nat.zero_le _) ?_
  refine g_klI (fun v2 hv2 => ?_)
  refine g_istore_n 18 1 [(1, .int v2), (0, .ref a0)] hX dX4_countContradictions_17 rfl rfl (Nat.le_of_ble_eq_true rfl) rfl ?_
  refine g_iconst 19 hX 0 dX4_countContradictions_18 rfl kc_i_0 ?_
  refine g_istore_n 20 2 [(2, .int 0), (1, .int v2), (0, .ref a0)] hX dX4_countContradictions_19 rfl rfl (Nat.le_of_ble_eq_true rfl) rfl ?_
  refine g_lv [2, 1, 0] rfl ?_
  exact k_X4_countContradictions_20 hX hr N M N a0 v2 0
set_option maxRecDepth 100000 in
set_option maxHeartbeats 4000000 in
theorem k_X3_record (l : Launch) (g : kG) (N : Nat) (M : kMem) (a0 : Nat) (a1 : Nat) : kMet l g yX3_record cX3_record 2 none 3 0 0 [.ref a0, .ref a1] M (fun r : kMem => (none, r)) (F_X3_record N M a0 a1) := by
  refine k_of (lv := [(0, .ref a0), (1, .ref a1)]) RX3 (by decide) rfl rfl (Nat.le_of_ble_eq_true rfl) ?_
  intro p e s m args below meth c hX hr _
  unfold F_X3_record
  refine g_aload_n 1 0 hX dX3_record_0 rfl rfl ?_
  refine r_X3_11 4 hX dX3_record_1 rfl ?_
  refine g_aload_n 5 0 hX dX3_record_4 rfl rfl ?_
  refine r_X3_18 8 hX dX3_record_5 rfl ?_
  refine g_aald 18 5 9 hX RX4 (Nat.le_of_ble_eq_true rfl) rfl dX3_record_8 rfl ?_
  refine g_aload_n 10 1 hX dX3_record_9 rfl rfl ?_
  refine g_callV_v 13 hX (k_X4_copyFrom l g N M (kR M (kR M a0 0) (kx (kI M a0 1))) a1) lk_X4_copyFrom rfl (ci := 4) rfl (Nat.le_of_ble_eq_true rfl) q_819 q_697 (by omega) rfl (Nat.le_of_ble_eq_true rfl) (Nat.zero_le _) (Nat.zero_le _) dX3_record_10 rfl (fun M1 => ?_)
  refine g_aload_n 14 0 hX dX3_record_13 rfl rfl ?_
  refine g_aload_n 15 0 hX dX3_record_14 rfl rfl ?_
  refine r_X3_18 18 hX dX3_record_15 rfl ?_
  refine g_iconst 19 hX 1 dX3_record_18 rfl kc_i_1 ?_
  refine g_iadd 20 hX dX3_record_19 rfl ?_
  refine g_bipush 22 hX 8 dX3_record_20 rfl kc_b_8 ?_
  refine g_irem 23 hX dX3_record_22 rfl ?_
  refine p_X3_18 26 hX dX3_record_23 rfl ?_
  refine g_klM (fun M2 hM2 => ?_)
  refine g_aload_n 27 0 hX dX3_record_26 rfl rfl ?_
  refine g_aload_n 28 0 hX dX3_record_27 rfl rfl ?_
  refine r_X3_26 31 hX dX3_record_28 rfl ?_
  refine g_iconst 32 hX 1 dX3_record_31 rfl kc_i_1 ?_
  refine g_iadd 33 hX dX3_record_32 rfl ?_
  refine g_bipush 35 hX 8 dX3_record_33 rfl kc_b_8 ?_
  refine g_mmin 38 hX q_820 dX3_record_35 rfl (Nat.le_of_ble_eq_true rfl) (by decide) (Nat.zero_le _) (Nat.zero_le _) ?_
  refine p_X3_26 41 hX dX3_record_38 rfl ?_
  refine g_klM (fun M3 hM3 => ?_)
  exact g_vret hX hr rfl (Nat.le_refl 0) (Nat.le_refl 0) dX3_record_41
set_option maxRecDepth 100000 in
set_option maxHeartbeats 4000000 in
theorem k_X3_takeBack (l : Launch) (g : kG) (N : Nat) (M : kMem) (a0 : Nat) (a1 : Nat) : kMet l g yX3_takeBack cX3_takeBack 2 none 3 0 0 [.ref a0, .ref a1] M (fun r : kMem => (none, r)) (F_X3_takeBack N M a0 a1) := by
  refine k_of (lv := [(0, .ref a0), (1, .ref a1)]) RX3 (by decide) rfl rfl (Nat.le_of_ble_eq_true rfl) ?_
  intro p e s m args below meth c hX hr _
  unfold F_X3_takeBack
  refine g_aload_n 1 0 hX dX3_takeBack_0 rfl rfl ?_
  refine g_aload_n 2 0 hX dX3_takeBack_1 rfl rfl ?_
  refine r_X3_18 5 hX dX3_takeBack_2 rfl ?_
  refine g_bipush 7 hX 8 dX3_takeBack_5 rfl kc_b_8 ?_
  refine g_iadd 8 hX dX3_takeBack_7 rfl ?_
  refine g_iconst 9 hX 1 dX3_takeBack_8 rfl kc_i_1 ?_
  refine g_isub 10 hX dX3_takeBack_9 rfl ?_
  refine g_bipush 12 hX 8 dX3_takeBack_10 rfl kc_b_8 ?_
  refine g_irem 13 hX dX3_takeBack_12 rfl ?_
  refine p_X3_18 16 hX dX3_takeBack_13 rfl ?_
  refine g_klM (fun M1 hM1 => ?_)
  refine g_aload_n 17 0 hX dX3_takeBack_16 rfl rfl ?_
  refine g_dup 18 hX dX3_takeBack_17 rfl rfl ?_
  refine r_X3_26 21 hX dX3_takeBack_18 rfl ?_
  refine g_iconst 22 hX 1 dX3_takeBack_21 rfl kc_i_1 ?_
  refine g_isub 23 hX dX3_takeBack_22 rfl ?_
  refine p_X3_26 26 hX dX3_takeBack_23 rfl ?_
  refine g_klM (fun M2 hM2 => ?_)
  refine g_aload_n 27 1 hX dX3_takeBack_26 rfl rfl ?_
  refine g_aload_n 28 0 hX dX3_takeBack_27 rfl rfl ?_
  refine r_X3_11 31 hX dX3_takeBack_28 rfl ?_
  refine g_aload_n 32 0 hX dX3_takeBack_31 rfl rfl ?_
  refine r_X3_18 35 hX dX3_takeBack_32 rfl ?_
  refine g_aald 18 5 36 hX RX4 (Nat.le_of_ble_eq_true rfl) rfl dX3_takeBack_35 rfl ?_
  refine g_callV_v 39 hX (k_X4_copyFrom l g N M2 a1 (kR M2 (kR M2 a0 0) (kx (kI M2 a0 1)))) lk_X4_copyFrom rfl (ci := 4) rfl (Nat.le_of_ble_eq_true rfl) q_819 q_697 (by omega) rfl (Nat.le_of_ble_eq_true rfl) (Nat.zero_le _) (Nat.zero_le _) dX3_takeBack_36 rfl (fun M3 => ?_)
  exact g_vret hX hr rfl (Nat.le_refl 0) (Nat.le_refl 0) dX3_takeBack_39
set_option maxRecDepth 100000 in
set_option maxHeartbeats 4000000 in
theorem k_X3_forget (l : Launch) (g : kG) (N : Nat) (M : kMem) (a0 : Nat) : kMet l g yX3_forget cX3_forget 1 none 1 0 0 [.ref a0] M (fun r : kMem => (none, r)) (F_X3_forget N M a0) := by
  refine k_of (lv := [(0, .ref a0)]) RX3 (by decide) rfl rfl (Nat.le_of_ble_eq_true rfl) ?_
  intro p e s m args below meth c hX hr _
  unfold F_X3_forget
  refine g_aload_n 1 0 hX dX3_forget_0 rfl rfl ?_
  refine g_iconst 2 hX 0 dX3_forget_1 rfl kc_i_0 ?_
  refine p_X3_26 5 hX dX3_forget_2 rfl ?_
  refine g_klM (fun M1 hM1 => ?_)
  exact g_vret hX hr rfl (Nat.le_refl 0) (Nat.le_refl 0) dX3_forget_5
set_option maxRecDepth 100000 in
set_option maxHeartbeats 4000000 in
theorem k_X9_add (l : Launch) (g : kG) (N : Nat) (M : kMem) (a0 : Nat) (x1 : Int32) (x2 : Int32) (x3 : Int32) : kMet l g yX9_add cX9_add 4 none 1 0 0 [.ref a0, .int x1, .int x2, .int x3] M (fun r : kMem => (none, r)) (F_X9_add N M a0 x1 x2 x3) := by
  refine k_of (lv := [(0, .ref a0), (1, .int x1), (2, .int x2), (3, .int x3)]) RX9 (by decide) rfl rfl (Nat.le_of_ble_eq_true rfl) ?_
  intro p e s m args below meth c hX hr _
  unfold F_X9_add
  refine g_aload_n 1 0 hX dX9_add_0 rfl rfl ?_
  refine r_X9_35 4 hX dX9_add_1 rfl ?_
  refine g_aload_n 5 0 hX dX9_add_4 rfl rfl ?_
  refine r_X9_9 8 hX dX9_add_5 rfl ?_
  refine g_alen13 9 hX dX9_add_8 rfl ?_
  refine g_icmp_ge 52 12 hX dX9_add_9 (by decide) rfl (fun _ => ?_) (fun _ => ?_)
  · exact g_vret hX hr rfl (Nat.le_refl 0) (Nat.le_refl 0) dX9_add_52
  · refine g_aload_n 13 0 hX dX9_add_12 rfl rfl ?_
    refine r_X9_9 16 hX dX9_add_13 rfl ?_
    refine g_aload_n 17 0 hX dX9_add_16 rfl rfl ?_
    refine r_X9_35 20 hX dX9_add_17 rfl ?_
    refine g_iload_n 21 1 hX dX9_add_20 rfl rfl ?_
    refine g_iast 22 hX dX9_add_21 rfl ?_
    refine g_klM (fun M1 hM1 => ?_)
    refine g_aload_n 23 0 hX dX9_add_22 rfl rfl ?_
    refine r_X9_15 26 hX dX9_add_23 rfl ?_
    refine g_aload_n 27 0 hX dX9_add_26 rfl rfl ?_
    refine r_X9_35 30 hX dX9_add_27 rfl ?_
    refine g_iload_n 31 2 hX dX9_add_30 rfl rfl ?_
    refine g_iast 32 hX dX9_add_31 rfl ?_
    refine g_klM (fun M2 hM2 => ?_)
    refine g_aload_n 33 0 hX dX9_add_32 rfl rfl ?_
    refine r_X9_18 36 hX dX9_add_33 rfl ?_
    refine g_aload_n 37 0 hX dX9_add_36 rfl rfl ?_
    refine r_X9_35 40 hX dX9_add_37 rfl ?_
    refine g_iload_n 41 3 hX dX9_add_40 rfl rfl ?_
    refine g_iast 42 hX dX9_add_41 rfl ?_
    refine g_klM (fun M3 hM3 => ?_)
    refine g_aload_n 43 0 hX dX9_add_42 rfl rfl ?_
    refine g_dup 44 hX dX9_add_43 rfl rfl ?_
    refine r_X9_35 47 hX dX9_add_44 rfl ?_
    refine g_iconst 48 hX 1 dX9_add_47 rfl kc_i_1 ?_
    refine g_iadd 49 hX dX9_add_48 rfl ?_
    refine p_X9_35 52 hX dX9_add_49 rfl ?_
    refine g_klM (fun M4 hM4 => ?_)
    exact g_vret hX hr rfl (Nat.le_refl 0) (Nat.le_refl 0) dX9_add_52
set_option maxRecDepth 100000 in
set_option maxHeartbeats 4000000 in
theorem k_X11_isDigit (l : Launch) (g : kG) (N : Nat) (M : kMem) (x0 : Int32) : kMet l g yX11_isDigit cX11_isDigit 1 (some .boolean) 1 0 0 [.int x0] M (fun r : Int32 => (some (.int r), M)) (F_X11_isDigit N M x0) := by
  refine k_of (lv := [(0, .int x0)]) RX11 (by decide) rfl rfl (Nat.le_of_ble_eq_true rfl) ?_
  intro p e s m args below meth c hX hr _
  unfold F_X11_isDigit
  refine g_iload_n 1 0 hX dX11_isDigit_0 rfl rfl ?_
  refine g_bipush 3 hX 48 dX11_isDigit_1 rfl kc_b_48 ?_
  refine g_icmp_lt 16 6 hX dX11_isDigit_3 (by decide) rfl (fun _ => ?_) (fun _ => ?_)
  · refine g_iconst 17 hX 0 dX11_isDigit_16 rfl kc_i_0 ?_
    exact g_zretL hX hr rfl rfl (Nat.le_refl 0) (Nat.le_refl 0) dX11_isDigit_17
  · refine g_iload_n 7 0 hX dX11_isDigit_6 rfl rfl ?_
    refine g_bipush 9 hX 57 dX11_isDigit_7 rfl kc_b_57 ?_
    refine g_icmp_gt 16 12 hX dX11_isDigit_9 (by decide) rfl (fun _ => ?_) (fun _ => ?_)
    · refine g_iconst 17 hX 0 dX11_isDigit_16 rfl kc_i_0 ?_
      exact g_zretL hX hr rfl rfl (Nat.le_refl 0) (Nat.le_refl 0) dX11_isDigit_17
    · refine g_iconst 13 hX 1 dX11_isDigit_12 rfl kc_i_1 ?_
      refine g_goto 17 hX dX11_isDigit_13 (by decide) ?_
      exact g_zretL hX hr rfl rfl (Nat.le_refl 0) (Nat.le_refl 0) dX11_isDigit_17
set_option maxRecDepth 100000 in
set_option maxHeartbeats 4000000 in
theorem k_X9_kindOf (l : Launch) (g : kG) (N : Nat) (M : kMem) (x0 : Int32) : kMet l g yX9_kindOf cX9_kindOf 1 (some .int) 2 0 0 [.int x0] M (fun r : Int32 => (some (.int r), M)) (F_X9_kindOf N M x0) := by
  refine k_of (lv := [(0, .int x0)]) RX9 (by decide) rfl rfl (Nat.le_of_ble_eq_true rfl) ?_
  intro p e s m args below meth c hX hr _
  unfold F_X9_kindOf
  refine g_iload_n 1 0 hX dX9_kindOf_0 rfl rfl ?_
  refine g_callN_ip 4 hX (k_X11_isLetter l g N M x0) lk_X11_isLetter q_532 (by omega) rfl (Nat.le_of_ble_eq_true rfl) (Nat.zero_le _) (Nat.zero_le _) dX9_kindOf_1 rfl (fun r1 => ?_)
  refine g_if_eq 9 7 hX dX9_kindOf_4 (by decide) rfl (fun _ => ?_) (fun _ => ?_)
  · refine g_iload_n 10 0 hX dX9_kindOf_9 rfl rfl ?_
    refine g_callN_ip 13 hX (k_X11_isDigit l g N M x0) lk_X11_isDigit q_535 (by omega) rfl (Nat.le_of_ble_eq_true rfl) (Nat.zero_le _) (Nat.zero_le _) dX9_kindOf_10 rfl (fun r2 => ?_)
    refine g_if_eq 18 16 hX dX9_kindOf_13 (by decide) rfl (fun _ => ?_) (fun _ => ?_)
    · refine g_iload_n 19 0 hX dX9_kindOf_18 rfl rfl ?_
      refine g_bipush 21 hX 32 dX9_kindOf_19 rfl kc_b_32 ?_
      refine g_icmp_eq 30 24 hX dX9_kindOf_21 (by decide) rfl (fun _ => ?_) (fun _ => ?_)
      · refine g_iconst 31 hX 0 dX9_kindOf_30 rfl kc_i_0 ?_
        refine g_goto 35 hX dX9_kindOf_31 (by decide) ?_
        exact g_iret hX hr rfl (Nat.le_refl 0) (Nat.le_refl 0) dX9_kindOf_35
      · refine g_iload_n 25 0 hX dX9_kindOf_24 rfl rfl ?_
        refine g_bipush 27 hX 10 dX9_kindOf_25 rfl kc_b_10 ?_
        refine g_icmp_ne 34 30 hX dX9_kindOf_27 (by decide) rfl (fun _ => ?_) (fun _ => ?_)
        · refine g_iconst 35 hX 3 dX9_kindOf_34 rfl kc_i_3 ?_
          exact g_iret hX hr rfl (Nat.le_refl 0) (Nat.le_refl 0) dX9_kindOf_35
        · refine g_iconst 31 hX 0 dX9_kindOf_30 rfl kc_i_0 ?_
          refine g_goto 35 hX dX9_kindOf_31 (by decide) ?_
          exact g_iret hX hr rfl (Nat.le_refl 0) (Nat.le_refl 0) dX9_kindOf_35
    · refine g_iconst 17 hX 2 dX9_kindOf_16 rfl kc_i_2 ?_
      exact g_iret hX hr rfl (Nat.le_refl 0) (Nat.le_refl 0) dX9_kindOf_17
  · refine g_iconst 8 hX 1 dX9_kindOf_7 rfl kc_i_1 ?_
    exact g_iret hX hr rfl (Nat.le_refl 0) (Nat.le_refl 0) dX9_kindOf_8
set_option maxRecDepth 100000 in
set_option maxHeartbeats 4000000 in
theorem k_X9_lengthen (l : Launch) (g : kG) (N : Nat) (M : kMem) (a0 : Nat) (x1 : Int32) : kMet l g yX9_lengthen cX9_lengthen 2 none 1 0 0 [.ref a0, .int x1] M (fun r : kMem => (none, r)) (F_X9_lengthen N M a0 x1) := by
  refine k_of (lv := [(0, .ref a0), (1, .int x1)]) RX9 (by decide) rfl rfl (Nat.le_of_ble_eq_true rfl) ?_
  intro p e s m args below meth c hX hr _
  unfold F_X9_lengthen
  refine g_aload_n 1 0 hX dX9_lengthen_0 rfl rfl ?_
  refine r_X9_35 4 hX dX9_lengthen_1 rfl ?_
  refine g_if_le 19 7 hX dX9_lengthen_4 (by decide) rfl (fun _ => ?_) (fun _ => ?_)
  · exact g_vret hX hr rfl (Nat.le_refl 0) (Nat.le_refl 0) dX9_lengthen_19
  · refine g_aload_n 8 0 hX dX9_lengthen_7 rfl rfl ?_
    refine r_X9_18 11 hX dX9_lengthen_8 rfl ?_
    refine g_aload_n 12 0 hX dX9_lengthen_11 rfl rfl ?_
    refine r_X9_35 15 hX dX9_lengthen_12 rfl ?_
    refine g_iconst 16 hX 1 dX9_lengthen_15 rfl kc_i_1 ?_
    refine g_isub 17 hX dX9_lengthen_16 rfl ?_
    refine g_iload_n 18 1 hX dX9_lengthen_17 rfl rfl ?_
    refine g_iast 19 hX dX9_lengthen_18 rfl ?_
    refine g_klM (fun M1 hM1 => ?_)
    exact g_vret hX hr rfl (Nat.le_refl 0) (Nat.le_refl 0) dX9_lengthen_19
set_option maxRecDepth 100000 in
set_option maxHeartbeats 4000000 in
theorem k_X9_begin_72 {p : Program} {l : Launch} {e : Env} {s : State} {m : MethodId} {args : Array Value} {below : List Frame} {meth : Method} {c : Code} {g : kG} (hX : Cok (p, l, e, { frames := 2 * 3, cells := 0, slots := 0, locals := 60 * 3 }, s, m, args, below, meth, c, cX9_begin, 4, RX9, g, 3)) (hr : meth.sig.returnType = none) (N : Nat) (k24 : kMem → Nat → Int32 → Int32 → Option (kMem)) (h24 : ∀ (M : kMem) (a0 : Nat) (x1 : Int32) (x2 : Int32), GG (p, l, e, { frames := 2 * 3, cells := 0, slots := 0, locals := 60 * 3 }, s, m, args, below, meth, c, cX9_begin, 4, RX9, g, 3) (fun b => MQ below (kQ g ((fun r : kMem => (none, r)) b)) args s 0 0 (kZ g.2.2.1)) 0 0 (k24 M a0 x1 x2) 24 [(0, .ref a0), (1, .int x1), (2, .int x2)] [] M) : ∀ (M : kMem) (a0 : Nat) (x2 : Int32) (x3 : Int32), GG (p, l, e, { frames := 2 * 3, cells := 0, slots := 0, locals := 60 * 3 }, s, m, args, below, meth, c, cX9_begin, 4, RX9, g, 3) (fun b => MQ below (kQ g ((fun r : kMem => (none, r)) b)) args s 0 0 (kZ g.2.2.1)) 0 0 (F_X9_begin_72 N k24 M a0 x2 x3) 72 [(0, .ref a0), (2, .int x2), (3, .int x3)] [] M := by
  intro M a0 x2 x3
  unfold F_X9_begin_72
  refine g_iload_n 73 2 hX dX9_begin_72 rfl rfl ?_
  refine g_if_eq 85 76 hX dX9_begin_73 (by decide) rfl (fun _ => ?_) (fun _ => ?_)
  · refine g_iload_n 86 2 hX dX9_begin_85 rfl rfl ?_
    refine g_istore_n 87 1 [(1, .int x3), (0, .ref a0), (2, .int x2), (3, .int x3)] hX dX9_begin_86 rfl rfl (Nat.le_of_ble_eq_true rfl) rfl ?_
    refine g_kl (fun v8 hv8 => ?_)
    refine g_iinc 90 2 2 v8 [(2, .int v8), (1, .int x3), (0, .ref a0), (3, .int x3)] hX dX9_begin_87 rfl rfl (by rw [hv8, kc_i_1]) (Nat.le_of_ble_eq_true rfl) rfl ?_
    refine g_goto 24 hX dX9_begin_90 (by decide) ?_
    refine g_lv [2, 1, 0] rfl ?_
    exact h24 M a0 x3 v8
  · refine g_aload_n 77 0 hX dX9_begin_76 rfl rfl ?_
    refine g_iload_n 78 2 hX dX9_begin_77 rfl rfl ?_
    refine g_iload_n 79 1 hX dX9_begin_78 rfl rfl ?_
    refine g_iload_n 80 1 hX dX9_begin_79 rfl rfl ?_
    refine g_iconst 81 hX 1 dX9_begin_80 rfl kc_i_1 ?_
    refine g_iadd 82 hX dX9_begin_81 rfl ?_
    refine g_callV_v 85 hX (k_X9_add l g N M a0 x3 x2 (x2 + 1)) lk_X9_add rfl (ci := 9) rfl (Nat.le_of_ble_eq_true rfl) q_542 q_2 (by omega) rfl (Nat.le_of_ble_eq_true rfl) (Nat.zero_le _) (Nat.zero_le _) dX9_begin_82 rfl (fun M9 => ?_)
    refine g_iload_n 86 2 hX dX9_begin_85 rfl rfl ?_
    refine g_istore_n 87 1 [(1, .int x3), (0, .ref a0), (2, .int x2), (3, .int x3)] hX dX9_begin_86 rfl rfl (Nat.le_of_ble_eq_true rfl) rfl ?_
    refine g_kl (fun v10 hv10 => ?_)
    refine g_iinc 90 2 2 v10 [(2, .int v10), (1, .int x3), (0, .ref a0), (3, .int x3)] hX dX9_begin_87 rfl rfl (by rw [hv10, kc_i_1]) (Nat.le_of_ble_eq_true rfl) rfl ?_
    refine g_goto 24 hX dX9_begin_90 (by decide) ?_
    refine g_lv [2, 1, 0] rfl ?_
    exact h24 M9 a0 x3 v10
set_option maxRecDepth 100000 in
set_option maxHeartbeats 4000000 in
theorem k_X9_begin_62 {p : Program} {l : Launch} {e : Env} {s : State} {m : MethodId} {args : Array Value} {below : List Frame} {meth : Method} {c : Code} {g : kG} (hX : Cok (p, l, e, { frames := 2 * 3, cells := 0, slots := 0, locals := 60 * 3 }, s, m, args, below, meth, c, cX9_begin, 4, RX9, g, 3)) (hr : meth.sig.returnType = none) (N : Nat) (k24 : kMem → Nat → Int32 → Int32 → Option (kMem)) (h24 : ∀ (M : kMem) (a0 : Nat) (x1 : Int32) (x2 : Int32), GG (p, l, e, { frames := 2 * 3, cells := 0, slots := 0, locals := 60 * 3 }, s, m, args, below, meth, c, cX9_begin, 4, RX9, g, 3) (fun b => MQ below (kQ g ((fun r : kMem => (none, r)) b)) args s 0 0 (kZ g.2.2.1)) 0 0 (k24 M a0 x1 x2) 24 [(0, .ref a0), (1, .int x1), (2, .int x2)] [] M) : ∀ (M : kMem) (a0 : Nat) (x2 : Int32) (x3 : Int32), GG (p, l, e, { frames := 2 * 3, cells := 0, slots := 0, locals := 60 * 3 }, s, m, args, below, meth, c, cX9_begin, 4, RX9, g, 3) (fun b => MQ below (kQ g ((fun r : kMem => (none, r)) b)) args s 0 0 (kZ g.2.2.1)) 0 0 (F_X9_begin_62 N k24 M a0 x2 x3) 62 [(0, .ref a0), (2, .int x2), (3, .int x3)] [] M := by
  intro M a0 x2 x3
  unfold F_X9_begin_62
  refine g_aload_n 63 0 hX dX9_begin_62 rfl rfl ?_
  refine g_iload_n 64 1 hX dX9_begin_63 rfl rfl ?_
  refine g_iconst 65 hX 1 dX9_begin_64 rfl kc_i_1 ?_
  refine g_iadd 66 hX dX9_begin_65 rfl ?_
  refine g_callV_v 69 hX (k_X9_lengthen l g N M a0 (x2 + 1)) lk_X9_lengthen rfl (ci := 9) rfl (Nat.le_of_ble_eq_true rfl) q_538 q_1 (by omega) rfl (Nat.le_of_ble_eq_true rfl) (Nat.zero_le _) (Nat.zero_le _) dX9_begin_66 rfl (fun M11 => ?_)
  refine g_goto 85 hX dX9_begin_69 (by decide) ?_
  refine g_iload_n 86 2 hX dX9_begin_85 rfl rfl ?_
  refine g_istore_n 87 1 [(1, .int x3), (0, .ref a0), (2, .int x2), (3, .int x3)] hX dX9_begin_86 rfl rfl (Nat.le_of_ble_eq_true rfl) rfl ?_
  refine g_kl (fun v12 hv12 => ?_)
  refine g_iinc 90 2 2 v12 [(2, .int v12), (1, .int x3), (0, .ref a0), (3, .int x3)] hX dX9_begin_87 rfl rfl (by rw [hv12, kc_i_1]) (Nat.le_of_ble_eq_true rfl) rfl ?_
  refine g_goto 24 hX dX9_begin_90 (by decide) ?_
  refine g_lv [2, 1, 0] rfl ?_
  exact h24 M11 a0 x3 v12
set_option maxRecDepth 100000 in
set_option maxHeartbeats 4000000 in
theorem k_X9_begin_24 {p : Program} {l : Launch} {e : Env} {s : State} {m : MethodId} {args : Array Value} {below : List Frame} {meth : Method} {c : Code} {g : kG} (hX : Cok (p, l, e, { frames := 2 * 3, cells := 0, slots := 0, locals := 60 * 3 }, s, m, args, below, meth, c, cX9_begin, 4, RX9, g, 3)) (hr : meth.sig.returnType = none) (N : Nat) : ∀ (n : Nat) (M : kMem) (a0 : Nat) (x1 : Int32) (x2 : Int32), GG (p, l, e, { frames := 2 * 3, cells := 0, slots := 0, locals := 60 * 3 }, s, m, args, below, meth, c, cX9_begin, 4, RX9, g, 3) (fun b => MQ below (kQ g ((fun r : kMem => (none, r)) b)) args s 0 0 (kZ g.2.2.1)) 0 0 (F_X9_begin_24 N n M a0 x1 x2) 24 [(0, .ref a0), (1, .int x1), (2, .int x2)] [] M := by
  intro n
  induction n with
  | zero => intro _ _ _ _; exact g_none
  | succ n ih =>
    intro M a0 x1 x2
    unfold F_X9_begin_24
    refine g_iload_n 25 2 hX dX9_begin_24 rfl rfl ?_
    refine g_aload_n 26 0 hX dX9_begin_25 rfl rfl ?_
    refine r_X9_25 29 hX dX9_begin_26 rfl ?_
    refine r_X9_38 32 hX dX9_begin_29 rfl ?_
    refine g_icmp_ge 93 35 hX dX9_begin_32 (by decide) rfl (fun _ => ?_) (fun _ => ?_)
    · refine g_aload_n 94 0 hX dX9_begin_93 rfl rfl ?_
      refine g_iconst 95 hX 4 dX9_begin_94 rfl kc_i_4 ?_
      refine g_aload_n 96 0 hX dX9_begin_95 rfl rfl ?_
      refine r_X9_25 99 hX dX9_begin_96 rfl ?_
      refine r_X9_38 102 hX dX9_begin_99 rfl ?_
      refine g_aload_n 103 0 hX dX9_begin_102 rfl rfl ?_
      refine r_X9_25 106 hX dX9_begin_103 rfl ?_
      refine r_X9_38 109 hX dX9_begin_106 rfl ?_
      refine g_callV_v 112 hX (k_X9_add l g N M a0 4 (kI M (kR M a0 0) 1) (kI M (kR M a0 0) 1)) lk_X9_add rfl (ci := 9) rfl (Nat.le_of_ble_eq_true rfl) q_542 q_2 (by omega) rfl (Nat.le_of_ble_eq_true rfl) (Nat.zero_le _) (Nat.zero_le _) dX9_begin_109 rfl (fun M5 => ?_)
      exact g_vret hX hr rfl (Nat.le_refl 0) (Nat.le_refl 0) dX9_begin_112
    · refine g_aload_n 36 0 hX dX9_begin_35 rfl rfl ?_
      refine r_X9_25 39 hX dX9_begin_36 rfl ?_
      refine g_iload_n 40 2 hX dX9_begin_39 rfl rfl ?_
      refine g_callV_ip 43 hX (k_X8_byteAt l g N M (kR M a0 0) x2) lk_X8_byteAt rfl (ci := 8) rfl (Nat.le_of_ble_eq_true rfl) q_525 q_527 (by omega) rfl (Nat.le_of_ble_eq_true rfl) (Nat.zero_le _) (Nat.zero_le _) dX9_begin_40 rfl (fun r6 => ?_)
      refine g_callS_ip 46 hX (k_X9_kindOf l g N M r6) lk_X9_kindOf q_529 (by omega) rfl (Nat.le_of_ble_eq_true rfl) (Nat.zero_le _) (Nat.zero_le _) dX9_begin_43 rfl (fun r7 => ?_)
      refine g_istore_n 47 3 [(3, .int r7), (0, .ref a0), (1, .int x1), (2, .int x2)] hX dX9_begin_46 rfl rfl (Nat.le_of_ble_eq_true rfl) rfl ?_
      refine g_iload_n 48 0 hX dX9_begin_47 rfl rfl ?_
      refine g_iload_n 49 2 hX dX9_begin_48 rfl rfl ?_
      refine g_icmp_ne 72 52 hX dX9_begin_49 (by decide) rfl (fun _ => ?_) (fun _ => ?_)
      · refine g_lv [1, 3, 0] rfl ?_
        exact k_X9_begin_72 hX hr N (fun M a0 x1 x2 => F_X9_begin_24 N n M a0 x1 x2) ih M a0 x2 r7
      · refine g_iload_n 53 0 hX dX9_begin_52 rfl rfl ?_
        refine g_iconst 54 hX 1 dX9_begin_53 rfl kc_i_1 ?_
        refine g_icmp_eq 62 57 hX dX9_begin_54 (by decide) rfl (fun _ => ?_) (fun _ => ?_)
        · refine g_lv [1, 3, 0] rfl ?_
          exact k_X9_begin_62 hX hr N (fun M a0 x1 x2 => F_X9_begin_24 N n M a0 x1 x2) ih M a0 x2 r7
        · refine g_iload_n 58 0 hX dX9_begin_57 rfl rfl ?_
          refine g_iconst 59 hX 2 dX9_begin_58 rfl kc_i_2 ?_
          refine g_icmp_ne 72 62 hX dX9_begin_59 (by decide) rfl (fun _ => ?_) (fun _ => ?_)
          · refine g_lv [1, 3, 0] rfl ?_
            exact k_X9_begin_72 hX hr N (fun M a0 x1 x2 => F_X9_begin_24 N n M a0 x1 x2) ih M a0 x2 r7
          · refine g_lv [1, 3, 0] rfl ?_
            exact k_X9_begin_62 hX hr N (fun M a0 x1 x2 => F_X9_begin_24 N n M a0 x1 x2) ih M a0 x2 r7
set_option maxRecDepth 100000 in
set_option maxHeartbeats 4000000 in
theorem k_X9_begin (l : Launch) (g : kG) (N : Nat) (M : kMem) (a0 : Nat) : kMet l g yX9_begin cX9_begin 4 none 3 0 0 [.ref a0] M (fun r : kMem => (none, r)) (F_X9_begin N M a0) := by
  refine k_of (lv := [(0, .ref a0)]) RX9 (by decide) rfl rfl (Nat.le_of_ble_eq_true rfl) ?_
  intro p e s m args below meth c hX hr _
  unfold F_X9_begin
  refine g_aload_n 1 0 hX dX9_begin_0 rfl rfl ?_
  refine g_iconst 2 hX 0 dX9_begin_1 rfl kc_i_0 ?_
  refine p_X9_29 5 hX dX9_begin_2 rfl ?_
  refine g_klM (fun M1 hM1 => ?_)
  refine g_aload_n 6 0 hX dX9_begin_5 rfl rfl ?_
  refine g_iconst 7 hX (-1) dX9_begin_6 rfl kc_i_m1 ?_
  refine p_X9_21 10 hX dX9_begin_7 rfl ?_
  refine g_klM (fun M2 hM2 => ?_)
  refine g_aload_n 11 0 hX dX9_begin_10 rfl rfl ?_
  refine g_iconst 12 hX 0 dX9_begin_11 rfl kc_i_0 ?_
  refine p_X9_32 15 hX dX9_begin_12 rfl ?_
  refine g_klM (fun M3 hM3 => ?_)
  refine g_aload_n 16 0 hX dX9_begin_15 rfl rfl ?_
  refine g_iconst 17 hX 0 dX9_begin_16 rfl kc_i_0 ?_
  refine p_X9_35 20 hX dX9_begin_17 rfl ?_
  refine g_klM (fun M4 hM4 => ?_)
  refine g_iconst 21 hX 0 dX9_begin_20 rfl kc_i_0 ?_
  refine g_istore_n 22 1 [(1, .int 0), (0, .ref a0)] hX dX9_begin_21 rfl rfl (Nat.le_of_ble_eq_true rfl) rfl ?_
  refine g_iconst 23 hX 0 dX9_begin_22 rfl kc_i_0 ?_
  refine g_istore_n 24 2 [(2, .int 0), (1, .int 0), (0, .ref a0)] hX dX9_begin_23 rfl rfl (Nat.le_of_ble_eq_true rfl) rfl ?_
  refine g_lv [2, 1, 0] rfl ?_
  exact k_X9_begin_24 hX hr N N M4 a0 0 0
set_option maxRecDepth 100000 in
set_option maxHeartbeats 4000000 in
theorem k_X9_failed (l : Launch) (g : kG) (N : Nat) (M : kMem) (a0 : Nat) : kMet l g yX9_failed cX9_failed 1 (some .boolean) 1 0 0 [.ref a0] M (fun r : Int32 => (some (.int r), M)) (F_X9_failed N M a0) := by
  refine k_of (lv := [(0, .ref a0)]) RX9 (by decide) rfl rfl (Nat.le_of_ble_eq_true rfl) ?_
  intro p e s m args below meth c hX hr _
  unfold F_X9_failed
  refine g_aload_n 1 0 hX dX9_failed_0 rfl rfl ?_
  refine r_X9_29 4 hX dX9_failed_1 rfl ?_
  refine g_if_eq 11 7 hX dX9_failed_4 (by decide) rfl (fun _ => ?_) (fun _ => ?_)
  · refine g_iconst 12 hX 0 dX9_failed_11 rfl kc_i_0 ?_
    exact g_zretL hX hr rfl rfl (Nat.le_refl 0) (Nat.le_refl 0) dX9_failed_12
  · refine g_iconst 8 hX 1 dX9_failed_7 rfl kc_i_1 ?_
    refine g_goto 12 hX dX9_failed_8 (by decide) ?_
    exact g_zretL hX hr rfl rfl (Nat.le_refl 0) (Nat.le_refl 0) dX9_failed_12
set_option maxRecDepth 100000 in
set_option maxHeartbeats 4000000 in
theorem k_X9_failAt (l : Launch) (g : kG) (N : Nat) (M : kMem) (a0 : Nat) (x1 : Int32) (x2 : Int32) : kMet l g yX9_failAt cX9_failAt 3 none 1 0 0 [.ref a0, .int x1, .int x2] M (fun r : kMem => (none, r)) (F_X9_failAt N M a0 x1 x2) := by
  refine k_of (lv := [(0, .ref a0), (1, .int x1), (2, .int x2)]) RX9 (by decide) rfl rfl (Nat.le_of_ble_eq_true rfl) ?_
  intro p e s m args below meth c hX hr _
  unfold F_X9_failAt
  refine g_aload_n 1 0 hX dX9_failAt_0 rfl rfl ?_
  refine r_X9_29 4 hX dX9_failAt_1 rfl ?_
  refine g_if_ne 34 7 hX dX9_failAt_4 (by decide) rfl (fun _ => ?_) (fun _ => ?_)
  · exact g_vret hX hr rfl (Nat.le_refl 0) (Nat.le_refl 0) dX9_failAt_34
  · refine g_iload_n 8 1 hX dX9_failAt_7 rfl rfl ?_
    refine g_if_lt 34 11 hX dX9_failAt_8 (by decide) rfl (fun _ => ?_) (fun _ => ?_)
    · exact g_vret hX hr rfl (Nat.le_refl 0) (Nat.le_refl 0) dX9_failAt_34
    · refine g_iload_n 12 1 hX dX9_failAt_11 rfl rfl ?_
      refine g_aload_n 13 0 hX dX9_failAt_12 rfl rfl ?_
      refine r_X9_35 16 hX dX9_failAt_13 rfl ?_
      refine g_icmp_ge 34 19 hX dX9_failAt_16 (by decide) rfl (fun _ => ?_) (fun _ => ?_)
      · exact g_vret hX hr rfl (Nat.le_refl 0) (Nat.le_refl 0) dX9_failAt_34
      · refine g_aload_n 20 0 hX dX9_failAt_19 rfl rfl ?_
        refine g_iload_n 21 2 hX dX9_failAt_20 rfl rfl ?_
        refine p_X9_29 24 hX dX9_failAt_21 rfl ?_
        refine g_klM (fun M1 hM1 => ?_)
        refine g_aload_n 25 0 hX dX9_failAt_24 rfl rfl ?_
        refine g_aload_n 26 0 hX dX9_failAt_25 rfl rfl ?_
        refine r_X9_15 29 hX dX9_failAt_26 rfl ?_
        refine g_iload_n 30 1 hX dX9_failAt_29 rfl rfl ?_
        refine g_iald 31 hX dX9_failAt_30 rfl ?_
        refine p_X9_21 34 hX dX9_failAt_31 rfl ?_
        refine g_klM (fun M2 hM2 => ?_)
        exact g_vret hX hr rfl (Nat.le_refl 0) (Nat.le_refl 0) dX9_failAt_34
set_option maxRecDepth 100000 in
set_option maxHeartbeats 4000000 in
theorem k_X9_refuse (l : Launch) (g : kG) (N : Nat) (M : kMem) (a0 : Nat) (x1 : Int32) : kMet l g yX9_refuse cX9_refuse 2 none 2 0 0 [.ref a0, .int x1] M (fun r : kMem => (none, r)) (F_X9_refuse N M a0 x1) := by
  refine k_of (lv := [(0, .ref a0), (1, .int x1)]) RX9 (by decide) rfl rfl (Nat.le_of_ble_eq_true rfl) ?_
  intro p e s m args below meth c hX hr _
  unfold F_X9_refuse
  refine g_aload_n 1 0 hX dX9_refuse_0 rfl rfl ?_
  refine g_aload_n 2 0 hX dX9_refuse_1 rfl rfl ?_
  refine r_X9_32 5 hX dX9_refuse_2 rfl ?_
  refine g_iload_n 6 1 hX dX9_refuse_5 rfl rfl ?_
  refine g_callV_v 9 hX (k_X9_failAt l g N M a0 (kI M a0 5) x1) lk_X9_failAt rfl (ci := 9) rfl (Nat.le_of_ble_eq_true rfl) q_575 q_5 (by omega) rfl (Nat.le_of_ble_eq_true rfl) (Nat.zero_le _) (Nat.zero_le _) dX9_refuse_6 rfl (fun M1 => ?_)
  exact g_vret hX hr rfl (Nat.le_refl 0) (Nat.le_refl 0) dX9_refuse_9
set_option maxRecDepth 100000 in
set_option maxHeartbeats 4000000 in
theorem k_X9_refuseTaken (l : Launch) (g : kG) (N : Nat) (M : kMem) (a0 : Nat) (x1 : Int32) : kMet l g yX9_refuseTaken cX9_refuseTaken 2 none 2 0 0 [.ref a0, .int x1] M (fun r : kMem => (none, r)) (F_X9_refuseTaken N M a0 x1) := by
  refine k_of (lv := [(0, .ref a0), (1, .int x1)]) RX9 (by decide) rfl rfl (Nat.le_of_ble_eq_true rfl) ?_
  intro p e s m args below meth c hX hr _
  unfold F_X9_refuseTaken
  refine g_aload_n 1 0 hX dX9_refuseTaken_0 rfl rfl ?_
  refine g_aload_n 2 0 hX dX9_refuseTaken_1 rfl rfl ?_
  refine r_X9_32 5 hX dX9_refuseTaken_2 rfl ?_
  refine g_iconst 6 hX 1 dX9_refuseTaken_5 rfl kc_i_1 ?_
  refine g_isub 7 hX dX9_refuseTaken_6 rfl ?_
  refine g_iload_n 8 1 hX dX9_refuseTaken_7 rfl rfl ?_
  refine g_callV_v 11 hX (k_X9_failAt l g N M a0 ((kI M a0 5) - 1) x1) lk_X9_failAt rfl (ci := 9) rfl (Nat.le_of_ble_eq_true rfl) q_575 q_5 (by omega) rfl (Nat.le_of_ble_eq_true rfl) (Nat.zero_le _) (Nat.zero_le _) dX9_refuseTaken_8 rfl (fun M1 => ?_)
  exact g_vret hX hr rfl (Nat.le_refl 0) (Nat.le_refl 0) dX9_refuseTaken_11
set_option maxRecDepth 100000 in
set_option maxHeartbeats 4000000 in
theorem k_X9_at (l : Launch) (g : kG) (N : Nat) (M : kMem) (a0 : Nat) (x1 : Int32) : kMet l g yX9_at cX9_at 2 (some .boolean) 1 0 0 [.ref a0, .int x1] M (fun r : Int32 => (some (.int r), M)) (F_X9_at N M a0 x1) := by
  refine k_of (lv := [(0, .ref a0), (1, .int x1)]) RX9 (by decide) rfl rfl (Nat.le_of_ble_eq_true rfl) ?_
  intro p e s m args below meth c hX hr _
  unfold F_X9_at
  refine g_aload_n 1 0 hX dX9_at_0 rfl rfl ?_
  refine r_X9_29 4 hX dX9_at_1 rfl ?_
  refine g_if_ne 35 7 hX dX9_at_4 (by decide) rfl (fun _ => ?_) (fun _ => ?_)
  · refine g_iconst 36 hX 0 dX9_at_35 rfl kc_i_0 ?_
    exact g_zretL hX hr rfl rfl (Nat.le_refl 0) (Nat.le_refl 0) dX9_at_36
  · refine g_aload_n 8 0 hX dX9_at_7 rfl rfl ?_
    refine r_X9_32 11 hX dX9_at_8 rfl ?_
    refine g_aload_n 12 0 hX dX9_at_11 rfl rfl ?_
    refine r_X9_35 15 hX dX9_at_12 rfl ?_
    refine g_icmp_ge 35 18 hX dX9_at_15 (by decide) rfl (fun _ => ?_) (fun _ => ?_)
    · refine g_iconst 36 hX 0 dX9_at_35 rfl kc_i_0 ?_
      exact g_zretL hX hr rfl rfl (Nat.le_refl 0) (Nat.le_refl 0) dX9_at_36
    · refine g_aload_n 19 0 hX dX9_at_18 rfl rfl ?_
      refine r_X9_9 22 hX dX9_at_19 rfl ?_
      refine g_aload_n 23 0 hX dX9_at_22 rfl rfl ?_
      refine r_X9_32 26 hX dX9_at_23 rfl ?_
      refine g_iald 27 hX dX9_at_26 rfl ?_
      refine g_iload_n 28 1 hX dX9_at_27 rfl rfl ?_
      refine g_icmp_ne 35 31 hX dX9_at_28 (by decide) rfl (fun _ => ?_) (fun _ => ?_)
      · refine g_iconst 36 hX 0 dX9_at_35 rfl kc_i_0 ?_
        exact g_zretL hX hr rfl rfl (Nat.le_refl 0) (Nat.le_refl 0) dX9_at_36
      · refine g_iconst 32 hX 1 dX9_at_31 rfl kc_i_1 ?_
        refine g_goto 36 hX dX9_at_32 (by decide) ?_
        exact g_zretL hX hr rfl rfl (Nat.le_refl 0) (Nat.le_refl 0) dX9_at_36
set_option maxRecDepth 100000 in
set_option maxHeartbeats 4000000 in
theorem k_X9_atEnd (l : Launch) (g : kG) (N : Nat) (M : kMem) (a0 : Nat) : kMet l g yX9_atEnd cX9_atEnd 1 (some .boolean) 2 0 0 [.ref a0] M (fun r : Int32 => (some (.int r), M)) (F_X9_atEnd N M a0) := by
  refine k_of (lv := [(0, .ref a0)]) RX9 (by decide) rfl rfl (Nat.le_of_ble_eq_true rfl) ?_
  intro p e s m args below meth c hX hr _
  unfold F_X9_atEnd
  refine g_aload_n 1 0 hX dX9_atEnd_0 rfl rfl ?_
  refine g_callV_ip 4 hX (k_X9_failed l g N M a0) lk_X9_failed rfl (ci := 9) rfl (Nat.le_of_ble_eq_true rfl) q_765 q_615 (by omega) rfl (Nat.le_of_ble_eq_true rfl) (Nat.zero_le _) (Nat.zero_le _) dX9_atEnd_1 rfl (fun r1 => ?_)
  refine g_if_ne 15 7 hX dX9_atEnd_4 (by decide) rfl (fun _ => ?_) (fun _ => ?_)
  · refine g_iconst 16 hX 1 dX9_atEnd_15 rfl kc_i_1 ?_
    refine g_goto 20 hX dX9_atEnd_16 (by decide) ?_
    exact g_zretL hX hr rfl rfl (Nat.le_refl 0) (Nat.le_refl 0) dX9_atEnd_20
  · refine g_aload_n 8 0 hX dX9_atEnd_7 rfl rfl ?_
    refine g_iconst 9 hX 4 dX9_atEnd_8 rfl kc_i_4 ?_
    refine g_callV_ip 12 hX (k_X9_at l g N M a0 4) lk_X9_at rfl (ci := 9) rfl (Nat.le_of_ble_eq_true rfl) q_565 q_3 (by omega) rfl (Nat.le_of_ble_eq_true rfl) (Nat.zero_le _) (Nat.zero_le _) dX9_atEnd_9 rfl (fun r2 => ?_)
    refine g_if_eq 19 15 hX dX9_atEnd_12 (by decide) rfl (fun _ => ?_) (fun _ => ?_)
    · refine g_iconst 20 hX 0 dX9_atEnd_19 rfl kc_i_0 ?_
      exact g_zretL hX hr rfl rfl (Nat.le_refl 0) (Nat.le_refl 0) dX9_atEnd_20
    · refine g_iconst 16 hX 1 dX9_atEnd_15 rfl kc_i_1 ?_
      refine g_goto 20 hX dX9_atEnd_16 (by decide) ?_
      exact g_zretL hX hr rfl rfl (Nat.le_refl 0) (Nat.le_refl 0) dX9_atEnd_20
set_option maxRecDepth 100000 in
set_option maxHeartbeats 4000000 in
theorem k_X9_atSign (l : Launch) (g : kG) (N : Nat) (M : kMem) (a0 : Nat) (x1 : Int32) : kMet l g yX9_atSign cX9_atSign 2 (some .boolean) 2 0 0 [.ref a0, .int x1] M (fun r : Int32 => (some (.int r), M)) (F_X9_atSign N M a0 x1) := by
  refine k_of (lv := [(0, .ref a0), (1, .int x1)]) RX9 (by decide) rfl rfl (Nat.le_of_ble_eq_true rfl) ?_
  intro p e s m args below meth c hX hr _
  unfold F_X9_atSign
  refine g_aload_n 1 0 hX dX9_atSign_0 rfl rfl ?_
  refine g_iconst 2 hX 3 dX9_atSign_1 rfl kc_i_3 ?_
  refine g_callV_ip 5 hX (k_X9_at l g N M a0 3) lk_X9_at rfl (ci := 9) rfl (Nat.le_of_ble_eq_true rfl) q_565 q_3 (by omega) rfl (Nat.le_of_ble_eq_true rfl) (Nat.zero_le _) (Nat.zero_le _) dX9_atSign_2 rfl (fun r1 => ?_)
  refine g_if_eq 32 8 hX dX9_atSign_5 (by decide) rfl (fun _ => ?_) (fun _ => ?_)
  · refine g_iconst 33 hX 0 dX9_atSign_32 rfl kc_i_0 ?_
    exact g_zretL hX hr rfl rfl (Nat.le_refl 0) (Nat.le_refl 0) dX9_atSign_33
  · refine g_aload_n 9 0 hX dX9_atSign_8 rfl rfl ?_
    refine r_X9_25 12 hX dX9_atSign_9 rfl ?_
    refine g_aload_n 13 0 hX dX9_atSign_12 rfl rfl ?_
    refine r_X9_15 16 hX dX9_atSign_13 rfl ?_
    refine g_aload_n 17 0 hX dX9_atSign_16 rfl rfl ?_
    refine r_X9_32 20 hX dX9_atSign_17 rfl ?_
    refine g_iald 21 hX dX9_atSign_20 rfl ?_
    refine g_callV_ip 24 hX (k_X8_byteAt l g N M (kR M a0 0) (kI M (kR M a0 2) (kx (kI M a0 5)))) lk_X8_byteAt rfl (ci := 8) rfl (Nat.le_of_ble_eq_true rfl) q_525 q_527 (by omega) rfl (Nat.le_of_ble_eq_true rfl) (Nat.zero_le _) (Nat.zero_le _) dX9_atSign_21 rfl (fun r2 => ?_)
    refine g_iload_n 25 1 hX dX9_atSign_24 rfl rfl ?_
    refine g_icmp_ne 32 28 hX dX9_atSign_25 (by decide) rfl (fun _ => ?_) (fun _ => ?_)
    · refine g_iconst 33 hX 0 dX9_atSign_32 rfl kc_i_0 ?_
      exact g_zretL hX hr rfl rfl (Nat.le_refl 0) (Nat.le_refl 0) dX9_atSign_33
    · refine g_iconst 29 hX 1 dX9_atSign_28 rfl kc_i_1 ?_
      refine g_goto 33 hX dX9_atSign_29 (by decide) ?_
      exact g_zretL hX hr rfl rfl (Nat.le_refl 0) (Nat.le_refl 0) dX9_atSign_33
set_option maxRecDepth 100000 in
set_option maxHeartbeats 4000000 in
theorem k_X9_takeIf (l : Launch) (g : kG) (N : Nat) (M : kMem) (a0 : Nat) (x1 : Int32) : kMet l g yX9_takeIf cX9_takeIf 2 none 2 0 0 [.ref a0, .int x1] M (fun r : kMem => (none, r)) (F_X9_takeIf N M a0 x1) := by
  refine k_of (lv := [(0, .ref a0), (1, .int x1)]) RX9 (by decide) rfl rfl (Nat.le_of_ble_eq_true rfl) ?_
  intro p e s m args below meth c hX hr _
  unfold F_X9_takeIf
  refine g_iload_n 1 1 hX dX9_takeIf_0 rfl rfl ?_
  refine g_if_ne 16 4 hX dX9_takeIf_1 (by decide) rfl (fun _ => ?_) (fun _ => ?_)
  · refine g_aload_n 17 0 hX dX9_takeIf_16 rfl rfl ?_
    refine r_X9_29 20 hX dX9_takeIf_17 rfl ?_
    refine g_if_ne 33 23 hX dX9_takeIf_20 (by decide) rfl (fun _ => ?_) (fun _ => ?_)
    · exact g_vret hX hr rfl (Nat.le_refl 0) (Nat.le_refl 0) dX9_takeIf_33
    · refine g_aload_n 24 0 hX dX9_takeIf_23 rfl rfl ?_
      refine g_dup 25 hX dX9_takeIf_24 rfl rfl ?_
      refine r_X9_32 28 hX dX9_takeIf_25 rfl ?_
      refine g_iconst 29 hX 1 dX9_takeIf_28 rfl kc_i_1 ?_
      refine g_iadd 30 hX dX9_takeIf_29 rfl ?_
      refine p_X9_32 33 hX dX9_takeIf_30 rfl ?_
      refine g_klM (fun M1 hM1 => ?_)
      exact g_vret hX hr rfl (Nat.le_refl 0) (Nat.le_refl 0) dX9_takeIf_33
  · refine g_aload_n 5 0 hX dX9_takeIf_4 rfl rfl ?_
    refine g_aload_n 6 0 hX dX9_takeIf_5 rfl rfl ?_
    refine r_X9_32 9 hX dX9_takeIf_6 rfl ?_
    refine g_iconst 10 hX 1 dX9_takeIf_9 rfl kc_i_1 ?_
    refine g_callV_v 13 hX (k_X9_failAt l g N M a0 (kI M a0 5) 1) lk_X9_failAt rfl (ci := 9) rfl (Nat.le_of_ble_eq_true rfl) q_575 q_5 (by omega) rfl (Nat.le_of_ble_eq_true rfl) (Nat.zero_le _) (Nat.zero_le _) dX9_takeIf_10 rfl (fun M2 => ?_)
    refine g_goto 33 hX dX9_takeIf_13 (by decide) ?_
    exact g_vret hX hr rfl (Nat.le_refl 0) (Nat.le_refl 0) dX9_takeIf_33
set_option maxRecDepth 100000 in
set_option maxHeartbeats 4000000 in
theorem k_X9_takeAnyWord (l : Launch) (g : kG) (N : Nat) (M : kMem) (a0 : Nat) : kMet l g yX9_takeAnyWord cX9_takeAnyWord 1 none 3 0 0 [.ref a0] M (fun r : kMem => (none, r)) (F_X9_takeAnyWord N M a0) := by
  refine k_of (lv := [(0, .ref a0)]) RX9 (by decide) rfl rfl (Nat.le_of_ble_eq_true rfl) ?_
  intro p e s m args below meth c hX hr _
  unfold F_X9_takeAnyWord
  refine g_aload_n 1 0 hX dX9_takeAnyWord_0 rfl rfl ?_
  refine g_aload_n 2 0 hX dX9_takeAnyWord_1 rfl rfl ?_
  refine g_iconst 3 hX 1 dX9_takeAnyWord_2 rfl kc_i_1 ?_
  refine g_callV_ip 6 hX (k_X9_at l g N M a0 1) lk_X9_at rfl (ci := 9) rfl (Nat.le_of_ble_eq_true rfl) q_565 q_3 (by omega) rfl (Nat.le_of_ble_eq_true rfl) (Nat.zero_le _) (Nat.zero_le _) dX9_takeAnyWord_3 rfl (fun r1 => ?_)
  refine g_callV_v 9 hX (k_X9_takeIf l g N M a0 r1) lk_X9_takeIf rfl (ci := 9) rfl (Nat.le_of_ble_eq_true rfl) q_571 q_4 (by omega) rfl (Nat.le_of_ble_eq_true rfl) (Nat.zero_le _) (Nat.zero_le _) dX9_takeAnyWord_6 rfl (fun M2 => ?_)
  exact g_vret hX hr rfl (Nat.le_refl 0) (Nat.le_refl 0) dX9_takeAnyWord_9
set_option maxRecDepth 100000 in
set_option maxHeartbeats 4000000 in
theorem k_X9_takeSign (l : Launch) (g : kG) (N : Nat) (M : kMem) (a0 : Nat) (x1 : Int32) : kMet l g yX9_takeSign cX9_takeSign 2 none 3 0 0 [.ref a0, .int x1] M (fun r : kMem => (none, r)) (F_X9_takeSign N M a0 x1) := by
  refine k_of (lv := [(0, .ref a0), (1, .int x1)]) RX9 (by decide) rfl rfl (Nat.le_of_ble_eq_true rfl) ?_
  intro p e s m args below meth c hX hr _
  unfold F_X9_takeSign
  refine g_aload_n 1 0 hX dX9_takeSign_0 rfl rfl ?_
  refine g_aload_n 2 0 hX dX9_takeSign_1 rfl rfl ?_
  refine g_iload_n 3 1 hX dX9_takeSign_2 rfl rfl ?_
  refine g_callV_ip 6 hX (k_X9_atSign l g N M a0 x1) lk_X9_atSign rfl (ci := 9) rfl (Nat.le_of_ble_eq_true rfl) q_600 q_602 (by omega) rfl (Nat.le_of_ble_eq_true rfl) (Nat.zero_le _) (Nat.zero_le _) dX9_takeSign_3 rfl (fun r1 => ?_)
  refine g_callV_v 9 hX (k_X9_takeIf l g N M a0 r1) lk_X9_takeIf rfl (ci := 9) rfl (Nat.le_of_ble_eq_true rfl) q_571 q_4 (by omega) rfl (Nat.le_of_ble_eq_true rfl) (Nat.zero_le _) (Nat.zero_le _) dX9_takeSign_6 rfl (fun M2 => ?_)
  exact g_vret hX hr rfl (Nat.le_refl 0) (Nat.le_refl 0) dX9_takeSign_9
set_option maxRecDepth 100000 in
set_option maxHeartbeats 4000000 in
theorem k_X9_takeName_37 {p : Program} {l : Launch} {e : Env} {s : State} {m : MethodId} {args : Array Value} {below : List Frame} {meth : Method} {c : Code} {g : kG} (hX : Cok (p, l, e, { frames := 2 * 3, cells := 0, slots := 0, locals := 60 * 3 }, s, m, args, below, meth, c, cX9_takeName, 3, RX9, g, 3)) (hr : meth.sig.returnType = (some .long)) (N : Nat) : ∀ (M : kMem) (a0 : Nat) (y0 : Int64), GG (p, l, e, { frames := 2 * 3, cells := 0, slots := 0, locals := 60 * 3 }, s, m, args, below, meth, c, cX9_takeName, 3, RX9, g, 3) (fun b => MQ below (kQ g ((fun r : Int64 × kMem => (some (.long r.1), r.2)) b)) args s 0 0 (kZ g.2.2.1)) 0 0 (F_X9_takeName_37 N M a0 y0) 37 [(0, .ref a0)] [.long y0] M := by
  intro M a0 y0
  unfold F_X9_takeName_37
  refine g_lstore_n 38 1 [(1, .long y0), (0, .ref a0)] hX dX9_takeName_37 rfl rfl (Nat.le_of_ble_eq_true rfl) rfl ?_
  refine g_aload_n 39 1 hX dX9_takeName_38 rfl rfl ?_
  refine g_lload_n 40 0 hX dX9_takeName_39 rfl rfl ?_
  refine g_lconst 41 hX 0 dX9_takeName_40 rfl rfl ?_
  refine g_lcmp 42 hX dX9_takeName_41 rfl ?_
  refine g_if_eq 49 45 hX dX9_takeName_42 (by decide) rfl (fun _ => ?_) (fun _ => ?_)
  · refine g_iconst 50 hX 0 dX9_takeName_49 rfl kc_i_0 ?_
    refine g_callV_v 53 hX (k_X9_takeIf l g N M a0 0) lk_X9_takeIf rfl (ci := 9) rfl (Nat.le_of_ble_eq_true rfl) q_571 q_4 (by omega) rfl (Nat.le_of_ble_eq_true rfl) (Nat.zero_le _) (Nat.zero_le _) dX9_takeName_50 rfl (fun M2 => ?_)
    refine g_lload_n 54 0 hX dX9_takeName_53 rfl rfl ?_
    exact g_lret hX hr rfl (Nat.le_refl 0) (Nat.le_refl 0) dX9_takeName_54
  · refine g_iconst 46 hX 1 dX9_takeName_45 rfl kc_i_1 ?_
    refine g_goto 50 hX dX9_takeName_46 (by decide) ?_
    refine g_callV_v 53 hX (k_X9_takeIf l g N M a0 1) lk_X9_takeIf rfl (ci := 9) rfl (Nat.le_of_ble_eq_true rfl) q_571 q_4 (by omega) rfl (Nat.le_of_ble_eq_true rfl) (Nat.zero_le _) (Nat.zero_le _) dX9_takeName_50 rfl (fun M3 => ?_)
    refine g_lload_n 54 0 hX dX9_takeName_53 rfl rfl ?_
    exact g_lret hX hr rfl (Nat.le_refl 0) (Nat.le_refl 0) dX9_takeName_54
set_option maxRecDepth 100000 in
set_option maxHeartbeats 4000000 in
theorem k_X9_takeName (l : Launch) (g : kG) (N : Nat) (M : kMem) (a0 : Nat) : kMet l g yX9_takeName cX9_takeName 3 (some .long) 3 0 0 [.ref a0] M (fun r : Int64 × kMem => (some (.long r.1), r.2)) (F_X9_takeName N M a0) := by
  refine k_of (lv := [(0, .ref a0)]) RX9 (by decide) rfl rfl (Nat.le_of_ble_eq_true rfl) ?_
  intro p e s m args below meth c hX hr _
  unfold F_X9_takeName
  refine g_aload_n 1 0 hX dX9_takeName_0 rfl rfl ?_
  refine g_iconst 2 hX 1 dX9_takeName_1 rfl kc_i_1 ?_
  refine g_callV_ip 5 hX (k_X9_at l g N M a0 1) lk_X9_at rfl (ci := 9) rfl (Nat.le_of_ble_eq_true rfl) q_565 q_3 (by omega) rfl (Nat.le_of_ble_eq_true rfl) (Nat.zero_le _) (Nat.zero_le _) dX9_takeName_2 rfl (fun r1 => ?_)
  refine g_if_eq 36 8 hX dX9_takeName_5 (by decide) rfl (fun _ => ?_) (fun _ => ?_)
  · refine g_lconst 37 hX 0 dX9_takeName_36 rfl rfl ?_
    exact k_X9_takeName_37 hX hr N M a0 0
  · refine g_aload_n 9 0 hX dX9_takeName_8 rfl rfl ?_
    refine r_X9_25 12 hX dX9_takeName_9 rfl ?_
    refine g_aload_n 13 0 hX dX9_takeName_12 rfl rfl ?_
    refine r_X9_15 16 hX dX9_takeName_13 rfl ?_
    refine g_aload_n 17 0 hX dX9_takeName_16 rfl rfl ?_
    refine r_X9_32 20 hX dX9_takeName_17 rfl ?_
    refine g_iald 21 hX dX9_takeName_20 rfl ?_
    refine g_aload_n 22 0 hX dX9_takeName_21 rfl rfl ?_
    refine r_X9_18 25 hX dX9_takeName_22 rfl ?_
    refine g_aload_n 26 0 hX dX9_takeName_25 rfl rfl ?_
    refine r_X9_32 29 hX dX9_takeName_26 rfl ?_
    refine g_iald 30 hX dX9_takeName_29 rfl ?_
    refine g_callV_lp 33 hX (k_X8_nameBetween l g N M (kR M a0 0) (kI M (kR M a0 2) (kx (kI M a0 5))) (kI M (kR M a0 3) (kx (kI M a0 5)))) lk_X8_nameBetween rfl (ci := 8) rfl (Nat.le_of_ble_eq_true rfl) q_634 q_636 (by omega) rfl (Nat.le_of_ble_eq_true rfl) (Nat.zero_le _) (Nat.zero_le _) dX9_takeName_30 rfl (fun r4 => ?_)
    refine g_goto 37 hX dX9_takeName_33 (by decide) ?_
    exact k_X9_takeName_37 hX hr N M a0 r4
set_option maxRecDepth 100000 in
set_option maxHeartbeats 4000000 in
theorem k_X9_valueHere_12 {p : Program} {l : Launch} {e : Env} {s : State} {m : MethodId} {args : Array Value} {below : List Frame} {meth : Method} {c : Code} {g : kG} (hX : Cok (p, l, e, { frames := 2 * 2, cells := 0, slots := 0, locals := 60 * 2 }, s, m, args, below, meth, c, cX9_valueHere, 3, RX9, g, 2)) (hr : meth.sig.returnType = (some .int)) (N : Nat) (M : kMem) : ∀ (n : Nat) (a0 : Nat) (x1 : Int32) (x2 : Int32), GG (p, l, e, { frames := 2 * 2, cells := 0, slots := 0, locals := 60 * 2 }, s, m, args, below, meth, c, cX9_valueHere, 3, RX9, g, 2) (fun b => MQ below (kQ g ((fun r : Int32 => (some (.int r), M)) b)) args s 0 0 (kZ g.2.2.1)) 0 0 (F_X9_valueHere_12 N M n a0 x1 x2) 12 [(0, .ref a0), (1, .int x1), (2, .int x2)] [] M := by
  intro n
  induction n with
  | zero => intro _ _ _; exact g_none
  | succ n ih =>
    intro a0 x1 x2
    unfold F_X9_valueHere_12
    refine g_iload_n 13 2 hX dX9_valueHere_12 rfl rfl ?_
    refine g_aload_n 14 0 hX dX9_valueHere_13 rfl rfl ?_
    refine r_X9_18 17 hX dX9_valueHere_14 rfl ?_
    refine g_aload_n 18 0 hX dX9_valueHere_17 rfl rfl ?_
    refine r_X9_32 21 hX dX9_valueHere_18 rfl ?_
    refine g_iald 22 hX dX9_valueHere_21 rfl ?_
    refine g_icmp_ge 53 25 hX dX9_valueHere_22 (by decide) rfl (fun _ => ?_) (fun _ => ?_)
    · refine g_iload_n 54 1 hX dX9_valueHere_53 rfl rfl ?_
      exact g_iret hX hr rfl (Nat.le_refl 0) (Nat.le_refl 0) dX9_valueHere_54
    · refine g_ldc 27 hX 1000000 dX9_valueHere_25 rfl q_587 ?_
      refine g_iload_n 28 1 hX dX9_valueHere_27 rfl rfl ?_
      refine g_bipush 30 hX 10 dX9_valueHere_28 rfl kc_b_10 ?_
      refine g_imul 31 hX dX9_valueHere_30 rfl ?_
      refine g_aload_n 32 0 hX dX9_valueHere_31 rfl rfl ?_
      refine r_X9_25 35 hX dX9_valueHere_32 rfl ?_
      refine g_iload_n 36 2 hX dX9_valueHere_35 rfl rfl ?_
      refine g_callV_ip 39 hX (k_X8_byteAt l g N M (kR M a0 0) x2) lk_X8_byteAt rfl (ci := 8) rfl (Nat.le_of_ble_eq_true rfl) q_525 q_527 (by omega) rfl (Nat.le_of_ble_eq_true rfl) (Nat.zero_le _) (Nat.zero_le _) dX9_valueHere_36 rfl (fun r2 => ?_)
      refine g_iadd 40 hX dX9_valueHere_39 rfl ?_
      refine g_bipush 42 hX 48 dX9_valueHere_40 rfl kc_b_48 ?_
      refine g_isub 43 hX dX9_valueHere_42 rfl ?_
      refine g_mmin 46 hX q_588 dX9_valueHere_43 rfl (Nat.le_of_ble_eq_true rfl) (by decide) (Nat.zero_le _) (Nat.zero_le _) ?_
      refine g_klI (fun v3 hv3 => ?_)
      refine g_istore_n 47 1 [(1, .int v3), (0, .ref a0), (2, .int x2)] hX dX9_valueHere_46 rfl rfl (Nat.le_of_ble_eq_true rfl) rfl ?_
      refine g_kl (fun v4 hv4 => ?_)
      refine g_iinc 50 2 2 v4 [(2, .int v4), (1, .int v3), (0, .ref a0)] hX dX9_valueHere_47 rfl rfl (by rw [hv4, kc_i_1]) (Nat.le_of_ble_eq_true rfl) rfl ?_
      refine g_goto 12 hX dX9_valueHere_50 (by decide) ?_
      refine g_lv [2, 1, 0] rfl ?_
      exact ih a0 v3 v4
set_option maxRecDepth 100000 in
set_option maxHeartbeats 4000000 in
theorem k_X9_valueHere (l : Launch) (g : kG) (N : Nat) (M : kMem) (a0 : Nat) : kMet l g yX9_valueHere cX9_valueHere 3 (some .int) 2 0 0 [.ref a0] M (fun r : Int32 => (some (.int r), M)) (F_X9_valueHere N M a0) := by
  refine k_of (lv := [(0, .ref a0)]) RX9 (by decide) rfl rfl (Nat.le_of_ble_eq_true rfl) ?_
  intro p e s m args below meth c hX hr _
  unfold F_X9_valueHere
  refine g_iconst 1 hX 0 dX9_valueHere_0 rfl kc_i_0 ?_
  refine g_istore_n 2 1 [(1, .int 0), (0, .ref a0)] hX dX9_valueHere_1 rfl rfl (Nat.le_of_ble_eq_true rfl) rfl ?_
  refine g_aload_n 3 1 hX dX9_valueHere_2 rfl rfl ?_
  refine r_X9_15 6 hX dX9_valueHere_3 rfl ?_
  refine g_aload_n 7 1 hX dX9_valueHere_6 rfl rfl ?_
  refine r_X9_32 10 hX dX9_valueHere_7 rfl ?_
  refine g_iald 11 hX dX9_valueHere_10 rfl ?_
  refine g_klI (fun v1 hv1 => ?_)
  refine g_istore_n 12 2 [(2, .int v1), (1, .int 0), (0, .ref a0)] hX dX9_valueHere_11 rfl rfl (Nat.le_of_ble_eq_true rfl) rfl ?_
  refine g_lv [2, 1, 0] rfl ?_
  exact k_X9_valueHere_12 hX hr N M N a0 0 v1
set_option maxRecDepth 100000 in
set_option maxHeartbeats 4000000 in
theorem k_X9_takeNumber_41 {p : Program} {l : Launch} {e : Env} {s : State} {m : MethodId} {args : Array Value} {below : List Frame} {meth : Method} {c : Code} {g : kG} (hX : Cok (p, l, e, { frames := 2 * 3, cells := 0, slots := 0, locals := 60 * 3 }, s, m, args, below, meth, c, cX9_takeNumber, 5, RX9, g, 3)) (hr : meth.sig.returnType = (some .int)) (N : Nat) : ∀ (M : kMem) (a0 : Nat) (x3 : Int32) (x4 : Int32), GG (p, l, e, { frames := 2 * 3, cells := 0, slots := 0, locals := 60 * 3 }, s, m, args, below, meth, c, cX9_takeNumber, 5, RX9, g, 3) (fun b => MQ below (kQ g ((fun r : Int32 × kMem => (some (.int r.1), r.2)) b)) args s 0 0 (kZ g.2.2.1)) 0 0 (F_X9_takeNumber_41 N M a0 x3 x4) 41 [(0, .ref a0), (3, .int x3), (4, .int x4)] [] M := by
  intro M a0 x3 x4
  unfold F_X9_takeNumber_41
  refine g_aload_n 42 0 hX dX9_takeNumber_41 rfl rfl ?_
  refine g_iload_n 43 1 hX dX9_takeNumber_42 rfl rfl ?_
  refine g_callV_v 46 hX (k_X9_takeIf l g N M a0 x3) lk_X9_takeIf rfl (ci := 9) rfl (Nat.le_of_ble_eq_true rfl) q_571 q_4 (by omega) rfl (Nat.le_of_ble_eq_true rfl) (Nat.zero_le _) (Nat.zero_le _) dX9_takeNumber_43 rfl (fun M2 => ?_)
  refine g_aload_n 47 0 hX dX9_takeNumber_46 rfl rfl ?_
  refine r_X9_29 50 hX dX9_takeNumber_47 rfl ?_
  refine g_if_ne 58 53 hX dX9_takeNumber_50 (by decide) rfl (fun _ => ?_) (fun _ => ?_)
  · refine g_iconst 59 hX (-1) dX9_takeNumber_58 rfl kc_i_m1 ?_
    exact g_iret hX hr rfl (Nat.le_refl 0) (Nat.le_refl 0) dX9_takeNumber_59
  · refine g_iload 55 2 hX dX9_takeNumber_53 rfl rfl ?_
    refine g_goto 59 hX dX9_takeNumber_55 (by decide) ?_
    exact g_iret hX hr rfl (Nat.le_refl 0) (Nat.le_refl 0) dX9_takeNumber_59
set_option maxRecDepth 100000 in
set_option maxHeartbeats 4000000 in
theorem k_X9_takeNumber_36 {p : Program} {l : Launch} {e : Env} {s : State} {m : MethodId} {args : Array Value} {below : List Frame} {meth : Method} {c : Code} {g : kG} (hX : Cok (p, l, e, { frames := 2 * 3, cells := 0, slots := 0, locals := 60 * 3 }, s, m, args, below, meth, c, cX9_takeNumber, 5, RX9, g, 3)) (hr : meth.sig.returnType = (some .int)) (N : Nat) : ∀ (M : kMem) (a0 : Nat) (x3 : Int32) (x4 : Int32), GG (p, l, e, { frames := 2 * 3, cells := 0, slots := 0, locals := 60 * 3 }, s, m, args, below, meth, c, cX9_takeNumber, 5, RX9, g, 3) (fun b => MQ below (kQ g ((fun r : Int32 × kMem => (some (.int r.1), r.2)) b)) args s 0 0 (kZ g.2.2.1)) 0 0 (F_X9_takeNumber_36 N M a0 x3 x4) 36 [(0, .ref a0), (3, .int x3), (4, .int x4)] [] M := by
  intro M a0 x3 x4
  unfold F_X9_takeNumber_36
  refine g_aload_n 37 0 hX dX9_takeNumber_36 rfl rfl ?_
  refine g_iconst 38 hX 2 dX9_takeNumber_37 rfl kc_i_2 ?_
  refine g_callV_v 41 hX (k_X9_refuse l g N M a0 2) lk_X9_refuse rfl (ci := 9) rfl (Nat.le_of_ble_eq_true rfl) q_591 q_593 (by omega) rfl (Nat.le_of_ble_eq_true rfl) (Nat.zero_le _) (Nat.zero_le _) dX9_takeNumber_38 rfl (fun M3 => ?_)
  exact k_X9_takeNumber_41 hX hr N M3 a0 x3 x4
set_option maxRecDepth 100000 in
set_option maxHeartbeats 4000000 in
theorem k_X9_takeNumber_18 {p : Program} {l : Launch} {e : Env} {s : State} {m : MethodId} {args : Array Value} {below : List Frame} {meth : Method} {c : Code} {g : kG} (hX : Cok (p, l, e, { frames := 2 * 3, cells := 0, slots := 0, locals := 60 * 3 }, s, m, args, below, meth, c, cX9_takeNumber, 5, RX9, g, 3)) (hr : meth.sig.returnType = (some .int)) (N : Nat) : ∀ (M : kMem) (a0 : Nat) (x1 : Int32) (x2 : Int32) (x3 : Int32) (y0 : Int32), GG (p, l, e, { frames := 2 * 3, cells := 0, slots := 0, locals := 60 * 3 }, s, m, args, below, meth, c, cX9_takeNumber, 5, RX9, g, 3) (fun b => MQ below (kQ g ((fun r : Int32 × kMem => (some (.int r.1), r.2)) b)) args s 0 0 (kZ g.2.2.1)) 0 0 (F_X9_takeNumber_18 N M a0 x1 x2 x3 y0) 18 [(0, .ref a0), (1, .int x1), (2, .int x2), (3, .int x3)] [.int y0] M := by
  intro M a0 x1 x2 x3 y0
  unfold F_X9_takeNumber_18
  refine g_istore 20 4 [(4, .int y0), (0, .ref a0), (1, .int x1), (2, .int x2), (3, .int x3)] hX dX9_takeNumber_18 rfl (Nat.le_of_ble_eq_true rfl) rfl ?_
  refine g_iload_n 21 4 hX dX9_takeNumber_20 rfl rfl ?_
  refine g_if_eq 41 24 hX dX9_takeNumber_21 (by decide) rfl (fun _ => ?_) (fun _ => ?_)
  · refine g_lv [1, 4, 0] rfl ?_
    exact k_X9_takeNumber_41 hX hr N M a0 x3 y0
  · refine g_iload 26 0 hX dX9_takeNumber_24 rfl rfl ?_
    refine g_iload_n 27 2 hX dX9_takeNumber_26 rfl rfl ?_
    refine g_icmp_lt 36 30 hX dX9_takeNumber_27 (by decide) rfl (fun _ => ?_) (fun _ => ?_)
    · refine g_lv [1, 4, 0] rfl ?_
      exact k_X9_takeNumber_36 hX hr N M a0 x3 y0
    · refine g_iload 32 0 hX dX9_takeNumber_30 rfl rfl ?_
      refine g_iload_n 33 3 hX dX9_takeNumber_32 rfl rfl ?_
      refine g_icmp_le 41 36 hX dX9_takeNumber_33 (by decide) rfl (fun _ => ?_) (fun _ => ?_)
      · refine g_lv [1, 4, 0] rfl ?_
        exact k_X9_takeNumber_41 hX hr N M a0 x3 y0
      · refine g_lv [1, 4, 0] rfl ?_
        exact k_X9_takeNumber_36 hX hr N M a0 x3 y0
set_option maxRecDepth 100000 in
set_option maxHeartbeats 4000000 in
theorem k_X9_takeNumber (l : Launch) (g : kG) (N : Nat) (M : kMem) (a0 : Nat) (x1 : Int32) (x2 : Int32) : kMet l g yX9_takeNumber cX9_takeNumber 5 (some .int) 3 0 0 [.ref a0, .int x1, .int x2] M (fun r : Int32 × kMem => (some (.int r.1), r.2)) (F_X9_takeNumber N M a0 x1 x2) := by
  refine k_of (lv := [(0, .ref a0), (1, .int x1), (2, .int x2)]) RX9 (by decide) rfl rfl (Nat.le_of_ble_eq_true rfl) ?_
  intro p e s m args below meth c hX hr _
  unfold F_X9_takeNumber
  refine g_aload_n 1 0 hX dX9_takeNumber_0 rfl rfl ?_
  refine g_iconst 2 hX 2 dX9_takeNumber_1 rfl kc_i_2 ?_
  refine g_callV_ip 5 hX (k_X9_at l g N M a0 2) lk_X9_at rfl (ci := 9) rfl (Nat.le_of_ble_eq_true rfl) q_565 q_3 (by omega) rfl (Nat.le_of_ble_eq_true rfl) (Nat.zero_le _) (Nat.zero_le _) dX9_takeNumber_2 rfl (fun r1 => ?_)
  refine g_istore_n 6 3 [(3, .int r1), (0, .ref a0), (1, .int x1), (2, .int x2)] hX dX9_takeNumber_5 rfl rfl (Nat.le_of_ble_eq_true rfl) rfl ?_
  refine g_iload_n 7 0 hX dX9_takeNumber_6 rfl rfl ?_
  refine g_if_eq 17 10 hX dX9_takeNumber_7 (by decide) rfl (fun _ => ?_) (fun _ => ?_)
  · refine g_iconst 18 hX (-1) dX9_takeNumber_17 rfl kc_i_m1 ?_
    refine g_lv [1, 2, 3, 0] rfl ?_
    exact k_X9_takeNumber_18 hX hr N M a0 x1 x2 r1 (-1)
  · refine g_aload_n 11 1 hX dX9_takeNumber_10 rfl rfl ?_
    refine g_callV_ip 14 hX (k_X9_valueHere l g N M a0) lk_X9_valueHere rfl (ci := 9) rfl (Nat.le_of_ble_eq_true rfl) q_583 q_6 (by omega) rfl (Nat.le_of_ble_eq_true rfl) (Nat.zero_le _) (Nat.zero_le _) dX9_takeNumber_11 rfl (fun r4 => ?_)
    refine g_goto 18 hX dX9_takeNumber_14 (by decide) ?_
    refine g_lv [1, 2, 3, 0] rfl ?_
    exact k_X9_takeNumber_18 hX hr N M a0 x1 x2 r1 r4
set_option maxRecDepth 100000 in
set_option maxHeartbeats 4000000 in
theorem k_X9_takeEnd (l : Launch) (g : kG) (N : Nat) (M : kMem) (a0 : Nat) : kMet l g yX9_takeEnd cX9_takeEnd 1 none 3 0 0 [.ref a0] M (fun r : kMem => (none, r)) (F_X9_takeEnd N M a0) := by
  refine k_of (lv := [(0, .ref a0)]) RX9 (by decide) rfl rfl (Nat.le_of_ble_eq_true rfl) ?_
  intro p e s m args below meth c hX hr _
  unfold F_X9_takeEnd
  refine g_aload_n 1 0 hX dX9_takeEnd_0 rfl rfl ?_
  refine g_iconst 2 hX 4 dX9_takeEnd_1 rfl kc_i_4 ?_
  refine g_callV_ip 5 hX (k_X9_at l g N M a0 4) lk_X9_at rfl (ci := 9) rfl (Nat.le_of_ble_eq_true rfl) q_565 q_3 (by omega) rfl (Nat.le_of_ble_eq_true rfl) (Nat.zero_le _) (Nat.zero_le _) dX9_takeEnd_2 rfl (fun r1 => ?_)
  refine g_if_ne 13 8 hX dX9_takeEnd_5 (by decide) rfl (fun _ => ?_) (fun _ => ?_)
  · exact g_vret hX hr rfl (Nat.le_refl 0) (Nat.le_refl 0) dX9_takeEnd_13
  · refine g_aload_n 9 0 hX dX9_takeEnd_8 rfl rfl ?_
    refine g_iconst 10 hX 1 dX9_takeEnd_9 rfl kc_i_1 ?_
    refine g_callV_v 13 hX (k_X9_refuse l g N M a0 1) lk_X9_refuse rfl (ci := 9) rfl (Nat.le_of_ble_eq_true rfl) q_591 q_593 (by omega) rfl (Nat.le_of_ble_eq_true rfl) (Nat.zero_le _) (Nat.zero_le _) dX9_takeEnd_10 rfl (fun M2 => ?_)
    exact g_vret hX hr rfl (Nat.le_refl 0) (Nat.le_refl 0) dX9_takeEnd_13
set_option maxRecDepth 100000 in
set_option maxHeartbeats 4000000 in
theorem k_X7_readBoard (l : Launch) (g : kG) (N : Nat) (M : kMem) (a0 : Nat) (a1 : Nat) : kMet l g yX7_readBoard cX7_readBoard 5 none 4 0 0 [.ref a0, .ref a1] M (fun r : kMem => (none, r)) (F_X7_readBoard N M a0 a1) := by
  refine k_of (lv := [(0, .ref a0), (1, .ref a1)]) RX7 (by decide) rfl rfl (Nat.le_of_ble_eq_true rfl) ?_
  intro p e s m args below meth c hX hr _
  unfold F_X7_readBoard
  refine g_aload_n 1 0 hX dX7_readBoard_0 rfl rfl ?_
  refine g_callV_v 4 hX (k_X9_takeAnyWord l g N M a0) lk_X9_takeAnyWord rfl (ci := 9) rfl (Nat.le_of_ble_eq_true rfl) q_609 q_611 (by omega) rfl (Nat.le_of_ble_eq_true rfl) (Nat.zero_le _) (Nat.zero_le _) dX7_readBoard_1 rfl (fun M1 => ?_)
  refine g_aload_n 5 0 hX dX7_readBoard_4 rfl rfl ?_
  refine g_iconst 6 hX 1 dX7_readBoard_5 rfl kc_i_1 ?_
  refine g_bipush 8 hX 6 dX7_readBoard_6 rfl kc_b_6 ?_
  refine g_callV_i 11 hX (k_X9_takeNumber l g N M1 a0 1 6) lk_X9_takeNumber rfl (ci := 9) rfl (Nat.le_of_ble_eq_true rfl) q_579 q_581 (by omega) rfl (Nat.le_of_ble_eq_true rfl) (Nat.zero_le _) (Nat.zero_le _) dX7_readBoard_8 rfl (fun r2 => ?_)
  refine g_klI (fun v3 hv3 => ?_)
  refine g_istore_n 12 2 [(2, .int v3), (0, .ref a0), (1, .ref a1)] hX dX7_readBoard_11 rfl rfl (Nat.le_of_ble_eq_true rfl) rfl ?_
  refine g_aload_n 13 1 hX dX7_readBoard_12 rfl rfl ?_
  refine g_iconst 14 hX 1 dX7_readBoard_13 rfl kc_i_1 ?_
  refine g_bipush 16 hX 99 dX7_readBoard_14 rfl kc_b_99 ?_
  refine g_callV_i 19 hX (k_X9_takeNumber l g N r2.2 a0 1 99) lk_X9_takeNumber rfl (ci := 9) rfl (Nat.le_of_ble_eq_true rfl) q_579 q_581 (by omega) rfl (Nat.le_of_ble_eq_true rfl) (Nat.zero_le _) (Nat.zero_le _) dX7_readBoard_16 rfl (fun r4 => ?_)
  refine g_klI (fun v5 hv5 => ?_)
  refine g_istore_n 20 3 [(3, .int v5), (2, .int v3), (0, .ref a0), (1, .ref a1)] hX dX7_readBoard_19 rfl rfl (Nat.le_of_ble_eq_true rfl) rfl ?_
  refine g_aload_n 21 2 hX dX7_readBoard_20 rfl rfl ?_
  refine g_iconst 22 hX 0 dX7_readBoard_21 rfl kc_i_0 ?_
  refine g_sipush 25 hX 999 dX7_readBoard_22 rfl kc_s_999 ?_
  refine g_callV_i 28 hX (k_X9_takeNumber l g N r4.2 a0 0 999) lk_X9_takeNumber rfl (ci := 9) rfl (Nat.le_of_ble_eq_true rfl) q_579 q_581 (by omega) rfl (Nat.le_of_ble_eq_true rfl) (Nat.zero_le _) (Nat.zero_le _) dX7_readBoard_25 rfl (fun r6 => ?_)
  refine g_klI (fun v7 hv7 => ?_)
  refine g_istore 30 4 [(4, .int v7), (3, .int v5), (2, .int v3), (0, .ref a0), (1, .ref a1)] hX dX7_readBoard_28 rfl (Nat.le_of_ble_eq_true rfl) rfl ?_
  refine g_aload_n 31 3 hX dX7_readBoard_30 rfl rfl ?_
  refine g_bipush 33 hX 59 dX7_readBoard_31 rfl kc_b_59 ?_
  refine g_callV_v 36 hX (k_X9_takeSign l g N r6.2 a0 59) lk_X9_takeSign rfl (ci := 9) rfl (Nat.le_of_ble_eq_true rfl) q_596 q_598 (by omega) rfl (Nat.le_of_ble_eq_true rfl) (Nat.zero_le _) (Nat.zero_le _) dX7_readBoard_33 rfl (fun M8 => ?_)
  refine g_aload_n 37 3 hX dX7_readBoard_36 rfl rfl ?_
  refine g_callV_ip 40 hX (k_X9_failed l g N M8 a0) lk_X9_failed rfl (ci := 9) rfl (Nat.le_of_ble_eq_true rfl) q_613 q_615 (by omega) rfl (Nat.le_of_ble_eq_true rfl) (Nat.zero_le _) (Nat.zero_le _) dX7_readBoard_37 rfl (fun r9 => ?_)
  refine g_if_ne 51 43 hX dX7_readBoard_40 (by decide) rfl (fun _ => ?_) (fun _ => ?_)
  · exact g_vret hX hr rfl (Nat.le_refl 0) (Nat.le_refl 0) dX7_readBoard_51
  · refine g_aload_n 44 4 hX dX7_readBoard_43 rfl rfl ?_
    refine g_iload_n 45 2 hX dX7_readBoard_44 rfl rfl ?_
    refine g_iload_n 46 1 hX dX7_readBoard_45 rfl rfl ?_
    refine g_iload 48 0 hX dX7_readBoard_46 rfl rfl ?_
    refine g_callV_v 51 hX (k_X4_addBoard l g N M8 a1 v3 v5 v7) lk_X4_addBoard rfl (ci := 4) rfl (Nat.le_of_ble_eq_true rfl) q_617 q_619 (by omega) rfl (Nat.le_of_ble_eq_true rfl) (Nat.zero_le _) (Nat.zero_le _) dX7_readBoard_48 rfl (fun M10 => ?_)
    exact g_vret hX hr rfl (Nat.le_refl 0) (Nat.le_refl 0) dX7_readBoard_51
set_option maxRecDepth 100000 in
set_option maxHeartbeats 4000000 in
theorem k_X7_readTrader_22 {p : Program} {l : Launch} {e : Env} {s : State} {m : MethodId} {args : Array Value} {below : List Frame} {meth : Method} {c : Code} {g : kG} (hX : Cok (p, l, e, { frames := 2 * 4, cells := 0, slots := 0, locals := 60 * 4 }, s, m, args, below, meth, c, cX7_readTrader, 7, RX7, g, 4)) (hr : meth.sig.returnType = none) (N : Nat) : ∀ (M : kMem) (a0 : Nat) (a1 : Nat) (x2 : Int64), GG (p, l, e, { frames := 2 * 4, cells := 0, slots := 0, locals := 60 * 4 }, s, m, args, below, meth, c, cX7_readTrader, 7, RX7, g, 4) (fun b => MQ below (kQ g ((fun r : kMem => (none, r)) b)) args s 0 0 (kZ g.2.2.1)) 0 0 (F_X7_readTrader_22 N M a0 a1 x2) 22 [(0, .ref a0), (1, .ref a1), (2, .long x2)] [] M := by
  intro M a0 a1 x2
  unfold F_X7_readTrader_22
  refine g_aload_n 23 0 hX dX7_readTrader_22 rfl rfl ?_
  refine g_iconst 24 hX 1 dX7_readTrader_23 rfl kc_i_1 ?_
  refine g_bipush 26 hX 99 dX7_readTrader_24 rfl kc_b_99 ?_
  refine g_callV_i 29 hX (k_X9_takeNumber l g N M a0 1 99) lk_X9_takeNumber rfl (ci := 9) rfl (Nat.le_of_ble_eq_true rfl) q_579 q_581 (by omega) rfl (Nat.le_of_ble_eq_true rfl) (Nat.zero_le _) (Nat.zero_le _) dX7_readTrader_26 rfl (fun r5 => ?_)
  refine g_klI (fun v6 hv6 => ?_)
  refine g_istore 31 4 [(4, .int v6), (0, .ref a0), (1, .ref a1), (2, .long x2)] hX dX7_readTrader_29 rfl (Nat.le_of_ble_eq_true rfl) rfl ?_
  refine g_aload_n 32 1 hX dX7_readTrader_31 rfl rfl ?_
  refine g_iconst 33 hX 0 dX7_readTrader_32 rfl kc_i_0 ?_
  refine g_sipush 36 hX 9999 dX7_readTrader_33 rfl kc_s_9999 ?_
  refine g_callV_i 39 hX (k_X9_takeNumber l g N r5.2 a0 0 9999) lk_X9_takeNumber rfl (ci := 9) rfl (Nat.le_of_ble_eq_true rfl) q_579 q_581 (by omega) rfl (Nat.le_of_ble_eq_true rfl) (Nat.zero_le _) (Nat.zero_le _) dX7_readTrader_36 rfl (fun r7 => ?_)
  refine g_klI (fun v8 hv8 => ?_)
  refine g_istore 41 5 [(5, .int v8), (4, .int v6), (0, .ref a0), (1, .ref a1), (2, .long x2)] hX dX7_readTrader_39 rfl (Nat.le_of_ble_eq_true rfl) rfl ?_
  refine g_aload_n 42 2 hX dX7_readTrader_41 rfl rfl ?_
  refine g_iconst 43 hX 0 dX7_readTrader_42 rfl kc_i_0 ?_
  refine g_aload_n 44 3 hX dX7_readTrader_43 rfl rfl ?_
  refine r_X7_68 47 hX dX7_readTrader_44 rfl ?_
  refine g_callV_i 50 hX (k_X9_takeNumber l g N r7.2 a0 0 (kI r7.2 a1 5)) lk_X9_takeNumber rfl (ci := 9) rfl (Nat.le_of_ble_eq_true rfl) q_579 q_581 (by omega) rfl (Nat.le_of_ble_eq_true rfl) (Nat.zero_le _) (Nat.zero_le _) dX7_readTrader_47 rfl (fun r9 => ?_)
  refine g_klI (fun v10 hv10 => ?_)
  refine g_istore 52 6 [(6, .int v10), (5, .int v8), (4, .int v6), (0, .ref a0), (1, .ref a1), (2, .long x2)] hX dX7_readTrader_50 rfl (Nat.le_of_ble_eq_true rfl) rfl ?_
  refine g_aload_n 53 3 hX dX7_readTrader_52 rfl rfl ?_
  refine g_bipush 55 hX 59 dX7_readTrader_53 rfl kc_b_59 ?_
  refine g_callV_v 58 hX (k_X9_takeSign l g N r9.2 a0 59) lk_X9_takeSign rfl (ci := 9) rfl (Nat.le_of_ble_eq_true rfl) q_596 q_598 (by omega) rfl (Nat.le_of_ble_eq_true rfl) (Nat.zero_le _) (Nat.zero_le _) dX7_readTrader_55 rfl (fun M11 => ?_)
  refine g_aload_n 59 3 hX dX7_readTrader_58 rfl rfl ?_
  refine g_callV_ip 62 hX (k_X9_failed l g N M11 a0) lk_X9_failed rfl (ci := 9) rfl (Nat.le_of_ble_eq_true rfl) q_613 q_615 (by omega) rfl (Nat.le_of_ble_eq_true rfl) (Nat.zero_le _) (Nat.zero_le _) dX7_readTrader_59 rfl (fun r12 => ?_)
  refine g_if_ne 77 65 hX dX7_readTrader_62 (by decide) rfl (fun _ => ?_) (fun _ => ?_)
  · exact g_vret hX hr rfl (Nat.le_refl 0) (Nat.le_refl 0) dX7_readTrader_77
  · refine g_aload_n 66 4 hX dX7_readTrader_65 rfl rfl ?_
    refine g_lload_n 67 5 hX dX7_readTrader_66 rfl rfl ?_
    refine g_iload 69 2 hX dX7_readTrader_67 rfl rfl ?_
    refine g_iload 71 1 hX dX7_readTrader_69 rfl rfl ?_
    refine g_iload 73 0 hX dX7_readTrader_71 rfl rfl ?_
    refine g_callV_i 76 hX (k_X4_admit l g N M11 a1 x2 v6 v8 v10) lk_X4_admit rfl (ci := 4) rfl (Nat.le_of_ble_eq_true rfl) q_648 q_650 (by omega) rfl (Nat.le_of_ble_eq_true rfl) (Nat.zero_le _) (Nat.zero_le _) dX7_readTrader_73 rfl (fun r13 => ?_)
    refine g_pop 77 hX dX7_readTrader_76 rfl rfl ?_
    exact g_vret hX hr rfl (Nat.le_refl 0) (Nat.le_refl 0) dX7_readTrader_77
set_option maxRecDepth 100000 in
set_option maxHeartbeats 4000000 in
theorem k_X7_readTrader (l : Launch) (g : kG) (N : Nat) (M : kMem) (a0 : Nat) (a1 : Nat) : kMet l g yX7_readTrader cX7_readTrader 7 none 4 0 0 [.ref a0, .ref a1] M (fun r : kMem => (none, r)) (F_X7_readTrader N M a0 a1) := by
  refine k_of (lv := [(0, .ref a0), (1, .ref a1)]) RX7 (by decide) rfl rfl (Nat.le_of_ble_eq_true rfl) ?_
  intro p e s m args below meth c hX hr _
  unfold F_X7_readTrader
  refine g_aload_n 1 0 hX dX7_readTrader_0 rfl rfl ?_
  refine g_callV_v 4 hX (k_X9_takeAnyWord l g N M a0) lk_X9_takeAnyWord rfl (ci := 9) rfl (Nat.le_of_ble_eq_true rfl) q_609 q_611 (by omega) rfl (Nat.le_of_ble_eq_true rfl) (Nat.zero_le _) (Nat.zero_le _) dX7_readTrader_1 rfl (fun M1 => ?_)
  refine g_aload_n 5 0 hX dX7_readTrader_4 rfl rfl ?_
  refine g_callV_l 8 hX (k_X9_takeName l g N M1 a0) lk_X9_takeName rfl (ci := 9) rfl (Nat.le_of_ble_eq_true rfl) q_630 q_632 (by omega) rfl (Nat.le_of_ble_eq_true rfl) (Nat.zero_le _) (Nat.zero_le _) dX7_readTrader_5 rfl (fun r2 => ?_)
  refine g_klL (fun v3 hv3 => ?_)
  refine g_lstore_n 9 2 [(2, .long v3), (0, .ref a0), (1, .ref a1)] hX dX7_readTrader_8 rfl rfl (Nat.le_of_ble_eq_true rfl) rfl ?_
  refine g_aload_n 10 2 hX dX7_readTrader_9 rfl rfl ?_
  refine g_lload_n 11 0 hX dX7_readTrader_10 rfl rfl ?_
  refine g_callV_rp 14 hX (k_X4_traderNamed l g N r2.2 a1 v3) lk_X4_traderNamed rfl (ci := 4) rfl (Nat.le_of_ble_eq_true rfl) q_640 q_642 (by omega) rfl (Nat.le_of_ble_eq_true rfl) (Nat.zero_le _) (Nat.zero_le _) dX7_readTrader_11 rfl (fun r4 => ?_)
  refine g_ifnull 22 17 hX dX7_readTrader_14 (by decide) rfl (fun _ => ?_) (fun _ => ?_)
  · refine g_lv [1, 2, 0] rfl ?_
    exact k_X7_readTrader_22 hX hr N r2.2 a0 a1 v3
  · refine g_aload_n 18 1 hX dX7_readTrader_17 rfl rfl ?_
    refine g_iconst 19 hX 3 dX7_readTrader_18 rfl kc_i_3 ?_
    refine g_callV_v 22 hX (k_X9_refuseTaken l g N r2.2 a0 3) lk_X9_refuseTaken rfl (ci := 9) rfl (Nat.le_of_ble_eq_true rfl) q_644 q_646 (by omega) rfl (Nat.le_of_ble_eq_true rfl) (Nat.zero_le _) (Nat.zero_le _) dX7_readTrader_19 rfl (fun M14 => ?_)
    refine g_lv [1, 2, 0] rfl ?_
    exact k_X7_readTrader_22 hX hr N M14 a0 a1 v3
