set_option maxRecDepth 100000 in
set_option maxHeartbeats 4000000 in
theorem k_X8_addAll_2 {p : Program} {l : Launch} {e : Env} {s : State} {m : MethodId} {args : Array Value} {below : List Frame} {meth : Method} {c : Code} {g : kG} (hX : Cok (p, l, e, { frames := 5, cells := 0, slots := 0, locals := 60 * 5 }, s, m, args, below, meth, c, cX8_addAll, 3, RX8, g, 5)) (hr : meth.sig.returnType = none) (N : Nat) : ∀ (n : Nat) (M : kMem) (a0 : Nat) (s1 : Nat) (x2 : Int32), GG (p, l, e, { frames := 5, cells := 0, slots := 0, locals := 60 * 5 }, s, m, args, below, meth, c, cX8_addAll, 3, RX8, g, 5) (fun b => MQ below (kQ g ((fun r : kMem => (none, r)) b)) args s 0 0 (kZ g.2.2.1)) 0 0 (F_X8_addAll_2 N n M a0 s1 x2) 2 [(0, .ref a0), (1, .retAddr (g.2.2.2.1 s1)), (2, .int x2)] [] M := by
  intro n
  induction n with
  | zero => intro _ _ _ _; exact g_none
  | succ n ih =>
    intro M a0 s1 x2
    unfold F_X8_addAll_2
    refine g_iload_n 3 2 hX dX8_addAll_2 rfl rfl ?_
    refine g_aloadS_n 4 1 hX dX8_addAll_3 rfl rfl ?_
    refine g_callJS 7 hX (k_J0_length l g M s1) (F_J0_length_i s1) lk_J0_length q_375 ws_J0_length (by omega) rfl (Nat.le_of_ble_eq_true rfl) (Nat.zero_le _) (Nat.zero_le _) dX8_addAll_4 rfl (fun r1 => ?_)
    refine g_icmp_ge 25 10 hX dX8_addAll_7 (by decide) rfl (fun _ => ?_) (fun _ => ?_)
    · exact g_vret hX hr rfl (Nat.le_refl 0) (Nat.le_refl 0) dX8_addAll_25
    · refine g_aload_n 11 0 hX dX8_addAll_10 rfl rfl ?_
      refine g_aloadS_n 12 1 hX dX8_addAll_11 rfl rfl ?_
      refine g_iload_n 13 2 hX dX8_addAll_12 rfl rfl ?_
      refine g_callJS 16 hX (k_J0_charAt l g M s1 x2) (F_J0_charAt_i s1 x2) lk_J0_charAt q_385 ws_J0_charAt (by omega) rfl (Nat.le_of_ble_eq_true rfl) (Nat.zero_le _) (Nat.zero_le _) dX8_addAll_13 rfl (fun r2 => ?_)
      refine g_callV_v 19 hX (k_X8_add l g N M a0 r2) lk_X8_add rfl (ci := 8) rfl (Nat.le_of_ble_eq_true rfl) q_423 q_425 (by omega) rfl (Nat.le_of_ble_eq_true rfl) (Nat.zero_le _) (Nat.zero_le _) dX8_addAll_16 rfl (fun M3 => ?_)
      refine g_kl (fun v4 hv4 => ?_)
      refine g_iinc 22 2 2 v4 [(2, .int v4), (0, .ref a0), (1, .retAddr (g.2.2.2.1 s1))] hX dX8_addAll_19 rfl rfl (by rw [hv4, kc_i_1]) (Nat.le_of_ble_eq_true rfl) rfl ?_
      refine g_goto 2 hX dX8_addAll_22 (by decide) ?_
      refine g_lv [1, 2, 0] rfl ?_
      exact ih M3 a0 s1 v4
set_option maxRecDepth 100000 in
set_option maxHeartbeats 4000000 in
theorem k_X8_addAll (l : Launch) (g : kG) (N : Nat) (M : kMem) (a0 : Nat) (s1 : Nat) : kMet l g yX8_addAll cX8_addAll 3 none 5 0 0 [.ref a0, .retAddr (g.2.2.2.1 s1)] M (fun r : kMem => (none, r)) (F_X8_addAll N M a0 s1) := by
  refine k_of (lv := [(0, .ref a0), (1, .retAddr (g.2.2.2.1 s1))]) RX8 (by decide) rfl rfl (Nat.le_of_ble_eq_true rfl) ?_
  intro p e s m args below meth c hX hr _
  unfold F_X8_addAll
  refine g_iconst 1 hX 0 dX8_addAll_0 rfl kc_i_0 ?_
  refine g_istore_n 2 2 [(2, .int 0), (0, .ref a0), (1, .retAddr (g.2.2.2.1 s1))] hX dX8_addAll_1 rfl rfl (Nat.le_of_ble_eq_true rfl) rfl ?_
  refine g_lv [1, 2, 0] rfl ?_
  exact k_X8_addAll_2 hX hr N N M a0 s1 0
set_option maxRecDepth 100000 in
set_option maxHeartbeats 4000000 in
theorem k_X9_atWord_38 {p : Program} {l : Launch} {e : Env} {s : State} {m : MethodId} {args : Array Value} {below : List Frame} {meth : Method} {c : Code} {g : kG} (hX : Cok (p, l, e, { frames := 5, cells := 0, slots := 0, locals := 60 * 5 }, s, m, args, below, meth, c, cX9_atWord, 3, RX9, g, 5)) (hr : meth.sig.returnType = (some .boolean)) (N : Nat) (M : kMem) : ∀ (n : Nat) (a0 : Nat) (s1 : Nat) (x2 : Int32), GG (p, l, e, { frames := 5, cells := 0, slots := 0, locals := 60 * 5 }, s, m, args, below, meth, c, cX9_atWord, 3, RX9, g, 5) (fun b => MQ below (kQ g ((fun r : Int32 => (some (.int r), M)) b)) args s 0 0 (kZ g.2.2.1)) 0 0 (F_X9_atWord_38 N M n a0 s1 x2) 38 [(0, .ref a0), (1, .retAddr (g.2.2.2.1 s1)), (2, .int x2)] [] M := by
  intro n
  induction n with
  | zero => intro _ _ _; exact g_none
  | succ n ih =>
    intro a0 s1 x2
    unfold F_X9_atWord_38
    refine g_iload_n 39 2 hX dX9_atWord_38 rfl rfl ?_
    refine g_aloadS_n 40 1 hX dX9_atWord_39 rfl rfl ?_
    refine g_callJS 43 hX (k_J0_length l g M s1) (F_J0_length_i s1) lk_J0_length q_481 ws_J0_length (by omega) rfl (Nat.le_of_ble_eq_true rfl) (Nat.zero_le _) (Nat.zero_le _) dX9_atWord_40 rfl (fun r3 => ?_)
    refine g_icmp_ge 80 46 hX dX9_atWord_43 (by decide) rfl (fun _ => ?_) (fun _ => ?_)
    · refine g_iconst 81 hX 1 dX9_atWord_80 rfl kc_i_1 ?_
      exact g_zretL hX hr rfl rfl (Nat.le_refl 0) (Nat.le_refl 0) dX9_atWord_81
    · refine g_aloadS_n 47 1 hX dX9_atWord_46 rfl rfl ?_
      refine g_iload_n 48 2 hX dX9_atWord_47 rfl rfl ?_
      refine g_callJS 51 hX (k_J0_charAt l g M s1 x2) (F_J0_charAt_i s1 x2) lk_J0_charAt q_482 ws_J0_charAt (by omega) rfl (Nat.le_of_ble_eq_true rfl) (Nat.zero_le _) (Nat.zero_le _) dX9_atWord_48 rfl (fun r4 => ?_)
      refine g_aload_n 52 0 hX dX9_atWord_51 rfl rfl ?_
      refine r_X9_25 55 hX dX9_atWord_52 rfl ?_
      refine g_aload_n 56 0 hX dX9_atWord_55 rfl rfl ?_
      refine r_X9_15 59 hX dX9_atWord_56 rfl ?_
      refine g_aload_n 60 0 hX dX9_atWord_59 rfl rfl ?_
      refine r_X9_32 63 hX dX9_atWord_60 rfl ?_
      refine g_iald 64 hX dX9_atWord_63 rfl ?_
      refine g_iload_n 65 2 hX dX9_atWord_64 rfl rfl ?_
      refine g_iadd 66 hX dX9_atWord_65 rfl ?_
      refine g_callV_ip 69 hX (k_X8_byteAt l g N M (kR M a0 0) ((kI M (kR M a0 2) (kx (kI M a0 5))) + x2)) lk_X8_byteAt rfl (ci := 8) rfl (Nat.le_of_ble_eq_true rfl) q_437 q_439 (by omega) rfl (Nat.le_of_ble_eq_true rfl) (Nat.zero_le _) (Nat.zero_le _) dX9_atWord_66 rfl (fun r5 => ?_)
      refine g_icmp_eq 74 72 hX dX9_atWord_69 (by decide) rfl (fun _ => ?_) (fun _ => ?_)
      · refine g_kl (fun v6 hv6 => ?_)
        refine g_iinc 77 2 2 v6 [(2, .int v6), (0, .ref a0), (1, .retAddr (g.2.2.2.1 s1))] hX dX9_atWord_74 rfl rfl (by rw [hv6, kc_i_1]) (Nat.le_of_ble_eq_true rfl) rfl ?_
        refine g_goto 38 hX dX9_atWord_77 (by decide) ?_
        refine g_lv [1, 2, 0] rfl ?_
        exact ih a0 s1 v6
      · refine g_iconst 73 hX 0 dX9_atWord_72 rfl kc_i_0 ?_
        exact g_zretL hX hr rfl rfl (Nat.le_refl 0) (Nat.le_refl 0) dX9_atWord_73
set_option maxRecDepth 100000 in
set_option maxHeartbeats 4000000 in
theorem k_X9_atWord (l : Launch) (g : kG) (N : Nat) (M : kMem) (a0 : Nat) (s1 : Nat) : kMet l g yX9_atWord cX9_atWord 3 (some .boolean) 5 0 0 [.ref a0, .retAddr (g.2.2.2.1 s1)] M (fun r : Int32 => (some (.int r), M)) (F_X9_atWord N M a0 s1) := by
  refine k_of (lv := [(0, .ref a0), (1, .retAddr (g.2.2.2.1 s1))]) RX9 (by decide) rfl rfl (Nat.le_of_ble_eq_true rfl) ?_
  intro p e s m args below meth c hX hr _
  unfold F_X9_atWord
  refine g_aload_n 1 0 hX dX9_atWord_0 rfl rfl ?_
  refine g_iconst 2 hX 1 dX9_atWord_1 rfl kc_i_1 ?_
  refine g_callV_ip 5 hX (k_X9_at l g N M a0 1) lk_X9_at rfl (ci := 9) rfl (Nat.le_of_ble_eq_true rfl) q_477 q_3 (by omega) rfl (Nat.le_of_ble_eq_true rfl) (Nat.zero_le _) (Nat.zero_le _) dX9_atWord_2 rfl (fun r1 => ?_)
  refine g_if_eq 34 8 hX dX9_atWord_5 (by decide) rfl (fun _ => ?_) (fun _ => ?_)
  · refine g_iconst 35 hX 0 dX9_atWord_34 rfl kc_i_0 ?_
    exact g_zretL hX hr rfl rfl (Nat.le_refl 0) (Nat.le_refl 0) dX9_atWord_35
  · refine g_aloadS_n 9 1 hX dX9_atWord_8 rfl rfl ?_
    refine g_callJS 12 hX (k_J0_length l g M s1) (F_J0_length_i s1) lk_J0_length q_481 ws_J0_length (by omega) rfl (Nat.le_of_ble_eq_true rfl) (Nat.zero_le _) (Nat.zero_le _) dX9_atWord_9 rfl (fun r2 => ?_)
    refine g_aload_n 13 0 hX dX9_atWord_12 rfl rfl ?_
    refine r_X9_18 16 hX dX9_atWord_13 rfl ?_
    refine g_aload_n 17 0 hX dX9_atWord_16 rfl rfl ?_
    refine r_X9_32 20 hX dX9_atWord_17 rfl ?_
    refine g_iald 21 hX dX9_atWord_20 rfl ?_
    refine g_aload_n 22 0 hX dX9_atWord_21 rfl rfl ?_
    refine r_X9_15 25 hX dX9_atWord_22 rfl ?_
    refine g_aload_n 26 0 hX dX9_atWord_25 rfl rfl ?_
    refine r_X9_32 29 hX dX9_atWord_26 rfl ?_
    refine g_iald 30 hX dX9_atWord_29 rfl ?_
    refine g_isub 31 hX dX9_atWord_30 rfl ?_
    refine g_icmp_eq 36 34 hX dX9_atWord_31 (by decide) rfl (fun _ => ?_) (fun _ => ?_)
    · refine g_iconst 37 hX 0 dX9_atWord_36 rfl kc_i_0 ?_
      refine g_istore_n 38 2 [(2, .int 0), (0, .ref a0), (1, .retAddr (g.2.2.2.1 s1))] hX dX9_atWord_37 rfl rfl (Nat.le_of_ble_eq_true rfl) rfl ?_
      refine g_lv [1, 2, 0] rfl ?_
      exact k_X9_atWord_38 hX hr N M N a0 s1 0
    · refine g_iconst 35 hX 0 dX9_atWord_34 rfl kc_i_0 ?_
      exact g_zretL hX hr rfl rfl (Nat.le_refl 0) (Nat.le_refl 0) dX9_atWord_35
set_option maxRecDepth 100000 in
set_option maxHeartbeats 4000000 in
theorem k_X9_takeWord (l : Launch) (g : kG) (N : Nat) (M : kMem) (a0 : Nat) (s1 : Nat) : kMet l g yX9_takeWord cX9_takeWord 2 none 6 0 0 [.ref a0, .retAddr (g.2.2.2.1 s1)] M (fun r : kMem => (none, r)) (F_X9_takeWord N M a0 s1) := by
  refine k_of (lv := [(0, .ref a0), (1, .retAddr (g.2.2.2.1 s1))]) RX9 (by decide) rfl rfl (Nat.le_of_ble_eq_true rfl) ?_
  intro p e s m args below meth c hX hr _
  unfold F_X9_takeWord
  refine g_aload_n 1 0 hX dX9_takeWord_0 rfl rfl ?_
  refine g_aload_n 2 0 hX dX9_takeWord_1 rfl rfl ?_
  refine g_aloadS_n 3 1 hX dX9_takeWord_2 rfl rfl ?_
  refine g_callV_ip 6 hX (k_X9_atWord l g N M a0 s1) lk_X9_atWord rfl (ci := 9) rfl (Nat.le_of_ble_eq_true rfl) q_473 q_475 (by omega) rfl (Nat.le_of_ble_eq_true rfl) (Nat.zero_le _) (Nat.zero_le _) dX9_takeWord_3 rfl (fun r1 => ?_)
  refine g_callV_v 9 hX (k_X9_takeIf l g N M a0 r1) lk_X9_takeIf rfl (ci := 9) rfl (Nat.le_of_ble_eq_true rfl) q_483 q_4 (by omega) rfl (Nat.le_of_ble_eq_true rfl) (Nat.zero_le _) (Nat.zero_le _) dX9_takeWord_6 rfl (fun M2 => ?_)
  exact g_vret hX hr rfl (Nat.le_refl 0) (Nat.le_refl 0) dX9_takeWord_9
set_option maxRecDepth 100000 in
set_option maxHeartbeats 4000000 in
theorem k_X9_takeSide_14 {p : Program} {l : Launch} {e : Env} {s : State} {m : MethodId} {args : Array Value} {below : List Frame} {meth : Method} {c : Code} {g : kG} (hX : Cok (p, l, e, { frames := 6, cells := 0, slots := 0, locals := 60 * 6 }, s, m, args, below, meth, c, cX9_takeSide, 2, RX9, g, 6)) (hr : meth.sig.returnType = (some .int)) (N : Nat) : ∀ (M : kMem) (a0 : Nat) (y0 : Int32), GG (p, l, e, { frames := 6, cells := 0, slots := 0, locals := 60 * 6 }, s, m, args, below, meth, c, cX9_takeSide, 2, RX9, g, 6) (fun b => MQ below (kQ g ((fun r : Int32 × kMem => (some (.int r.1), r.2)) b)) args s 0 0 (kZ g.2.2.1)) 0 0 (F_X9_takeSide_14 N M a0 y0) 14 [(0, .ref a0)] [.int y0] M := by
  intro M a0 y0
  unfold F_X9_takeSide_14
  refine g_istore_n 15 1 [(1, .int y0), (0, .ref a0)] hX dX9_takeSide_14 rfl rfl (Nat.le_of_ble_eq_true rfl) rfl ?_
  refine g_aload_n 16 1 hX dX9_takeSide_15 rfl rfl ?_
  refine g_aload_n 17 1 hX dX9_takeSide_16 rfl rfl ?_
  refine g_ldcS 19 hX (i := 7) rfl dX9_takeSide_17 rfl ?_
  refine g_callV_ip 22 hX (k_X9_atWord l g N M a0 7) lk_X9_atWord rfl (ci := 9) rfl (Nat.le_of_ble_eq_true rfl) q_473 q_475 (by omega) rfl (Nat.le_of_ble_eq_true rfl) (Nat.zero_le _) (Nat.zero_le _) dX9_takeSide_19 rfl (fun r2 => ?_)
  refine g_if_ne 34 25 hX dX9_takeSide_22 (by decide) rfl (fun _ => ?_) (fun _ => ?_)
  · refine g_iconst 35 hX 1 dX9_takeSide_34 rfl kc_i_1 ?_
    refine g_goto 39 hX dX9_takeSide_35 (by decide) ?_
    refine g_callV_v 42 hX (k_X9_takeIf l g N M a0 1) lk_X9_takeIf rfl (ci := 9) rfl (Nat.le_of_ble_eq_true rfl) q_483 q_4 (by omega) rfl (Nat.le_of_ble_eq_true rfl) (Nat.zero_le _) (Nat.zero_le _) dX9_takeSide_39 rfl (fun M3 => ?_)
    refine g_iload_n 43 0 hX dX9_takeSide_42 rfl rfl ?_
    exact g_iret hX hr rfl (Nat.le_refl 0) (Nat.le_refl 0) dX9_takeSide_43
  · refine g_aload_n 26 1 hX dX9_takeSide_25 rfl rfl ?_
    refine g_ldcS 28 hX (i := 8) rfl dX9_takeSide_26 rfl ?_
    refine g_callV_ip 31 hX (k_X9_atWord l g N M a0 8) lk_X9_atWord rfl (ci := 9) rfl (Nat.le_of_ble_eq_true rfl) q_473 q_475 (by omega) rfl (Nat.le_of_ble_eq_true rfl) (Nat.zero_le _) (Nat.zero_le _) dX9_takeSide_28 rfl (fun r4 => ?_)
    refine g_if_eq 38 34 hX dX9_takeSide_31 (by decide) rfl (fun _ => ?_) (fun _ => ?_)
    · refine g_iconst 39 hX 0 dX9_takeSide_38 rfl kc_i_0 ?_
      refine g_callV_v 42 hX (k_X9_takeIf l g N M a0 0) lk_X9_takeIf rfl (ci := 9) rfl (Nat.le_of_ble_eq_true rfl) q_483 q_4 (by omega) rfl (Nat.le_of_ble_eq_true rfl) (Nat.zero_le _) (Nat.zero_le _) dX9_takeSide_39 rfl (fun M5 => ?_)
      refine g_iload_n 43 0 hX dX9_takeSide_42 rfl rfl ?_
      exact g_iret hX hr rfl (Nat.le_refl 0) (Nat.le_refl 0) dX9_takeSide_43
    · refine g_iconst 35 hX 1 dX9_takeSide_34 rfl kc_i_1 ?_
      refine g_goto 39 hX dX9_takeSide_35 (by decide) ?_
      refine g_callV_v 42 hX (k_X9_takeIf l g N M a0 1) lk_X9_takeIf rfl (ci := 9) rfl (Nat.le_of_ble_eq_true rfl) q_483 q_4 (by omega) rfl (Nat.le_of_ble_eq_true rfl) (Nat.zero_le _) (Nat.zero_le _) dX9_takeSide_39 rfl (fun M6 => ?_)
      refine g_iload_n 43 0 hX dX9_takeSide_42 rfl rfl ?_
      exact g_iret hX hr rfl (Nat.le_refl 0) (Nat.le_refl 0) dX9_takeSide_43
set_option maxRecDepth 100000 in
set_option maxHeartbeats 4000000 in
theorem k_X9_takeSide (l : Launch) (g : kG) (N : Nat) (M : kMem) (a0 : Nat) : kMet l g yX9_takeSide cX9_takeSide 2 (some .int) 6 0 0 [.ref a0] M (fun r : Int32 × kMem => (some (.int r.1), r.2)) (F_X9_takeSide N M a0) := by
  refine k_of (lv := [(0, .ref a0)]) RX9 (by decide) rfl rfl (Nat.le_of_ble_eq_true rfl) ?_
  intro p e s m args below meth c hX hr _
  unfold F_X9_takeSide
  refine g_aload_n 1 0 hX dX9_takeSide_0 rfl rfl ?_
  refine g_ldcS 3 hX (i := 7) rfl dX9_takeSide_1 rfl ?_
  refine g_callV_ip 6 hX (k_X9_atWord l g N M a0 7) lk_X9_atWord rfl (ci := 9) rfl (Nat.le_of_ble_eq_true rfl) q_473 q_475 (by omega) rfl (Nat.le_of_ble_eq_true rfl) (Nat.zero_le _) (Nat.zero_le _) dX9_takeSide_3 rfl (fun r1 => ?_)
  refine g_if_eq 13 9 hX dX9_takeSide_6 (by decide) rfl (fun _ => ?_) (fun _ => ?_)
  · refine g_iconst 14 hX 1 dX9_takeSide_13 rfl kc_i_1 ?_
    exact k_X9_takeSide_14 hX hr N M a0 1
  · refine g_iconst 10 hX (-1) dX9_takeSide_9 rfl kc_i_m1 ?_
    refine g_goto 14 hX dX9_takeSide_10 (by decide) ?_
    exact k_X9_takeSide_14 hX hr N M a0 (-1)
set_option maxRecDepth 100000 in
set_option maxHeartbeats 4000000 in
theorem k_X7_readMarket (l : Launch) (g : kG) (N : Nat) (M : kMem) (a0 : Nat) (a1 : Nat) : kMet l g yX7_readMarket cX7_readMarket 2 none 7 0 0 [.ref a0, .ref a1] M (fun r : kMem => (none, r)) (F_X7_readMarket N M a0 a1) := by
  refine k_of (lv := [(0, .ref a0), (1, .ref a1)]) RX7 (by decide) rfl rfl (Nat.le_of_ble_eq_true rfl) ?_
  intro p e s m args below meth c hX hr _
  unfold F_X7_readMarket
  refine g_aload_n 1 0 hX dX7_readMarket_0 rfl rfl ?_
  refine g_ldcS 3 hX (i := 3) rfl dX7_readMarket_1 rfl ?_
  refine g_callV_v 6 hX (k_X9_takeWord l g N M a0 3) lk_X9_takeWord rfl (ci := 9) rfl (Nat.le_of_ble_eq_true rfl) q_469 q_471 (by omega) rfl (Nat.le_of_ble_eq_true rfl) (Nat.zero_le _) (Nat.zero_le _) dX7_readMarket_3 rfl (fun M1 => ?_)
  refine g_aload_n 7 1 hX dX7_readMarket_6 rfl rfl ?_
  refine g_aload_n 8 0 hX dX7_readMarket_7 rfl rfl ?_
  refine g_iconst 9 hX 0 dX7_readMarket_8 rfl kc_i_0 ?_
  refine g_bipush 11 hX 20 dX7_readMarket_9 rfl kc_b_20 ?_
  refine g_callV_i 14 hX (k_X9_takeNumber l g N M1 a0 0 20) lk_X9_takeNumber rfl (ci := 9) rfl (Nat.le_of_ble_eq_true rfl) q_491 q_493 (by omega) rfl (Nat.le_of_ble_eq_true rfl) (Nat.zero_le _) (Nat.zero_le _) dX7_readMarket_11 rfl (fun r2 => ?_)
  refine p_X7_58 17 hX dX7_readMarket_14 rfl ?_
  refine g_klM (fun M3 hM3 => ?_)
  refine g_aload_n 18 1 hX dX7_readMarket_17 rfl rfl ?_
  refine g_aload_n 19 0 hX dX7_readMarket_18 rfl rfl ?_
  refine g_iconst 20 hX 0 dX7_readMarket_19 rfl kc_i_0 ?_
  refine g_bipush 22 hX 99 dX7_readMarket_20 rfl kc_b_99 ?_
  refine g_callV_i 25 hX (k_X9_takeNumber l g N M3 a0 0 99) lk_X9_takeNumber rfl (ci := 9) rfl (Nat.le_of_ble_eq_true rfl) q_491 q_493 (by omega) rfl (Nat.le_of_ble_eq_true rfl) (Nat.zero_le _) (Nat.zero_le _) dX7_readMarket_22 rfl (fun r4 => ?_)
  refine p_X7_62 28 hX dX7_readMarket_25 rfl ?_
  refine g_klM (fun M5 hM5 => ?_)
  refine g_aload_n 29 1 hX dX7_readMarket_28 rfl rfl ?_
  refine g_aload_n 30 0 hX dX7_readMarket_29 rfl rfl ?_
  refine g_iconst 31 hX 0 dX7_readMarket_30 rfl kc_i_0 ?_
  refine g_bipush 33 hX 99 dX7_readMarket_31 rfl kc_b_99 ?_
  refine g_callV_i 36 hX (k_X9_takeNumber l g N M5 a0 0 99) lk_X9_takeNumber rfl (ci := 9) rfl (Nat.le_of_ble_eq_true rfl) q_491 q_493 (by omega) rfl (Nat.le_of_ble_eq_true rfl) (Nat.zero_le _) (Nat.zero_le _) dX7_readMarket_33 rfl (fun r6 => ?_)
  refine p_X7_65 39 hX dX7_readMarket_36 rfl ?_
  refine g_klM (fun M7 hM7 => ?_)
  refine g_aload_n 40 1 hX dX7_readMarket_39 rfl rfl ?_
  refine g_aload_n 41 0 hX dX7_readMarket_40 rfl rfl ?_
  refine g_iconst 42 hX 1 dX7_readMarket_41 rfl kc_i_1 ?_
  refine g_sipush 45 hX 999 dX7_readMarket_42 rfl kc_s_999 ?_
  refine g_callV_i 48 hX (k_X9_takeNumber l g N M7 a0 1 999) lk_X9_takeNumber rfl (ci := 9) rfl (Nat.le_of_ble_eq_true rfl) q_491 q_493 (by omega) rfl (Nat.le_of_ble_eq_true rfl) (Nat.zero_le _) (Nat.zero_le _) dX7_readMarket_45 rfl (fun r8 => ?_)
  refine p_X7_68 51 hX dX7_readMarket_48 rfl ?_
  refine g_klM (fun M9 hM9 => ?_)
  refine g_aload_n 52 1 hX dX7_readMarket_51 rfl rfl ?_
  refine g_aload_n 53 0 hX dX7_readMarket_52 rfl rfl ?_
  refine g_iconst 54 hX 0 dX7_readMarket_53 rfl kc_i_0 ?_
  refine g_sipush 57 hX 999 dX7_readMarket_54 rfl kc_s_999 ?_
  refine g_callV_i 60 hX (k_X9_takeNumber l g N M9 a0 0 999) lk_X9_takeNumber rfl (ci := 9) rfl (Nat.le_of_ble_eq_true rfl) q_491 q_493 (by omega) rfl (Nat.le_of_ble_eq_true rfl) (Nat.zero_le _) (Nat.zero_le _) dX7_readMarket_57 rfl (fun r10 => ?_)
  refine p_X7_71 63 hX dX7_readMarket_60 rfl ?_
  refine g_klM (fun M11 hM11 => ?_)
  refine g_aload_n 64 1 hX dX7_readMarket_63 rfl rfl ?_
  refine g_aload_n 65 0 hX dX7_readMarket_64 rfl rfl ?_
  refine g_iconst 66 hX 0 dX7_readMarket_65 rfl kc_i_0 ?_
  refine g_ldc 68 hX 99999 dX7_readMarket_66 rfl q_507 ?_
  refine g_callV_i 71 hX (k_X9_takeNumber l g N M11 a0 0 99999) lk_X9_takeNumber rfl (ci := 9) rfl (Nat.le_of_ble_eq_true rfl) q_491 q_493 (by omega) rfl (Nat.le_of_ble_eq_true rfl) (Nat.zero_le _) (Nat.zero_le _) dX7_readMarket_68 rfl (fun r12 => ?_)
  refine p_X7_75 74 hX dX7_readMarket_71 rfl ?_
  refine g_klM (fun M13 hM13 => ?_)
  refine g_aload_n 75 1 hX dX7_readMarket_74 rfl rfl ?_
  refine g_aload_n 76 1 hX dX7_readMarket_75 rfl rfl ?_
  refine r_X7_75 79 hX dX7_readMarket_76 rfl ?_
  refine p_X7_78 82 hX dX7_readMarket_79 rfl ?_
  refine g_klM (fun M14 hM14 => ?_)
  refine g_aload_n 83 0 hX dX7_readMarket_82 rfl rfl ?_
  refine g_bipush 85 hX 59 dX7_readMarket_83 rfl kc_b_59 ?_
  refine g_callV_v 88 hX (k_X9_takeSign l g N M14 a0 59) lk_X9_takeSign rfl (ci := 9) rfl (Nat.le_of_ble_eq_true rfl) q_508 q_510 (by omega) rfl (Nat.le_of_ble_eq_true rfl) (Nat.zero_le _) (Nat.zero_le _) dX7_readMarket_85 rfl (fun M15 => ?_)
  exact g_vret hX hr rfl (Nat.le_refl 0) (Nat.le_refl 0) dX7_readMarket_88
set_option maxRecDepth 100000 in
set_option maxHeartbeats 4000000 in
theorem k_X7_readSeat_99 {p : Program} {l : Launch} {e : Env} {s : State} {m : MethodId} {args : Array Value} {below : List Frame} {meth : Method} {c : Code} {g : kG} (hX : Cok (p, l, e, { frames := 7, cells := 0, slots := 0, locals := 60 * 7 }, s, m, args, below, meth, c, cX7_readSeat, 6, RX7, g, 7)) (hr : meth.sig.returnType = none) (N : Nat) : ∀ (M : kMem) (a0 : Nat) (a1 : Nat) (a2 : Nat) (a3 : Nat) (x4 : Int32) (x5 : Int32), GG (p, l, e, { frames := 7, cells := 0, slots := 0, locals := 60 * 7 }, s, m, args, below, meth, c, cX7_readSeat, 6, RX7, g, 7) (fun b => MQ below (kQ g ((fun r : kMem => (none, r)) b)) args s 0 0 (kZ g.2.2.1)) 0 0 (F_X7_readSeat_99 N M a0 a1 a2 a3 x4 x5) 99 [(0, .ref a0), (1, .ref a1), (2, .ref a2), (3, .ref a3), (4, .int x4), (5, .int x5)] [] M := by
  intro M a0 a1 a2 a3 x4 x5
  unfold F_X7_readSeat_99
  refine g_aload_n 100 0 hX dX7_readSeat_99 rfl rfl ?_
  refine g_bipush 102 hX 59 dX7_readSeat_100 rfl kc_b_59 ?_
  refine g_callV_v 105 hX (k_X9_takeSign l g N M a0 59) lk_X9_takeSign rfl (ci := 9) rfl (Nat.le_of_ble_eq_true rfl) q_508 q_510 (by omega) rfl (Nat.le_of_ble_eq_true rfl) (Nat.zero_le _) (Nat.zero_le _) dX7_readSeat_102 rfl (fun M11 => ?_)
  refine g_aload_n 106 0 hX dX7_readSeat_105 rfl rfl ?_
  refine g_callV_ip 109 hX (k_X9_failed l g N M11 a0) lk_X9_failed rfl (ci := 9) rfl (Nat.le_of_ble_eq_true rfl) q_525 q_527 (by omega) rfl (Nat.le_of_ble_eq_true rfl) (Nat.zero_le _) (Nat.zero_le _) dX7_readSeat_106 rfl (fun r12 => ?_)
  refine g_if_ne 131 112 hX dX7_readSeat_109 (by decide) rfl (fun _ => ?_) (fun _ => ?_)
  · exact g_vret hX hr rfl (Nat.le_refl 0) (Nat.le_refl 0) dX7_readSeat_131
  · refine g_aload_n 113 2 hX dX7_readSeat_112 rfl rfl ?_
    refine g_ifnull 131 116 hX dX7_readSeat_113 (by decide) rfl (fun _ => ?_) (fun _ => ?_)
    · exact g_vret hX hr rfl (Nat.le_refl 0) (Nat.le_refl 0) dX7_readSeat_131
    · refine g_aload_n 117 3 hX dX7_readSeat_116 rfl rfl ?_
      refine g_ifnull 131 120 hX dX7_readSeat_117 (by decide) rfl (fun _ => ?_) (fun _ => ?_)
      · exact g_vret hX hr rfl (Nat.le_refl 0) (Nat.le_refl 0) dX7_readSeat_131
      · refine g_aload_n 121 1 hX dX7_readSeat_120 rfl rfl ?_
        refine g_aload_n 122 2 hX dX7_readSeat_121 rfl rfl ?_
        refine g_aload_n 123 3 hX dX7_readSeat_122 rfl rfl ?_
        refine g_iload 125 4 hX dX7_readSeat_123 rfl rfl ?_
        refine g_iload 127 5 hX dX7_readSeat_125 rfl rfl ?_
        refine g_imul 128 hX dX7_readSeat_127 rfl ?_
        refine g_callV_v 131 hX (k_X4_seat l g N M11 a1 a2 a3 (x4 * x5)) lk_X4_seat rfl (ci := 4) rfl (Nat.le_of_ble_eq_true rfl) q_594 q_596 (by omega) rfl (Nat.le_of_ble_eq_true rfl) (Nat.zero_le _) (Nat.zero_le _) dX7_readSeat_128 rfl (fun M13 => ?_)
        exact g_vret hX hr rfl (Nat.le_refl 0) (Nat.le_refl 0) dX7_readSeat_131
set_option maxRecDepth 100000 in
set_option maxHeartbeats 4000000 in
theorem k_X7_readSeat_73 {p : Program} {l : Launch} {e : Env} {s : State} {m : MethodId} {args : Array Value} {below : List Frame} {meth : Method} {c : Code} {g : kG} (hX : Cok (p, l, e, { frames := 7, cells := 0, slots := 0, locals := 60 * 7 }, s, m, args, below, meth, c, cX7_readSeat, 6, RX7, g, 7)) (hr : meth.sig.returnType = none) (N : Nat) : ∀ (M : kMem) (a0 : Nat) (a1 : Nat) (a2 : Nat) (a3 : Nat) (x4 : Int32) (y0 : Nat) (y1 : Int32) (y2 : Int32), GG (p, l, e, { frames := 7, cells := 0, slots := 0, locals := 60 * 7 }, s, m, args, below, meth, c, cX7_readSeat, 6, RX7, g, 7) (fun b => MQ below (kQ g ((fun r : kMem => (none, r)) b)) args s 0 0 (kZ g.2.2.1)) 0 0 (F_X7_readSeat_73 N M a0 a1 a2 a3 x4 y0 y1 y2) 73 [(0, .ref a0), (1, .ref a1), (2, .ref a2), (3, .ref a3), (4, .int x4)] [.int y2, .int y1, .ref y0] M := by
  intro M a0 a1 a2 a3 x4 y0 y1 y2
  unfold F_X7_readSeat_73
  refine g_callV_i 76 hX (k_X9_takeNumber l g N M y0 y1 y2) lk_X9_takeNumber rfl (ci := 9) rfl (Nat.le_of_ble_eq_true rfl) q_491 q_493 (by omega) rfl (Nat.le_of_ble_eq_true rfl) (Nat.zero_le _) (Nat.zero_le _) dX7_readSeat_73 rfl (fun r9 => ?_)
  refine g_klI (fun v10 hv10 => ?_)
  refine g_istore 78 5 [(5, .int v10), (0, .ref a0), (1, .ref a1), (2, .ref a2), (3, .ref a3), (4, .int x4)] hX dX7_readSeat_76 rfl (Nat.le_of_ble_eq_true rfl) rfl ?_
  refine g_aload_n 79 4 hX dX7_readSeat_78 rfl rfl ?_
  refine g_ifnull 99 82 hX dX7_readSeat_79 (by decide) rfl (fun _ => ?_) (fun _ => ?_)
  · refine g_lv [1, 2, 3, 4, 5, 0] rfl ?_
    exact k_X7_readSeat_99 hX hr N r9.2 a0 a1 a2 a3 x4 v10
  · refine g_aload_n 83 4 hX dX7_readSeat_82 rfl rfl ?_
    refine g_iload 85 5 hX dX7_readSeat_83 rfl rfl ?_
    refine g_iload 87 0 hX dX7_readSeat_85 rfl rfl ?_
    refine g_imul 88 hX dX7_readSeat_87 rfl ?_
    refine g_callV_ip 91 hX (k_X0_isFree l g N r9.2 a3 (x4 * v10)) lk_X0_isFree rfl (ci := 0) rfl (Nat.le_of_ble_eq_true rfl) q_582 q_584 (by omega) rfl (Nat.le_of_ble_eq_true rfl) (Nat.zero_le _) (Nat.zero_le _) dX7_readSeat_88 rfl (fun r14 => ?_)
    refine g_if_ne 99 94 hX dX7_readSeat_91 (by decide) rfl (fun _ => ?_) (fun _ => ?_)
    · refine g_lv [1, 2, 3, 4, 5, 0] rfl ?_
      exact k_X7_readSeat_99 hX hr N r9.2 a0 a1 a2 a3 x4 v10
    · refine g_aload_n 95 1 hX dX7_readSeat_94 rfl rfl ?_
      refine g_iconst 96 hX 3 dX7_readSeat_95 rfl kc_i_3 ?_
      refine g_callV_v 99 hX (k_X9_refuseTaken l g N r9.2 a0 3) lk_X9_refuseTaken rfl (ci := 9) rfl (Nat.le_of_ble_eq_true rfl) q_556 q_558 (by omega) rfl (Nat.le_of_ble_eq_true rfl) (Nat.zero_le _) (Nat.zero_le _) dX7_readSeat_96 rfl (fun M15 => ?_)
      refine g_lv [1, 2, 3, 4, 5, 0] rfl ?_
      exact k_X7_readSeat_99 hX hr N M15 a0 a1 a2 a3 x4 v10
set_option maxRecDepth 100000 in
set_option maxHeartbeats 4000000 in
theorem k_X7_readSeat_37 {p : Program} {l : Launch} {e : Env} {s : State} {m : MethodId} {args : Array Value} {below : List Frame} {meth : Method} {c : Code} {g : kG} (hX : Cok (p, l, e, { frames := 7, cells := 0, slots := 0, locals := 60 * 7 }, s, m, args, below, meth, c, cX7_readSeat, 6, RX7, g, 7)) (hr : meth.sig.returnType = none) (N : Nat) : ∀ (M : kMem) (a0 : Nat) (a1 : Nat) (a2 : Nat), GG (p, l, e, { frames := 7, cells := 0, slots := 0, locals := 60 * 7 }, s, m, args, below, meth, c, cX7_readSeat, 6, RX7, g, 7) (fun b => MQ below (kQ g ((fun r : kMem => (none, r)) b)) args s 0 0 (kZ g.2.2.1)) 0 0 (F_X7_readSeat_37 N M a0 a1 a2) 37 [(0, .ref a0), (1, .ref a1), (2, .ref a2)] [] M := by
  intro M a0 a1 a2
  unfold F_X7_readSeat_37
  refine g_aload_n 38 1 hX dX7_readSeat_37 rfl rfl ?_
  refine g_aload_n 39 0 hX dX7_readSeat_38 rfl rfl ?_
  refine g_iconst 40 hX 0 dX7_readSeat_39 rfl kc_i_0 ?_
  refine g_aload_n 41 1 hX dX7_readSeat_40 rfl rfl ?_
  refine r_X7_116 44 hX dX7_readSeat_41 rfl ?_
  refine g_iconst 45 hX 1 dX7_readSeat_44 rfl kc_i_1 ?_
  refine g_isub 46 hX dX7_readSeat_45 rfl ?_
  refine g_callV_i 49 hX (k_X9_takeNumber l g N M a0 0 ((kI M a1 11) - 1)) lk_X9_takeNumber rfl (ci := 9) rfl (Nat.le_of_ble_eq_true rfl) q_491 q_493 (by omega) rfl (Nat.le_of_ble_eq_true rfl) (Nat.zero_le _) (Nat.zero_le _) dX7_readSeat_46 rfl (fun r5 => ?_)
  refine g_callV_rp 52 hX (k_X4_boardNumbered l g N r5.2 a1 r5.1) lk_X4_boardNumbered rfl (ci := 4) rfl (Nat.le_of_ble_eq_true rfl) q_572 q_574 (by omega) rfl (Nat.le_of_ble_eq_true rfl) (Nat.zero_le _) (Nat.zero_le _) dX7_readSeat_49 rfl (fun r6 => ?_)
  refine g_astore_n 53 3 [(3, .ref r6), (0, .ref a0), (1, .ref a1), (2, .ref a2)] hX dX7_readSeat_52 rfl rfl (Nat.le_of_ble_eq_true rfl) rfl ?_
  refine g_aload_n 54 1 hX dX7_readSeat_53 rfl rfl ?_
  refine g_callV_i 57 hX (k_X9_takeSide l g N r5.2 a0) lk_X9_takeSide rfl (ci := 9) rfl (Nat.le_of_ble_eq_true rfl) q_576 q_578 (by omega) rfl (Nat.le_of_ble_eq_true rfl) (Nat.zero_le _) (Nat.zero_le _) dX7_readSeat_54 rfl (fun r7 => ?_)
  refine g_klI (fun v8 hv8 => ?_)
  refine g_istore 59 4 [(4, .int v8), (3, .ref r6), (0, .ref a0), (1, .ref a1), (2, .ref a2)] hX dX7_readSeat_57 rfl (Nat.le_of_ble_eq_true rfl) rfl ?_
  refine g_aload_n 60 2 hX dX7_readSeat_59 rfl rfl ?_
  refine g_iconst 61 hX 1 dX7_readSeat_60 rfl kc_i_1 ?_
  refine g_aload_n 62 1 hX dX7_readSeat_61 rfl rfl ?_
  refine g_ifnonnull 69 65 hX dX7_readSeat_62 (by decide) rfl (fun _ => ?_) (fun _ => ?_)
  · refine g_aload_n 70 1 hX dX7_readSeat_69 rfl rfl ?_
    refine r_X7_127 73 hX dX7_readSeat_70 rfl ?_
    refine g_lv [2, 3, 4, 1, 0] rfl ?_
    exact k_X7_readSeat_73 hX hr N r7.2 a0 a1 a2 r6 v8 a0 1 (kI r7.2 r6 1)
  · refine g_iconst 66 hX 0 dX7_readSeat_65 rfl kc_i_0 ?_
    refine g_goto 73 hX dX7_readSeat_66 (by decide) ?_
    refine g_lv [2, 3, 4, 1, 0] rfl ?_
    exact k_X7_readSeat_73 hX hr N r7.2 a0 a1 a2 r6 v8 a0 1 0
set_option maxRecDepth 100000 in
set_option maxHeartbeats 4000000 in
theorem k_X7_readSeat (l : Launch) (g : kG) (N : Nat) (M : kMem) (a0 : Nat) (a1 : Nat) : kMet l g yX7_readSeat cX7_readSeat 6 none 7 0 0 [.ref a0, .ref a1] M (fun r : kMem => (none, r)) (F_X7_readSeat N M a0 a1) := by
  refine k_of (lv := [(0, .ref a0), (1, .ref a1)]) RX7 (by decide) rfl rfl (Nat.le_of_ble_eq_true rfl) ?_
  intro p e s m args below meth c hX hr _
  unfold F_X7_readSeat
  refine g_aload_n 1 0 hX dX7_readSeat_0 rfl rfl ?_
  refine g_callV_v 4 hX (k_X9_takeAnyWord l g N M a0) lk_X9_takeAnyWord rfl (ci := 9) rfl (Nat.le_of_ble_eq_true rfl) q_521 q_523 (by omega) rfl (Nat.le_of_ble_eq_true rfl) (Nat.zero_le _) (Nat.zero_le _) dX7_readSeat_1 rfl (fun M1 => ?_)
  refine g_aload_n 5 1 hX dX7_readSeat_4 rfl rfl ?_
  refine g_aload_n 6 0 hX dX7_readSeat_5 rfl rfl ?_
  refine g_callV_l 9 hX (k_X9_takeName l g N M1 a0) lk_X9_takeName rfl (ci := 9) rfl (Nat.le_of_ble_eq_true rfl) q_542 q_544 (by omega) rfl (Nat.le_of_ble_eq_true rfl) (Nat.zero_le _) (Nat.zero_le _) dX7_readSeat_6 rfl (fun r2 => ?_)
  refine g_callV_rp 12 hX (k_X4_traderNamed l g N r2.2 a1 r2.1) lk_X4_traderNamed rfl (ci := 4) rfl (Nat.le_of_ble_eq_true rfl) q_552 q_554 (by omega) rfl (Nat.le_of_ble_eq_true rfl) (Nat.zero_le _) (Nat.zero_le _) dX7_readSeat_9 rfl (fun r3 => ?_)
  refine g_astore_n 13 2 [(2, .ref r3), (0, .ref a0), (1, .ref a1)] hX dX7_readSeat_12 rfl rfl (Nat.le_of_ble_eq_true rfl) rfl ?_
  refine g_aload_n 14 0 hX dX7_readSeat_13 rfl rfl ?_
  refine g_ifnonnull 25 17 hX dX7_readSeat_14 (by decide) rfl (fun _ => ?_) (fun _ => ?_)
  · refine g_aload_n 26 0 hX dX7_readSeat_25 rfl rfl ?_
    refine g_callV_ip 29 hX (k_X10_isSeated l g N r2.2 r3) lk_X10_isSeated rfl (ci := 10) rfl (Nat.le_of_ble_eq_true rfl) q_568 q_570 (by omega) rfl (Nat.le_of_ble_eq_true rfl) (Nat.zero_le _) (Nat.zero_le _) dX7_readSeat_26 rfl (fun r4 => ?_)
    refine g_if_eq 37 32 hX dX7_readSeat_29 (by decide) rfl (fun _ => ?_) (fun _ => ?_)
    · refine g_lv [1, 2, 0] rfl ?_
      exact k_X7_readSeat_37 hX hr N r2.2 a0 a1 r3
    · refine g_aload_n 33 1 hX dX7_readSeat_32 rfl rfl ?_
      refine g_iconst 34 hX 3 dX7_readSeat_33 rfl kc_i_3 ?_
      refine g_callV_v 37 hX (k_X9_refuseTaken l g N r2.2 a0 3) lk_X9_refuseTaken rfl (ci := 9) rfl (Nat.le_of_ble_eq_true rfl) q_556 q_558 (by omega) rfl (Nat.le_of_ble_eq_true rfl) (Nat.zero_le _) (Nat.zero_le _) dX7_readSeat_34 rfl (fun M16 => ?_)
      refine g_lv [1, 2, 0] rfl ?_
      exact k_X7_readSeat_37 hX hr N M16 a0 a1 r3
  · refine g_aload_n 18 1 hX dX7_readSeat_17 rfl rfl ?_
    refine g_iconst 19 hX 4 dX7_readSeat_18 rfl kc_i_4 ?_
    refine g_callV_v 22 hX (k_X9_refuseTaken l g N r2.2 a0 4) lk_X9_refuseTaken rfl (ci := 9) rfl (Nat.le_of_ble_eq_true rfl) q_556 q_558 (by omega) rfl (Nat.le_of_ble_eq_true rfl) (Nat.zero_le _) (Nat.zero_le _) dX7_readSeat_19 rfl (fun M17 => ?_)
    refine g_goto 37 hX dX7_readSeat_22 (by decide) ?_
    refine g_lv [1, 2, 0] rfl ?_
    exact k_X7_readSeat_37 hX hr N M17 a0 a1 r3
set_option maxRecDepth 100000 in
set_option maxHeartbeats 4000000 in
theorem k_X7_read_94 {p : Program} {l : Launch} {e : Env} {s : State} {m : MethodId} {args : Array Value} {below : List Frame} {meth : Method} {c : Code} {g : kG} (hX : Cok (p, l, e, { frames := 8, cells := 0, slots := 0, locals := 60 * 8 }, s, m, args, below, meth, c, cX7_read, 3, RX7, g, 8)) (hr : meth.sig.returnType = none) (N : Nat) : ∀ (n : Nat) (M : kMem) (a0 : Nat) (a1 : Nat) (x2 : Int32), GG (p, l, e, { frames := 8, cells := 0, slots := 0, locals := 60 * 8 }, s, m, args, below, meth, c, cX7_read, 3, RX7, g, 8) (fun b => MQ below (kQ g ((fun r : kMem => (none, r)) b)) args s 0 0 (kZ g.2.2.1)) 0 0 (F_X7_read_94 N n M a0 a1 x2) 94 [(0, .ref a0), (1, .ref a1), (2, .int x2)] [] M := by
  intro n
  induction n with
  | zero => intro _ _ _ _; exact g_none
  | succ n ih =>
    intro M a0 a1 x2
    unfold F_X7_read_94
    refine g_iload_n 95 2 hX dX7_read_94 rfl rfl ?_
    refine g_bipush 97 hX 24 dX7_read_95 rfl kc_b_24 ?_
    refine g_icmp_gt 120 100 hX dX7_read_97 (by decide) rfl (fun _ => ?_) (fun _ => ?_)
    · refine g_aload_n 121 0 hX dX7_read_120 rfl rfl ?_
      refine g_callV_v 124 hX (k_X9_takeEnd l g N M a0) lk_X9_takeEnd rfl (ci := 9) rfl (Nat.le_of_ble_eq_true rfl) q_602 q_604 (by omega) rfl (Nat.le_of_ble_eq_true rfl) (Nat.zero_le _) (Nat.zero_le _) dX7_read_121 rfl (fun M5 => ?_)
      exact g_vret hX hr rfl (Nat.le_refl 0) (Nat.le_refl 0) dX7_read_124
    · refine g_aload_n 101 0 hX dX7_read_100 rfl rfl ?_
      refine g_ldcS 103 hX (i := 6) rfl dX7_read_101 rfl ?_
      refine g_callV_ip 106 hX (k_X9_atWord l g N M a0 6) lk_X9_atWord rfl (ci := 9) rfl (Nat.le_of_ble_eq_true rfl) q_517 q_475 (by omega) rfl (Nat.le_of_ble_eq_true rfl) (Nat.zero_le _) (Nat.zero_le _) dX7_read_103 rfl (fun r6 => ?_)
      refine g_if_eq 120 109 hX dX7_read_106 (by decide) rfl (fun _ => ?_) (fun _ => ?_)
      · refine g_aload_n 121 0 hX dX7_read_120 rfl rfl ?_
        refine g_callV_v 124 hX (k_X9_takeEnd l g N M a0) lk_X9_takeEnd rfl (ci := 9) rfl (Nat.le_of_ble_eq_true rfl) q_602 q_604 (by omega) rfl (Nat.le_of_ble_eq_true rfl) (Nat.zero_le _) (Nat.zero_le _) dX7_read_121 rfl (fun M7 => ?_)
        exact g_vret hX hr rfl (Nat.le_refl 0) (Nat.le_refl 0) dX7_read_124
      · refine g_aload_n 110 0 hX dX7_read_109 rfl rfl ?_
        refine g_aload_n 111 1 hX dX7_read_110 rfl rfl ?_
        refine g_callS_v 114 hX (k_X7_readSeat l g N M a0 a1) lk_X7_readSeat q_565 (by omega) rfl (Nat.le_of_ble_eq_true rfl) (Nat.zero_le _) (Nat.zero_le _) dX7_read_111 rfl (fun M8 => ?_)
        refine g_kl (fun v9 hv9 => ?_)
        refine g_iinc 117 2 2 v9 [(2, .int v9), (0, .ref a0), (1, .ref a1)] hX dX7_read_114 rfl rfl (by rw [hv9, kc_i_1]) (Nat.le_of_ble_eq_true rfl) rfl ?_
        refine g_goto 94 hX dX7_read_117 (by decide) ?_
        refine g_lv [1, 2, 0] rfl ?_
        exact ih M8 a0 a1 v9
set_option maxRecDepth 100000 in
set_option maxHeartbeats 4000000 in
theorem k_X7_read_52 {p : Program} {l : Launch} {e : Env} {s : State} {m : MethodId} {args : Array Value} {below : List Frame} {meth : Method} {c : Code} {g : kG} (hX : Cok (p, l, e, { frames := 8, cells := 0, slots := 0, locals := 60 * 8 }, s, m, args, below, meth, c, cX7_read, 3, RX7, g, 8)) (hr : meth.sig.returnType = none) (N : Nat) : ∀ (n : Nat) (M : kMem) (a0 : Nat) (a1 : Nat) (x2 : Int32), GG (p, l, e, { frames := 8, cells := 0, slots := 0, locals := 60 * 8 }, s, m, args, below, meth, c, cX7_read, 3, RX7, g, 8) (fun b => MQ below (kQ g ((fun r : kMem => (none, r)) b)) args s 0 0 (kZ g.2.2.1)) 0 0 (F_X7_read_52 N n M a0 a1 x2) 52 [(0, .ref a0), (1, .ref a1), (2, .int x2)] [] M := by
  intro n
  induction n with
  | zero => intro _ _ _ _; exact g_none
  | succ n ih =>
    intro M a0 a1 x2
    unfold F_X7_read_52
    refine g_iload_n 53 2 hX dX7_read_52 rfl rfl ?_
    refine g_bipush 55 hX 24 dX7_read_53 rfl kc_b_24 ?_
    refine g_icmp_ge 78 58 hX dX7_read_55 (by decide) rfl (fun _ => ?_) (fun _ => ?_)
    · refine g_aload_n 79 0 hX dX7_read_78 rfl rfl ?_
      refine g_ldcS 81 hX (i := 5) rfl dX7_read_79 rfl ?_
      refine g_callV_ip 84 hX (k_X9_atWord l g N M a0 5) lk_X9_atWord rfl (ci := 9) rfl (Nat.le_of_ble_eq_true rfl) q_517 q_475 (by omega) rfl (Nat.le_of_ble_eq_true rfl) (Nat.zero_le _) (Nat.zero_le _) dX7_read_81 rfl (fun r4 => ?_)
      refine g_if_eq 92 87 hX dX7_read_84 (by decide) rfl (fun _ => ?_) (fun _ => ?_)
      · refine g_iconst 93 hX 0 dX7_read_92 rfl kc_i_0 ?_
        refine g_istore_n 94 2 [(2, .int 0), (0, .ref a0), (1, .ref a1)] hX dX7_read_93 rfl rfl (Nat.le_of_ble_eq_true rfl) rfl ?_
        refine g_lv [1, 2, 0] rfl ?_
        exact k_X7_read_94 hX hr N N M a0 a1 0
      · refine g_aload_n 88 0 hX dX7_read_87 rfl rfl ?_
        refine g_iconst 89 hX 5 dX7_read_88 rfl kc_i_5 ?_
        refine g_callV_v 92 hX (k_X9_refuse l g N M a0 5) lk_X9_refuse rfl (ci := 9) rfl (Nat.le_of_ble_eq_true rfl) q_537 q_505 (by omega) rfl (Nat.le_of_ble_eq_true rfl) (Nat.zero_le _) (Nat.zero_le _) dX7_read_89 rfl (fun M10 => ?_)
        refine g_iconst 93 hX 0 dX7_read_92 rfl kc_i_0 ?_
        refine g_istore_n 94 2 [(2, .int 0), (0, .ref a0), (1, .ref a1)] hX dX7_read_93 rfl rfl (Nat.le_of_ble_eq_true rfl) rfl ?_
        refine g_lv [1, 2, 0] rfl ?_
        exact k_X7_read_94 hX hr N N M10 a0 a1 0
    · refine g_aload_n 59 0 hX dX7_read_58 rfl rfl ?_
      refine g_ldcS 61 hX (i := 5) rfl dX7_read_59 rfl ?_
      refine g_callV_ip 64 hX (k_X9_atWord l g N M a0 5) lk_X9_atWord rfl (ci := 9) rfl (Nat.le_of_ble_eq_true rfl) q_517 q_475 (by omega) rfl (Nat.le_of_ble_eq_true rfl) (Nat.zero_le _) (Nat.zero_le _) dX7_read_61 rfl (fun r11 => ?_)
      refine g_if_eq 78 67 hX dX7_read_64 (by decide) rfl (fun _ => ?_) (fun _ => ?_)
      · refine g_aload_n 79 0 hX dX7_read_78 rfl rfl ?_
        refine g_ldcS 81 hX (i := 5) rfl dX7_read_79 rfl ?_
        refine g_callV_ip 84 hX (k_X9_atWord l g N M a0 5) lk_X9_atWord rfl (ci := 9) rfl (Nat.le_of_ble_eq_true rfl) q_517 q_475 (by omega) rfl (Nat.le_of_ble_eq_true rfl) (Nat.zero_le _) (Nat.zero_le _) dX7_read_81 rfl (fun r12 => ?_)
        refine g_if_eq 92 87 hX dX7_read_84 (by decide) rfl (fun _ => ?_) (fun _ => ?_)
        · refine g_iconst 93 hX 0 dX7_read_92 rfl kc_i_0 ?_
          refine g_istore_n 94 2 [(2, .int 0), (0, .ref a0), (1, .ref a1)] hX dX7_read_93 rfl rfl (Nat.le_of_ble_eq_true rfl) rfl ?_
          refine g_lv [1, 2, 0] rfl ?_
          exact k_X7_read_94 hX hr N N M a0 a1 0
        · refine g_aload_n 88 0 hX dX7_read_87 rfl rfl ?_
          refine g_iconst 89 hX 5 dX7_read_88 rfl kc_i_5 ?_
          refine g_callV_v 92 hX (k_X9_refuse l g N M a0 5) lk_X9_refuse rfl (ci := 9) rfl (Nat.le_of_ble_eq_true rfl) q_537 q_505 (by omega) rfl (Nat.le_of_ble_eq_true rfl) (Nat.zero_le _) (Nat.zero_le _) dX7_read_89 rfl (fun M13 => ?_)
          refine g_iconst 93 hX 0 dX7_read_92 rfl kc_i_0 ?_
          refine g_istore_n 94 2 [(2, .int 0), (0, .ref a0), (1, .ref a1)] hX dX7_read_93 rfl rfl (Nat.le_of_ble_eq_true rfl) rfl ?_
          refine g_lv [1, 2, 0] rfl ?_
          exact k_X7_read_94 hX hr N N M13 a0 a1 0
      · refine g_aload_n 68 0 hX dX7_read_67 rfl rfl ?_
        refine g_aload_n 69 1 hX dX7_read_68 rfl rfl ?_
        refine g_callS_v 72 hX (k_X7_readTrader l g N M a0 a1) lk_X7_readTrader q_539 (by omega) rfl (Nat.le_of_ble_eq_true rfl) (Nat.zero_le _) (Nat.zero_le _) dX7_read_69 rfl (fun M14 => ?_)
        refine g_kl (fun v15 hv15 => ?_)
        refine g_iinc 75 2 2 v15 [(2, .int v15), (0, .ref a0), (1, .ref a1)] hX dX7_read_72 rfl rfl (by rw [hv15, kc_i_1]) (Nat.le_of_ble_eq_true rfl) rfl ?_
        refine g_goto 52 hX dX7_read_75 (by decide) ?_
        refine g_lv [1, 2, 0] rfl ?_
        exact ih M14 a0 a1 v15
set_option maxRecDepth 100000 in
set_option maxHeartbeats 4000000 in
theorem k_X7_read_11 {p : Program} {l : Launch} {e : Env} {s : State} {m : MethodId} {args : Array Value} {below : List Frame} {meth : Method} {c : Code} {g : kG} (hX : Cok (p, l, e, { frames := 8, cells := 0, slots := 0, locals := 60 * 8 }, s, m, args, below, meth, c, cX7_read, 3, RX7, g, 8)) (hr : meth.sig.returnType = none) (N : Nat) : ∀ (n : Nat) (M : kMem) (a0 : Nat) (a1 : Nat) (x2 : Int32), GG (p, l, e, { frames := 8, cells := 0, slots := 0, locals := 60 * 8 }, s, m, args, below, meth, c, cX7_read, 3, RX7, g, 8) (fun b => MQ below (kQ g ((fun r : kMem => (none, r)) b)) args s 0 0 (kZ g.2.2.1)) 0 0 (F_X7_read_11 N n M a0 a1 x2) 11 [(0, .ref a0), (1, .ref a1), (2, .int x2)] [] M := by
  intro n
  induction n with
  | zero => intro _ _ _ _; exact g_none
  | succ n ih =>
    intro M a0 a1 x2
    unfold F_X7_read_11
    refine g_iload_n 12 2 hX dX7_read_11 rfl rfl ?_
    refine g_iconst 13 hX 5 dX7_read_12 rfl kc_i_5 ?_
    refine g_icmp_ge 36 16 hX dX7_read_13 (by decide) rfl (fun _ => ?_) (fun _ => ?_)
    · refine g_aload_n 37 0 hX dX7_read_36 rfl rfl ?_
      refine g_ldcS 39 hX (i := 4) rfl dX7_read_37 rfl ?_
      refine g_callV_ip 42 hX (k_X9_atWord l g N M a0 4) lk_X9_atWord rfl (ci := 9) rfl (Nat.le_of_ble_eq_true rfl) q_517 q_475 (by omega) rfl (Nat.le_of_ble_eq_true rfl) (Nat.zero_le _) (Nat.zero_le _) dX7_read_39 rfl (fun r3 => ?_)
      refine g_if_eq 50 45 hX dX7_read_42 (by decide) rfl (fun _ => ?_) (fun _ => ?_)
      · refine g_iconst 51 hX 0 dX7_read_50 rfl kc_i_0 ?_
        refine g_istore_n 52 2 [(2, .int 0), (0, .ref a0), (1, .ref a1)] hX dX7_read_51 rfl rfl (Nat.le_of_ble_eq_true rfl) rfl ?_
        refine g_lv [1, 2, 0] rfl ?_
        exact k_X7_read_52 hX hr N N M a0 a1 0
      · refine g_aload_n 46 0 hX dX7_read_45 rfl rfl ?_
        refine g_iconst 47 hX 5 dX7_read_46 rfl kc_i_5 ?_
        refine g_callV_v 50 hX (k_X9_refuse l g N M a0 5) lk_X9_refuse rfl (ci := 9) rfl (Nat.le_of_ble_eq_true rfl) q_537 q_505 (by omega) rfl (Nat.le_of_ble_eq_true rfl) (Nat.zero_le _) (Nat.zero_le _) dX7_read_47 rfl (fun M16 => ?_)
        refine g_iconst 51 hX 0 dX7_read_50 rfl kc_i_0 ?_
        refine g_istore_n 52 2 [(2, .int 0), (0, .ref a0), (1, .ref a1)] hX dX7_read_51 rfl rfl (Nat.le_of_ble_eq_true rfl) rfl ?_
        refine g_lv [1, 2, 0] rfl ?_
        exact k_X7_read_52 hX hr N N M16 a0 a1 0
    · refine g_aload_n 17 0 hX dX7_read_16 rfl rfl ?_
      refine g_ldcS 19 hX (i := 4) rfl dX7_read_17 rfl ?_
      refine g_callV_ip 22 hX (k_X9_atWord l g N M a0 4) lk_X9_atWord rfl (ci := 9) rfl (Nat.le_of_ble_eq_true rfl) q_517 q_475 (by omega) rfl (Nat.le_of_ble_eq_true rfl) (Nat.zero_le _) (Nat.zero_le _) dX7_read_19 rfl (fun r17 => ?_)
      refine g_if_eq 36 25 hX dX7_read_22 (by decide) rfl (fun _ => ?_) (fun _ => ?_)
      · refine g_aload_n 37 0 hX dX7_read_36 rfl rfl ?_
        refine g_ldcS 39 hX (i := 4) rfl dX7_read_37 rfl ?_
        refine g_callV_ip 42 hX (k_X9_atWord l g N M a0 4) lk_X9_atWord rfl (ci := 9) rfl (Nat.le_of_ble_eq_true rfl) q_517 q_475 (by omega) rfl (Nat.le_of_ble_eq_true rfl) (Nat.zero_le _) (Nat.zero_le _) dX7_read_39 rfl (fun r18 => ?_)
        refine g_if_eq 50 45 hX dX7_read_42 (by decide) rfl (fun _ => ?_) (fun _ => ?_)
        · refine g_iconst 51 hX 0 dX7_read_50 rfl kc_i_0 ?_
          refine g_istore_n 52 2 [(2, .int 0), (0, .ref a0), (1, .ref a1)] hX dX7_read_51 rfl rfl (Nat.le_of_ble_eq_true rfl) rfl ?_
          refine g_lv [1, 2, 0] rfl ?_
          exact k_X7_read_52 hX hr N N M a0 a1 0
        · refine g_aload_n 46 0 hX dX7_read_45 rfl rfl ?_
          refine g_iconst 47 hX 5 dX7_read_46 rfl kc_i_5 ?_
          refine g_callV_v 50 hX (k_X9_refuse l g N M a0 5) lk_X9_refuse rfl (ci := 9) rfl (Nat.le_of_ble_eq_true rfl) q_537 q_505 (by omega) rfl (Nat.le_of_ble_eq_true rfl) (Nat.zero_le _) (Nat.zero_le _) dX7_read_47 rfl (fun M19 => ?_)
          refine g_iconst 51 hX 0 dX7_read_50 rfl kc_i_0 ?_
          refine g_istore_n 52 2 [(2, .int 0), (0, .ref a0), (1, .ref a1)] hX dX7_read_51 rfl rfl (Nat.le_of_ble_eq_true rfl) rfl ?_
          refine g_lv [1, 2, 0] rfl ?_
          exact k_X7_read_52 hX hr N N M19 a0 a1 0
      · refine g_aload_n 26 0 hX dX7_read_25 rfl rfl ?_
        refine g_aload_n 27 1 hX dX7_read_26 rfl rfl ?_
        refine g_callS_v 30 hX (k_X7_readBoard l g N M a0 a1) lk_X7_readBoard q_518 (by omega) rfl (Nat.le_of_ble_eq_true rfl) (Nat.zero_le _) (Nat.zero_le _) dX7_read_27 rfl (fun M20 => ?_)
        refine g_kl (fun v21 hv21 => ?_)
        refine g_iinc 33 2 2 v21 [(2, .int v21), (0, .ref a0), (1, .ref a1)] hX dX7_read_30 rfl rfl (by rw [hv21, kc_i_1]) (Nat.le_of_ble_eq_true rfl) rfl ?_
        refine g_goto 11 hX dX7_read_33 (by decide) ?_
        refine g_lv [1, 2, 0] rfl ?_
        exact ih M20 a0 a1 v21
set_option maxRecDepth 100000 in
set_option maxHeartbeats 4000000 in
theorem k_X7_read (l : Launch) (g : kG) (N : Nat) (M : kMem) (a0 : Nat) (a1 : Nat) : kMet l g yX7_read cX7_read 3 none 8 0 0 [.ref a0, .ref a1] M (fun r : kMem => (none, r)) (F_X7_read N M a0 a1) := by
  refine k_of (lv := [(0, .ref a0), (1, .ref a1)]) RX7 (by decide) rfl rfl (Nat.le_of_ble_eq_true rfl) ?_
  intro p e s m args below meth c hX hr _
  unfold F_X7_read
  refine g_aload_n 1 1 hX dX7_read_0 rfl rfl ?_
  refine g_callV_v 4 hX (k_X4_clear l g N M a1) lk_X4_clear rfl (ci := 4) rfl (Nat.le_of_ble_eq_true rfl) q_461 q_463 (by omega) rfl (Nat.le_of_ble_eq_true rfl) (Nat.zero_le _) (Nat.zero_le _) dX7_read_1 rfl (fun M1 => ?_)
  refine g_aload_n 5 0 hX dX7_read_4 rfl rfl ?_
  refine g_aload_n 6 1 hX dX7_read_5 rfl rfl ?_
  refine g_callS_v 9 hX (k_X7_readMarket l g N M1 a0 a1) lk_X7_readMarket q_465 (by omega) rfl (Nat.le_of_ble_eq_true rfl) (Nat.zero_le _) (Nat.zero_le _) dX7_read_6 rfl (fun M2 => ?_)
  refine g_iconst 10 hX 0 dX7_read_9 rfl kc_i_0 ?_
  refine g_istore_n 11 2 [(2, .int 0), (0, .ref a0), (1, .ref a1)] hX dX7_read_10 rfl rfl (Nat.le_of_ble_eq_true rfl) rfl ?_
  refine g_lv [1, 2, 0] rfl ?_
  exact k_X7_read_11 hX hr N N M2 a0 a1 0
set_option maxRecDepth 100000 in
set_option maxHeartbeats 4000000 in
theorem k_X11_beginMarketOfText_57 {p : Program} {l : Launch} {e : Env} {s : State} {m : MethodId} {args : Array Value} {below : List Frame} {meth : Method} {c : Code} {g : kG} (hX : Cok (p, l, e, { frames := 9, cells := 0, slots := 0, locals := 60 * 9 }, s, m, args, below, meth, c, cX11_beginMarketOfText, 2, RX11, g, 9)) (hr : meth.sig.returnType = none) (N : Nat) : ∀ (n : Nat) (M : kMem) (a0 : Nat) (x1 : Int32), GG (p, l, e, { frames := 9, cells := 0, slots := 0, locals := 60 * 9 }, s, m, args, below, meth, c, cX11_beginMarketOfText, 2, RX11, g, 9) (fun b => MQ below (kQ g ((fun r : kMem => (none, r)) b)) args s 0 0 (kZ g.2.2.1)) 0 0 (F_X11_beginMarketOfText_57 N n M a0 x1) 57 [(0, .ref a0), (1, .int x1)] [] M := by
  intro n
  induction n with
  | zero => intro _ _ _; exact g_none
  | succ n ih =>
    intro M a0 x1
    unfold F_X11_beginMarketOfText_57
    refine g_iload_n 58 1 hX dX11_beginMarketOfText_57 rfl rfl ?_
    refine g_aload_n 59 0 hX dX11_beginMarketOfText_58 rfl rfl ?_
    refine r_X11_56 62 hX dX11_beginMarketOfText_59 rfl ?_
    refine g_alen14 63 hX dX11_beginMarketOfText_62 rfl ?_
    refine g_icmp_ge 79 66 hX dX11_beginMarketOfText_63 (by decide) rfl (fun _ => ?_) (fun _ => ?_)
    · exact g_vret hX hr rfl (Nat.le_refl 0) (Nat.le_refl 0) dX11_beginMarketOfText_79
    · refine g_aload_n 67 0 hX dX11_beginMarketOfText_66 rfl rfl ?_
      refine r_X11_56 70 hX dX11_beginMarketOfText_67 rfl ?_
      refine g_iload_n 71 1 hX dX11_beginMarketOfText_70 rfl rfl ?_
      refine g_iconst 72 hX 0 dX11_beginMarketOfText_71 rfl kc_i_0 ?_
      refine g_zast 73 hX dX11_beginMarketOfText_72 rfl ?_
      refine g_klM (fun M7 hM7 => ?_)
      refine g_kl (fun v8 hv8 => ?_)
      refine g_iinc 76 1 1 v8 [(1, .int v8), (0, .ref a0)] hX dX11_beginMarketOfText_73 rfl rfl (by rw [hv8, kc_i_1]) (Nat.le_of_ble_eq_true rfl) rfl ?_
      refine g_goto 57 hX dX11_beginMarketOfText_76 (by decide) ?_
      refine g_lv [1, 0] rfl ?_
      exact ih M7 a0 v8
set_option maxRecDepth 100000 in
set_option maxHeartbeats 4000000 in
theorem k_X11_beginMarketOfText (l : Launch) (g : kG) (N : Nat) (M : kMem) (a0 : Nat) : kMet l g yX11_beginMarketOfText cX11_beginMarketOfText 2 none 9 0 0 [.ref a0] M (fun r : kMem => (none, r)) (F_X11_beginMarketOfText N M a0) := by
  refine k_of (lv := [(0, .ref a0)]) RX11 (by decide) rfl rfl (Nat.le_of_ble_eq_true rfl) ?_
  intro p e s m args below meth c hX hr _
  unfold F_X11_beginMarketOfText
  refine g_aload_n 1 0 hX dX11_beginMarketOfText_0 rfl rfl ?_
  refine r_X11_24 4 hX dX11_beginMarketOfText_1 rfl ?_
  refine g_callV_v 7 hX (k_X9_begin l g N M (kR M a0 2)) lk_X9_begin rfl (ci := 9) rfl (Nat.le_of_ble_eq_true rfl) q_433 q_435 (by omega) rfl (Nat.le_of_ble_eq_true rfl) (Nat.zero_le _) (Nat.zero_le _) dX11_beginMarketOfText_4 rfl (fun M1 => ?_)
  refine g_aload_n 8 0 hX dX11_beginMarketOfText_7 rfl rfl ?_
  refine r_X11_24 11 hX dX11_beginMarketOfText_8 rfl ?_
  refine g_aload_n 12 0 hX dX11_beginMarketOfText_11 rfl rfl ?_
  refine r_X11_42 15 hX dX11_beginMarketOfText_12 rfl ?_
  refine g_callS_v 18 hX (k_X7_read l g N M1 (kR M1 a0 2) (kR M1 a0 5)) lk_X7_read q_458 (by omega) rfl (Nat.le_of_ble_eq_true rfl) (Nat.zero_le _) (Nat.zero_le _) dX11_beginMarketOfText_15 rfl (fun M2 => ?_)
  refine g_aload_n 19 0 hX dX11_beginMarketOfText_18 rfl rfl ?_
  refine r_X11_10 22 hX dX11_beginMarketOfText_19 rfl ?_
  refine g_iconst 23 hX 0 dX11_beginMarketOfText_22 rfl kc_i_0 ?_
  refine p_X11_77 26 hX dX11_beginMarketOfText_23 rfl ?_
  refine g_klM (fun M3 hM3 => ?_)
  refine g_aload_n 27 0 hX dX11_beginMarketOfText_26 rfl rfl ?_
  refine r_X11_24 30 hX dX11_beginMarketOfText_27 rfl ?_
  refine g_callV_ip 33 hX (k_X9_failed l g N M3 (kR M3 a0 2)) lk_X9_failed rfl (ci := 9) rfl (Nat.le_of_ble_eq_true rfl) q_606 q_527 (by omega) rfl (Nat.le_of_ble_eq_true rfl) (Nat.zero_le _) (Nat.zero_le _) dX11_beginMarketOfText_30 rfl (fun r4 => ?_)
  refine g_if_eq 37 36 hX dX11_beginMarketOfText_33 (by decide) rfl (fun _ => ?_) (fun _ => ?_)
  · refine g_aload_n 38 0 hX dX11_beginMarketOfText_37 rfl rfl ?_
    refine r_X11_38 41 hX dX11_beginMarketOfText_38 rfl ?_
    refine g_aload_n 42 0 hX dX11_beginMarketOfText_41 rfl rfl ?_
    refine r_X11_42 45 hX dX11_beginMarketOfText_42 rfl ?_
    refine g_callV_v 48 hX (k_X4_copyFrom l g N M3 (kR M3 a0 4) (kR M3 a0 5)) lk_X4_copyFrom rfl (ci := 4) rfl (Nat.le_of_ble_eq_true rfl) q_607 q_609 (by omega) rfl (Nat.le_of_ble_eq_true rfl) (Nat.zero_le _) (Nat.zero_le _) dX11_beginMarketOfText_45 rfl (fun M5 => ?_)
    refine g_aload_n 49 0 hX dX11_beginMarketOfText_48 rfl rfl ?_
    refine r_X11_48 52 hX dX11_beginMarketOfText_49 rfl ?_
    refine g_callV_v 55 hX (k_X3_forget l g N M5 (kR M5 a0 6)) lk_X3_forget rfl (ci := 3) rfl (Nat.le_of_ble_eq_true rfl) q_627 q_629 (by omega) rfl (Nat.le_of_ble_eq_true rfl) (Nat.zero_le _) (Nat.zero_le _) dX11_beginMarketOfText_52 rfl (fun M6 => ?_)
    refine g_iconst 56 hX 0 dX11_beginMarketOfText_55 rfl kc_i_0 ?_
    refine g_istore_n 57 1 [(1, .int 0), (0, .ref a0)] hX dX11_beginMarketOfText_56 rfl rfl (Nat.le_of_ble_eq_true rfl) rfl ?_
    refine g_lv [1, 0] rfl ?_
    exact k_X11_beginMarketOfText_57 hX hr N N M6 a0 0
  · exact g_vret hX hr rfl (Nat.le_refl 0) (Nat.le_refl 0) dX11_beginMarketOfText_36
set_option maxRecDepth 100000 in
set_option maxHeartbeats 4000000 in
theorem k_X11_load (l : Launch) (g : kG) (N : Nat) (M : kMem) (a0 : Nat) : kMet l g yX11_load cX11_load 1 (some .int) 10 0 0 [.ref a0] M (fun r : Int32 × kMem => (some (.int r.1), r.2)) (F_X11_load N M a0) := by
  refine k_of (lv := [(0, .ref a0)]) RX11 (by decide) rfl rfl (Nat.le_of_ble_eq_true rfl) ?_
  intro p e s m args below meth c hX hr _
  unfold F_X11_load
  refine g_aload_n 1 0 hX dX11_load_0 rfl rfl ?_
  refine g_callV_v 4 hX (k_X11_beginMarketOfText l g N M a0) lk_X11_beginMarketOfText rfl (ci := 11) rfl (Nat.le_of_ble_eq_true rfl) q_429 q_0 (by omega) rfl (Nat.le_of_ble_eq_true rfl) (Nat.zero_le _) (Nat.zero_le _) dX11_load_1 rfl (fun M1 => ?_)
  refine g_aload_n 5 0 hX dX11_load_4 rfl rfl ?_
  refine r_X11_24 8 hX dX11_load_5 rfl ?_
  refine r_X11_95 11 hX dX11_load_8 rfl ?_
  exact g_iret hX hr rfl (Nat.le_refl 0) (Nat.le_refl 0) dX11_load_11
