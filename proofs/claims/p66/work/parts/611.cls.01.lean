set_option maxRecDepth 100000 in
set_option maxHeartbeats 4000000 in
theorem k_X0_build_18 {p : Program} {l : Launch} {e : Env} {s : State} {m : MethodId} {args : Array Value} {below : List Frame} {meth : Method} {c : Code} {g : kG} (hX : Cok (p, l, e, { frames := 1, cells := 0, slots := 0, locals := 60 * 1 }, s, m, args, below, meth, c, cX0_build, 5, RX0, g, 1)) (hr : meth.sig.returnType = none) (N : Nat) : ∀ (n : Nat) (M : kMem) (a0 : Nat) (x4 : Int32), GG (p, l, e, { frames := 1, cells := 0, slots := 0, locals := 60 * 1 }, s, m, args, below, meth, c, cX0_build, 5, RX0, g, 1) (fun b => MQ below (kQ g ((fun r : kMem => (none, r)) b)) args s 0 0 (kZ g.2.2.1)) 0 0 (F_X0_build_18 N n M a0 x4) 18 [(0, .ref a0), (4, .int x4)] [] M := by
  intro n
  induction n with
  | zero => intro _ _ _; exact g_none
  | succ n ih =>
    intro M a0 x4
    unfold F_X0_build_18
    refine g_iload 20 1 hX dX0_build_18 rfl rfl ?_
    refine g_aload_n 21 0 hX dX0_build_20 rfl rfl ?_
    refine r_X0_9 24 hX dX0_build_21 rfl ?_
    refine g_alen13 25 hX dX0_build_24 rfl ?_
    refine g_icmp_ge 42 28 hX dX0_build_25 (by decide) rfl (fun _ => ?_) (fun _ => ?_)
    · exact g_vret hX hr rfl (Nat.le_refl 0) (Nat.le_refl 0) dX0_build_42
    · refine g_aload_n 29 0 hX dX0_build_28 rfl rfl ?_
      refine r_X0_9 32 hX dX0_build_29 rfl ?_
      refine g_iload 34 1 hX dX0_build_32 rfl rfl ?_
      refine g_iconst 35 hX (-1) dX0_build_34 rfl kc_i_m1 ?_
      refine g_iast 36 hX dX0_build_35 rfl ?_
      refine g_klM (fun M4 hM4 => ?_)
      refine g_kl (fun v5 hv5 => ?_)
      refine g_iinc 39 4 1 v5 [(4, .int v5), (0, .ref a0)] hX dX0_build_36 rfl rfl (by rw [hv5, kc_i_1]) (Nat.le_of_ble_eq_true rfl) rfl ?_
      refine g_goto 18 hX dX0_build_39 (by decide) ?_
      refine g_lv [1, 0] rfl ?_
      exact ih M4 a0 v5
set_option maxRecDepth 100000 in
set_option maxHeartbeats 4000000 in
theorem k_X0_build (l : Launch) (g : kG) (N : Nat) (M : kMem) (a0 : Nat) (x1 : Int32) (x2 : Int32) (x3 : Int32) : kMet l g yX0_build cX0_build 5 none 1 0 0 [.ref a0, .int x1, .int x2, .int x3] M (fun r : kMem => (none, r)) (F_X0_build N M a0 x1 x2 x3) := by
  refine k_of (lv := [(0, .ref a0), (1, .int x1), (2, .int x2), (3, .int x3)]) RX0 (by decide) rfl rfl (Nat.le_of_ble_eq_true rfl) ?_
  intro p e s m args below meth c hX hr _
  unfold F_X0_build
  refine g_aload_n 1 0 hX dX0_build_0 rfl rfl ?_
  refine g_iload_n 2 1 hX dX0_build_1 rfl rfl ?_
  refine p_X0_19 5 hX dX0_build_2 rfl ?_
  refine g_klM (fun M1 hM1 => ?_)
  refine g_aload_n 6 0 hX dX0_build_5 rfl rfl ?_
  refine g_iload_n 7 2 hX dX0_build_6 rfl rfl ?_
  refine p_X0_22 10 hX dX0_build_7 rfl ?_
  refine g_klM (fun M2 hM2 => ?_)
  refine g_aload_n 11 0 hX dX0_build_10 rfl rfl ?_
  refine g_iload_n 12 3 hX dX0_build_11 rfl rfl ?_
  refine p_X0_25 15 hX dX0_build_12 rfl ?_
  refine g_klM (fun M3 hM3 => ?_)
  refine g_iconst 16 hX 0 dX0_build_15 rfl kc_i_0 ?_
  refine g_istore 18 4 [(4, .int 0), (0, .ref a0), (1, .int x1), (2, .int x2), (3, .int x3)] hX dX0_build_16 rfl (Nat.le_of_ble_eq_true rfl) rfl ?_
  refine g_lv [1, 0] rfl ?_
  exact k_X0_build_18 hX hr N N M3 a0 0
set_option maxRecDepth 100000 in
set_option maxHeartbeats 4000000 in
theorem k_X0_hasSeat (l : Launch) (g : kG) (N : Nat) (M : kMem) (a0 : Nat) (x1 : Int32) : kMet l g yX0_hasSeat cX0_hasSeat 2 (some .boolean) 1 0 0 [.ref a0, .int x1] M (fun r : Int32 => (some (.int r), M)) (F_X0_hasSeat N M a0 x1) := by
  refine k_of (lv := [(0, .ref a0), (1, .int x1)]) RX0 (by decide) rfl rfl (Nat.le_of_ble_eq_true rfl) ?_
  intro p e s m args below meth c hX hr _
  unfold F_X0_hasSeat
  refine g_iload_n 1 1 hX dX0_hasSeat_0 rfl rfl ?_
  refine g_if_eq 25 4 hX dX0_hasSeat_1 (by decide) rfl (fun _ => ?_) (fun _ => ?_)
  · refine g_iconst 26 hX 0 dX0_hasSeat_25 rfl kc_i_0 ?_
    exact g_zretL hX hr rfl rfl (Nat.le_refl 0) (Nat.le_refl 0) dX0_hasSeat_26
  · refine g_iload_n 5 1 hX dX0_hasSeat_4 rfl rfl ?_
    refine g_aload_n 6 0 hX dX0_hasSeat_5 rfl rfl ?_
    refine r_X0_19 9 hX dX0_hasSeat_6 rfl ?_
    refine g_ineg 10 hX dX0_hasSeat_9 rfl ?_
    refine g_icmp_lt 25 13 hX dX0_hasSeat_10 (by decide) rfl (fun _ => ?_) (fun _ => ?_)
    · refine g_iconst 26 hX 0 dX0_hasSeat_25 rfl kc_i_0 ?_
      exact g_zretL hX hr rfl rfl (Nat.le_refl 0) (Nat.le_refl 0) dX0_hasSeat_26
    · refine g_iload_n 14 1 hX dX0_hasSeat_13 rfl rfl ?_
      refine g_aload_n 15 0 hX dX0_hasSeat_14 rfl rfl ?_
      refine r_X0_19 18 hX dX0_hasSeat_15 rfl ?_
      refine g_icmp_gt 25 21 hX dX0_hasSeat_18 (by decide) rfl (fun _ => ?_) (fun _ => ?_)
      · refine g_iconst 26 hX 0 dX0_hasSeat_25 rfl kc_i_0 ?_
        exact g_zretL hX hr rfl rfl (Nat.le_refl 0) (Nat.le_refl 0) dX0_hasSeat_26
      · refine g_iconst 22 hX 1 dX0_hasSeat_21 rfl kc_i_1 ?_
        refine g_goto 26 hX dX0_hasSeat_22 (by decide) ?_
        exact g_zretL hX hr rfl rfl (Nat.le_refl 0) (Nat.le_refl 0) dX0_hasSeat_26
set_option maxRecDepth 100000 in
set_option maxHeartbeats 4000000 in
theorem k_X0_ownerAt (l : Launch) (g : kG) (N : Nat) (M : kMem) (a0 : Nat) (x1 : Int32) : kMet l g yX0_ownerAt cX0_ownerAt 3 (some .int) 1 0 0 [.ref a0, .int x1] M (fun r : Int32 => (some (.int r), M)) (F_X0_ownerAt N M a0 x1) := by
  refine k_of (lv := [(0, .ref a0), (1, .int x1)]) RX0 (by decide) rfl rfl (Nat.le_of_ble_eq_true rfl) ?_
  intro p e s m args below meth c hX hr _
  unfold F_X0_ownerAt
  refine g_iload_n 1 1 hX dX0_ownerAt_0 rfl rfl ?_
  refine g_bipush 3 hX 6 dX0_ownerAt_1 rfl kc_b_6 ?_
  refine g_iadd 4 hX dX0_ownerAt_3 rfl ?_
  refine g_klI (fun v1 hv1 => ?_)
  refine g_istore_n 5 2 [(2, .int v1), (0, .ref a0), (1, .int x1)] hX dX0_ownerAt_4 rfl rfl (Nat.le_of_ble_eq_true rfl) rfl ?_
  refine g_iload_n 6 0 hX dX0_ownerAt_5 rfl rfl ?_
  refine g_if_lt 27 9 hX dX0_ownerAt_6 (by decide) rfl (fun _ => ?_) (fun _ => ?_)
  · refine g_iconst 28 hX (-1) dX0_ownerAt_27 rfl kc_i_m1 ?_
    exact g_iret hX hr rfl (Nat.le_refl 0) (Nat.le_refl 0) dX0_ownerAt_28
  · refine g_iload_n 10 0 hX dX0_ownerAt_9 rfl rfl ?_
    refine g_aload_n 11 1 hX dX0_ownerAt_10 rfl rfl ?_
    refine r_X0_9 14 hX dX0_ownerAt_11 rfl ?_
    refine g_alen13 15 hX dX0_ownerAt_14 rfl ?_
    refine g_icmp_ge 27 18 hX dX0_ownerAt_15 (by decide) rfl (fun _ => ?_) (fun _ => ?_)
    · refine g_iconst 28 hX (-1) dX0_ownerAt_27 rfl kc_i_m1 ?_
      exact g_iret hX hr rfl (Nat.le_refl 0) (Nat.le_refl 0) dX0_ownerAt_28
    · refine g_aload_n 19 1 hX dX0_ownerAt_18 rfl rfl ?_
      refine r_X0_9 22 hX dX0_ownerAt_19 rfl ?_
      refine g_iload_n 23 0 hX dX0_ownerAt_22 rfl rfl ?_
      refine g_iald 24 hX dX0_ownerAt_23 rfl ?_
      refine g_goto 28 hX dX0_ownerAt_24 (by decide) ?_
      exact g_iret hX hr rfl (Nat.le_refl 0) (Nat.le_refl 0) dX0_ownerAt_28
set_option maxRecDepth 100000 in
set_option maxHeartbeats 4000000 in
theorem k_X0_setOwner (l : Launch) (g : kG) (N : Nat) (M : kMem) (a0 : Nat) (x1 : Int32) (x2 : Int32) : kMet l g yX0_setOwner cX0_setOwner 4 none 1 0 0 [.ref a0, .int x1, .int x2] M (fun r : kMem => (none, r)) (F_X0_setOwner N M a0 x1 x2) := by
  refine k_of (lv := [(0, .ref a0), (1, .int x1), (2, .int x2)]) RX0 (by decide) rfl rfl (Nat.le_of_ble_eq_true rfl) ?_
  intro p e s m args below meth c hX hr _
  unfold F_X0_setOwner
  refine g_iload_n 1 1 hX dX0_setOwner_0 rfl rfl ?_
  refine g_bipush 3 hX 6 dX0_setOwner_1 rfl kc_b_6 ?_
  refine g_iadd 4 hX dX0_setOwner_3 rfl ?_
  refine g_klI (fun v1 hv1 => ?_)
  refine g_istore_n 5 3 [(3, .int v1), (0, .ref a0), (1, .int x1), (2, .int x2)] hX dX0_setOwner_4 rfl rfl (Nat.le_of_ble_eq_true rfl) rfl ?_
  refine g_iload_n 6 0 hX dX0_setOwner_5 rfl rfl ?_
  refine g_if_lt 25 9 hX dX0_setOwner_6 (by decide) rfl (fun _ => ?_) (fun _ => ?_)
  · exact g_vret hX hr rfl (Nat.le_refl 0) (Nat.le_refl 0) dX0_setOwner_25
  · refine g_iload_n 10 0 hX dX0_setOwner_9 rfl rfl ?_
    refine g_aload_n 11 1 hX dX0_setOwner_10 rfl rfl ?_
    refine r_X0_9 14 hX dX0_setOwner_11 rfl ?_
    refine g_alen13 15 hX dX0_setOwner_14 rfl ?_
    refine g_icmp_ge 25 18 hX dX0_setOwner_15 (by decide) rfl (fun _ => ?_) (fun _ => ?_)
    · exact g_vret hX hr rfl (Nat.le_refl 0) (Nat.le_refl 0) dX0_setOwner_25
    · refine g_aload_n 19 1 hX dX0_setOwner_18 rfl rfl ?_
      refine r_X0_9 22 hX dX0_setOwner_19 rfl ?_
      refine g_iload_n 23 0 hX dX0_setOwner_22 rfl rfl ?_
      refine g_iload_n 24 3 hX dX0_setOwner_23 rfl rfl ?_
      refine g_iast 25 hX dX0_setOwner_24 rfl ?_
      refine g_klM (fun M2 hM2 => ?_)
      exact g_vret hX hr rfl (Nat.le_refl 0) (Nat.le_refl 0) dX0_setOwner_25
set_option maxRecDepth 100000 in
set_option maxHeartbeats 4000000 in
theorem k_X0_isFree (l : Launch) (g : kG) (N : Nat) (M : kMem) (a0 : Nat) (x1 : Int32) : kMet l g yX0_isFree cX0_isFree 2 (some .boolean) 2 0 0 [.ref a0, .int x1] M (fun r : Int32 => (some (.int r), M)) (F_X0_isFree N M a0 x1) := by
  refine k_of (lv := [(0, .ref a0), (1, .int x1)]) RX0 (by decide) rfl rfl (Nat.le_of_ble_eq_true rfl) ?_
  intro p e s m args below meth c hX hr _
  unfold F_X0_isFree
  refine g_aload_n 1 0 hX dX0_isFree_0 rfl rfl ?_
  refine g_iload_n 2 1 hX dX0_isFree_1 rfl rfl ?_
  refine g_callV_ip 5 hX (k_X0_hasSeat l g N M a0 x1) lk_X0_hasSeat rfl (ci := 0) rfl (Nat.le_of_ble_eq_true rfl) q_586 q_588 (by omega) rfl (Nat.le_of_ble_eq_true rfl) (Nat.zero_le _) (Nat.zero_le _) dX0_isFree_2 rfl (fun r1 => ?_)
  refine g_if_eq 21 8 hX dX0_isFree_5 (by decide) rfl (fun _ => ?_) (fun _ => ?_)
  · refine g_iconst 22 hX 0 dX0_isFree_21 rfl kc_i_0 ?_
    exact g_zretL hX hr rfl rfl (Nat.le_refl 0) (Nat.le_refl 0) dX0_isFree_22
  · refine g_aload_n 9 0 hX dX0_isFree_8 rfl rfl ?_
    refine g_iload_n 10 1 hX dX0_isFree_9 rfl rfl ?_
    refine g_callV_ip 13 hX (k_X0_ownerAt l g N M a0 x1) lk_X0_ownerAt rfl (ci := 0) rfl (Nat.le_of_ble_eq_true rfl) q_590 q_592 (by omega) rfl (Nat.le_of_ble_eq_true rfl) (Nat.zero_le _) (Nat.zero_le _) dX0_isFree_10 rfl (fun r2 => ?_)
    refine g_iconst 14 hX (-1) dX0_isFree_13 rfl kc_i_m1 ?_
    refine g_icmp_ne 21 17 hX dX0_isFree_14 (by decide) rfl (fun _ => ?_) (fun _ => ?_)
    · refine g_iconst 22 hX 0 dX0_isFree_21 rfl kc_i_0 ?_
      exact g_zretL hX hr rfl rfl (Nat.le_refl 0) (Nat.le_refl 0) dX0_isFree_22
    · refine g_iconst 18 hX 1 dX0_isFree_17 rfl kc_i_1 ?_
      refine g_goto 22 hX dX0_isFree_18 (by decide) ?_
      exact g_zretL hX hr rfl rfl (Nat.le_refl 0) (Nat.le_refl 0) dX0_isFree_22
set_option maxRecDepth 100000 in
set_option maxHeartbeats 4000000 in
theorem k_X0_tipsUnder (l : Launch) (g : kG) (N : Nat) (M : kMem) (a0 : Nat) (x1 : Int32) : kMet l g yX0_tipsUnder cX0_tipsUnder 2 (some .boolean) 1 0 0 [.ref a0, .int x1] M (fun r : Int32 => (some (.int r), M)) (F_X0_tipsUnder N M a0 x1) := by
  refine k_of (lv := [(0, .ref a0), (1, .int x1)]) RX0 (by decide) rfl rfl (Nat.le_of_ble_eq_true rfl) ?_
  intro p e s m args below meth c hX hr _
  unfold F_X0_tipsUnder
  refine g_iload_n 1 1 hX dX0_tipsUnder_0 rfl rfl ?_
  refine g_mabs (y := 0) 4 hX q_1940 dX0_tipsUnder_1 rfl (Nat.le_of_ble_eq_true rfl) (by decide) (Nat.zero_le _) (Nat.zero_le _) ?_
  refine g_aload_n 5 0 hX dX0_tipsUnder_4 rfl rfl ?_
  refine r_X0_25 8 hX dX0_tipsUnder_5 rfl ?_
  refine g_icmp_le 15 11 hX dX0_tipsUnder_8 (by decide) rfl (fun _ => ?_) (fun _ => ?_)
  · refine g_iconst 16 hX 0 dX0_tipsUnder_15 rfl kc_i_0 ?_
    exact g_zretL hX hr rfl rfl (Nat.le_refl 0) (Nat.le_refl 0) dX0_tipsUnder_16
  · refine g_iconst 12 hX 1 dX0_tipsUnder_11 rfl kc_i_1 ?_
    refine g_goto 16 hX dX0_tipsUnder_12 (by decide) ?_
    exact g_zretL hX hr rfl rfl (Nat.le_refl 0) (Nat.le_refl 0) dX0_tipsUnder_16
set_option maxRecDepth 100000 in
set_option maxHeartbeats 4000000 in
theorem k_X0_tiltUnder (l : Launch) (g : kG) (N : Nat) (M : kMem) (a0 : Nat) (x1 : Int32) : kMet l g yX0_tiltUnder cX0_tiltUnder 2 (some .int) 1 0 0 [.ref a0, .int x1] M (fun r : Int32 => (some (.int r), M)) (F_X0_tiltUnder N M a0 x1) := by
  refine k_of (lv := [(0, .ref a0), (1, .int x1)]) RX0 (by decide) rfl rfl (Nat.le_of_ble_eq_true rfl) ?_
  intro p e s m args below meth c hX hr _
  unfold F_X0_tiltUnder
  refine g_aload_n 1 0 hX dX0_tiltUnder_0 rfl rfl ?_
  refine r_X0_22 4 hX dX0_tiltUnder_1 rfl ?_
  refine g_iconst 5 hX 1 dX0_tiltUnder_4 rfl kc_i_1 ?_
  refine g_icmp_ge 10 8 hX dX0_tiltUnder_5 (by decide) rfl (fun _ => ?_) (fun _ => ?_)
  · refine g_bipush 12 hX (-9) dX0_tiltUnder_10 rfl kc_b_m9 ?_
    refine g_bipush 14 hX 9 dX0_tiltUnder_12 rfl kc_b_9 ?_
    refine g_iload_n 15 1 hX dX0_tiltUnder_14 rfl rfl ?_
    refine g_aload_n 16 0 hX dX0_tiltUnder_15 rfl rfl ?_
    refine r_X0_22 19 hX dX0_tiltUnder_16 rfl ?_
    refine g_idiv 20 hX dX0_tiltUnder_19 rfl ?_
    refine g_mmin 23 hX q_1726 dX0_tiltUnder_20 rfl (Nat.le_of_ble_eq_true rfl) (by decide) (Nat.zero_le _) (Nat.zero_le _) ?_
    refine g_mmax 26 hX q_1727 dX0_tiltUnder_23 rfl (Nat.le_of_ble_eq_true rfl) (by decide) (Nat.zero_le _) (Nat.zero_le _) ?_
    exact g_iret hX hr rfl (Nat.le_refl 0) (Nat.le_refl 0) dX0_tiltUnder_26
  · refine g_iconst 9 hX 0 dX0_tiltUnder_8 rfl kc_i_0 ?_
    exact g_iret hX hr rfl (Nat.le_refl 0) (Nat.le_refl 0) dX0_tiltUnder_9
set_option maxRecDepth 100000 in
set_option maxHeartbeats 4000000 in
theorem k_X0_copyFrom (l : Launch) (g : kG) (N : Nat) (M : kMem) (a0 : Nat) (a1 : Nat) : kMet l g yX0_copyFrom cX0_copyFrom 2 none 1 0 0 [.ref a0, .ref a1] M (fun r : kMem => (none, r)) (F_X0_copyFrom N M a0 a1) := by
  refine k_of (lv := [(0, .ref a0), (1, .ref a1)]) RX0 (by decide) rfl rfl (Nat.le_of_ble_eq_true rfl) ?_
  intro p e s m args below meth c hX hr _
  unfold F_X0_copyFrom
  refine g_aload_n 1 0 hX dX0_copyFrom_0 rfl rfl ?_
  refine g_aload_n 2 1 hX dX0_copyFrom_1 rfl rfl ?_
  refine r_X0_19 5 hX dX0_copyFrom_2 rfl ?_
  refine p_X0_19 8 hX dX0_copyFrom_5 rfl ?_
  refine g_klM (fun M1 hM1 => ?_)
  refine g_aload_n 9 0 hX dX0_copyFrom_8 rfl rfl ?_
  refine g_aload_n 10 1 hX dX0_copyFrom_9 rfl rfl ?_
  refine r_X0_22 13 hX dX0_copyFrom_10 rfl ?_
  refine p_X0_22 16 hX dX0_copyFrom_13 rfl ?_
  refine g_klM (fun M2 hM2 => ?_)
  refine g_aload_n 17 0 hX dX0_copyFrom_16 rfl rfl ?_
  refine g_aload_n 18 1 hX dX0_copyFrom_17 rfl rfl ?_
  refine r_X0_25 21 hX dX0_copyFrom_18 rfl ?_
  refine p_X0_25 24 hX dX0_copyFrom_21 rfl ?_
  refine g_klM (fun M3 hM3 => ?_)
  refine g_aload_n 25 1 hX dX0_copyFrom_24 rfl rfl ?_
  refine r_X0_9 28 hX dX0_copyFrom_25 rfl ?_
  refine g_iconst 29 hX 0 dX0_copyFrom_28 rfl kc_i_0 ?_
  refine g_aload_n 30 0 hX dX0_copyFrom_29 rfl rfl ?_
  refine r_X0_9 33 hX dX0_copyFrom_30 rfl ?_
  refine g_iconst 34 hX 0 dX0_copyFrom_33 rfl kc_i_0 ?_
  refine g_aload_n 35 0 hX dX0_copyFrom_34 rfl rfl ?_
  refine r_X0_9 38 hX dX0_copyFrom_35 rfl ?_
  refine g_alen13 39 hX dX0_copyFrom_38 rfl ?_
  refine g_copy 42 hX q_615 dX0_copyFrom_39 rfl (Nat.le_of_ble_eq_true rfl) (by decide) ?_
  refine g_klM (fun M4 hM4 => ?_)
  exact g_vret hX hr rfl (Nat.le_refl 0) (Nat.le_refl 0) dX0_copyFrom_42
set_option maxRecDepth 100000 in
set_option maxHeartbeats 4000000 in
theorem k_X2_add_4 {p : Program} {l : Launch} {e : Env} {s : State} {m : MethodId} {args : Array Value} {below : List Frame} {meth : Method} {c : Code} {g : kG} (hX : Cok (p, l, e, { frames := 1, cells := 0, slots := 0, locals := 60 * 1 }, s, m, args, below, meth, c, cX2_add, 5, RX2, g, 1)) (hr : meth.sig.returnType = none) (N : Nat) : ∀ (n : Nat) (M : kMem) (a0 : Nat) (x1 : Int32) (x2 : Int32) (x3 : Int32) (x4 : Int32), GG (p, l, e, { frames := 1, cells := 0, slots := 0, locals := 60 * 1 }, s, m, args, below, meth, c, cX2_add, 5, RX2, g, 1) (fun b => MQ below (kQ g ((fun r : kMem => (none, r)) b)) args s 0 0 (kZ g.2.2.1)) 0 0 (F_X2_add_4 N n M a0 x1 x2 x3 x4) 4 [(0, .ref a0), (1, .int x1), (2, .int x2), (3, .int x3), (4, .int x4)] [] M := by
  intro n
  induction n with
  | zero => intro _ _ _ _ _ _; exact g_none
  | succ n ih =>
    intro M a0 x1 x2 x3 x4
    unfold F_X2_add_4
    refine g_iload 6 4 hX dX2_add_4 rfl rfl ?_
    refine g_if_le 63 9 hX dX2_add_6 (by decide) rfl (fun _ => ?_) (fun _ => ?_)
    · refine g_aload_n 64 0 hX dX2_add_63 rfl rfl ?_
      refine r_X2_9 67 hX dX2_add_64 rfl ?_
      refine g_iconst 68 hX 0 dX2_add_67 rfl kc_i_0 ?_
      refine g_iload_n 69 1 hX dX2_add_68 rfl rfl ?_
      refine g_iast 70 hX dX2_add_69 rfl ?_
      refine g_klM (fun M1 hM1 => ?_)
      refine g_aload_n 71 0 hX dX2_add_70 rfl rfl ?_
      refine r_X2_15 74 hX dX2_add_71 rfl ?_
      refine g_iconst 75 hX 0 dX2_add_74 rfl kc_i_0 ?_
      refine g_iload_n 76 2 hX dX2_add_75 rfl rfl ?_
      refine g_iast 77 hX dX2_add_76 rfl ?_
      refine g_klM (fun M2 hM2 => ?_)
      refine g_aload_n 78 0 hX dX2_add_77 rfl rfl ?_
      refine r_X2_18 81 hX dX2_add_78 rfl ?_
      refine g_iconst 82 hX 0 dX2_add_81 rfl kc_i_0 ?_
      refine g_iload_n 83 3 hX dX2_add_82 rfl rfl ?_
      refine g_iast 84 hX dX2_add_83 rfl ?_
      refine g_klM (fun M3 hM3 => ?_)
      refine g_aload_n 85 0 hX dX2_add_84 rfl rfl ?_
      refine g_aload_n 86 0 hX dX2_add_85 rfl rfl ?_
      refine r_X2_21 89 hX dX2_add_86 rfl ?_
      refine g_iconst 90 hX 1 dX2_add_89 rfl kc_i_1 ?_
      refine g_iadd 91 hX dX2_add_90 rfl ?_
      refine g_bipush 93 hX 12 dX2_add_91 rfl kc_b_12 ?_
      refine g_mmin 96 hX q_2155 dX2_add_93 rfl (Nat.le_of_ble_eq_true rfl) (by decide) (Nat.zero_le _) (Nat.zero_le _) ?_
      refine p_X2_21 99 hX dX2_add_96 rfl ?_
      refine g_klM (fun M4 hM4 => ?_)
      exact g_vret hX hr rfl (Nat.le_refl 0) (Nat.le_refl 0) dX2_add_99
    · refine g_aload_n 10 0 hX dX2_add_9 rfl rfl ?_
      refine r_X2_9 13 hX dX2_add_10 rfl ?_
      refine g_iload 15 4 hX dX2_add_13 rfl rfl ?_
      refine g_aload_n 16 0 hX dX2_add_15 rfl rfl ?_
      refine r_X2_9 19 hX dX2_add_16 rfl ?_
      refine g_iload 21 4 hX dX2_add_19 rfl rfl ?_
      refine g_iconst 22 hX 1 dX2_add_21 rfl kc_i_1 ?_
      refine g_isub 23 hX dX2_add_22 rfl ?_
      refine g_iald 24 hX dX2_add_23 rfl ?_
      refine g_iast 25 hX dX2_add_24 rfl ?_
      refine g_klM (fun M5 hM5 => ?_)
      refine g_aload_n 26 0 hX dX2_add_25 rfl rfl ?_
      refine r_X2_15 29 hX dX2_add_26 rfl ?_
      refine g_iload 31 4 hX dX2_add_29 rfl rfl ?_
      refine g_aload_n 32 0 hX dX2_add_31 rfl rfl ?_
      refine r_X2_15 35 hX dX2_add_32 rfl ?_
      refine g_iload 37 4 hX dX2_add_35 rfl rfl ?_
      refine g_iconst 38 hX 1 dX2_add_37 rfl kc_i_1 ?_
      refine g_isub 39 hX dX2_add_38 rfl ?_
      refine g_iald 40 hX dX2_add_39 rfl ?_
      refine g_iast 41 hX dX2_add_40 rfl ?_
      refine g_klM (fun M6 hM6 => ?_)
      refine g_aload_n 42 0 hX dX2_add_41 rfl rfl ?_
      refine r_X2_18 45 hX dX2_add_42 rfl ?_
      refine g_iload 47 4 hX dX2_add_45 rfl rfl ?_
      refine g_aload_n 48 0 hX dX2_add_47 rfl rfl ?_
      refine r_X2_18 51 hX dX2_add_48 rfl ?_
      refine g_iload 53 4 hX dX2_add_51 rfl rfl ?_
      refine g_iconst 54 hX 1 dX2_add_53 rfl kc_i_1 ?_
      refine g_isub 55 hX dX2_add_54 rfl ?_
      refine g_iald 56 hX dX2_add_55 rfl ?_
      refine g_iast 57 hX dX2_add_56 rfl ?_
      refine g_klM (fun M7 hM7 => ?_)
      refine g_kl (fun v8 hv8 => ?_)
      refine g_iinc 60 4 4 v8 [(4, .int v8), (0, .ref a0), (1, .int x1), (2, .int x2), (3, .int x3)] hX dX2_add_57 rfl rfl (by rw [hv8, kc_i_m1]) (Nat.le_of_ble_eq_true rfl) rfl ?_
      refine g_goto 4 hX dX2_add_60 (by decide) ?_
      refine g_lv [1, 2, 3, 4, 0] rfl ?_
      exact ih M7 a0 x1 x2 x3 v8
set_option maxRecDepth 100000 in
set_option maxHeartbeats 4000000 in
theorem k_X2_add (l : Launch) (g : kG) (N : Nat) (M : kMem) (a0 : Nat) (x1 : Int32) (x2 : Int32) (x3 : Int32) : kMet l g yX2_add cX2_add 5 none 1 0 0 [.ref a0, .int x1, .int x2, .int x3] M (fun r : kMem => (none, r)) (F_X2_add N M a0 x1 x2 x3) := by
  refine k_of (lv := [(0, .ref a0), (1, .int x1), (2, .int x2), (3, .int x3)]) RX2 (by decide) rfl rfl (Nat.le_of_ble_eq_true rfl) ?_
  intro p e s m args below meth c hX hr _
  unfold F_X2_add
  refine g_bipush 2 hX 11 dX2_add_0 rfl kc_b_11 ?_
  refine g_istore 4 4 [(4, .int 11), (0, .ref a0), (1, .int x1), (2, .int x2), (3, .int x3)] hX dX2_add_2 rfl (Nat.le_of_ble_eq_true rfl) rfl ?_
  refine g_lv [1, 2, 3, 4, 0] rfl ?_
  exact k_X2_add_4 hX hr N N M a0 x1 x2 x3 11
set_option maxRecDepth 100000 in
set_option maxHeartbeats 4000000 in
theorem k_X2_copyFrom (l : Launch) (g : kG) (N : Nat) (M : kMem) (a0 : Nat) (a1 : Nat) : kMet l g yX2_copyFrom cX2_copyFrom 2 none 1 0 0 [.ref a0, .ref a1] M (fun r : kMem => (none, r)) (F_X2_copyFrom N M a0 a1) := by
  refine k_of (lv := [(0, .ref a0), (1, .ref a1)]) RX2 (by decide) rfl rfl (Nat.le_of_ble_eq_true rfl) ?_
  intro p e s m args below meth c hX hr _
  unfold F_X2_copyFrom
  refine g_aload_n 1 0 hX dX2_copyFrom_0 rfl rfl ?_
  refine g_aload_n 2 1 hX dX2_copyFrom_1 rfl rfl ?_
  refine r_X2_21 5 hX dX2_copyFrom_2 rfl ?_
  refine p_X2_21 8 hX dX2_copyFrom_5 rfl ?_
  refine g_klM (fun M1 hM1 => ?_)
  refine g_aload_n 9 1 hX dX2_copyFrom_8 rfl rfl ?_
  refine r_X2_9 12 hX dX2_copyFrom_9 rfl ?_
  refine g_iconst 13 hX 0 dX2_copyFrom_12 rfl kc_i_0 ?_
  refine g_aload_n 14 0 hX dX2_copyFrom_13 rfl rfl ?_
  refine r_X2_9 17 hX dX2_copyFrom_14 rfl ?_
  refine g_iconst 18 hX 0 dX2_copyFrom_17 rfl kc_i_0 ?_
  refine g_aload_n 19 0 hX dX2_copyFrom_18 rfl rfl ?_
  refine r_X2_9 22 hX dX2_copyFrom_19 rfl ?_
  refine g_alen13 23 hX dX2_copyFrom_22 rfl ?_
  refine g_copy 26 hX q_626 dX2_copyFrom_23 rfl (Nat.le_of_ble_eq_true rfl) (by decide) ?_
  refine g_klM (fun M2 hM2 => ?_)
  refine g_aload_n 27 1 hX dX2_copyFrom_26 rfl rfl ?_
  refine r_X2_15 30 hX dX2_copyFrom_27 rfl ?_
  refine g_iconst 31 hX 0 dX2_copyFrom_30 rfl kc_i_0 ?_
  refine g_aload_n 32 0 hX dX2_copyFrom_31 rfl rfl ?_
  refine r_X2_15 35 hX dX2_copyFrom_32 rfl ?_
  refine g_iconst 36 hX 0 dX2_copyFrom_35 rfl kc_i_0 ?_
  refine g_aload_n 37 0 hX dX2_copyFrom_36 rfl rfl ?_
  refine r_X2_15 40 hX dX2_copyFrom_37 rfl ?_
  refine g_alen13 41 hX dX2_copyFrom_40 rfl ?_
  refine g_copy 44 hX q_626 dX2_copyFrom_41 rfl (Nat.le_of_ble_eq_true rfl) (by decide) ?_
  refine g_klM (fun M3 hM3 => ?_)
  refine g_aload_n 45 1 hX dX2_copyFrom_44 rfl rfl ?_
  refine r_X2_18 48 hX dX2_copyFrom_45 rfl ?_
  refine g_iconst 49 hX 0 dX2_copyFrom_48 rfl kc_i_0 ?_
  refine g_aload_n 50 0 hX dX2_copyFrom_49 rfl rfl ?_
  refine r_X2_18 53 hX dX2_copyFrom_50 rfl ?_
  refine g_iconst 54 hX 0 dX2_copyFrom_53 rfl kc_i_0 ?_
  refine g_aload_n 55 0 hX dX2_copyFrom_54 rfl rfl ?_
  refine r_X2_18 58 hX dX2_copyFrom_55 rfl ?_
  refine g_alen13 59 hX dX2_copyFrom_58 rfl ?_
  refine g_copy 62 hX q_626 dX2_copyFrom_59 rfl (Nat.le_of_ble_eq_true rfl) (by decide) ?_
  refine g_klM (fun M4 hM4 => ?_)
  exact g_vret hX hr rfl (Nat.le_refl 0) (Nat.le_refl 0) dX2_copyFrom_62
set_option maxRecDepth 100000 in
set_option maxHeartbeats 4000000 in
theorem k_X10_isSeated (l : Launch) (g : kG) (N : Nat) (M : kMem) (a0 : Nat) : kMet l g yX10_isSeated cX10_isSeated 1 (some .boolean) 1 0 0 [.ref a0] M (fun r : Int32 => (some (.int r), M)) (F_X10_isSeated N M a0) := by
  refine k_of (lv := [(0, .ref a0)]) RX10 (by decide) rfl rfl (Nat.le_of_ble_eq_true rfl) ?_
  intro p e s m args below meth c hX hr _
  unfold F_X10_isSeated
  refine g_aload_n 1 0 hX dX10_isSeated_0 rfl rfl ?_
  refine r_X10_15 4 hX dX10_isSeated_1 rfl ?_
  refine g_iconst 5 hX (-1) dX10_isSeated_4 rfl kc_i_m1 ?_
  refine g_icmp_eq 12 8 hX dX10_isSeated_5 (by decide) rfl (fun _ => ?_) (fun _ => ?_)
  · refine g_iconst 13 hX 0 dX10_isSeated_12 rfl kc_i_0 ?_
    exact g_zretL hX hr rfl rfl (Nat.le_refl 0) (Nat.le_refl 0) dX10_isSeated_13
  · refine g_iconst 9 hX 1 dX10_isSeated_8 rfl kc_i_1 ?_
    refine g_goto 13 hX dX10_isSeated_9 (by decide) ?_
    exact g_zretL hX hr rfl rfl (Nat.le_refl 0) (Nat.le_refl 0) dX10_isSeated_13
set_option maxRecDepth 100000 in
set_option maxHeartbeats 4000000 in
theorem k_X10_copyFrom (l : Launch) (g : kG) (N : Nat) (M : kMem) (a0 : Nat) (a1 : Nat) : kMet l g yX10_copyFrom cX10_copyFrom 2 none 1 0 0 [.ref a0, .ref a1] M (fun r : kMem => (none, r)) (F_X10_copyFrom N M a0 a1) := by
  refine k_of (lv := [(0, .ref a0), (1, .ref a1)]) RX10 (by decide) rfl rfl (Nat.le_of_ble_eq_true rfl) ?_
  intro p e s m args below meth c hX hr _
  unfold F_X10_copyFrom
  refine g_aload_n 1 0 hX dX10_copyFrom_0 rfl rfl ?_
  refine g_aload_n 2 1 hX dX10_copyFrom_1 rfl rfl ?_
  refine r_X10_18 5 hX dX10_copyFrom_2 rfl ?_
  refine p_X10_18 8 hX dX10_copyFrom_5 rfl ?_
  refine g_klM (fun M1 hM1 => ?_)
  refine g_aload_n 9 0 hX dX10_copyFrom_8 rfl rfl ?_
  refine g_aload_n 10 1 hX dX10_copyFrom_9 rfl rfl ?_
  refine r_X10_22 13 hX dX10_copyFrom_10 rfl ?_
  refine p_X10_22 16 hX dX10_copyFrom_13 rfl ?_
  refine g_klM (fun M2 hM2 => ?_)
  refine g_aload_n 17 0 hX dX10_copyFrom_16 rfl rfl ?_
  refine g_aload_n 18 1 hX dX10_copyFrom_17 rfl rfl ?_
  refine r_X10_25 21 hX dX10_copyFrom_18 rfl ?_
  refine p_X10_25 24 hX dX10_copyFrom_21 rfl ?_
  refine g_klM (fun M3 hM3 => ?_)
  refine g_aload_n 25 0 hX dX10_copyFrom_24 rfl rfl ?_
  refine g_aload_n 26 1 hX dX10_copyFrom_25 rfl rfl ?_
  refine r_X10_28 29 hX dX10_copyFrom_26 rfl ?_
  refine p_X10_28 32 hX dX10_copyFrom_29 rfl ?_
  refine g_klM (fun M4 hM4 => ?_)
  refine g_aload_n 33 0 hX dX10_copyFrom_32 rfl rfl ?_
  refine g_aload_n 34 1 hX dX10_copyFrom_33 rfl rfl ?_
  refine r_X10_31 37 hX dX10_copyFrom_34 rfl ?_
  refine p_X10_31 40 hX dX10_copyFrom_37 rfl ?_
  refine g_klM (fun M5 hM5 => ?_)
  refine g_aload_n 41 0 hX dX10_copyFrom_40 rfl rfl ?_
  refine g_aload_n 42 1 hX dX10_copyFrom_41 rfl rfl ?_
  refine r_X10_15 45 hX dX10_copyFrom_42 rfl ?_
  refine p_X10_15 48 hX dX10_copyFrom_45 rfl ?_
  refine g_klM (fun M6 hM6 => ?_)
  refine g_aload_n 49 0 hX dX10_copyFrom_48 rfl rfl ?_
  refine g_aload_n 50 1 hX dX10_copyFrom_49 rfl rfl ?_
  refine r_X10_35 53 hX dX10_copyFrom_50 rfl ?_
  refine p_X10_35 56 hX dX10_copyFrom_53 rfl ?_
  refine g_klM (fun M7 hM7 => ?_)
  exact g_vret hX hr rfl (Nat.le_refl 0) (Nat.le_refl 0) dX10_copyFrom_56
set_option maxRecDepth 100000 in
set_option maxHeartbeats 4000000 in
theorem k_X8_byteAt (l : Launch) (g : kG) (N : Nat) (M : kMem) (a0 : Nat) (x1 : Int32) : kMet l g yX8_byteAt cX8_byteAt 2 (some .int) 1 0 0 [.ref a0, .int x1] M (fun r : Int32 => (some (.int r), M)) (F_X8_byteAt N M a0 x1) := by
  refine k_of (lv := [(0, .ref a0), (1, .int x1)]) RX8 (by decide) rfl rfl (Nat.le_of_ble_eq_true rfl) ?_
  intro p e s m args below meth c hX hr _
  unfold F_X8_byteAt
  refine g_iload_n 1 1 hX dX8_byteAt_0 rfl rfl ?_
  refine g_if_lt 30 4 hX dX8_byteAt_1 (by decide) rfl (fun _ => ?_) (fun _ => ?_)
  · refine g_iconst 31 hX (-1) dX8_byteAt_30 rfl kc_i_m1 ?_
    exact g_iret hX hr rfl (Nat.le_refl 0) (Nat.le_refl 0) dX8_byteAt_31
  · refine g_iload_n 5 1 hX dX8_byteAt_4 rfl rfl ?_
    refine g_aload_n 6 0 hX dX8_byteAt_5 rfl rfl ?_
    refine r_X8_15 9 hX dX8_byteAt_6 rfl ?_
    refine g_icmp_ge 30 12 hX dX8_byteAt_9 (by decide) rfl (fun _ => ?_) (fun _ => ?_)
    · refine g_iconst 31 hX (-1) dX8_byteAt_30 rfl kc_i_m1 ?_
      exact g_iret hX hr rfl (Nat.le_refl 0) (Nat.le_refl 0) dX8_byteAt_31
    · refine g_iload_n 13 1 hX dX8_byteAt_12 rfl rfl ?_
      refine g_aload_n 14 0 hX dX8_byteAt_13 rfl rfl ?_
      refine r_X8_9 17 hX dX8_byteAt_14 rfl ?_
      refine g_alen13 18 hX dX8_byteAt_17 rfl ?_
      refine g_icmp_ge 30 21 hX dX8_byteAt_18 (by decide) rfl (fun _ => ?_) (fun _ => ?_)
      · refine g_iconst 31 hX (-1) dX8_byteAt_30 rfl kc_i_m1 ?_
        exact g_iret hX hr rfl (Nat.le_refl 0) (Nat.le_refl 0) dX8_byteAt_31
      · refine g_aload_n 22 0 hX dX8_byteAt_21 rfl rfl ?_
        refine r_X8_9 25 hX dX8_byteAt_22 rfl ?_
        refine g_iload_n 26 1 hX dX8_byteAt_25 rfl rfl ?_
        refine g_iald 27 hX dX8_byteAt_26 rfl ?_
        refine g_goto 31 hX dX8_byteAt_27 (by decide) ?_
        exact g_iret hX hr rfl (Nat.le_refl 0) (Nat.le_refl 0) dX8_byteAt_31
set_option maxRecDepth 100000 in
set_option maxHeartbeats 4000000 in
theorem k_X8_add (l : Launch) (g : kG) (N : Nat) (M : kMem) (a0 : Nat) (x1 : Int32) : kMet l g yX8_add cX8_add 2 none 1 0 0 [.ref a0, .int x1] M (fun r : kMem => (none, r)) (F_X8_add N M a0 x1) := by
  refine k_of (lv := [(0, .ref a0), (1, .int x1)]) RX8 (by decide) rfl rfl (Nat.le_of_ble_eq_true rfl) ?_
  intro p e s m args below meth c hX hr _
  unfold F_X8_add
  refine g_aload_n 1 0 hX dX8_add_0 rfl rfl ?_
  refine r_X8_15 4 hX dX8_add_1 rfl ?_
  refine g_if_lt 39 7 hX dX8_add_4 (by decide) rfl (fun _ => ?_) (fun _ => ?_)
  · exact g_vret hX hr rfl (Nat.le_refl 0) (Nat.le_refl 0) dX8_add_39
  · refine g_aload_n 8 0 hX dX8_add_7 rfl rfl ?_
    refine r_X8_15 11 hX dX8_add_8 rfl ?_
    refine g_aload_n 12 0 hX dX8_add_11 rfl rfl ?_
    refine r_X8_9 15 hX dX8_add_12 rfl ?_
    refine g_alen13 16 hX dX8_add_15 rfl ?_
    refine g_icmp_ge 39 19 hX dX8_add_16 (by decide) rfl (fun _ => ?_) (fun _ => ?_)
    · exact g_vret hX hr rfl (Nat.le_refl 0) (Nat.le_refl 0) dX8_add_39
    · refine g_aload_n 20 0 hX dX8_add_19 rfl rfl ?_
      refine r_X8_9 23 hX dX8_add_20 rfl ?_
      refine g_aload_n 24 0 hX dX8_add_23 rfl rfl ?_
      refine r_X8_15 27 hX dX8_add_24 rfl ?_
      refine g_iload_n 28 1 hX dX8_add_27 rfl rfl ?_
      refine g_iast 29 hX dX8_add_28 rfl ?_
      refine g_klM (fun M1 hM1 => ?_)
      refine g_aload_n 30 0 hX dX8_add_29 rfl rfl ?_
      refine g_dup 31 hX dX8_add_30 rfl rfl ?_
      refine r_X8_15 34 hX dX8_add_31 rfl ?_
      refine g_iconst 35 hX 1 dX8_add_34 rfl kc_i_1 ?_
      refine g_iadd 36 hX dX8_add_35 rfl ?_
      refine p_X8_15 39 hX dX8_add_36 rfl ?_
      refine g_klM (fun M2 hM2 => ?_)
      exact g_vret hX hr rfl (Nat.le_refl 0) (Nat.le_refl 0) dX8_add_39
set_option maxRecDepth 100000 in
set_option maxHeartbeats 4000000 in
theorem k_X8_addBytesOf_3 {p : Program} {l : Launch} {e : Env} {s : State} {m : MethodId} {args : Array Value} {below : List Frame} {meth : Method} {c : Code} {g : kG} (hX : Cok (p, l, e, { frames := 2, cells := 0, slots := 0, locals := 60 * 2 }, s, m, args, below, meth, c, cX8_addBytesOf, 4, RX8, g, 2)) (hr : meth.sig.returnType = none) (N : Nat) : ∀ (n : Nat) (M : kMem) (a0 : Nat) (x1 : Int32) (x2 : Int32), GG (p, l, e, { frames := 2, cells := 0, slots := 0, locals := 60 * 2 }, s, m, args, below, meth, c, cX8_addBytesOf, 4, RX8, g, 2) (fun b => MQ below (kQ g ((fun r : kMem => (none, r)) b)) args s 0 0 (kZ g.2.2.1)) 0 0 (F_X8_addBytesOf_3 N n M a0 x1 x2) 3 [(0, .ref a0), (1, .int x1), (2, .int x2)] [] M := by
  intro n
  induction n with
  | zero => intro _ _ _ _; exact g_none
  | succ n ih =>
    intro M a0 x1 x2
    unfold F_X8_addBytesOf_3
    refine g_iload_n 4 2 hX dX8_addBytesOf_3 rfl rfl ?_
    refine g_if_lt 30 7 hX dX8_addBytesOf_4 (by decide) rfl (fun _ => ?_) (fun _ => ?_)
    · exact g_vret hX hr rfl (Nat.le_refl 0) (Nat.le_refl 0) dX8_addBytesOf_30
    · refine g_iload_n 8 1 hX dX8_addBytesOf_7 rfl rfl ?_
      refine g_iload_n 9 2 hX dX8_addBytesOf_8 rfl rfl ?_
      refine g_iushr 10 hX ((x1.toUInt32 >>> (x2.toUInt32 &&& Int32.toUInt32 31)).toInt32) dX8_addBytesOf_9 rfl rfl ?_
      refine g_sipush 13 hX 255 dX8_addBytesOf_10 rfl kc_s_255 ?_
      refine g_iand 14 hX dX8_addBytesOf_13 rfl ?_
      refine g_klI (fun v1 hv1 => ?_)
      refine g_istore_n 15 3 [(3, .int v1), (0, .ref a0), (1, .int x1), (2, .int x2)] hX dX8_addBytesOf_14 rfl rfl (Nat.le_of_ble_eq_true rfl) rfl ?_
      refine g_iload_n 16 0 hX dX8_addBytesOf_15 rfl rfl ?_
      refine g_if_eq 24 19 hX dX8_addBytesOf_16 (by decide) rfl (fun _ => ?_) (fun _ => ?_)
      · refine g_kl (fun v2 hv2 => ?_)
        refine g_iinc 27 2 3 v2 [(2, .int v2), (3, .int v1), (0, .ref a0), (1, .int x1)] hX dX8_addBytesOf_24 rfl rfl (by rw [hv2, kc_i_m8]) (Nat.le_of_ble_eq_true rfl) rfl ?_
        refine g_goto 3 hX dX8_addBytesOf_27 (by decide) ?_
        refine g_lv [2, 3, 0] rfl ?_
        exact ih M a0 x1 v2
      · refine g_aload_n 20 1 hX dX8_addBytesOf_19 rfl rfl ?_
        refine g_iload_n 21 0 hX dX8_addBytesOf_20 rfl rfl ?_
        refine g_callV_v 24 hX (k_X8_add l g N M a0 v1) lk_X8_add rfl (ci := 8) rfl (Nat.le_of_ble_eq_true rfl) q_423 q_425 (by omega) rfl (Nat.le_of_ble_eq_true rfl) (Nat.zero_le _) (Nat.zero_le _) dX8_addBytesOf_21 rfl (fun M3 => ?_)
        refine g_kl (fun v4 hv4 => ?_)
        refine g_iinc 27 2 3 v4 [(2, .int v4), (3, .int v1), (0, .ref a0), (1, .int x1)] hX dX8_addBytesOf_24 rfl rfl (by rw [hv4, kc_i_m8]) (Nat.le_of_ble_eq_true rfl) rfl ?_
        refine g_goto 3 hX dX8_addBytesOf_27 (by decide) ?_
        refine g_lv [2, 3, 0] rfl ?_
        exact ih M3 a0 x1 v4
set_option maxRecDepth 100000 in
set_option maxHeartbeats 4000000 in
theorem k_X8_addBytesOf (l : Launch) (g : kG) (N : Nat) (M : kMem) (a0 : Nat) (x1 : Int32) : kMet l g yX8_addBytesOf cX8_addBytesOf 4 none 2 0 0 [.ref a0, .int x1] M (fun r : kMem => (none, r)) (F_X8_addBytesOf N M a0 x1) := by
  refine k_of (lv := [(0, .ref a0), (1, .int x1)]) RX8 (by decide) rfl rfl (Nat.le_of_ble_eq_true rfl) ?_
  intro p e s m args below meth c hX hr _
  unfold F_X8_addBytesOf
  refine g_bipush 2 hX 24 dX8_addBytesOf_0 rfl kc_b_24 ?_
  refine g_istore_n 3 2 [(2, .int 24), (0, .ref a0), (1, .int x1)] hX dX8_addBytesOf_2 rfl rfl (Nat.le_of_ble_eq_true rfl) rfl ?_
  refine g_lv [1, 2, 0] rfl ?_
  exact k_X8_addBytesOf_3 hX hr N N M a0 x1 24
set_option maxRecDepth 100000 in
set_option maxHeartbeats 4000000 in
theorem k_X11_isLetter (l : Launch) (g : kG) (N : Nat) (M : kMem) (x0 : Int32) : kMet l g yX11_isLetter cX11_isLetter 1 (some .boolean) 1 0 0 [.int x0] M (fun r : Int32 => (some (.int r), M)) (F_X11_isLetter N M x0) := by
  refine k_of (lv := [(0, .int x0)]) RX11 (by decide) rfl rfl (Nat.le_of_ble_eq_true rfl) ?_
  intro p e s m args below meth c hX hr _
  unfold F_X11_isLetter
  refine g_iload_n 1 0 hX dX11_isLetter_0 rfl rfl ?_
  refine g_bipush 3 hX 97 dX11_isLetter_1 rfl kc_b_97 ?_
  refine g_icmp_lt 16 6 hX dX11_isLetter_3 (by decide) rfl (fun _ => ?_) (fun _ => ?_)
  · refine g_iconst 17 hX 0 dX11_isLetter_16 rfl kc_i_0 ?_
    exact g_zretL hX hr rfl rfl (Nat.le_refl 0) (Nat.le_refl 0) dX11_isLetter_17
  · refine g_iload_n 7 0 hX dX11_isLetter_6 rfl rfl ?_
    refine g_bipush 9 hX 122 dX11_isLetter_7 rfl kc_b_122 ?_
    refine g_icmp_gt 16 12 hX dX11_isLetter_9 (by decide) rfl (fun _ => ?_) (fun _ => ?_)
    · refine g_iconst 17 hX 0 dX11_isLetter_16 rfl kc_i_0 ?_
      exact g_zretL hX hr rfl rfl (Nat.le_refl 0) (Nat.le_refl 0) dX11_isLetter_17
    · refine g_iconst 13 hX 1 dX11_isLetter_12 rfl kc_i_1 ?_
      refine g_goto 17 hX dX11_isLetter_13 (by decide) ?_
      exact g_zretL hX hr rfl rfl (Nat.le_refl 0) (Nat.le_refl 0) dX11_isLetter_17
set_option maxRecDepth 100000 in
set_option maxHeartbeats 4000000 in
theorem k_X8_nameBetween_17 {p : Program} {l : Launch} {e : Env} {s : State} {m : MethodId} {args : Array Value} {below : List Frame} {meth : Method} {c : Code} {g : kG} (hX : Cok (p, l, e, { frames := 2, cells := 0, slots := 0, locals := 60 * 2 }, s, m, args, below, meth, c, cX8_nameBetween, 7, RX8, g, 2)) (hr : meth.sig.returnType = (some .long)) (N : Nat) (M : kMem) : ∀ (n : Nat) (a0 : Nat) (x1 : Int32) (x3 : Int64) (x5 : Int32), GG (p, l, e, { frames := 2, cells := 0, slots := 0, locals := 60 * 2 }, s, m, args, below, meth, c, cX8_nameBetween, 7, RX8, g, 2) (fun b => MQ below (kQ g ((fun r : Int64 => (some (.long r), M)) b)) args s 0 0 (kZ g.2.2.1)) 0 0 (F_X8_nameBetween_17 N M n a0 x1 x3 x5) 17 [(0, .ref a0), (1, .int x1), (3, .long x3), (5, .int x5)] [] M := by
  intro n
  induction n with
  | zero => intro _ _ _ _; exact g_none
  | succ n ih =>
    intro a0 x1 x3 x5
    unfold F_X8_nameBetween_17
    refine g_iload 19 3 hX dX8_nameBetween_17 rfl rfl ?_
    refine g_iload_n 20 1 hX dX8_nameBetween_19 rfl rfl ?_
    refine g_icmp_lt 56 23 hX dX8_nameBetween_20 (by decide) rfl (fun _ => ?_) (fun _ => ?_)
    · refine g_lload_n 57 2 hX dX8_nameBetween_56 rfl rfl ?_
      exact g_lret hX hr rfl (Nat.le_refl 0) (Nat.le_refl 0) dX8_nameBetween_57
    · refine g_aload_n 24 0 hX dX8_nameBetween_23 rfl rfl ?_
      refine g_iload 26 3 hX dX8_nameBetween_24 rfl rfl ?_
      refine g_callV_ip 29 hX (k_X8_byteAt l g N M a0 x5) lk_X8_byteAt rfl (ci := 8) rfl (Nat.le_of_ble_eq_true rfl) q_550 q_439 (by omega) rfl (Nat.le_of_ble_eq_true rfl) (Nat.zero_le _) (Nat.zero_le _) dX8_nameBetween_26 rfl (fun r2 => ?_)
      refine g_istore 31 6 [(6, .int r2), (0, .ref a0), (1, .int x1), (3, .long x3), (5, .int x5)] hX dX8_nameBetween_29 rfl (Nat.le_of_ble_eq_true rfl) rfl ?_
      refine g_iload 33 0 hX dX8_nameBetween_31 rfl rfl ?_
      refine g_callN_ip 36 hX (k_X11_isLetter l g N M r2) lk_X11_isLetter q_551 (by omega) rfl (Nat.le_of_ble_eq_true rfl) (Nat.zero_le _) (Nat.zero_le _) dX8_nameBetween_33 rfl (fun r3 => ?_)
      refine g_if_ne 41 39 hX dX8_nameBetween_36 (by decide) rfl (fun _ => ?_) (fun _ => ?_)
      · refine g_lload_n 42 3 hX dX8_nameBetween_41 rfl rfl ?_
        refine g_bipush 44 hX 8 dX8_nameBetween_42 rfl kc_b_8 ?_
        refine g_lshl 45 hX (x3 <<< ((8 : Int32).toInt64 &&& 63)) dX8_nameBetween_44 rfl rfl ?_
        refine g_iload 47 0 hX dX8_nameBetween_45 rfl rfl ?_
        refine g_i2l 48 hX dX8_nameBetween_47 rfl ?_
        refine g_lor 49 hX dX8_nameBetween_48 rfl ?_
        refine g_klL (fun v4 hv4 => ?_)
        refine g_lstore_n 50 3 [(3, .long v4), (6, .int r2), (0, .ref a0), (1, .int x1), (5, .int x5)] hX dX8_nameBetween_49 rfl rfl (Nat.le_of_ble_eq_true rfl) rfl ?_
        refine g_kl (fun v5 hv5 => ?_)
        refine g_iinc 53 5 4 v5 [(5, .int v5), (3, .long v4), (6, .int r2), (0, .ref a0), (1, .int x1)] hX dX8_nameBetween_50 rfl rfl (by rw [hv5, kc_i_m1]) (Nat.le_of_ble_eq_true rfl) rfl ?_
        refine g_goto 17 hX dX8_nameBetween_53 (by decide) ?_
        refine g_lv [3, 4, 1, 0] rfl ?_
        exact ih a0 x1 v4 v5
      · refine g_lconst 40 hX 0 dX8_nameBetween_39 rfl rfl ?_
        exact g_lret hX hr rfl (Nat.le_refl 0) (Nat.le_refl 0) dX8_nameBetween_40
set_option maxRecDepth 100000 in
set_option maxHeartbeats 4000000 in
theorem k_X8_nameBetween (l : Launch) (g : kG) (N : Nat) (M : kMem) (a0 : Nat) (x1 : Int32) (x2 : Int32) : kMet l g yX8_nameBetween cX8_nameBetween 7 (some .long) 2 0 0 [.ref a0, .int x1, .int x2] M (fun r : Int64 => (some (.long r), M)) (F_X8_nameBetween N M a0 x1 x2) := by
  refine k_of (lv := [(0, .ref a0), (1, .int x1), (2, .int x2)]) RX8 (by decide) rfl rfl (Nat.le_of_ble_eq_true rfl) ?_
  intro p e s m args below meth c hX hr _
  unfold F_X8_nameBetween
  refine g_iload_n 1 2 hX dX8_nameBetween_0 rfl rfl ?_
  refine g_iload_n 2 1 hX dX8_nameBetween_1 rfl rfl ?_
  refine g_isub 3 hX dX8_nameBetween_2 rfl ?_
  refine g_bipush 5 hX 6 dX8_nameBetween_3 rfl kc_b_6 ?_
  refine g_icmp_le 10 8 hX dX8_nameBetween_5 (by decide) rfl (fun _ => ?_) (fun _ => ?_)
  · refine g_lconst 11 hX 0 dX8_nameBetween_10 rfl rfl ?_
    refine g_lstore_n 12 3 [(3, .long 0), (0, .ref a0), (1, .int x1), (2, .int x2)] hX dX8_nameBetween_11 rfl rfl (Nat.le_of_ble_eq_true rfl) rfl ?_
    refine g_iload_n 13 3 hX dX8_nameBetween_12 rfl rfl ?_
    refine g_iconst 14 hX 1 dX8_nameBetween_13 rfl kc_i_1 ?_
    refine g_isub 15 hX dX8_nameBetween_14 rfl ?_
    refine g_klI (fun v1 hv1 => ?_)
    refine g_istore 17 5 [(5, .int v1), (3, .long 0), (0, .ref a0), (1, .int x1), (2, .int x2)] hX dX8_nameBetween_15 rfl (Nat.le_of_ble_eq_true rfl) rfl ?_
    refine g_lv [2, 3, 1, 0] rfl ?_
    exact k_X8_nameBetween_17 hX hr N M N a0 x1 0 v1
  · refine g_lconst 9 hX 0 dX8_nameBetween_8 rfl rfl ?_
    exact g_lret hX hr rfl (Nat.le_refl 0) (Nat.le_refl 0) dX8_nameBetween_9
set_option maxRecDepth 100000 in
set_option maxHeartbeats 4000000 in
theorem k_X4_clear (l : Launch) (g : kG) (N : Nat) (M : kMem) (a0 : Nat) : kMet l g yX4_clear cX4_clear 1 none 1 0 0 [.ref a0] M (fun r : kMem => (none, r)) (F_X4_clear N M a0) := by
  refine k_of (lv := [(0, .ref a0)]) RX4 (by decide) rfl rfl (Nat.le_of_ble_eq_true rfl) ?_
  intro p e s m args below meth c hX hr _
  unfold F_X4_clear
  refine g_aload_n 1 0 hX dX4_clear_0 rfl rfl ?_
  refine g_iconst 2 hX 0 dX4_clear_1 rfl kc_i_0 ?_
  refine p_X4_34 5 hX dX4_clear_2 rfl ?_
  refine g_klM (fun M1 hM1 => ?_)
  refine g_aload_n 6 0 hX dX4_clear_5 rfl rfl ?_
  refine g_iconst 7 hX 0 dX4_clear_6 rfl kc_i_0 ?_
  refine p_X4_38 10 hX dX4_clear_7 rfl ?_
  refine g_klM (fun M2 hM2 => ?_)
  refine g_aload_n 11 0 hX dX4_clear_10 rfl rfl ?_
  refine g_iconst 12 hX 0 dX4_clear_11 rfl kc_i_0 ?_
  refine p_X4_41 15 hX dX4_clear_12 rfl ?_
  refine g_klM (fun M3 hM3 => ?_)
  refine g_aload_n 16 0 hX dX4_clear_15 rfl rfl ?_
  refine g_iconst 17 hX 0 dX4_clear_16 rfl kc_i_0 ?_
  refine p_X4_44 20 hX dX4_clear_17 rfl ?_
  refine g_klM (fun M4 hM4 => ?_)
  refine g_aload_n 21 0 hX dX4_clear_20 rfl rfl ?_
  refine g_iconst 22 hX 0 dX4_clear_21 rfl kc_i_0 ?_
  refine p_X4_47 25 hX dX4_clear_22 rfl ?_
  refine g_klM (fun M5 hM5 => ?_)
  refine g_aload_n 26 0 hX dX4_clear_25 rfl rfl ?_
  refine g_iconst 27 hX 0 dX4_clear_26 rfl kc_i_0 ?_
  refine p_X4_50 30 hX dX4_clear_27 rfl ?_
  refine g_klM (fun M6 hM6 => ?_)
  refine g_aload_n 31 0 hX dX4_clear_30 rfl rfl ?_
  refine r_X4_26 34 hX dX4_clear_31 rfl ?_
  refine g_iconst 35 hX 0 dX4_clear_34 rfl kc_i_0 ?_
  refine p_X4_53 38 hX dX4_clear_35 rfl ?_
  refine g_klM (fun M7 hM7 => ?_)
  exact g_vret hX hr rfl (Nat.le_refl 0) (Nat.le_refl 0) dX4_clear_38
set_option maxRecDepth 100000 in
set_option maxHeartbeats 4000000 in
theorem k_X4_copyFrom_138 {p : Program} {l : Launch} {e : Env} {s : State} {m : MethodId} {args : Array Value} {below : List Frame} {meth : Method} {c : Code} {g : kG} (hX : Cok (p, l, e, { frames := 2, cells := 0, slots := 0, locals := 60 * 2 }, s, m, args, below, meth, c, cX4_copyFrom, 3, RX4, g, 2)) (hr : meth.sig.returnType = none) (N : Nat) : ∀ (n : Nat) (M : kMem) (a0 : Nat) (a1 : Nat) (x2 : Int32), GG (p, l, e, { frames := 2, cells := 0, slots := 0, locals := 60 * 2 }, s, m, args, below, meth, c, cX4_copyFrom, 3, RX4, g, 2) (fun b => MQ below (kQ g ((fun r : kMem => (none, r)) b)) args s 0 0 (kZ g.2.2.1)) 0 0 (F_X4_copyFrom_138 N n M a0 a1 x2) 138 [(0, .ref a0), (1, .ref a1), (2, .int x2)] [] M := by
  intro n
  induction n with
  | zero => intro _ _ _ _; exact g_none
  | succ n ih =>
    intro M a0 a1 x2
    unfold F_X4_copyFrom_138
    refine g_iload_n 139 2 hX dX4_copyFrom_138 rfl rfl ?_
    refine g_aload_n 140 0 hX dX4_copyFrom_139 rfl rfl ?_
    refine r_X4_19 143 hX dX4_copyFrom_140 rfl ?_
    refine g_alenR 17 4 144 hX RX10 (Nat.le_of_ble_eq_true rfl) rfl dX4_copyFrom_143 rfl ?_
    refine g_icmp_ge 168 147 hX dX4_copyFrom_144 (by decide) rfl (fun _ => ?_) (fun _ => ?_)
    · refine g_aload_n 169 0 hX dX4_copyFrom_168 rfl rfl ?_
      refine r_X4_26 172 hX dX4_copyFrom_169 rfl ?_
      refine g_aload_n 173 1 hX dX4_copyFrom_172 rfl rfl ?_
      refine r_X4_26 176 hX dX4_copyFrom_173 rfl ?_
      refine g_callV_v 179 hX (k_X2_copyFrom l g N M (kR M a0 15) (kR M a1 15)) lk_X2_copyFrom rfl (ci := 2) rfl (Nat.le_of_ble_eq_true rfl) q_622 q_624 (by omega) rfl (Nat.le_of_ble_eq_true rfl) (Nat.zero_le _) (Nat.zero_le _) dX4_copyFrom_176 rfl (fun M14 => ?_)
      exact g_vret hX hr rfl (Nat.le_refl 0) (Nat.le_refl 0) dX4_copyFrom_179
    · refine g_aload_n 148 0 hX dX4_copyFrom_147 rfl rfl ?_
      refine r_X4_19 151 hX dX4_copyFrom_148 rfl ?_
      refine g_iload_n 152 2 hX dX4_copyFrom_151 rfl rfl ?_
      refine g_aald 17 4 153 hX RX10 (Nat.le_of_ble_eq_true rfl) rfl dX4_copyFrom_152 rfl ?_
      refine g_aload_n 154 1 hX dX4_copyFrom_153 rfl rfl ?_
      refine r_X4_19 157 hX dX4_copyFrom_154 rfl ?_
      refine g_iload_n 158 2 hX dX4_copyFrom_157 rfl rfl ?_
      refine g_aald 17 4 159 hX RX10 (Nat.le_of_ble_eq_true rfl) rfl dX4_copyFrom_158 rfl ?_
      refine g_callV_v 162 hX (k_X10_copyFrom l g N M (kR M (kR M a0 14) (kx x2)) (kR M (kR M a1 14) (kx x2))) lk_X10_copyFrom rfl (ci := 10) rfl (Nat.le_of_ble_eq_true rfl) q_618 q_620 (by omega) rfl (Nat.le_of_ble_eq_true rfl) (Nat.zero_le _) (Nat.zero_le _) dX4_copyFrom_159 rfl (fun M15 => ?_)
      refine g_kl (fun v16 hv16 => ?_)
      refine g_iinc 165 2 2 v16 [(2, .int v16), (0, .ref a0), (1, .ref a1)] hX dX4_copyFrom_162 rfl rfl (by rw [hv16, kc_i_1]) (Nat.le_of_ble_eq_true rfl) rfl ?_
      refine g_goto 138 hX dX4_copyFrom_165 (by decide) ?_
      refine g_lv [1, 2, 0] rfl ?_
      exact ih M15 a0 a1 v16
set_option maxRecDepth 100000 in
set_option maxHeartbeats 4000000 in
theorem k_X4_copyFrom_106 {p : Program} {l : Launch} {e : Env} {s : State} {m : MethodId} {args : Array Value} {below : List Frame} {meth : Method} {c : Code} {g : kG} (hX : Cok (p, l, e, { frames := 2, cells := 0, slots := 0, locals := 60 * 2 }, s, m, args, below, meth, c, cX4_copyFrom, 3, RX4, g, 2)) (hr : meth.sig.returnType = none) (N : Nat) : ∀ (n : Nat) (M : kMem) (a0 : Nat) (a1 : Nat) (x2 : Int32), GG (p, l, e, { frames := 2, cells := 0, slots := 0, locals := 60 * 2 }, s, m, args, below, meth, c, cX4_copyFrom, 3, RX4, g, 2) (fun b => MQ below (kQ g ((fun r : kMem => (none, r)) b)) args s 0 0 (kZ g.2.2.1)) 0 0 (F_X4_copyFrom_106 N n M a0 a1 x2) 106 [(0, .ref a0), (1, .ref a1), (2, .int x2)] [] M := by
  intro n
  induction n with
  | zero => intro _ _ _ _; exact g_none
  | succ n ih =>
    intro M a0 a1 x2
    unfold F_X4_copyFrom_106
    refine g_iload_n 107 2 hX dX4_copyFrom_106 rfl rfl ?_
    refine g_aload_n 108 0 hX dX4_copyFrom_107 rfl rfl ?_
    refine r_X4_11 111 hX dX4_copyFrom_108 rfl ?_
    refine g_alenR 16 3 112 hX RX0 (Nat.le_of_ble_eq_true rfl) rfl dX4_copyFrom_111 rfl ?_
    refine g_icmp_ge 136 115 hX dX4_copyFrom_112 (by decide) rfl (fun _ => ?_) (fun _ => ?_)
    · refine g_iconst 137 hX 0 dX4_copyFrom_136 rfl kc_i_0 ?_
      refine g_istore_n 138 2 [(2, .int 0), (0, .ref a0), (1, .ref a1)] hX dX4_copyFrom_137 rfl rfl (Nat.le_of_ble_eq_true rfl) rfl ?_
      refine g_lv [1, 2, 0] rfl ?_
      exact k_X4_copyFrom_138 hX hr N N M a0 a1 0
    · refine g_aload_n 116 0 hX dX4_copyFrom_115 rfl rfl ?_
      refine r_X4_11 119 hX dX4_copyFrom_116 rfl ?_
      refine g_iload_n 120 2 hX dX4_copyFrom_119 rfl rfl ?_
      refine g_aald 16 3 121 hX RX0 (Nat.le_of_ble_eq_true rfl) rfl dX4_copyFrom_120 rfl ?_
      refine g_aload_n 122 1 hX dX4_copyFrom_121 rfl rfl ?_
      refine r_X4_11 125 hX dX4_copyFrom_122 rfl ?_
      refine g_iload_n 126 2 hX dX4_copyFrom_125 rfl rfl ?_
      refine g_aald 16 3 127 hX RX0 (Nat.le_of_ble_eq_true rfl) rfl dX4_copyFrom_126 rfl ?_
      refine g_callV_v 130 hX (k_X0_copyFrom l g N M (kR M (kR M a0 13) (kx x2)) (kR M (kR M a1 13) (kx x2))) lk_X0_copyFrom rfl (ci := 0) rfl (Nat.le_of_ble_eq_true rfl) q_611 q_613 (by omega) rfl (Nat.le_of_ble_eq_true rfl) (Nat.zero_le _) (Nat.zero_le _) dX4_copyFrom_127 rfl (fun M17 => ?_)
      refine g_kl (fun v18 hv18 => ?_)
      refine g_iinc 133 2 2 v18 [(2, .int v18), (0, .ref a0), (1, .ref a1)] hX dX4_copyFrom_130 rfl rfl (by rw [hv18, kc_i_1]) (Nat.le_of_ble_eq_true rfl) rfl ?_
      refine g_goto 106 hX dX4_copyFrom_133 (by decide) ?_
      refine g_lv [1, 2, 0] rfl ?_
      exact ih M17 a0 a1 v18
set_option maxRecDepth 100000 in
set_option maxHeartbeats 4000000 in
theorem k_X4_copyFrom (l : Launch) (g : kG) (N : Nat) (M : kMem) (a0 : Nat) (a1 : Nat) : kMet l g yX4_copyFrom cX4_copyFrom 3 none 2 0 0 [.ref a0, .ref a1] M (fun r : kMem => (none, r)) (F_X4_copyFrom N M a0 a1) := by
  refine k_of (lv := [(0, .ref a0), (1, .ref a1)]) RX4 (by decide) rfl rfl (Nat.le_of_ble_eq_true rfl) ?_
  intro p e s m args below meth c hX hr _
  unfold F_X4_copyFrom
  refine g_aload_n 1 0 hX dX4_copyFrom_0 rfl rfl ?_
  refine g_aload_n 2 1 hX dX4_copyFrom_1 rfl rfl ?_
  refine r_X4_34 5 hX dX4_copyFrom_2 rfl ?_
  refine p_X4_34 8 hX dX4_copyFrom_5 rfl ?_
  refine g_klM (fun M1 hM1 => ?_)
  refine g_aload_n 9 0 hX dX4_copyFrom_8 rfl rfl ?_
  refine g_aload_n 10 1 hX dX4_copyFrom_9 rfl rfl ?_
  refine r_X4_56 13 hX dX4_copyFrom_10 rfl ?_
  refine p_X4_56 16 hX dX4_copyFrom_13 rfl ?_
  refine g_klM (fun M2 hM2 => ?_)
  refine g_aload_n 17 0 hX dX4_copyFrom_16 rfl rfl ?_
  refine g_aload_n 18 1 hX dX4_copyFrom_17 rfl rfl ?_
  refine r_X4_59 21 hX dX4_copyFrom_18 rfl ?_
  refine p_X4_59 24 hX dX4_copyFrom_21 rfl ?_
  refine g_klM (fun M3 hM3 => ?_)
  refine g_aload_n 25 0 hX dX4_copyFrom_24 rfl rfl ?_
  refine g_aload_n 26 1 hX dX4_copyFrom_25 rfl rfl ?_
  refine r_X4_62 29 hX dX4_copyFrom_26 rfl ?_
  refine p_X4_62 32 hX dX4_copyFrom_29 rfl ?_
  refine g_klM (fun M4 hM4 => ?_)
  refine g_aload_n 33 0 hX dX4_copyFrom_32 rfl rfl ?_
  refine g_aload_n 34 1 hX dX4_copyFrom_33 rfl rfl ?_
  refine r_X4_65 37 hX dX4_copyFrom_34 rfl ?_
  refine p_X4_65 40 hX dX4_copyFrom_37 rfl ?_
  refine g_klM (fun M5 hM5 => ?_)
  refine g_aload_n 41 0 hX dX4_copyFrom_40 rfl rfl ?_
  refine g_aload_n 42 1 hX dX4_copyFrom_41 rfl rfl ?_
  refine r_X4_68 45 hX dX4_copyFrom_42 rfl ?_
  refine p_X4_68 48 hX dX4_copyFrom_45 rfl ?_
  refine g_klM (fun M6 hM6 => ?_)
  refine g_aload_n 49 0 hX dX4_copyFrom_48 rfl rfl ?_
  refine g_aload_n 50 1 hX dX4_copyFrom_49 rfl rfl ?_
  refine r_X4_71 53 hX dX4_copyFrom_50 rfl ?_
  refine p_X4_71 56 hX dX4_copyFrom_53 rfl ?_
  refine g_klM (fun M7 hM7 => ?_)
  refine g_aload_n 57 0 hX dX4_copyFrom_56 rfl rfl ?_
  refine g_aload_n 58 1 hX dX4_copyFrom_57 rfl rfl ?_
  refine r_X4_74 61 hX dX4_copyFrom_58 rfl ?_
  refine p_X4_74 64 hX dX4_copyFrom_61 rfl ?_
  refine g_klM (fun M8 hM8 => ?_)
  refine g_aload_n 65 0 hX dX4_copyFrom_64 rfl rfl ?_
  refine g_aload_n 66 1 hX dX4_copyFrom_65 rfl rfl ?_
  refine r_X4_38 69 hX dX4_copyFrom_66 rfl ?_
  refine p_X4_38 72 hX dX4_copyFrom_69 rfl ?_
  refine g_klM (fun M9 hM9 => ?_)
  refine g_aload_n 73 0 hX dX4_copyFrom_72 rfl rfl ?_
  refine g_aload_n 74 1 hX dX4_copyFrom_73 rfl rfl ?_
  refine r_X4_41 77 hX dX4_copyFrom_74 rfl ?_
  refine p_X4_41 80 hX dX4_copyFrom_77 rfl ?_
  refine g_klM (fun M10 hM10 => ?_)
  refine g_aload_n 81 0 hX dX4_copyFrom_80 rfl rfl ?_
  refine g_aload_n 82 1 hX dX4_copyFrom_81 rfl rfl ?_
  refine r_X4_44 85 hX dX4_copyFrom_82 rfl ?_
  refine p_X4_44 88 hX dX4_copyFrom_85 rfl ?_
  refine g_klM (fun M11 hM11 => ?_)
  refine g_aload_n 89 0 hX dX4_copyFrom_88 rfl rfl ?_
  refine g_aload_n 90 1 hX dX4_copyFrom_89 rfl rfl ?_
  refine r_X4_47 93 hX dX4_copyFrom_90 rfl ?_
  refine p_X4_47 96 hX dX4_copyFrom_93 rfl ?_
  refine g_klM (fun M12 hM12 => ?_)
  refine g_aload_n 97 0 hX dX4_copyFrom_96 rfl rfl ?_
  refine g_aload_n 98 1 hX dX4_copyFrom_97 rfl rfl ?_
  refine r_X4_50 101 hX dX4_copyFrom_98 rfl ?_
  refine p_X4_50 104 hX dX4_copyFrom_101 rfl ?_
  refine g_klM (fun M13 hM13 => ?_)
  refine g_iconst 105 hX 0 dX4_copyFrom_104 rfl kc_i_0 ?_
  refine g_istore_n 106 2 [(2, .int 0), (0, .ref a0), (1, .ref a1)] hX dX4_copyFrom_105 rfl rfl (Nat.le_of_ble_eq_true rfl) rfl ?_
  refine g_lv [1, 2, 0] rfl ?_
  exact k_X4_copyFrom_106 hX hr N N M13 a0 a1 0
set_option maxRecDepth 100000 in
set_option maxHeartbeats 4000000 in
theorem k_X4_boardNumbered (l : Launch) (g : kG) (N : Nat) (M : kMem) (a0 : Nat) (x1 : Int32) : kMet l g yX4_boardNumbered cX4_boardNumbered 2 (some (.object "SeesawMarket$Board")) 1 0 0 [.ref a0, .int x1] M (fun r : Nat => (some (.ref r), M)) (F_X4_boardNumbered N M a0 x1) := by
  refine k_of (lv := [(0, .ref a0), (1, .int x1)]) RX4 (by decide) rfl rfl (Nat.le_of_ble_eq_true rfl) ?_
  intro p e s m args below meth c hX hr _
  unfold F_X4_boardNumbered
  refine g_iload_n 1 1 hX dX4_boardNumbered_0 rfl rfl ?_
  refine g_if_lt 30 4 hX dX4_boardNumbered_1 (by decide) rfl (fun _ => ?_) (fun _ => ?_)
  · refine g_null 31 hX dX4_boardNumbered_30 rfl ?_
    exact g_aret hX hr (Or.inl ⟨_, rfl⟩) rfl (Nat.le_refl 0) (Nat.le_refl 0) dX4_boardNumbered_31
  · refine g_iload_n 5 1 hX dX4_boardNumbered_4 rfl rfl ?_
    refine g_aload_n 6 0 hX dX4_boardNumbered_5 rfl rfl ?_
    refine r_X4_47 9 hX dX4_boardNumbered_6 rfl ?_
    refine g_icmp_ge 30 12 hX dX4_boardNumbered_9 (by decide) rfl (fun _ => ?_) (fun _ => ?_)
    · refine g_null 31 hX dX4_boardNumbered_30 rfl ?_
      exact g_aret hX hr (Or.inl ⟨_, rfl⟩) rfl (Nat.le_refl 0) (Nat.le_refl 0) dX4_boardNumbered_31
    · refine g_iload_n 13 1 hX dX4_boardNumbered_12 rfl rfl ?_
      refine g_aload_n 14 0 hX dX4_boardNumbered_13 rfl rfl ?_
      refine r_X4_11 17 hX dX4_boardNumbered_14 rfl ?_
      refine g_alenR 16 3 18 hX RX0 (Nat.le_of_ble_eq_true rfl) rfl dX4_boardNumbered_17 rfl ?_
      refine g_icmp_ge 30 21 hX dX4_boardNumbered_18 (by decide) rfl (fun _ => ?_) (fun _ => ?_)
      · refine g_null 31 hX dX4_boardNumbered_30 rfl ?_
        exact g_aret hX hr (Or.inl ⟨_, rfl⟩) rfl (Nat.le_refl 0) (Nat.le_refl 0) dX4_boardNumbered_31
      · refine g_aload_n 22 0 hX dX4_boardNumbered_21 rfl rfl ?_
        refine r_X4_11 25 hX dX4_boardNumbered_22 rfl ?_
        refine g_iload_n 26 1 hX dX4_boardNumbered_25 rfl rfl ?_
        refine g_aald 16 3 27 hX RX0 (Nat.le_of_ble_eq_true rfl) rfl dX4_boardNumbered_26 rfl ?_
        refine g_goto 31 hX dX4_boardNumbered_27 (by decide) ?_
        exact g_aret hX hr (Or.inl ⟨_, rfl⟩) rfl (Nat.le_refl 0) (Nat.le_refl 0) dX4_boardNumbered_31
set_option maxRecDepth 100000 in
set_option maxHeartbeats 4000000 in
theorem k_X4_traderNumbered (l : Launch) (g : kG) (N : Nat) (M : kMem) (a0 : Nat) (x1 : Int32) : kMet l g yX4_traderNumbered cX4_traderNumbered 2 (some (.object "SeesawMarket$Trader")) 1 0 0 [.ref a0, .int x1] M (fun r : Nat => (some (.ref r), M)) (F_X4_traderNumbered N M a0 x1) := by
  refine k_of (lv := [(0, .ref a0), (1, .int x1)]) RX4 (by decide) rfl rfl (Nat.le_of_ble_eq_true rfl) ?_
  intro p e s m args below meth c hX hr _
  unfold F_X4_traderNumbered
  refine g_iload_n 1 1 hX dX4_traderNumbered_0 rfl rfl ?_
  refine g_if_lt 30 4 hX dX4_traderNumbered_1 (by decide) rfl (fun _ => ?_) (fun _ => ?_)
  · refine g_null 31 hX dX4_traderNumbered_30 rfl ?_
    exact g_aret hX hr (Or.inl ⟨_, rfl⟩) rfl (Nat.le_refl 0) (Nat.le_refl 0) dX4_traderNumbered_31
  · refine g_iload_n 5 1 hX dX4_traderNumbered_4 rfl rfl ?_
    refine g_aload_n 6 0 hX dX4_traderNumbered_5 rfl rfl ?_
    refine r_X4_50 9 hX dX4_traderNumbered_6 rfl ?_
    refine g_icmp_ge 30 12 hX dX4_traderNumbered_9 (by decide) rfl (fun _ => ?_) (fun _ => ?_)
    · refine g_null 31 hX dX4_traderNumbered_30 rfl ?_
      exact g_aret hX hr (Or.inl ⟨_, rfl⟩) rfl (Nat.le_refl 0) (Nat.le_refl 0) dX4_traderNumbered_31
    · refine g_iload_n 13 1 hX dX4_traderNumbered_12 rfl rfl ?_
      refine g_aload_n 14 0 hX dX4_traderNumbered_13 rfl rfl ?_
      refine r_X4_19 17 hX dX4_traderNumbered_14 rfl ?_
      refine g_alenR 17 4 18 hX RX10 (Nat.le_of_ble_eq_true rfl) rfl dX4_traderNumbered_17 rfl ?_
      refine g_icmp_ge 30 21 hX dX4_traderNumbered_18 (by decide) rfl (fun _ => ?_) (fun _ => ?_)
      · refine g_null 31 hX dX4_traderNumbered_30 rfl ?_
        exact g_aret hX hr (Or.inl ⟨_, rfl⟩) rfl (Nat.le_refl 0) (Nat.le_refl 0) dX4_traderNumbered_31
      · refine g_aload_n 22 0 hX dX4_traderNumbered_21 rfl rfl ?_
        refine r_X4_19 25 hX dX4_traderNumbered_22 rfl ?_
        refine g_iload_n 26 1 hX dX4_traderNumbered_25 rfl rfl ?_
        refine g_aald 17 4 27 hX RX10 (Nat.le_of_ble_eq_true rfl) rfl dX4_traderNumbered_26 rfl ?_
        refine g_goto 31 hX dX4_traderNumbered_27 (by decide) ?_
        exact g_aret hX hr (Or.inl ⟨_, rfl⟩) rfl (Nat.le_refl 0) (Nat.le_refl 0) dX4_traderNumbered_31
set_option maxRecDepth 100000 in
set_option maxHeartbeats 4000000 in
theorem k_X4_traderNamed_2 {p : Program} {l : Launch} {e : Env} {s : State} {m : MethodId} {args : Array Value} {below : List Frame} {meth : Method} {c : Code} {g : kG} (hX : Cok (p, l, e, { frames := 1, cells := 0, slots := 0, locals := 60 * 1 }, s, m, args, below, meth, c, cX4_traderNamed, 4, RX4, g, 1)) (hr : meth.sig.returnType = (some (.object "SeesawMarket$Trader"))) (N : Nat) (M : kMem) : ∀ (n : Nat) (a0 : Nat) (x1 : Int64) (x3 : Int32), GG (p, l, e, { frames := 1, cells := 0, slots := 0, locals := 60 * 1 }, s, m, args, below, meth, c, cX4_traderNamed, 4, RX4, g, 1) (fun b => MQ below (kQ g ((fun r : Nat => (some (.ref r), M)) b)) args s 0 0 (kZ g.2.2.1)) 0 0 (F_X4_traderNamed_2 N M n a0 x1 x3) 2 [(0, .ref a0), (1, .long x1), (3, .int x3)] [] M := by
  intro n
  induction n with
  | zero => intro _ _ _; exact g_none
  | succ n ih =>
    intro a0 x1 x3
    unfold F_X4_traderNamed_2
    refine g_iload_n 3 2 hX dX4_traderNamed_2 rfl rfl ?_
    refine g_aload_n 4 0 hX dX4_traderNamed_3 rfl rfl ?_
    refine r_X4_50 7 hX dX4_traderNamed_4 rfl ?_
    refine g_icmp_ge 37 10 hX dX4_traderNamed_7 (by decide) rfl (fun _ => ?_) (fun _ => ?_)
    · refine g_null 38 hX dX4_traderNamed_37 rfl ?_
      exact g_aret hX hr (Or.inl ⟨_, rfl⟩) rfl (Nat.le_refl 0) (Nat.le_refl 0) dX4_traderNamed_38
    · refine g_aload_n 11 0 hX dX4_traderNamed_10 rfl rfl ?_
      refine r_X4_19 14 hX dX4_traderNamed_11 rfl ?_
      refine g_iload_n 15 2 hX dX4_traderNamed_14 rfl rfl ?_
      refine g_aald 17 4 16 hX RX10 (Nat.le_of_ble_eq_true rfl) rfl dX4_traderNamed_15 rfl ?_
      refine r_X4_87 19 hX dX4_traderNamed_16 rfl ?_
      refine g_lload_n 20 1 hX dX4_traderNamed_19 rfl rfl ?_
      refine g_lcmp 21 hX dX4_traderNamed_20 rfl ?_
      refine g_if_ne 31 24 hX dX4_traderNamed_21 (by decide) rfl (fun _ => ?_) (fun _ => ?_)
      · refine g_kl (fun v1 hv1 => ?_)
        refine g_iinc 34 3 2 v1 [(3, .int v1), (0, .ref a0), (1, .long x1)] hX dX4_traderNamed_31 rfl rfl (by rw [hv1, kc_i_1]) (Nat.le_of_ble_eq_true rfl) rfl ?_
        refine g_goto 2 hX dX4_traderNamed_34 (by decide) ?_
        refine g_lv [1, 2, 0] rfl ?_
        exact ih a0 x1 v1
      · refine g_aload_n 25 0 hX dX4_traderNamed_24 rfl rfl ?_
        refine r_X4_19 28 hX dX4_traderNamed_25 rfl ?_
        refine g_iload_n 29 2 hX dX4_traderNamed_28 rfl rfl ?_
        refine g_aald 17 4 30 hX RX10 (Nat.le_of_ble_eq_true rfl) rfl dX4_traderNamed_29 rfl ?_
        exact g_aret hX hr (Or.inl ⟨_, rfl⟩) rfl (Nat.le_refl 0) (Nat.le_refl 0) dX4_traderNamed_30
set_option maxRecDepth 100000 in
set_option maxHeartbeats 4000000 in
theorem k_X4_traderNamed (l : Launch) (g : kG) (N : Nat) (M : kMem) (a0 : Nat) (x1 : Int64) : kMet l g yX4_traderNamed cX4_traderNamed 4 (some (.object "SeesawMarket$Trader")) 1 0 0 [.ref a0, .long x1] M (fun r : Nat => (some (.ref r), M)) (F_X4_traderNamed N M a0 x1) := by
  refine k_of (lv := [(0, .ref a0), (1, .long x1)]) RX4 (by decide) rfl rfl (Nat.le_of_ble_eq_true rfl) ?_
  intro p e s m args below meth c hX hr _
  unfold F_X4_traderNamed
  refine g_iconst 1 hX 0 dX4_traderNamed_0 rfl kc_i_0 ?_
  refine g_istore_n 2 3 [(3, .int 0), (0, .ref a0), (1, .long x1)] hX dX4_traderNamed_1 rfl rfl (Nat.le_of_ble_eq_true rfl) rfl ?_
  refine g_lv [1, 2, 0] rfl ?_
  exact k_X4_traderNamed_2 hX hr N M N a0 x1 0
set_option maxRecDepth 100000 in
set_option maxHeartbeats 4000000 in
theorem k_X4_addBoard (l : Launch) (g : kG) (N : Nat) (M : kMem) (a0 : Nat) (x1 : Int32) (x2 : Int32) (x3 : Int32) : kMet l g yX4_addBoard cX4_addBoard 4 none 2 0 0 [.ref a0, .int x1, .int x2, .int x3] M (fun r : kMem => (none, r)) (F_X4_addBoard N M a0 x1 x2 x3) := by
  refine k_of (lv := [(0, .ref a0), (1, .int x1), (2, .int x2), (3, .int x3)]) RX4 (by decide) rfl rfl (Nat.le_of_ble_eq_true rfl) ?_
  intro p e s m args below meth c hX hr _
  unfold F_X4_addBoard
  refine g_aload_n 1 0 hX dX4_addBoard_0 rfl rfl ?_
  refine r_X4_47 4 hX dX4_addBoard_1 rfl ?_
  refine g_aload_n 5 0 hX dX4_addBoard_4 rfl rfl ?_
  refine r_X4_11 8 hX dX4_addBoard_5 rfl ?_
  refine g_alenR 16 3 9 hX RX0 (Nat.le_of_ble_eq_true rfl) rfl dX4_addBoard_8 rfl ?_
  refine g_icmp_ge 37 12 hX dX4_addBoard_9 (by decide) rfl (fun _ => ?_) (fun _ => ?_)
  · exact g_vret hX hr rfl (Nat.le_refl 0) (Nat.le_refl 0) dX4_addBoard_37
  · refine g_aload_n 13 0 hX dX4_addBoard_12 rfl rfl ?_
    refine r_X4_11 16 hX dX4_addBoard_13 rfl ?_
    refine g_aload_n 17 0 hX dX4_addBoard_16 rfl rfl ?_
    refine r_X4_47 20 hX dX4_addBoard_17 rfl ?_
    refine g_aald 16 3 21 hX RX0 (Nat.le_of_ble_eq_true rfl) rfl dX4_addBoard_20 rfl ?_
    refine g_iload_n 22 1 hX dX4_addBoard_21 rfl rfl ?_
    refine g_iload_n 23 2 hX dX4_addBoard_22 rfl rfl ?_
    refine g_iload_n 24 3 hX dX4_addBoard_23 rfl rfl ?_
    refine g_callV_v 27 hX (k_X0_build l g N M (kR M (kR M a0 13) (kx (kI M a0 11))) x1 x2 x3) lk_X0_build rfl (ci := 0) rfl (Nat.le_of_ble_eq_true rfl) q_533 q_535 (by omega) rfl (Nat.le_of_ble_eq_true rfl) (Nat.zero_le _) (Nat.zero_le _) dX4_addBoard_24 rfl (fun M1 => ?_)
    refine g_aload_n 28 0 hX dX4_addBoard_27 rfl rfl ?_
    refine g_dup 29 hX dX4_addBoard_28 rfl rfl ?_
    refine r_X4_47 32 hX dX4_addBoard_29 rfl ?_
    refine g_iconst 33 hX 1 dX4_addBoard_32 rfl kc_i_1 ?_
    refine g_iadd 34 hX dX4_addBoard_33 rfl ?_
    refine p_X4_47 37 hX dX4_addBoard_34 rfl ?_
    refine g_klM (fun M2 hM2 => ?_)
    exact g_vret hX hr rfl (Nat.le_refl 0) (Nat.le_refl 0) dX4_addBoard_37
set_option maxRecDepth 100000 in
set_option maxHeartbeats 4000000 in
theorem k_X4_admit (l : Launch) (g : kG) (N : Nat) (M : kMem) (a0 : Nat) (x1 : Int64) (x3 : Int32) (x4 : Int32) (x5 : Int32) : kMet l g yX4_admit cX4_admit 7 (some .int) 1 0 0 [.ref a0, .long x1, .int x3, .int x4, .int x5] M (fun r : Int32 × kMem => (some (.int r.1), r.2)) (F_X4_admit N M a0 x1 x3 x4 x5) := by
  refine k_of (lv := [(0, .ref a0), (1, .long x1), (3, .int x3), (4, .int x4), (5, .int x5)]) RX4 (by decide) rfl rfl (Nat.le_of_ble_eq_true rfl) ?_
  intro p e s m args below meth c hX hr _
  unfold F_X4_admit
  refine g_aload_n 1 0 hX dX4_admit_0 rfl rfl ?_
  refine r_X4_50 4 hX dX4_admit_1 rfl ?_
  refine g_aload_n 5 0 hX dX4_admit_4 rfl rfl ?_
  refine r_X4_19 8 hX dX4_admit_5 rfl ?_
  refine g_alenR 17 4 9 hX RX10 (Nat.le_of_ble_eq_true rfl) rfl dX4_admit_8 rfl ?_
  refine g_icmp_lt 14 12 hX dX4_admit_9 (by decide) rfl (fun _ => ?_) (fun _ => ?_)
  · refine g_aload_n 15 0 hX dX4_admit_14 rfl rfl ?_
    refine r_X4_19 18 hX dX4_admit_15 rfl ?_
    refine g_aload_n 19 0 hX dX4_admit_18 rfl rfl ?_
    refine r_X4_50 22 hX dX4_admit_19 rfl ?_
    refine g_aald 17 4 23 hX RX10 (Nat.le_of_ble_eq_true rfl) rfl dX4_admit_22 rfl ?_
    refine g_klR (fun w1 hw1 => ?_)
    refine g_astore 25 6 [(6, .ref w1), (0, .ref a0), (1, .long x1), (3, .int x3), (4, .int x4), (5, .int x5)] hX dX4_admit_23 rfl (Nat.le_of_ble_eq_true rfl) rfl ?_
    refine g_aload_n 26 1 hX dX4_admit_25 rfl rfl ?_
    refine g_dup 27 hX dX4_admit_26 rfl rfl ?_
    refine r_X4_50 30 hX dX4_admit_27 rfl ?_
    refine g_iconst 31 hX 1 dX4_admit_30 rfl kc_i_1 ?_
    refine g_iadd 32 hX dX4_admit_31 rfl ?_
    refine p_X4_50 35 hX dX4_admit_32 rfl ?_
    refine g_klM (fun M2 hM2 => ?_)
    refine g_aload 37 0 hX dX4_admit_35 rfl rfl ?_
    refine g_lload_n 38 2 hX dX4_admit_37 rfl rfl ?_
    refine p_X4_87 41 hX dX4_admit_38 rfl ?_
    refine g_klM (fun M3 hM3 => ?_)
    refine g_aload 43 0 hX dX4_admit_41 rfl rfl ?_
    refine g_iload_n 44 3 hX dX4_admit_43 rfl rfl ?_
    refine p_X4_99 47 hX dX4_admit_44 rfl ?_
    refine g_klM (fun M4 hM4 => ?_)
    refine g_aload 49 0 hX dX4_admit_47 rfl rfl ?_
    refine g_iload 51 4 hX dX4_admit_49 rfl rfl ?_
    refine p_X4_102 54 hX dX4_admit_51 rfl ?_
    refine g_klM (fun M5 hM5 => ?_)
    refine g_aload 56 0 hX dX4_admit_54 rfl rfl ?_
    refine g_iload 58 5 hX dX4_admit_56 rfl rfl ?_
    refine p_X4_105 61 hX dX4_admit_58 rfl ?_
    refine g_klM (fun M6 hM6 => ?_)
    refine g_aload 63 0 hX dX4_admit_61 rfl rfl ?_
    refine g_iconst 64 hX 1 dX4_admit_63 rfl kc_i_1 ?_
    refine p_X4_108 67 hX dX4_admit_64 rfl ?_
    refine g_klM (fun M7 hM7 => ?_)
    refine g_aload 69 0 hX dX4_admit_67 rfl rfl ?_
    refine g_iconst 70 hX (-1) dX4_admit_69 rfl kc_i_m1 ?_
    refine p_X4_112 73 hX dX4_admit_70 rfl ?_
    refine g_klM (fun M8 hM8 => ?_)
    refine g_aload 75 0 hX dX4_admit_73 rfl rfl ?_
    refine g_iconst 76 hX 0 dX4_admit_75 rfl kc_i_0 ?_
    refine p_X4_115 79 hX dX4_admit_76 rfl ?_
    refine g_klM (fun M9 hM9 => ?_)
    refine g_aload_n 80 1 hX dX4_admit_79 rfl rfl ?_
    refine g_dup 81 hX dX4_admit_80 rfl rfl ?_
    refine r_X4_74 84 hX dX4_admit_81 rfl ?_
    refine g_iload 86 4 hX dX4_admit_84 rfl rfl ?_
    refine g_iadd 87 hX dX4_admit_86 rfl ?_
    refine p_X4_74 90 hX dX4_admit_87 rfl ?_
    refine g_klM (fun M10 hM10 => ?_)
    refine g_aload 92 0 hX dX4_admit_90 rfl rfl ?_
    refine r_X4_118 95 hX dX4_admit_92 rfl ?_
    exact g_iret hX hr rfl (Nat.le_refl 0) (Nat.le_refl 0) dX4_admit_95
  · refine g_iconst 13 hX (-1) dX4_admit_12 rfl kc_i_m1 ?_
    exact g_iret hX hr rfl (Nat.le_refl 0) (Nat.le_refl 0) dX4_admit_13
set_option maxRecDepth 100000 in
set_option maxHeartbeats 4000000 in
theorem k_X4_torqueOn_4 {p : Program} {l : Launch} {e : Env} {s : State} {m : MethodId} {args : Array Value} {below : List Frame} {meth : Method} {c : Code} {g : kG} (hX : Cok (p, l, e, { frames := 1, cells := 0, slots := 0, locals := 60 * 1 }, s, m, args, below, meth, c, cX4_torqueOn, 5, RX4, g, 1)) (hr : meth.sig.returnType = (some .int)) (N : Nat) (M : kMem) : ∀ (n : Nat) (a0 : Nat) (a1 : Nat) (x2 : Int32) (x3 : Int32), GG (p, l, e, { frames := 1, cells := 0, slots := 0, locals := 60 * 1 }, s, m, args, below, meth, c, cX4_torqueOn, 5, RX4, g, 1) (fun b => MQ below (kQ g ((fun r : Int32 => (some (.int r), M)) b)) args s 0 0 (kZ g.2.2.1)) 0 0 (F_X4_torqueOn_4 N M n a0 a1 x2 x3) 4 [(0, .ref a0), (1, .ref a1), (2, .int x2), (3, .int x3)] [] M := by
  intro n
  induction n with
  | zero => intro _ _ _ _; exact g_none
  | succ n ih =>
    intro a0 a1 x2 x3
    unfold F_X4_torqueOn_4
    refine g_iload_n 5 3 hX dX4_torqueOn_4 rfl rfl ?_
    refine g_aload_n 6 0 hX dX4_torqueOn_5 rfl rfl ?_
    refine r_X4_50 9 hX dX4_torqueOn_6 rfl ?_
    refine g_icmp_ge 52 12 hX dX4_torqueOn_9 (by decide) rfl (fun _ => ?_) (fun _ => ?_)
    · refine g_iload_n 53 2 hX dX4_torqueOn_52 rfl rfl ?_
      exact g_iret hX hr rfl (Nat.le_refl 0) (Nat.le_refl 0) dX4_torqueOn_53
    · refine g_aload_n 13 0 hX dX4_torqueOn_12 rfl rfl ?_
      refine r_X4_19 16 hX dX4_torqueOn_13 rfl ?_
      refine g_iload_n 17 3 hX dX4_torqueOn_16 rfl rfl ?_
      refine g_aald 17 4 18 hX RX10 (Nat.le_of_ble_eq_true rfl) rfl dX4_torqueOn_17 rfl ?_
      refine g_klR (fun w1 hw1 => ?_)
      refine g_astore 20 4 [(4, .ref w1), (0, .ref a0), (1, .ref a1), (2, .int x2), (3, .int x3)] hX dX4_torqueOn_18 rfl (Nat.le_of_ble_eq_true rfl) rfl ?_
      refine g_aload 22 0 hX dX4_torqueOn_20 rfl rfl ?_
      refine r_X4_112 25 hX dX4_torqueOn_22 rfl ?_
      refine g_aload_n 26 2 hX dX4_torqueOn_25 rfl rfl ?_
      refine r_X4_121 29 hX dX4_torqueOn_26 rfl ?_
      refine g_icmp_ne 46 32 hX dX4_torqueOn_29 (by decide) rfl (fun _ => ?_) (fun _ => ?_)
      · refine g_kl (fun v2 hv2 => ?_)
        refine g_iinc 49 3 4 v2 [(3, .int v2), (4, .ref w1), (0, .ref a0), (1, .ref a1), (2, .int x2)] hX dX4_torqueOn_46 rfl rfl (by rw [hv2, kc_i_1]) (Nat.le_of_ble_eq_true rfl) rfl ?_
        refine g_goto 4 hX dX4_torqueOn_49 (by decide) ?_
        refine g_lv [2, 3, 4, 0] rfl ?_
        exact ih a0 a1 x2 v2
      · refine g_iload_n 33 3 hX dX4_torqueOn_32 rfl rfl ?_
        refine g_aload 35 0 hX dX4_torqueOn_33 rfl rfl ?_
        refine r_X4_115 38 hX dX4_torqueOn_35 rfl ?_
        refine g_aload 40 0 hX dX4_torqueOn_38 rfl rfl ?_
        refine r_X4_99 43 hX dX4_torqueOn_40 rfl ?_
        refine g_imul 44 hX dX4_torqueOn_43 rfl ?_
        refine g_iadd 45 hX dX4_torqueOn_44 rfl ?_
        refine g_klI (fun v3 hv3 => ?_)
        refine g_istore_n 46 2 [(2, .int v3), (4, .ref w1), (0, .ref a0), (1, .ref a1), (3, .int x3)] hX dX4_torqueOn_45 rfl rfl (Nat.le_of_ble_eq_true rfl) rfl ?_
        refine g_kl (fun v4 hv4 => ?_)
        refine g_iinc 49 3 4 v4 [(3, .int v4), (2, .int v3), (4, .ref w1), (0, .ref a0), (1, .ref a1)] hX dX4_torqueOn_46 rfl rfl (by rw [hv4, kc_i_1]) (Nat.le_of_ble_eq_true rfl) rfl ?_
        refine g_goto 4 hX dX4_torqueOn_49 (by decide) ?_
        refine g_lv [3, 4, 1, 0] rfl ?_
        exact ih a0 a1 v3 v4
set_option maxRecDepth 100000 in
set_option maxHeartbeats 4000000 in
theorem k_X4_torqueOn (l : Launch) (g : kG) (N : Nat) (M : kMem) (a0 : Nat) (a1 : Nat) : kMet l g yX4_torqueOn cX4_torqueOn 5 (some .int) 1 0 0 [.ref a0, .ref a1] M (fun r : Int32 => (some (.int r), M)) (F_X4_torqueOn N M a0 a1) := by
  refine k_of (lv := [(0, .ref a0), (1, .ref a1)]) RX4 (by decide) rfl rfl (Nat.le_of_ble_eq_true rfl) ?_
  intro p e s m args below meth c hX hr _
  unfold F_X4_torqueOn
  refine g_iconst 1 hX 0 dX4_torqueOn_0 rfl kc_i_0 ?_
  refine g_istore_n 2 2 [(2, .int 0), (0, .ref a0), (1, .ref a1)] hX dX4_torqueOn_1 rfl rfl (Nat.le_of_ble_eq_true rfl) rfl ?_
  refine g_iconst 3 hX 0 dX4_torqueOn_2 rfl kc_i_0 ?_
  refine g_istore_n 4 3 [(3, .int 0), (2, .int 0), (0, .ref a0), (1, .ref a1)] hX dX4_torqueOn_3 rfl rfl (Nat.le_of_ble_eq_true rfl) rfl ?_
  refine g_lv [2, 3, 1, 0] rfl ?_
  exact k_X4_torqueOn_4 hX hr N M N a0 a1 0 0
set_option maxRecDepth 100000 in
set_option maxHeartbeats 4000000 in
theorem k_X4_heightOn (l : Launch) (g : kG) (N : Nat) (M : kMem) (a0 : Nat) (a1 : Nat) (x2 : Int32) : kMet l g yX4_heightOn cX4_heightOn 3 (some .int) 2 0 0 [.ref a0, .ref a1, .int x2] M (fun r : Int32 => (some (.int r), M)) (F_X4_heightOn N M a0 a1 x2) := by
  refine k_of (lv := [(0, .ref a0), (1, .ref a1), (2, .int x2)]) RX4 (by decide) rfl rfl (Nat.le_of_ble_eq_true rfl) ?_
  intro p e s m args below meth c hX hr _
  unfold F_X4_heightOn
  refine g_iload_n 1 2 hX dX4_heightOn_0 rfl rfl ?_
  refine g_ineg 2 hX dX4_heightOn_1 rfl ?_
  refine g_aload_n 3 1 hX dX4_heightOn_2 rfl rfl ?_
  refine g_aload_n 4 0 hX dX4_heightOn_3 rfl rfl ?_
  refine g_aload_n 5 1 hX dX4_heightOn_4 rfl rfl ?_
  refine g_callV_ip 8 hX (k_X4_torqueOn l g N M a0 a1) lk_X4_torqueOn rfl (ci := 4) rfl (Nat.le_of_ble_eq_true rfl) q_1622 q_1624 (by omega) rfl (Nat.le_of_ble_eq_true rfl) (Nat.zero_le _) (Nat.zero_le _) dX4_heightOn_5 rfl (fun r1 => ?_)
  refine g_callV_ip 11 hX (k_X0_tiltUnder l g N M a1 r1) lk_X0_tiltUnder rfl (ci := 0) rfl (Nat.le_of_ble_eq_true rfl) q_1722 q_1724 (by omega) rfl (Nat.le_of_ble_eq_true rfl) (Nat.zero_le _) (Nat.zero_le _) dX4_heightOn_8 rfl (fun r2 => ?_)
  refine g_imul 12 hX dX4_heightOn_11 rfl ?_
  exact g_iret hX hr rfl (Nat.le_refl 0) (Nat.le_refl 0) dX4_heightOn_12
set_option maxRecDepth 100000 in
set_option maxHeartbeats 4000000 in
theorem k_X4_priceOn (l : Launch) (g : kG) (N : Nat) (M : kMem) (a0 : Nat) (a1 : Nat) (x2 : Int32) : kMet l g yX4_priceOn cX4_priceOn 3 (some .int) 3 0 0 [.ref a0, .ref a1, .int x2] M (fun r : Int32 => (some (.int r), M)) (F_X4_priceOn N M a0 a1 x2) := by
  refine k_of (lv := [(0, .ref a0), (1, .ref a1), (2, .int x2)]) RX4 (by decide) rfl rfl (Nat.le_of_ble_eq_true rfl) ?_
  intro p e s m args below meth c hX hr _
  unfold F_X4_priceOn
  refine g_aload_n 1 0 hX dX4_priceOn_0 rfl rfl ?_
  refine r_X4_62 4 hX dX4_priceOn_1 rfl ?_
  refine g_iload_n 5 2 hX dX4_priceOn_4 rfl rfl ?_
  refine g_mabs (y := 0) 8 hX q_1621 dX4_priceOn_5 rfl (Nat.le_of_ble_eq_true rfl) (by decide) (Nat.zero_le _) (Nat.zero_le _) ?_
  refine g_iadd 9 hX dX4_priceOn_8 rfl ?_
  refine g_iconst 10 hX 0 dX4_priceOn_9 rfl kc_i_0 ?_
  refine g_aload_n 11 0 hX dX4_priceOn_10 rfl rfl ?_
  refine g_aload_n 12 1 hX dX4_priceOn_11 rfl rfl ?_
  refine g_iload_n 13 2 hX dX4_priceOn_12 rfl rfl ?_
  refine g_callV_ip 16 hX (k_X4_heightOn l g N M a0 a1 x2) lk_X4_heightOn rfl (ci := 4) rfl (Nat.le_of_ble_eq_true rfl) q_1908 q_1898 (by omega) rfl (Nat.le_of_ble_eq_true rfl) (Nat.zero_le _) (Nat.zero_le _) dX4_priceOn_13 rfl (fun r1 => ?_)
  refine g_mmax 19 hX q_1909 dX4_priceOn_16 rfl (Nat.le_of_ble_eq_true rfl) (by decide) (Nat.zero_le _) (Nat.zero_le _) ?_
  refine g_iadd 20 hX dX4_priceOn_19 rfl ?_
  exact g_iret hX hr rfl (Nat.le_refl 0) (Nat.le_refl 0) dX4_priceOn_20
set_option maxRecDepth 100000 in
set_option maxHeartbeats 4000000 in
theorem k_X4_heightUnder (l : Launch) (g : kG) (N : Nat) (M : kMem) (a0 : Nat) (a1 : Nat) : kMet l g yX4_heightUnder cX4_heightUnder 3 (some .int) 2 0 0 [.ref a0, .ref a1] M (fun r : Int32 => (some (.int r), M)) (F_X4_heightUnder N M a0 a1) := by
  refine k_of (lv := [(0, .ref a0), (1, .ref a1)]) RX4 (by decide) rfl rfl (Nat.le_of_ble_eq_true rfl) ?_
  intro p e s m args below meth c hX hr _
  unfold F_X4_heightUnder
  refine g_aload_n 1 0 hX dX4_heightUnder_0 rfl rfl ?_
  refine g_aload_n 2 1 hX dX4_heightUnder_1 rfl rfl ?_
  refine r_X4_112 5 hX dX4_heightUnder_2 rfl ?_
  refine g_callV_rp 8 hX (k_X4_boardNumbered l g N M a0 (kI M a1 6)) lk_X4_boardNumbered rfl (ci := 4) rfl (Nat.le_of_ble_eq_true rfl) q_1721 q_574 (by omega) rfl (Nat.le_of_ble_eq_true rfl) (Nat.zero_le _) (Nat.zero_le _) dX4_heightUnder_5 rfl (fun r1 => ?_)
  refine g_astore_n 9 2 [(2, .ref r1), (0, .ref a0), (1, .ref a1)] hX dX4_heightUnder_8 rfl rfl (Nat.le_of_ble_eq_true rfl) rfl ?_
  refine g_aload_n 10 0 hX dX4_heightUnder_9 rfl rfl ?_
  refine g_ifnonnull 17 13 hX dX4_heightUnder_10 (by decide) rfl (fun _ => ?_) (fun _ => ?_)
  · refine g_aload_n 18 2 hX dX4_heightUnder_17 rfl rfl ?_
    refine r_X4_115 21 hX dX4_heightUnder_18 rfl ?_
    refine g_ineg 22 hX dX4_heightUnder_21 rfl ?_
    refine g_aload_n 23 0 hX dX4_heightUnder_22 rfl rfl ?_
    refine g_aload_n 24 1 hX dX4_heightUnder_23 rfl rfl ?_
    refine g_aload_n 25 0 hX dX4_heightUnder_24 rfl rfl ?_
    refine g_callV_ip 28 hX (k_X4_torqueOn l g N M a0 r1) lk_X4_torqueOn rfl (ci := 4) rfl (Nat.le_of_ble_eq_true rfl) q_1622 q_1624 (by omega) rfl (Nat.le_of_ble_eq_true rfl) (Nat.zero_le _) (Nat.zero_le _) dX4_heightUnder_25 rfl (fun r2 => ?_)
    refine g_callV_ip 31 hX (k_X0_tiltUnder l g N M r1 r2) lk_X0_tiltUnder rfl (ci := 0) rfl (Nat.le_of_ble_eq_true rfl) q_1722 q_1724 (by omega) rfl (Nat.le_of_ble_eq_true rfl) (Nat.zero_le _) (Nat.zero_le _) dX4_heightUnder_28 rfl (fun r3 => ?_)
    refine g_imul 32 hX dX4_heightUnder_31 rfl ?_
    exact g_iret hX hr rfl (Nat.le_refl 0) (Nat.le_refl 0) dX4_heightUnder_32
  · refine g_iconst 14 hX 0 dX4_heightUnder_13 rfl kc_i_0 ?_
    refine g_goto 32 hX dX4_heightUnder_14 (by decide) ?_
    exact g_iret hX hr rfl (Nat.le_refl 0) (Nat.le_refl 0) dX4_heightUnder_32
set_option maxRecDepth 100000 in
set_option maxHeartbeats 4000000 in
theorem k_X4_incomeFor (l : Launch) (g : kG) (N : Nat) (M : kMem) (a0 : Nat) (a1 : Nat) : kMet l g yX4_incomeFor cX4_incomeFor 2 (some .int) 3 0 0 [.ref a0, .ref a1] M (fun r : Int32 => (some (.int r), M)) (F_X4_incomeFor N M a0 a1) := by
  refine k_of (lv := [(0, .ref a0), (1, .ref a1)]) RX4 (by decide) rfl rfl (Nat.le_of_ble_eq_true rfl) ?_
  intro p e s m args below meth c hX hr _
  unfold F_X4_incomeFor
  refine g_aload_n 1 1 hX dX4_incomeFor_0 rfl rfl ?_
  refine g_callV_ip 4 hX (k_X10_isSeated l g N M a1) lk_X10_isSeated rfl (ci := 10) rfl (Nat.le_of_ble_eq_true rfl) q_1716 q_570 (by omega) rfl (Nat.le_of_ble_eq_true rfl) (Nat.zero_le _) (Nat.zero_le _) dX4_incomeFor_1 rfl (fun r1 => ?_)
  refine g_if_eq 20 7 hX dX4_incomeFor_4 (by decide) rfl (fun _ => ?_) (fun _ => ?_)
  · refine g_iconst 21 hX 0 dX4_incomeFor_20 rfl kc_i_0 ?_
    exact g_iret hX hr rfl (Nat.le_refl 0) (Nat.le_refl 0) dX4_incomeFor_21
  · refine g_aload_n 8 0 hX dX4_incomeFor_7 rfl rfl ?_
    refine r_X4_59 11 hX dX4_incomeFor_8 rfl ?_
    refine g_aload_n 12 0 hX dX4_incomeFor_11 rfl rfl ?_
    refine g_aload_n 13 1 hX dX4_incomeFor_12 rfl rfl ?_
    refine g_callV_ip 16 hX (k_X4_heightUnder l g N M a0 a1) lk_X4_heightUnder rfl (ci := 4) rfl (Nat.le_of_ble_eq_true rfl) q_1717 q_21 (by omega) rfl (Nat.le_of_ble_eq_true rfl) (Nat.zero_le _) (Nat.zero_le _) dX4_incomeFor_13 rfl (fun r2 => ?_)
    refine g_iadd 17 hX dX4_incomeFor_16 rfl ?_
    refine g_goto 21 hX dX4_incomeFor_17 (by decide) ?_
    exact g_iret hX hr rfl (Nat.le_refl 0) (Nat.le_refl 0) dX4_incomeFor_21
set_option maxRecDepth 100000 in
set_option maxHeartbeats 4000000 in
theorem k_X4_unitPrice (l : Launch) (g : kG) (N : Nat) (M : kMem) (a0 : Nat) (a1 : Nat) (a2 : Nat) : kMet l g yX4_unitPrice cX4_unitPrice 3 (some .int) 3 0 0 [.ref a0, .ref a1, .ref a2] M (fun r : Int32 => (some (.int r), M)) (F_X4_unitPrice N M a0 a1 a2) := by
  refine k_of (lv := [(0, .ref a0), (1, .ref a1), (2, .ref a2)]) RX4 (by decide) rfl rfl (Nat.le_of_ble_eq_true rfl) ?_
  intro p e s m args below meth c hX hr _
  unfold F_X4_unitPrice
  refine g_iconst 1 hX 1 dX4_unitPrice_0 rfl kc_i_1 ?_
  refine g_aload_n 2 0 hX dX4_unitPrice_1 rfl rfl ?_
  refine r_X4_65 5 hX dX4_unitPrice_2 rfl ?_
  refine g_aload_n 6 0 hX dX4_unitPrice_5 rfl rfl ?_
  refine g_aload_n 7 2 hX dX4_unitPrice_6 rfl rfl ?_
  refine g_callV_ip 10 hX (k_X4_heightUnder l g N M a0 a2) lk_X4_heightUnder rfl (ci := 4) rfl (Nat.le_of_ble_eq_true rfl) q_1717 q_21 (by omega) rfl (Nat.le_of_ble_eq_true rfl) (Nat.zero_le _) (Nat.zero_le _) dX4_unitPrice_7 rfl (fun r1 => ?_)
  refine g_iadd 11 hX dX4_unitPrice_10 rfl ?_
  refine g_aload_n 12 0 hX dX4_unitPrice_11 rfl rfl ?_
  refine g_aload_n 13 1 hX dX4_unitPrice_12 rfl rfl ?_
  refine g_callV_ip 16 hX (k_X4_heightUnder l g N M a0 a1) lk_X4_heightUnder rfl (ci := 4) rfl (Nat.le_of_ble_eq_true rfl) q_1717 q_21 (by omega) rfl (Nat.le_of_ble_eq_true rfl) (Nat.zero_le _) (Nat.zero_le _) dX4_unitPrice_13 rfl (fun r2 => ?_)
  refine g_isub 17 hX dX4_unitPrice_16 rfl ?_
  refine g_mmax 20 hX q_1909 dX4_unitPrice_17 rfl (Nat.le_of_ble_eq_true rfl) (by decide) (Nat.zero_le _) (Nat.zero_le _) ?_
  exact g_iret hX hr rfl (Nat.le_refl 0) (Nat.le_refl 0) dX4_unitPrice_20
set_option maxRecDepth 100000 in
set_option maxHeartbeats 4000000 in
theorem k_X4_torqueAfterMove (l : Launch) (g : kG) (N : Nat) (M : kMem) (a0 : Nat) (a1 : Nat) (a2 : Nat) (x3 : Int32) : kMet l g yX4_torqueAfterMove cX4_torqueAfterMove 5 (some .int) 2 0 0 [.ref a0, .ref a1, .ref a2, .int x3] M (fun r : Int32 => (some (.int r), M)) (F_X4_torqueAfterMove N M a0 a1 a2 x3) := by
  refine k_of (lv := [(0, .ref a0), (1, .ref a1), (2, .ref a2), (3, .int x3)]) RX4 (by decide) rfl rfl (Nat.le_of_ble_eq_true rfl) ?_
  intro p e s m args below meth c hX hr _
  unfold F_X4_torqueAfterMove
  refine g_aload_n 1 0 hX dX4_torqueAfterMove_0 rfl rfl ?_
  refine g_aload_n 2 2 hX dX4_torqueAfterMove_1 rfl rfl ?_
  refine g_callV_ip 5 hX (k_X4_torqueOn l g N M a0 a2) lk_X4_torqueOn rfl (ci := 4) rfl (Nat.le_of_ble_eq_true rfl) q_1622 q_1624 (by omega) rfl (Nat.le_of_ble_eq_true rfl) (Nat.zero_le _) (Nat.zero_le _) dX4_torqueAfterMove_2 rfl (fun r1 => ?_)
  refine g_iload_n 6 3 hX dX4_torqueAfterMove_5 rfl rfl ?_
  refine g_aload_n 7 1 hX dX4_torqueAfterMove_6 rfl rfl ?_
  refine r_X4_99 10 hX dX4_torqueAfterMove_7 rfl ?_
  refine g_imul 11 hX dX4_torqueAfterMove_10 rfl ?_
  refine g_iadd 12 hX dX4_torqueAfterMove_11 rfl ?_
  refine g_klI (fun v2 hv2 => ?_)
  refine g_istore 14 4 [(4, .int v2), (0, .ref a0), (1, .ref a1), (2, .ref a2), (3, .int x3)] hX dX4_torqueAfterMove_12 rfl (Nat.le_of_ble_eq_true rfl) rfl ?_
  refine g_aload_n 15 2 hX dX4_torqueAfterMove_14 rfl rfl ?_
  refine r_X4_112 18 hX dX4_torqueAfterMove_15 rfl ?_
  refine g_aload_n 19 3 hX dX4_torqueAfterMove_18 rfl rfl ?_
  refine r_X4_121 22 hX dX4_torqueAfterMove_19 rfl ?_
  refine g_icmp_ne 40 25 hX dX4_torqueAfterMove_22 (by decide) rfl (fun _ => ?_) (fun _ => ?_)
  · refine g_iload 42 0 hX dX4_torqueAfterMove_40 rfl rfl ?_
    exact g_iret hX hr rfl (Nat.le_refl 0) (Nat.le_refl 0) dX4_torqueAfterMove_42
  · refine g_iload 27 0 hX dX4_torqueAfterMove_25 rfl rfl ?_
    refine g_aload_n 28 2 hX dX4_torqueAfterMove_27 rfl rfl ?_
    refine r_X4_115 31 hX dX4_torqueAfterMove_28 rfl ?_
    refine g_aload_n 32 2 hX dX4_torqueAfterMove_31 rfl rfl ?_
    refine r_X4_99 35 hX dX4_torqueAfterMove_32 rfl ?_
    refine g_imul 36 hX dX4_torqueAfterMove_35 rfl ?_
    refine g_isub 37 hX dX4_torqueAfterMove_36 rfl ?_
    refine g_goto 42 hX dX4_torqueAfterMove_37 (by decide) ?_
    exact g_iret hX hr rfl (Nat.le_refl 0) (Nat.le_refl 0) dX4_torqueAfterMove_42
set_option maxRecDepth 100000 in
set_option maxHeartbeats 4000000 in
theorem k_X4_whyNotSeat (l : Launch) (g : kG) (N : Nat) (M : kMem) (a0 : Nat) (a1 : Nat) (a2 : Nat) (x3 : Int32) : kMet l g yX4_whyNotSeat cX4_whyNotSeat 4 (some .int) 4 0 0 [.ref a0, .ref a1, .ref a2, .int x3] M (fun r : Int32 => (some (.int r), M)) (F_X4_whyNotSeat N M a0 a1 a2 x3) := by
  refine k_of (lv := [(0, .ref a0), (1, .ref a1), (2, .ref a2), (3, .int x3)]) RX4 (by decide) rfl rfl (Nat.le_of_ble_eq_true rfl) ?_
  intro p e s m args below meth c hX hr _
  unfold F_X4_whyNotSeat
  refine g_aload_n 1 1 hX dX4_whyNotSeat_0 rfl rfl ?_
  refine r_X4_108 4 hX dX4_whyNotSeat_1 rfl ?_
  refine g_if_ne 9 7 hX dX4_whyNotSeat_4 (by decide) rfl (fun _ => ?_) (fun _ => ?_)
  · refine g_aload_n 10 2 hX dX4_whyNotSeat_9 rfl rfl ?_
    refine g_iload_n 11 3 hX dX4_whyNotSeat_10 rfl rfl ?_
    refine g_callV_ip 14 hX (k_X0_isFree l g N M a2 x3) lk_X0_isFree rfl (ci := 0) rfl (Nat.le_of_ble_eq_true rfl) q_1930 q_584 (by omega) rfl (Nat.le_of_ble_eq_true rfl) (Nat.zero_le _) (Nat.zero_le _) dX4_whyNotSeat_11 rfl (fun r1 => ?_)
    refine g_if_ne 19 17 hX dX4_whyNotSeat_14 (by decide) rfl (fun _ => ?_) (fun _ => ?_)
    · refine g_aload_n 20 1 hX dX4_whyNotSeat_19 rfl rfl ?_
      refine r_X4_102 23 hX dX4_whyNotSeat_20 rfl ?_
      refine g_aload_n 24 0 hX dX4_whyNotSeat_23 rfl rfl ?_
      refine g_aload_n 25 2 hX dX4_whyNotSeat_24 rfl rfl ?_
      refine g_iload_n 26 3 hX dX4_whyNotSeat_25 rfl rfl ?_
      refine g_callV_ip 29 hX (k_X4_priceOn l g N M a0 a2 x3) lk_X4_priceOn rfl (ci := 4) rfl (Nat.le_of_ble_eq_true rfl) q_1931 q_1906 (by omega) rfl (Nat.le_of_ble_eq_true rfl) (Nat.zero_le _) (Nat.zero_le _) dX4_whyNotSeat_26 rfl (fun r2 => ?_)
      refine g_icmp_ge 34 32 hX dX4_whyNotSeat_29 (by decide) rfl (fun _ => ?_) (fun _ => ?_)
      · refine g_aload_n 35 2 hX dX4_whyNotSeat_34 rfl rfl ?_
        refine g_aload_n 36 0 hX dX4_whyNotSeat_35 rfl rfl ?_
        refine g_aload_n 37 1 hX dX4_whyNotSeat_36 rfl rfl ?_
        refine g_aload_n 38 2 hX dX4_whyNotSeat_37 rfl rfl ?_
        refine g_iload_n 39 3 hX dX4_whyNotSeat_38 rfl rfl ?_
        refine g_callV_ip 42 hX (k_X4_torqueAfterMove l g N M a0 a1 a2 x3) lk_X4_torqueAfterMove rfl (ci := 4) rfl (Nat.le_of_ble_eq_true rfl) q_1932 q_26 (by omega) rfl (Nat.le_of_ble_eq_true rfl) (Nat.zero_le _) (Nat.zero_le _) dX4_whyNotSeat_39 rfl (fun r3 => ?_)
        refine g_callV_ip 45 hX (k_X0_tipsUnder l g N M a2 r3) lk_X0_tipsUnder rfl (ci := 0) rfl (Nat.le_of_ble_eq_true rfl) q_1936 q_1938 (by omega) rfl (Nat.le_of_ble_eq_true rfl) (Nat.zero_le _) (Nat.zero_le _) dX4_whyNotSeat_42 rfl (fun r4 => ?_)
        refine g_if_eq 52 48 hX dX4_whyNotSeat_45 (by decide) rfl (fun _ => ?_) (fun _ => ?_)
        · refine g_iconst 53 hX 0 dX4_whyNotSeat_52 rfl kc_i_0 ?_
          exact g_iret hX hr rfl (Nat.le_refl 0) (Nat.le_refl 0) dX4_whyNotSeat_53
        · refine g_iconst 49 hX 4 dX4_whyNotSeat_48 rfl kc_i_4 ?_
          refine g_goto 53 hX dX4_whyNotSeat_49 (by decide) ?_
          exact g_iret hX hr rfl (Nat.le_refl 0) (Nat.le_refl 0) dX4_whyNotSeat_53
      · refine g_iconst 33 hX 3 dX4_whyNotSeat_32 rfl kc_i_3 ?_
        exact g_iret hX hr rfl (Nat.le_refl 0) (Nat.le_refl 0) dX4_whyNotSeat_33
    · refine g_iconst 18 hX 2 dX4_whyNotSeat_17 rfl kc_i_2 ?_
      exact g_iret hX hr rfl (Nat.le_refl 0) (Nat.le_refl 0) dX4_whyNotSeat_18
  · refine g_iconst 8 hX 1 dX4_whyNotSeat_7 rfl kc_i_1 ?_
    exact g_iret hX hr rfl (Nat.le_refl 0) (Nat.le_refl 0) dX4_whyNotSeat_8
set_option maxRecDepth 100000 in
set_option maxHeartbeats 4000000 in
theorem k_X4_whyNotSale (l : Launch) (g : kG) (N : Nat) (M : kMem) (a0 : Nat) (a1 : Nat) (a2 : Nat) (x3 : Int32) : kMet l g yX4_whyNotSale cX4_whyNotSale 6 (some .int) 4 0 0 [.ref a0, .ref a1, .ref a2, .int x3] M (fun r : Int32 => (some (.int r), M)) (F_X4_whyNotSale N M a0 a1 a2 x3) := by
  refine k_of (lv := [(0, .ref a0), (1, .ref a1), (2, .ref a2), (3, .int x3)]) RX4 (by decide) rfl rfl (Nat.le_of_ble_eq_true rfl) ?_
  intro p e s m args below meth c hX hr _
  unfold F_X4_whyNotSale
  refine g_aload_n 1 0 hX dX4_whyNotSale_0 rfl rfl ?_
  refine g_aload_n 2 1 hX dX4_whyNotSale_1 rfl rfl ?_
  refine r_X4_112 5 hX dX4_whyNotSale_2 rfl ?_
  refine g_callV_rp 8 hX (k_X4_boardNumbered l g N M a0 (kI M a1 6)) lk_X4_boardNumbered rfl (ci := 4) rfl (Nat.le_of_ble_eq_true rfl) q_1721 q_574 (by omega) rfl (Nat.le_of_ble_eq_true rfl) (Nat.zero_le _) (Nat.zero_le _) dX4_whyNotSale_5 rfl (fun r1 => ?_)
  refine g_astore 10 4 [(4, .ref r1), (0, .ref a0), (1, .ref a1), (2, .ref a2), (3, .int x3)] hX dX4_whyNotSale_8 rfl (Nat.le_of_ble_eq_true rfl) rfl ?_
  refine g_aload 12 0 hX dX4_whyNotSale_10 rfl rfl ?_
  refine g_ifnull 22 15 hX dX4_whyNotSale_12 (by decide) rfl (fun _ => ?_) (fun _ => ?_)
  · refine g_iconst 23 hX 5 dX4_whyNotSale_22 rfl kc_i_5 ?_
    exact g_iret hX hr rfl (Nat.le_refl 0) (Nat.le_refl 0) dX4_whyNotSale_23
  · refine g_aload_n 16 3 hX dX4_whyNotSale_15 rfl rfl ?_
    refine g_callV_ip 19 hX (k_X10_isSeated l g N M a2) lk_X10_isSeated rfl (ci := 10) rfl (Nat.le_of_ble_eq_true rfl) q_1716 q_570 (by omega) rfl (Nat.le_of_ble_eq_true rfl) (Nat.zero_le _) (Nat.zero_le _) dX4_whyNotSale_16 rfl (fun r2 => ?_)
    refine g_if_ne 24 22 hX dX4_whyNotSale_19 (by decide) rfl (fun _ => ?_) (fun _ => ?_)
    · refine g_aload_n 25 2 hX dX4_whyNotSale_24 rfl rfl ?_
      refine r_X4_112 28 hX dX4_whyNotSale_25 rfl ?_
      refine g_aload_n 29 3 hX dX4_whyNotSale_28 rfl rfl ?_
      refine r_X4_112 32 hX dX4_whyNotSale_29 rfl ?_
      refine g_icmp_eq 38 35 hX dX4_whyNotSale_32 (by decide) rfl (fun _ => ?_) (fun _ => ?_)
      · refine g_aload_n 39 2 hX dX4_whyNotSale_38 rfl rfl ?_
        refine r_X4_99 42 hX dX4_whyNotSale_39 rfl ?_
        refine g_iload_n 43 4 hX dX4_whyNotSale_42 rfl rfl ?_
        refine g_isub 44 hX dX4_whyNotSale_43 rfl ?_
        refine g_iconst 45 hX 1 dX4_whyNotSale_44 rfl kc_i_1 ?_
        refine g_icmp_lt 59 48 hX dX4_whyNotSale_45 (by decide) rfl (fun _ => ?_) (fun _ => ?_)
        · refine g_bipush 61 hX 7 dX4_whyNotSale_59 rfl kc_b_7 ?_
          exact g_iret hX hr rfl (Nat.le_refl 0) (Nat.le_refl 0) dX4_whyNotSale_61
        · refine g_aload_n 49 3 hX dX4_whyNotSale_48 rfl rfl ?_
          refine r_X4_99 52 hX dX4_whyNotSale_49 rfl ?_
          refine g_iload_n 53 4 hX dX4_whyNotSale_52 rfl rfl ?_
          refine g_iadd 54 hX dX4_whyNotSale_53 rfl ?_
          refine g_bipush 56 hX 99 dX4_whyNotSale_54 rfl kc_b_99 ?_
          refine g_icmp_le 62 59 hX dX4_whyNotSale_56 (by decide) rfl (fun _ => ?_) (fun _ => ?_)
          · refine g_aload_n 63 3 hX dX4_whyNotSale_62 rfl rfl ?_
            refine r_X4_102 66 hX dX4_whyNotSale_63 rfl ?_
            refine g_iload_n 67 4 hX dX4_whyNotSale_66 rfl rfl ?_
            refine g_aload_n 68 1 hX dX4_whyNotSale_67 rfl rfl ?_
            refine g_aload_n 69 2 hX dX4_whyNotSale_68 rfl rfl ?_
            refine g_aload_n 70 3 hX dX4_whyNotSale_69 rfl rfl ?_
            refine g_callV_ip 73 hX (k_X4_unitPrice l g N M a0 a1 a2) lk_X4_unitPrice rfl (ci := 4) rfl (Nat.le_of_ble_eq_true rfl) q_2006 q_2008 (by omega) rfl (Nat.le_of_ble_eq_true rfl) (Nat.zero_le _) (Nat.zero_le _) dX4_whyNotSale_70 rfl (fun r3 => ?_)
            refine g_imul 74 hX dX4_whyNotSale_73 rfl ?_
            refine g_icmp_ge 79 77 hX dX4_whyNotSale_74 (by decide) rfl (fun _ => ?_) (fun _ => ?_)
            · refine g_aload_n 80 1 hX dX4_whyNotSale_79 rfl rfl ?_
              refine g_aload 82 0 hX dX4_whyNotSale_80 rfl rfl ?_
              refine g_callV_ip 85 hX (k_X4_torqueOn l g N M a0 r1) lk_X4_torqueOn rfl (ci := 4) rfl (Nat.le_of_ble_eq_true rfl) q_1622 q_1624 (by omega) rfl (Nat.le_of_ble_eq_true rfl) (Nat.zero_le _) (Nat.zero_le _) dX4_whyNotSale_82 rfl (fun r4 => ?_)
              refine g_iload_n 86 4 hX dX4_whyNotSale_85 rfl rfl ?_
              refine g_aload_n 87 3 hX dX4_whyNotSale_86 rfl rfl ?_
              refine r_X4_115 90 hX dX4_whyNotSale_87 rfl ?_
              refine g_aload_n 91 2 hX dX4_whyNotSale_90 rfl rfl ?_
              refine r_X4_115 94 hX dX4_whyNotSale_91 rfl ?_
              refine g_isub 95 hX dX4_whyNotSale_94 rfl ?_
              refine g_imul 96 hX dX4_whyNotSale_95 rfl ?_
              refine g_iadd 97 hX dX4_whyNotSale_96 rfl ?_
              refine g_klI (fun v5 hv5 => ?_)
              refine g_istore 99 5 [(5, .int v5), (4, .ref r1), (0, .ref a0), (1, .ref a1), (2, .ref a2), (3, .int x3)] hX dX4_whyNotSale_97 rfl (Nat.le_of_ble_eq_true rfl) rfl ?_
              refine g_aload 101 1 hX dX4_whyNotSale_99 rfl rfl ?_
              refine g_iload 103 0 hX dX4_whyNotSale_101 rfl rfl ?_
              refine g_callV_ip 106 hX (k_X0_tipsUnder l g N M r1 v5) lk_X0_tipsUnder rfl (ci := 0) rfl (Nat.le_of_ble_eq_true rfl) q_1936 q_1938 (by omega) rfl (Nat.le_of_ble_eq_true rfl) (Nat.zero_le _) (Nat.zero_le _) dX4_whyNotSale_103 rfl (fun r6 => ?_)
              refine g_if_eq 113 109 hX dX4_whyNotSale_106 (by decide) rfl (fun _ => ?_) (fun _ => ?_)
              · refine g_iconst 114 hX 0 dX4_whyNotSale_113 rfl kc_i_0 ?_
                exact g_iret hX hr rfl (Nat.le_refl 0) (Nat.le_refl 0) dX4_whyNotSale_114
              · refine g_iconst 110 hX 4 dX4_whyNotSale_109 rfl kc_i_4 ?_
                refine g_goto 114 hX dX4_whyNotSale_110 (by decide) ?_
                exact g_iret hX hr rfl (Nat.le_refl 0) (Nat.le_refl 0) dX4_whyNotSale_114
            · refine g_iconst 78 hX 3 dX4_whyNotSale_77 rfl kc_i_3 ?_
              exact g_iret hX hr rfl (Nat.le_refl 0) (Nat.le_refl 0) dX4_whyNotSale_78
          · refine g_bipush 61 hX 7 dX4_whyNotSale_59 rfl kc_b_7 ?_
            exact g_iret hX hr rfl (Nat.le_refl 0) (Nat.le_refl 0) dX4_whyNotSale_61
      · refine g_bipush 37 hX 6 dX4_whyNotSale_35 rfl kc_b_6 ?_
        exact g_iret hX hr rfl (Nat.le_refl 0) (Nat.le_refl 0) dX4_whyNotSale_37
    · refine g_iconst 23 hX 5 dX4_whyNotSale_22 rfl kc_i_5 ?_
      exact g_iret hX hr rfl (Nat.le_refl 0) (Nat.le_refl 0) dX4_whyNotSale_23
set_option maxRecDepth 100000 in
set_option maxHeartbeats 4000000 in
theorem k_X4_tipsAfterSwap_37 {p : Program} {l : Launch} {e : Env} {s : State} {m : MethodId} {args : Array Value} {below : List Frame} {meth : Method} {c : Code} {g : kG} (hX : Cok (p, l, e, { frames := 2, cells := 0, slots := 0, locals := 60 * 2 }, s, m, args, below, meth, c, cX4_tipsAfterSwap, 5, RX4, g, 2)) (hr : meth.sig.returnType = (some .boolean)) (N : Nat) (M : kMem) : ∀ (a1 : Nat) (a2 : Nat) (a3 : Nat) (x4 : Int32), GG (p, l, e, { frames := 2, cells := 0, slots := 0, locals := 60 * 2 }, s, m, args, below, meth, c, cX4_tipsAfterSwap, 5, RX4, g, 2) (fun b => MQ below (kQ g ((fun r : Int32 => (some (.int r), M)) b)) args s 0 0 (kZ g.2.2.1)) 0 0 (F_X4_tipsAfterSwap_37 N M a1 a2 a3 x4) 37 [(1, .ref a1), (2, .ref a2), (3, .ref a3), (4, .int x4)] [] M := by
  intro a1 a2 a3 x4
  unfold F_X4_tipsAfterSwap_37
  refine g_aload_n 38 2 hX dX4_tipsAfterSwap_37 rfl rfl ?_
  refine r_X4_112 41 hX dX4_tipsAfterSwap_38 rfl ?_
  refine g_aload_n 42 0 hX dX4_tipsAfterSwap_41 rfl rfl ?_
  refine r_X4_121 45 hX dX4_tipsAfterSwap_42 rfl ?_
  refine g_icmp_ne 67 48 hX dX4_tipsAfterSwap_45 (by decide) rfl (fun _ => ?_) (fun _ => ?_)
  · refine g_aload_n 68 0 hX dX4_tipsAfterSwap_67 rfl rfl ?_
    refine g_iload 70 3 hX dX4_tipsAfterSwap_68 rfl rfl ?_
    refine g_callV_ip 73 hX (k_X0_tipsUnder l g N M a1 x4) lk_X0_tipsUnder rfl (ci := 0) rfl (Nat.le_of_ble_eq_true rfl) q_1936 q_1938 (by omega) rfl (Nat.le_of_ble_eq_true rfl) (Nat.zero_le _) (Nat.zero_le _) dX4_tipsAfterSwap_70 rfl (fun r2 => ?_)
    exact g_zret hX hr rfl (Nat.le_refl 0) (Nat.le_refl 0) dX4_tipsAfterSwap_73
  · refine g_iload 50 3 hX dX4_tipsAfterSwap_48 rfl rfl ?_
    refine g_aload_n 51 2 hX dX4_tipsAfterSwap_50 rfl rfl ?_
    refine r_X4_115 54 hX dX4_tipsAfterSwap_51 rfl ?_
    refine g_aload_n 55 1 hX dX4_tipsAfterSwap_54 rfl rfl ?_
    refine r_X4_99 58 hX dX4_tipsAfterSwap_55 rfl ?_
    refine g_aload_n 59 2 hX dX4_tipsAfterSwap_58 rfl rfl ?_
    refine r_X4_99 62 hX dX4_tipsAfterSwap_59 rfl ?_
    refine g_isub 63 hX dX4_tipsAfterSwap_62 rfl ?_
    refine g_imul 64 hX dX4_tipsAfterSwap_63 rfl ?_
    refine g_iadd 65 hX dX4_tipsAfterSwap_64 rfl ?_
    refine g_klI (fun v3 hv3 => ?_)
    refine g_istore 67 4 [(4, .int v3), (1, .ref a1), (2, .ref a2), (3, .ref a3)] hX dX4_tipsAfterSwap_65 rfl (Nat.le_of_ble_eq_true rfl) rfl ?_
    refine g_aload_n 68 1 hX dX4_tipsAfterSwap_67 rfl rfl ?_
    refine g_iload 70 0 hX dX4_tipsAfterSwap_68 rfl rfl ?_
    refine g_callV_ip 73 hX (k_X0_tipsUnder l g N M a1 v3) lk_X0_tipsUnder rfl (ci := 0) rfl (Nat.le_of_ble_eq_true rfl) q_1936 q_1938 (by omega) rfl (Nat.le_of_ble_eq_true rfl) (Nat.zero_le _) (Nat.zero_le _) dX4_tipsAfterSwap_70 rfl (fun r4 => ?_)
    exact g_zret hX hr rfl (Nat.le_refl 0) (Nat.le_refl 0) dX4_tipsAfterSwap_73
set_option maxRecDepth 100000 in
set_option maxHeartbeats 4000000 in
theorem k_X4_tipsAfterSwap (l : Launch) (g : kG) (N : Nat) (M : kMem) (a0 : Nat) (a1 : Nat) (a2 : Nat) (a3 : Nat) : kMet l g yX4_tipsAfterSwap cX4_tipsAfterSwap 5 (some .boolean) 2 0 0 [.ref a0, .ref a1, .ref a2, .ref a3] M (fun r : Int32 => (some (.int r), M)) (F_X4_tipsAfterSwap N M a0 a1 a2 a3) := by
  refine k_of (lv := [(0, .ref a0), (1, .ref a1), (2, .ref a2), (3, .ref a3)]) RX4 (by decide) rfl rfl (Nat.le_of_ble_eq_true rfl) ?_
  intro p e s m args below meth c hX hr _
  unfold F_X4_tipsAfterSwap
  refine g_aload_n 1 0 hX dX4_tipsAfterSwap_0 rfl rfl ?_
  refine g_aload_n 2 1 hX dX4_tipsAfterSwap_1 rfl rfl ?_
  refine g_callV_ip 5 hX (k_X4_torqueOn l g N M a0 a1) lk_X4_torqueOn rfl (ci := 4) rfl (Nat.le_of_ble_eq_true rfl) q_1622 q_1624 (by omega) rfl (Nat.le_of_ble_eq_true rfl) (Nat.zero_le _) (Nat.zero_le _) dX4_tipsAfterSwap_2 rfl (fun r1 => ?_)
  refine g_istore 7 4 [(4, .int r1), (0, .ref a0), (1, .ref a1), (2, .ref a2), (3, .ref a3)] hX dX4_tipsAfterSwap_5 rfl (Nat.le_of_ble_eq_true rfl) rfl ?_
  refine g_aload_n 8 3 hX dX4_tipsAfterSwap_7 rfl rfl ?_
  refine r_X4_112 11 hX dX4_tipsAfterSwap_8 rfl ?_
  refine g_aload_n 12 2 hX dX4_tipsAfterSwap_11 rfl rfl ?_
  refine r_X4_121 15 hX dX4_tipsAfterSwap_12 rfl ?_
  refine g_icmp_ne 37 18 hX dX4_tipsAfterSwap_15 (by decide) rfl (fun _ => ?_) (fun _ => ?_)
  · refine g_lv [2, 3, 4, 0] rfl ?_
    exact k_X4_tipsAfterSwap_37 hX hr N M a1 a2 a3 r1
  · refine g_iload 20 0 hX dX4_tipsAfterSwap_18 rfl rfl ?_
    refine g_aload_n 21 3 hX dX4_tipsAfterSwap_20 rfl rfl ?_
    refine r_X4_115 24 hX dX4_tipsAfterSwap_21 rfl ?_
    refine g_aload_n 25 4 hX dX4_tipsAfterSwap_24 rfl rfl ?_
    refine r_X4_99 28 hX dX4_tipsAfterSwap_25 rfl ?_
    refine g_aload_n 29 3 hX dX4_tipsAfterSwap_28 rfl rfl ?_
    refine r_X4_99 32 hX dX4_tipsAfterSwap_29 rfl ?_
    refine g_isub 33 hX dX4_tipsAfterSwap_32 rfl ?_
    refine g_imul 34 hX dX4_tipsAfterSwap_33 rfl ?_
    refine g_iadd 35 hX dX4_tipsAfterSwap_34 rfl ?_
    refine g_klI (fun v5 hv5 => ?_)
    refine g_istore 37 4 [(4, .int v5), (0, .ref a0), (1, .ref a1), (2, .ref a2), (3, .ref a3)] hX dX4_tipsAfterSwap_35 rfl (Nat.le_of_ble_eq_true rfl) rfl ?_
    refine g_lv [2, 3, 4, 0] rfl ?_
    exact k_X4_tipsAfterSwap_37 hX hr N M a1 a2 a3 v5
set_option maxRecDepth 100000 in
set_option maxHeartbeats 4000000 in
theorem k_X4_whyNotSwap (l : Launch) (g : kG) (N : Nat) (M : kMem) (a0 : Nat) (a1 : Nat) (a2 : Nat) : kMet l g yX4_whyNotSwap cX4_whyNotSwap 6 (some .int) 3 0 0 [.ref a0, .ref a1, .ref a2] M (fun r : Int32 => (some (.int r), M)) (F_X4_whyNotSwap N M a0 a1 a2) := by
  refine k_of (lv := [(0, .ref a0), (1, .ref a1), (2, .ref a2)]) RX4 (by decide) rfl rfl (Nat.le_of_ble_eq_true rfl) ?_
  intro p e s m args below meth c hX hr _
  unfold F_X4_whyNotSwap
  refine g_aload_n 1 0 hX dX4_whyNotSwap_0 rfl rfl ?_
  refine g_aload_n 2 1 hX dX4_whyNotSwap_1 rfl rfl ?_
  refine r_X4_112 5 hX dX4_whyNotSwap_2 rfl ?_
  refine g_callV_rp 8 hX (k_X4_boardNumbered l g N M a0 (kI M a1 6)) lk_X4_boardNumbered rfl (ci := 4) rfl (Nat.le_of_ble_eq_true rfl) q_1721 q_574 (by omega) rfl (Nat.le_of_ble_eq_true rfl) (Nat.zero_le _) (Nat.zero_le _) dX4_whyNotSwap_5 rfl (fun r1 => ?_)
  refine g_astore_n 9 3 [(3, .ref r1), (0, .ref a0), (1, .ref a1), (2, .ref a2)] hX dX4_whyNotSwap_8 rfl rfl (Nat.le_of_ble_eq_true rfl) rfl ?_
  refine g_aload_n 10 1 hX dX4_whyNotSwap_9 rfl rfl ?_
  refine g_aload_n 11 3 hX dX4_whyNotSwap_10 rfl rfl ?_
  refine r_X4_112 14 hX dX4_whyNotSwap_11 rfl ?_
  refine g_callV_rp 17 hX (k_X4_boardNumbered l g N M a0 (kI M a2 6)) lk_X4_boardNumbered rfl (ci := 4) rfl (Nat.le_of_ble_eq_true rfl) q_1721 q_574 (by omega) rfl (Nat.le_of_ble_eq_true rfl) (Nat.zero_le _) (Nat.zero_le _) dX4_whyNotSwap_14 rfl (fun r2 => ?_)
  refine g_astore 19 4 [(4, .ref r2), (3, .ref r1), (0, .ref a0), (1, .ref a1), (2, .ref a2)] hX dX4_whyNotSwap_17 rfl (Nat.le_of_ble_eq_true rfl) rfl ?_
  refine g_aload_n 20 1 hX dX4_whyNotSwap_19 rfl rfl ?_
  refine g_ifnull 28 23 hX dX4_whyNotSwap_20 (by decide) rfl (fun _ => ?_) (fun _ => ?_)
  · refine g_iconst 29 hX 5 dX4_whyNotSwap_28 rfl kc_i_5 ?_
    exact g_iret hX hr rfl (Nat.le_refl 0) (Nat.le_refl 0) dX4_whyNotSwap_29
  · refine g_aload 25 0 hX dX4_whyNotSwap_23 rfl rfl ?_
    refine g_ifnonnull 30 28 hX dX4_whyNotSwap_25 (by decide) rfl (fun _ => ?_) (fun _ => ?_)
    · refine g_aload_n 31 2 hX dX4_whyNotSwap_30 rfl rfl ?_
      refine g_aload_n 32 4 hX dX4_whyNotSwap_31 rfl rfl ?_
      refine g_callV_ip 35 hX (k_X4_heightUnder l g N M a0 a2) lk_X4_heightUnder rfl (ci := 4) rfl (Nat.le_of_ble_eq_true rfl) q_1717 q_21 (by omega) rfl (Nat.le_of_ble_eq_true rfl) (Nat.zero_le _) (Nat.zero_le _) dX4_whyNotSwap_32 rfl (fun r3 => ?_)
      refine g_aload_n 36 2 hX dX4_whyNotSwap_35 rfl rfl ?_
      refine g_aload_n 37 3 hX dX4_whyNotSwap_36 rfl rfl ?_
      refine g_callV_ip 40 hX (k_X4_heightUnder l g N M a0 a1) lk_X4_heightUnder rfl (ci := 4) rfl (Nat.le_of_ble_eq_true rfl) q_1717 q_21 (by omega) rfl (Nat.le_of_ble_eq_true rfl) (Nat.zero_le _) (Nat.zero_le _) dX4_whyNotSwap_37 rfl (fun r4 => ?_)
      refine g_isub 41 hX dX4_whyNotSwap_40 rfl ?_
      refine g_klI (fun v5 hv5 => ?_)
      refine g_istore 43 5 [(5, .int v5), (4, .ref r2), (3, .ref r1), (0, .ref a0), (1, .ref a1), (2, .ref a2)] hX dX4_whyNotSwap_41 rfl (Nat.le_of_ble_eq_true rfl) rfl ?_
      refine g_aload_n 44 4 hX dX4_whyNotSwap_43 rfl rfl ?_
      refine r_X4_102 47 hX dX4_whyNotSwap_44 rfl ?_
      refine g_iload 49 0 hX dX4_whyNotSwap_47 rfl rfl ?_
      refine g_icmp_lt 62 52 hX dX4_whyNotSwap_49 (by decide) rfl (fun _ => ?_) (fun _ => ?_)
      · refine g_iconst 63 hX 3 dX4_whyNotSwap_62 rfl kc_i_3 ?_
        exact g_iret hX hr rfl (Nat.le_refl 0) (Nat.le_refl 0) dX4_whyNotSwap_63
      · refine g_aload_n 53 5 hX dX4_whyNotSwap_52 rfl rfl ?_
        refine r_X4_102 56 hX dX4_whyNotSwap_53 rfl ?_
        refine g_iload 58 0 hX dX4_whyNotSwap_56 rfl rfl ?_
        refine g_ineg 59 hX dX4_whyNotSwap_58 rfl ?_
        refine g_icmp_ge 64 62 hX dX4_whyNotSwap_59 (by decide) rfl (fun _ => ?_) (fun _ => ?_)
        · refine g_aload_n 65 3 hX dX4_whyNotSwap_64 rfl rfl ?_
          refine g_aload_n 66 2 hX dX4_whyNotSwap_65 rfl rfl ?_
          refine g_aload_n 67 4 hX dX4_whyNotSwap_66 rfl rfl ?_
          refine g_aload_n 68 5 hX dX4_whyNotSwap_67 rfl rfl ?_
          refine g_callV_ip 71 hX (k_X4_tipsAfterSwap l g N M a0 r1 a1 a2) lk_X4_tipsAfterSwap rfl (ci := 4) rfl (Nat.le_of_ble_eq_true rfl) q_2035 q_32 (by omega) rfl (Nat.le_of_ble_eq_true rfl) (Nat.zero_le _) (Nat.zero_le _) dX4_whyNotSwap_68 rfl (fun r6 => ?_)
          refine g_if_ne 85 74 hX dX4_whyNotSwap_71 (by decide) rfl (fun _ => ?_) (fun _ => ?_)
          · refine g_iconst 86 hX 4 dX4_whyNotSwap_85 rfl kc_i_4 ?_
            refine g_goto 90 hX dX4_whyNotSwap_86 (by decide) ?_
            exact g_iret hX hr rfl (Nat.le_refl 0) (Nat.le_refl 0) dX4_whyNotSwap_90
          · refine g_aload_n 75 3 hX dX4_whyNotSwap_74 rfl rfl ?_
            refine g_aload 77 1 hX dX4_whyNotSwap_75 rfl rfl ?_
            refine g_aload_n 78 4 hX dX4_whyNotSwap_77 rfl rfl ?_
            refine g_aload_n 79 5 hX dX4_whyNotSwap_78 rfl rfl ?_
            refine g_callV_ip 82 hX (k_X4_tipsAfterSwap l g N M a0 r2 a1 a2) lk_X4_tipsAfterSwap rfl (ci := 4) rfl (Nat.le_of_ble_eq_true rfl) q_2035 q_32 (by omega) rfl (Nat.le_of_ble_eq_true rfl) (Nat.zero_le _) (Nat.zero_le _) dX4_whyNotSwap_79 rfl (fun r7 => ?_)
            refine g_if_eq 89 85 hX dX4_whyNotSwap_82 (by decide) rfl (fun _ => ?_) (fun _ => ?_)
            · refine g_iconst 90 hX 0 dX4_whyNotSwap_89 rfl kc_i_0 ?_
              exact g_iret hX hr rfl (Nat.le_refl 0) (Nat.le_refl 0) dX4_whyNotSwap_90
            · refine g_iconst 86 hX 4 dX4_whyNotSwap_85 rfl kc_i_4 ?_
              refine g_goto 90 hX dX4_whyNotSwap_86 (by decide) ?_
              exact g_iret hX hr rfl (Nat.le_refl 0) (Nat.le_refl 0) dX4_whyNotSwap_90
        · refine g_iconst 63 hX 3 dX4_whyNotSwap_62 rfl kc_i_3 ?_
          exact g_iret hX hr rfl (Nat.le_refl 0) (Nat.le_refl 0) dX4_whyNotSwap_63
    · refine g_iconst 29 hX 5 dX4_whyNotSwap_28 rfl kc_i_5 ?_
      exact g_iret hX hr rfl (Nat.le_refl 0) (Nat.le_refl 0) dX4_whyNotSwap_29
set_option maxRecDepth 100000 in
set_option maxHeartbeats 4000000 in
theorem k_X4_seat (l : Launch) (g : kG) (N : Nat) (M : kMem) (a0 : Nat) (a1 : Nat) (a2 : Nat) (x3 : Int32) : kMet l g yX4_seat cX4_seat 4 none 2 0 0 [.ref a0, .ref a1, .ref a2, .int x3] M (fun r : kMem => (none, r)) (F_X4_seat N M a0 a1 a2 x3) := by
  refine k_of (lv := [(0, .ref a0), (1, .ref a1), (2, .ref a2), (3, .int x3)]) RX4 (by decide) rfl rfl (Nat.le_of_ble_eq_true rfl) ?_
  intro p e s m args below meth c hX hr _
  unfold F_X4_seat
  refine g_aload_n 1 1 hX dX4_seat_0 rfl rfl ?_
  refine g_aload_n 2 2 hX dX4_seat_1 rfl rfl ?_
  refine r_X4_121 5 hX dX4_seat_2 rfl ?_
  refine p_X4_112 8 hX dX4_seat_5 rfl ?_
  refine g_klM (fun M1 hM1 => ?_)
  refine g_aload_n 9 1 hX dX4_seat_8 rfl rfl ?_
  refine g_iload_n 10 3 hX dX4_seat_9 rfl rfl ?_
  refine p_X4_115 13 hX dX4_seat_10 rfl ?_
  refine g_klM (fun M2 hM2 => ?_)
  refine g_aload_n 14 2 hX dX4_seat_13 rfl rfl ?_
  refine g_iload_n 15 3 hX dX4_seat_14 rfl rfl ?_
  refine g_aload_n 16 1 hX dX4_seat_15 rfl rfl ?_
  refine r_X4_118 19 hX dX4_seat_16 rfl ?_
  refine g_callV_v 22 hX (k_X0_setOwner l g N M2 a2 x3 (kI M2 a1 0)) lk_X0_setOwner rfl (ci := 0) rfl (Nat.le_of_ble_eq_true rfl) q_598 q_600 (by omega) rfl (Nat.le_of_ble_eq_true rfl) (Nat.zero_le _) (Nat.zero_le _) dX4_seat_19 rfl (fun M3 => ?_)
  exact g_vret hX hr rfl (Nat.le_refl 0) (Nat.le_refl 0) dX4_seat_22
set_option maxRecDepth 100000 in
set_option maxHeartbeats 4000000 in
theorem k_X4_unseat (l : Launch) (g : kG) (N : Nat) (M : kMem) (a0 : Nat) (a1 : Nat) : kMet l g yX4_unseat cX4_unseat 3 none 2 0 0 [.ref a0, .ref a1] M (fun r : kMem => (none, r)) (F_X4_unseat N M a0 a1) := by
  refine k_of (lv := [(0, .ref a0), (1, .ref a1)]) RX4 (by decide) rfl rfl (Nat.le_of_ble_eq_true rfl) ?_
  intro p e s m args below meth c hX hr _
  unfold F_X4_unseat
  refine g_aload_n 1 0 hX dX4_unseat_0 rfl rfl ?_
  refine g_aload_n 2 1 hX dX4_unseat_1 rfl rfl ?_
  refine r_X4_112 5 hX dX4_unseat_2 rfl ?_
  refine g_callV_rp 8 hX (k_X4_boardNumbered l g N M a0 (kI M a1 6)) lk_X4_boardNumbered rfl (ci := 4) rfl (Nat.le_of_ble_eq_true rfl) q_1721 q_574 (by omega) rfl (Nat.le_of_ble_eq_true rfl) (Nat.zero_le _) (Nat.zero_le _) dX4_unseat_5 rfl (fun r1 => ?_)
  refine g_astore_n 9 2 [(2, .ref r1), (0, .ref a0), (1, .ref a1)] hX dX4_unseat_8 rfl rfl (Nat.le_of_ble_eq_true rfl) rfl ?_
  refine g_aload_n 10 0 hX dX4_unseat_9 rfl rfl ?_
  refine g_ifnull 22 13 hX dX4_unseat_10 (by decide) rfl (fun _ => ?_) (fun _ => ?_)
  · refine g_aload_n 23 2 hX dX4_unseat_22 rfl rfl ?_
    refine g_iconst 24 hX (-1) dX4_unseat_23 rfl kc_i_m1 ?_
    refine p_X4_112 27 hX dX4_unseat_24 rfl ?_
    refine g_klM (fun M2 hM2 => ?_)
    refine g_aload_n 28 2 hX dX4_unseat_27 rfl rfl ?_
    refine g_iconst 29 hX 0 dX4_unseat_28 rfl kc_i_0 ?_
    refine p_X4_115 32 hX dX4_unseat_29 rfl ?_
    refine g_klM (fun M3 hM3 => ?_)
    exact g_vret hX hr rfl (Nat.le_refl 0) (Nat.le_refl 0) dX4_unseat_32
  · refine g_aload_n 14 0 hX dX4_unseat_13 rfl rfl ?_
    refine g_aload_n 15 2 hX dX4_unseat_14 rfl rfl ?_
    refine r_X4_115 18 hX dX4_unseat_15 rfl ?_
    refine g_iconst 19 hX (-1) dX4_unseat_18 rfl kc_i_m1 ?_
    refine g_callV_v 22 hX (k_X0_setOwner l g N M r1 (kI M a1 7) (-1)) lk_X0_setOwner rfl (ci := 0) rfl (Nat.le_of_ble_eq_true rfl) q_598 q_600 (by omega) rfl (Nat.le_of_ble_eq_true rfl) (Nat.zero_le _) (Nat.zero_le _) dX4_unseat_19 rfl (fun M4 => ?_)
    refine g_aload_n 23 2 hX dX4_unseat_22 rfl rfl ?_
    refine g_iconst 24 hX (-1) dX4_unseat_23 rfl kc_i_m1 ?_
    refine p_X4_112 27 hX dX4_unseat_24 rfl ?_
    refine g_klM (fun M5 hM5 => ?_)
    refine g_aload_n 28 2 hX dX4_unseat_27 rfl rfl ?_
    refine g_iconst 29 hX 0 dX4_unseat_28 rfl kc_i_0 ?_
    refine p_X4_115 32 hX dX4_unseat_29 rfl ?_
    refine g_klM (fun M6 hM6 => ?_)
    exact g_vret hX hr rfl (Nat.le_refl 0) (Nat.le_refl 0) dX4_unseat_32
set_option maxRecDepth 100000 in
set_option maxHeartbeats 4000000 in
theorem k_X4_sellSeat (l : Launch) (g : kG) (N : Nat) (M : kMem) (a0 : Nat) (a1 : Nat) (a2 : Nat) (x3 : Int32) : kMet l g yX4_sellSeat cX4_sellSeat 5 (some .int) 4 0 0 [.ref a0, .ref a1, .ref a2, .int x3] M (fun r : Int32 × kMem => (some (.int r.1), r.2)) (F_X4_sellSeat N M a0 a1 a2 x3) := by
  refine k_of (lv := [(0, .ref a0), (1, .ref a1), (2, .ref a2), (3, .int x3)]) RX4 (by decide) rfl rfl (Nat.le_of_ble_eq_true rfl) ?_
  intro p e s m args below meth c hX hr _
  unfold F_X4_sellSeat
  refine g_aload_n 1 0 hX dX4_sellSeat_0 rfl rfl ?_
  refine g_aload_n 2 2 hX dX4_sellSeat_1 rfl rfl ?_
  refine g_iload_n 3 3 hX dX4_sellSeat_2 rfl rfl ?_
  refine g_callV_ip 6 hX (k_X4_priceOn l g N M a0 a2 x3) lk_X4_priceOn rfl (ci := 4) rfl (Nat.le_of_ble_eq_true rfl) q_1931 q_1906 (by omega) rfl (Nat.le_of_ble_eq_true rfl) (Nat.zero_le _) (Nat.zero_le _) dX4_sellSeat_3 rfl (fun r1 => ?_)
  refine g_istore 8 4 [(4, .int r1), (0, .ref a0), (1, .ref a1), (2, .ref a2), (3, .int x3)] hX dX4_sellSeat_6 rfl (Nat.le_of_ble_eq_true rfl) rfl ?_
  refine g_aload_n 9 2 hX dX4_sellSeat_8 rfl rfl ?_
  refine g_dup 10 hX dX4_sellSeat_9 rfl rfl ?_
  refine r_X4_102 13 hX dX4_sellSeat_10 rfl ?_
  refine g_iload 15 0 hX dX4_sellSeat_13 rfl rfl ?_
  refine g_isub 16 hX dX4_sellSeat_15 rfl ?_
  refine p_X4_102 19 hX dX4_sellSeat_16 rfl ?_
  refine g_klM (fun M2 hM2 => ?_)
  refine g_aload_n 20 1 hX dX4_sellSeat_19 rfl rfl ?_
  refine g_dup 21 hX dX4_sellSeat_20 rfl rfl ?_
  refine r_X4_56 24 hX dX4_sellSeat_21 rfl ?_
  refine g_iload 26 0 hX dX4_sellSeat_24 rfl rfl ?_
  refine g_iadd 27 hX dX4_sellSeat_26 rfl ?_
  refine p_X4_56 30 hX dX4_sellSeat_27 rfl ?_
  refine g_klM (fun M3 hM3 => ?_)
  refine g_aload_n 31 1 hX dX4_sellSeat_30 rfl rfl ?_
  refine g_aload_n 32 2 hX dX4_sellSeat_31 rfl rfl ?_
  refine g_callV_v 35 hX (k_X4_unseat l g N M3 a0 a1) lk_X4_unseat rfl (ci := 4) rfl (Nat.le_of_ble_eq_true rfl) q_1981 q_1983 (by omega) rfl (Nat.le_of_ble_eq_true rfl) (Nat.zero_le _) (Nat.zero_le _) dX4_sellSeat_32 rfl (fun M4 => ?_)
  refine g_aload_n 36 1 hX dX4_sellSeat_35 rfl rfl ?_
  refine g_aload_n 37 2 hX dX4_sellSeat_36 rfl rfl ?_
  refine g_aload_n 38 3 hX dX4_sellSeat_37 rfl rfl ?_
  refine g_iload_n 39 4 hX dX4_sellSeat_38 rfl rfl ?_
  refine g_callV_v 42 hX (k_X4_seat l g N M4 a0 a1 a2 x3) lk_X4_seat rfl (ci := 4) rfl (Nat.le_of_ble_eq_true rfl) q_1985 q_596 (by omega) rfl (Nat.le_of_ble_eq_true rfl) (Nat.zero_le _) (Nat.zero_le _) dX4_sellSeat_39 rfl (fun M5 => ?_)
  refine g_aload_n 43 1 hX dX4_sellSeat_42 rfl rfl ?_
  refine g_dup 44 hX dX4_sellSeat_43 rfl rfl ?_
  refine r_X4_38 47 hX dX4_sellSeat_44 rfl ?_
  refine g_iconst 48 hX 1 dX4_sellSeat_47 rfl kc_i_1 ?_
  refine g_iadd 49 hX dX4_sellSeat_48 rfl ?_
  refine p_X4_38 52 hX dX4_sellSeat_49 rfl ?_
  refine g_klM (fun M6 hM6 => ?_)
  refine g_iload 54 0 hX dX4_sellSeat_52 rfl rfl ?_
  exact g_iret hX hr rfl (Nat.le_refl 0) (Nat.le_refl 0) dX4_sellSeat_54
set_option maxRecDepth 100000 in
set_option maxHeartbeats 4000000 in
theorem k_X4_moveWeight (l : Launch) (g : kG) (N : Nat) (M : kMem) (a0 : Nat) (a1 : Nat) (a2 : Nat) (x3 : Int32) : kMet l g yX4_moveWeight cX4_moveWeight 5 (some .int) 4 0 0 [.ref a0, .ref a1, .ref a2, .int x3] M (fun r : Int32 × kMem => (some (.int r.1), r.2)) (F_X4_moveWeight N M a0 a1 a2 x3) := by
  refine k_of (lv := [(0, .ref a0), (1, .ref a1), (2, .ref a2), (3, .int x3)]) RX4 (by decide) rfl rfl (Nat.le_of_ble_eq_true rfl) ?_
  intro p e s m args below meth c hX hr _
  unfold F_X4_moveWeight
  refine g_iload_n 1 3 hX dX4_moveWeight_0 rfl rfl ?_
  refine g_aload_n 2 0 hX dX4_moveWeight_1 rfl rfl ?_
  refine g_aload_n 3 1 hX dX4_moveWeight_2 rfl rfl ?_
  refine g_aload_n 4 2 hX dX4_moveWeight_3 rfl rfl ?_
  refine g_callV_ip 7 hX (k_X4_unitPrice l g N M a0 a1 a2) lk_X4_unitPrice rfl (ci := 4) rfl (Nat.le_of_ble_eq_true rfl) q_2006 q_2008 (by omega) rfl (Nat.le_of_ble_eq_true rfl) (Nat.zero_le _) (Nat.zero_le _) dX4_moveWeight_4 rfl (fun r1 => ?_)
  refine g_imul 8 hX dX4_moveWeight_7 rfl ?_
  refine g_klI (fun v2 hv2 => ?_)
  refine g_istore 10 4 [(4, .int v2), (0, .ref a0), (1, .ref a1), (2, .ref a2), (3, .int x3)] hX dX4_moveWeight_8 rfl (Nat.le_of_ble_eq_true rfl) rfl ?_
  refine g_aload_n 11 3 hX dX4_moveWeight_10 rfl rfl ?_
  refine g_dup 12 hX dX4_moveWeight_11 rfl rfl ?_
  refine r_X4_102 15 hX dX4_moveWeight_12 rfl ?_
  refine g_iload 17 0 hX dX4_moveWeight_15 rfl rfl ?_
  refine g_isub 18 hX dX4_moveWeight_17 rfl ?_
  refine p_X4_102 21 hX dX4_moveWeight_18 rfl ?_
  refine g_klM (fun M3 hM3 => ?_)
  refine g_aload_n 22 2 hX dX4_moveWeight_21 rfl rfl ?_
  refine g_dup 23 hX dX4_moveWeight_22 rfl rfl ?_
  refine r_X4_102 26 hX dX4_moveWeight_23 rfl ?_
  refine g_iload 28 0 hX dX4_moveWeight_26 rfl rfl ?_
  refine g_iadd 29 hX dX4_moveWeight_28 rfl ?_
  refine p_X4_102 32 hX dX4_moveWeight_29 rfl ?_
  refine g_klM (fun M4 hM4 => ?_)
  refine g_aload_n 33 2 hX dX4_moveWeight_32 rfl rfl ?_
  refine g_dup 34 hX dX4_moveWeight_33 rfl rfl ?_
  refine r_X4_99 37 hX dX4_moveWeight_34 rfl ?_
  refine g_iload_n 38 4 hX dX4_moveWeight_37 rfl rfl ?_
  refine g_isub 39 hX dX4_moveWeight_38 rfl ?_
  refine p_X4_99 42 hX dX4_moveWeight_39 rfl ?_
  refine g_klM (fun M5 hM5 => ?_)
  refine g_aload_n 43 3 hX dX4_moveWeight_42 rfl rfl ?_
  refine g_dup 44 hX dX4_moveWeight_43 rfl rfl ?_
  refine r_X4_99 47 hX dX4_moveWeight_44 rfl ?_
  refine g_iload_n 48 4 hX dX4_moveWeight_47 rfl rfl ?_
  refine g_iadd 49 hX dX4_moveWeight_48 rfl ?_
  refine p_X4_99 52 hX dX4_moveWeight_49 rfl ?_
  refine g_klM (fun M6 hM6 => ?_)
  refine g_aload_n 53 1 hX dX4_moveWeight_52 rfl rfl ?_
  refine g_dup 54 hX dX4_moveWeight_53 rfl rfl ?_
  refine r_X4_41 57 hX dX4_moveWeight_54 rfl ?_
  refine g_iload_n 58 4 hX dX4_moveWeight_57 rfl rfl ?_
  refine g_iadd 59 hX dX4_moveWeight_58 rfl ?_
  refine p_X4_41 62 hX dX4_moveWeight_59 rfl ?_
  refine g_klM (fun M7 hM7 => ?_)
  refine g_iload 64 0 hX dX4_moveWeight_62 rfl rfl ?_
  exact g_iret hX hr rfl (Nat.le_refl 0) (Nat.le_refl 0) dX4_moveWeight_64
set_option maxRecDepth 100000 in
set_option maxHeartbeats 4000000 in
theorem k_X4_exchangeSeats (l : Launch) (g : kG) (N : Nat) (M : kMem) (a0 : Nat) (a1 : Nat) (a2 : Nat) : kMet l g yX4_exchangeSeats cX4_exchangeSeats 7 (some .int) 3 0 0 [.ref a0, .ref a1, .ref a2] M (fun r : Int32 × kMem => (some (.int r.1), r.2)) (F_X4_exchangeSeats N M a0 a1 a2) := by
  refine k_of (lv := [(0, .ref a0), (1, .ref a1), (2, .ref a2)]) RX4 (by decide) rfl rfl (Nat.le_of_ble_eq_true rfl) ?_
  intro p e s m args below meth c hX hr _
  unfold F_X4_exchangeSeats
  refine g_aload_n 1 0 hX dX4_exchangeSeats_0 rfl rfl ?_
  refine g_aload_n 2 1 hX dX4_exchangeSeats_1 rfl rfl ?_
  refine r_X4_112 5 hX dX4_exchangeSeats_2 rfl ?_
  refine g_callV_rp 8 hX (k_X4_boardNumbered l g N M a0 (kI M a1 6)) lk_X4_boardNumbered rfl (ci := 4) rfl (Nat.le_of_ble_eq_true rfl) q_1721 q_574 (by omega) rfl (Nat.le_of_ble_eq_true rfl) (Nat.zero_le _) (Nat.zero_le _) dX4_exchangeSeats_5 rfl (fun r1 => ?_)
  refine g_astore_n 9 3 [(3, .ref r1), (0, .ref a0), (1, .ref a1), (2, .ref a2)] hX dX4_exchangeSeats_8 rfl rfl (Nat.le_of_ble_eq_true rfl) rfl ?_
  refine g_aload_n 10 1 hX dX4_exchangeSeats_9 rfl rfl ?_
  refine g_aload_n 11 3 hX dX4_exchangeSeats_10 rfl rfl ?_
  refine r_X4_112 14 hX dX4_exchangeSeats_11 rfl ?_
  refine g_callV_rp 17 hX (k_X4_boardNumbered l g N M a0 (kI M a2 6)) lk_X4_boardNumbered rfl (ci := 4) rfl (Nat.le_of_ble_eq_true rfl) q_1721 q_574 (by omega) rfl (Nat.le_of_ble_eq_true rfl) (Nat.zero_le _) (Nat.zero_le _) dX4_exchangeSeats_14 rfl (fun r2 => ?_)
  refine g_astore 19 4 [(4, .ref r2), (3, .ref r1), (0, .ref a0), (1, .ref a1), (2, .ref a2)] hX dX4_exchangeSeats_17 rfl (Nat.le_of_ble_eq_true rfl) rfl ?_
  refine g_aload_n 20 1 hX dX4_exchangeSeats_19 rfl rfl ?_
  refine g_ifnull 28 23 hX dX4_exchangeSeats_20 (by decide) rfl (fun _ => ?_) (fun _ => ?_)
  · refine g_iconst 29 hX 0 dX4_exchangeSeats_28 rfl kc_i_0 ?_
    exact g_iret hX hr rfl (Nat.le_refl 0) (Nat.le_refl 0) dX4_exchangeSeats_29
  · refine g_aload 25 0 hX dX4_exchangeSeats_23 rfl rfl ?_
    refine g_ifnonnull 30 28 hX dX4_exchangeSeats_25 (by decide) rfl (fun _ => ?_) (fun _ => ?_)
    · refine g_aload_n 31 2 hX dX4_exchangeSeats_30 rfl rfl ?_
      refine g_aload_n 32 4 hX dX4_exchangeSeats_31 rfl rfl ?_
      refine g_callV_ip 35 hX (k_X4_heightUnder l g N M a0 a2) lk_X4_heightUnder rfl (ci := 4) rfl (Nat.le_of_ble_eq_true rfl) q_1717 q_21 (by omega) rfl (Nat.le_of_ble_eq_true rfl) (Nat.zero_le _) (Nat.zero_le _) dX4_exchangeSeats_32 rfl (fun r3 => ?_)
      refine g_aload_n 36 2 hX dX4_exchangeSeats_35 rfl rfl ?_
      refine g_aload_n 37 3 hX dX4_exchangeSeats_36 rfl rfl ?_
      refine g_callV_ip 40 hX (k_X4_heightUnder l g N M a0 a1) lk_X4_heightUnder rfl (ci := 4) rfl (Nat.le_of_ble_eq_true rfl) q_1717 q_21 (by omega) rfl (Nat.le_of_ble_eq_true rfl) (Nat.zero_le _) (Nat.zero_le _) dX4_exchangeSeats_37 rfl (fun r4 => ?_)
      refine g_isub 41 hX dX4_exchangeSeats_40 rfl ?_
      refine g_klI (fun v5 hv5 => ?_)
      refine g_istore 43 5 [(5, .int v5), (4, .ref r2), (3, .ref r1), (0, .ref a0), (1, .ref a1), (2, .ref a2)] hX dX4_exchangeSeats_41 rfl (Nat.le_of_ble_eq_true rfl) rfl ?_
      refine g_aload_n 44 4 hX dX4_exchangeSeats_43 rfl rfl ?_
      refine r_X4_115 47 hX dX4_exchangeSeats_44 rfl ?_
      refine g_klI (fun v6 hv6 => ?_)
      refine g_istore 49 6 [(6, .int v6), (5, .int v5), (4, .ref r2), (3, .ref r1), (0, .ref a0), (1, .ref a1), (2, .ref a2)] hX dX4_exchangeSeats_47 rfl (Nat.le_of_ble_eq_true rfl) rfl ?_
      refine g_aload_n 50 5 hX dX4_exchangeSeats_49 rfl rfl ?_
      refine g_dup 51 hX dX4_exchangeSeats_50 rfl rfl ?_
      refine r_X4_102 54 hX dX4_exchangeSeats_51 rfl ?_
      refine g_iload 56 1 hX dX4_exchangeSeats_54 rfl rfl ?_
      refine g_isub 57 hX dX4_exchangeSeats_56 rfl ?_
      refine p_X4_102 60 hX dX4_exchangeSeats_57 rfl ?_
      refine g_klM (fun M7 hM7 => ?_)
      refine g_aload_n 61 6 hX dX4_exchangeSeats_60 rfl rfl ?_
      refine g_dup 62 hX dX4_exchangeSeats_61 rfl rfl ?_
      refine r_X4_102 65 hX dX4_exchangeSeats_62 rfl ?_
      refine g_iload 67 1 hX dX4_exchangeSeats_65 rfl rfl ?_
      refine g_iadd 68 hX dX4_exchangeSeats_67 rfl ?_
      refine p_X4_102 71 hX dX4_exchangeSeats_68 rfl ?_
      refine g_klM (fun M8 hM8 => ?_)
      refine g_aload_n 72 4 hX dX4_exchangeSeats_71 rfl rfl ?_
      refine g_aload_n 73 5 hX dX4_exchangeSeats_72 rfl rfl ?_
      refine g_aload 75 2 hX dX4_exchangeSeats_73 rfl rfl ?_
      refine g_aload_n 76 6 hX dX4_exchangeSeats_75 rfl rfl ?_
      refine r_X4_115 79 hX dX4_exchangeSeats_76 rfl ?_
      refine g_callV_v 82 hX (k_X4_seat l g N M8 a0 a1 r2 (kI M8 a2 7)) lk_X4_seat rfl (ci := 4) rfl (Nat.le_of_ble_eq_true rfl) q_1985 q_596 (by omega) rfl (Nat.le_of_ble_eq_true rfl) (Nat.zero_le _) (Nat.zero_le _) dX4_exchangeSeats_79 rfl (fun M9 => ?_)
      refine g_aload_n 83 4 hX dX4_exchangeSeats_82 rfl rfl ?_
      refine g_aload_n 84 6 hX dX4_exchangeSeats_83 rfl rfl ?_
      refine g_aload_n 85 3 hX dX4_exchangeSeats_84 rfl rfl ?_
      refine g_iload 87 0 hX dX4_exchangeSeats_85 rfl rfl ?_
      refine g_callV_v 90 hX (k_X4_seat l g N M9 a0 a2 r1 v6) lk_X4_seat rfl (ci := 4) rfl (Nat.le_of_ble_eq_true rfl) q_1985 q_596 (by omega) rfl (Nat.le_of_ble_eq_true rfl) (Nat.zero_le _) (Nat.zero_le _) dX4_exchangeSeats_87 rfl (fun M10 => ?_)
      refine g_iload 92 1 hX dX4_exchangeSeats_90 rfl rfl ?_
      exact g_iret hX hr rfl (Nat.le_refl 0) (Nat.le_refl 0) dX4_exchangeSeats_92
    · refine g_iconst 29 hX 0 dX4_exchangeSeats_28 rfl kc_i_0 ?_
      exact g_iret hX hr rfl (Nat.le_refl 0) (Nat.le_refl 0) dX4_exchangeSeats_29
set_option maxRecDepth 100000 in
set_option maxHeartbeats 4000000 in
theorem k_X4_allowsDays (l : Launch) (g : kG) (N : Nat) (M : kMem) (a0 : Nat) (x1 : Int32) : kMet l g yX4_allowsDays cX4_allowsDays 2 (some .boolean) 1 0 0 [.ref a0, .int x1] M (fun r : Int32 => (some (.int r), M)) (F_X4_allowsDays N M a0 x1) := by
  refine k_of (lv := [(0, .ref a0), (1, .int x1)]) RX4 (by decide) rfl rfl (Nat.le_of_ble_eq_true rfl) ?_
  intro p e s m args below meth c hX hr _
  unfold F_X4_allowsDays
  refine g_aload_n 1 0 hX dX4_allowsDays_0 rfl rfl ?_
  refine r_X4_34 4 hX dX4_allowsDays_1 rfl ?_
  refine g_iload_n 5 1 hX dX4_allowsDays_4 rfl rfl ?_
  refine g_iadd 6 hX dX4_allowsDays_5 rfl ?_
  refine g_sipush 9 hX 9999 dX4_allowsDays_6 rfl kc_s_9999 ?_
  refine g_icmp_gt 16 12 hX dX4_allowsDays_9 (by decide) rfl (fun _ => ?_) (fun _ => ?_)
  · refine g_iconst 17 hX 0 dX4_allowsDays_16 rfl kc_i_0 ?_
    exact g_zretL hX hr rfl rfl (Nat.le_refl 0) (Nat.le_refl 0) dX4_allowsDays_17
  · refine g_iconst 13 hX 1 dX4_allowsDays_12 rfl kc_i_1 ?_
    refine g_goto 17 hX dX4_allowsDays_13 (by decide) ?_
    exact g_zretL hX hr rfl rfl (Nat.le_refl 0) (Nat.le_refl 0) dX4_allowsDays_17
set_option maxRecDepth 100000 in
set_option maxHeartbeats 4000000 in
theorem k_X4_payToBank (l : Launch) (g : kG) (N : Nat) (M : kMem) (a0 : Nat) (a1 : Nat) (x2 : Int32) : kMet l g yX4_payToBank cX4_payToBank 4 none 1 0 0 [.ref a0, .ref a1, .int x2] M (fun r : kMem => (none, r)) (F_X4_payToBank N M a0 a1 x2) := by
  refine k_of (lv := [(0, .ref a0), (1, .ref a1), (2, .int x2)]) RX4 (by decide) rfl rfl (Nat.le_of_ble_eq_true rfl) ?_
  intro p e s m args below meth c hX hr _
  unfold F_X4_payToBank
  refine g_iload_n 1 2 hX dX4_payToBank_0 rfl rfl ?_
  refine g_aload_n 2 1 hX dX4_payToBank_1 rfl rfl ?_
  refine r_X4_102 5 hX dX4_payToBank_2 rfl ?_
  refine g_mmin 8 hX q_2138 dX4_payToBank_5 rfl (Nat.le_of_ble_eq_true rfl) (by decide) (Nat.zero_le _) (Nat.zero_le _) ?_
  refine g_klI (fun v1 hv1 => ?_)
  refine g_istore_n 9 3 [(3, .int v1), (0, .ref a0), (1, .ref a1), (2, .int x2)] hX dX4_payToBank_8 rfl rfl (Nat.le_of_ble_eq_true rfl) rfl ?_
  refine g_aload_n 10 2 hX dX4_payToBank_9 rfl rfl ?_
  refine g_dup 11 hX dX4_payToBank_10 rfl rfl ?_
  refine r_X4_102 14 hX dX4_payToBank_11 rfl ?_
  refine g_iload_n 15 0 hX dX4_payToBank_14 rfl rfl ?_
  refine g_isub 16 hX dX4_payToBank_15 rfl ?_
  refine p_X4_102 19 hX dX4_payToBank_16 rfl ?_
  refine g_klM (fun M2 hM2 => ?_)
  refine g_aload_n 20 1 hX dX4_payToBank_19 rfl rfl ?_
  refine g_dup 21 hX dX4_payToBank_20 rfl rfl ?_
  refine r_X4_56 24 hX dX4_payToBank_21 rfl ?_
  refine g_iload_n 25 0 hX dX4_payToBank_24 rfl rfl ?_
  refine g_iadd 26 hX dX4_payToBank_25 rfl ?_
  refine p_X4_56 29 hX dX4_payToBank_26 rfl ?_
  refine g_klM (fun M3 hM3 => ?_)
  exact g_vret hX hr rfl (Nat.le_refl 0) (Nat.le_refl 0) dX4_payToBank_29
set_option maxRecDepth 100000 in
set_option maxHeartbeats 4000000 in
theorem k_X4_retire (l : Launch) (g : kG) (N : Nat) (M : kMem) (a0 : Nat) (a1 : Nat) : kMet l g yX4_retire cX4_retire 2 none 3 0 0 [.ref a0, .ref a1] M (fun r : kMem => (none, r)) (F_X4_retire N M a0 a1) := by
  refine k_of (lv := [(0, .ref a0), (1, .ref a1)]) RX4 (by decide) rfl rfl (Nat.le_of_ble_eq_true rfl) ?_
  intro p e s m args below meth c hX hr _
  unfold F_X4_retire
  refine g_aload_n 1 0 hX dX4_retire_0 rfl rfl ?_
  refine g_aload_n 2 1 hX dX4_retire_1 rfl rfl ?_
  refine g_callV_v 5 hX (k_X4_unseat l g N M a0 a1) lk_X4_unseat rfl (ci := 4) rfl (Nat.le_of_ble_eq_true rfl) q_1981 q_1983 (by omega) rfl (Nat.le_of_ble_eq_true rfl) (Nat.zero_le _) (Nat.zero_le _) dX4_retire_2 rfl (fun M1 => ?_)
  refine g_aload_n 6 0 hX dX4_retire_5 rfl rfl ?_
  refine g_aload_n 7 1 hX dX4_retire_6 rfl rfl ?_
  refine g_aload_n 8 1 hX dX4_retire_7 rfl rfl ?_
  refine r_X4_102 11 hX dX4_retire_8 rfl ?_
  refine g_callV_v 14 hX (k_X4_payToBank l g N M1 a0 a1 (kI M1 a1 3)) lk_X4_payToBank rfl (ci := 4) rfl (Nat.le_of_ble_eq_true rfl) q_2147 q_38 (by omega) rfl (Nat.le_of_ble_eq_true rfl) (Nat.zero_le _) (Nat.zero_le _) dX4_retire_11 rfl (fun M2 => ?_)
  refine g_aload_n 15 1 hX dX4_retire_14 rfl rfl ?_
  refine g_iconst 16 hX 0 dX4_retire_15 rfl kc_i_0 ?_
  refine p_X4_108 19 hX dX4_retire_16 rfl ?_
  refine g_klM (fun M3 hM3 => ?_)
  refine g_aload_n 20 0 hX dX4_retire_19 rfl rfl ?_
  refine r_X4_26 23 hX dX4_retire_20 rfl ?_
  refine g_iconst 24 hX 2 dX4_retire_23 rfl kc_i_2 ?_
  refine g_aload_n 25 1 hX dX4_retire_24 rfl rfl ?_
  refine r_X4_118 28 hX dX4_retire_25 rfl ?_
  refine g_aload_n 29 0 hX dX4_retire_28 rfl rfl ?_
  refine r_X4_34 32 hX dX4_retire_29 rfl ?_
  refine g_callV_v 35 hX (k_X2_add l g N M3 (kR M3 a0 15) 2 (kI M3 a1 0) (kI M3 a0 0)) lk_X2_add rfl (ci := 2) rfl (Nat.le_of_ble_eq_true rfl) q_2151 q_2153 (by omega) rfl (Nat.le_of_ble_eq_true rfl) (Nat.zero_le _) (Nat.zero_le _) dX4_retire_32 rfl (fun M4 => ?_)
  exact g_vret hX hr rfl (Nat.le_refl 0) (Nat.le_refl 0) dX4_retire_35
set_option maxRecDepth 100000 in
set_option maxHeartbeats 4000000 in
theorem k_X4_ageTraders_2 {p : Program} {l : Launch} {e : Env} {s : State} {m : MethodId} {args : Array Value} {below : List Frame} {meth : Method} {c : Code} {g : kG} (hX : Cok (p, l, e, { frames := 4, cells := 0, slots := 0, locals := 60 * 4 }, s, m, args, below, meth, c, cX4_ageTraders, 3, RX4, g, 4)) (hr : meth.sig.returnType = none) (N : Nat) : ∀ (n : Nat) (M : kMem) (a0 : Nat) (x1 : Int32), GG (p, l, e, { frames := 4, cells := 0, slots := 0, locals := 60 * 4 }, s, m, args, below, meth, c, cX4_ageTraders, 3, RX4, g, 4) (fun b => MQ below (kQ g ((fun r : kMem => (none, r)) b)) args s 0 0 (kZ g.2.2.1)) 0 0 (F_X4_ageTraders_2 N n M a0 x1) 2 [(0, .ref a0), (1, .int x1)] [] M := by
  intro n
  induction n with
  | zero => intro _ _ _; exact g_none
  | succ n ih =>
    intro M a0 x1
    unfold F_X4_ageTraders_2
    refine g_iload_n 3 1 hX dX4_ageTraders_2 rfl rfl ?_
    refine g_aload_n 4 0 hX dX4_ageTraders_3 rfl rfl ?_
    refine r_X4_50 7 hX dX4_ageTraders_4 rfl ?_
    refine g_icmp_ge 56 10 hX dX4_ageTraders_7 (by decide) rfl (fun _ => ?_) (fun _ => ?_)
    · exact g_vret hX hr rfl (Nat.le_refl 0) (Nat.le_refl 0) dX4_ageTraders_56
    · refine g_aload_n 11 0 hX dX4_ageTraders_10 rfl rfl ?_
      refine r_X4_19 14 hX dX4_ageTraders_11 rfl ?_
      refine g_iload_n 15 1 hX dX4_ageTraders_14 rfl rfl ?_
      refine g_aald 17 4 16 hX RX10 (Nat.le_of_ble_eq_true rfl) rfl dX4_ageTraders_15 rfl ?_
      refine g_klR (fun w1 hw1 => ?_)
      refine g_astore_n 17 2 [(2, .ref w1), (0, .ref a0), (1, .int x1)] hX dX4_ageTraders_16 rfl rfl (Nat.le_of_ble_eq_true rfl) rfl ?_
      refine g_aload_n 18 0 hX dX4_ageTraders_17 rfl rfl ?_
      refine r_X4_108 21 hX dX4_ageTraders_18 rfl ?_
      refine g_if_eq 50 24 hX dX4_ageTraders_21 (by decide) rfl (fun _ => ?_) (fun _ => ?_)
      · refine g_kl (fun v2 hv2 => ?_)
        refine g_iinc 53 1 2 v2 [(1, .int v2), (2, .ref w1), (0, .ref a0)] hX dX4_ageTraders_50 rfl rfl (by rw [hv2, kc_i_1]) (Nat.le_of_ble_eq_true rfl) rfl ?_
        refine g_goto 2 hX dX4_ageTraders_53 (by decide) ?_
        refine g_lv [2, 0] rfl ?_
        exact ih M a0 v2
      · refine g_aload_n 25 0 hX dX4_ageTraders_24 rfl rfl ?_
        refine g_dup 26 hX dX4_ageTraders_25 rfl rfl ?_
        refine r_X4_105 29 hX dX4_ageTraders_26 rfl ?_
        refine g_iconst 30 hX 1 dX4_ageTraders_29 rfl kc_i_1 ?_
        refine g_iadd 31 hX dX4_ageTraders_30 rfl ?_
        refine p_X4_105 34 hX dX4_ageTraders_31 rfl ?_
        refine g_klM (fun M3 hM3 => ?_)
        refine g_aload_n 35 0 hX dX4_ageTraders_34 rfl rfl ?_
        refine r_X4_105 38 hX dX4_ageTraders_35 rfl ?_
        refine g_aload_n 39 1 hX dX4_ageTraders_38 rfl rfl ?_
        refine r_X4_68 42 hX dX4_ageTraders_39 rfl ?_
        refine g_icmp_le 50 45 hX dX4_ageTraders_42 (by decide) rfl (fun _ => ?_) (fun _ => ?_)
        · refine g_kl (fun v4 hv4 => ?_)
          refine g_iinc 53 1 2 v4 [(1, .int v4), (2, .ref w1), (0, .ref a0)] hX dX4_ageTraders_50 rfl rfl (by rw [hv4, kc_i_1]) (Nat.le_of_ble_eq_true rfl) rfl ?_
          refine g_goto 2 hX dX4_ageTraders_53 (by decide) ?_
          refine g_lv [2, 0] rfl ?_
          exact ih M3 a0 v4
        · refine g_aload_n 46 1 hX dX4_ageTraders_45 rfl rfl ?_
          refine g_aload_n 47 0 hX dX4_ageTraders_46 rfl rfl ?_
          refine g_callV_v 50 hX (k_X4_retire l g N M3 a0 w1) lk_X4_retire rfl (ci := 4) rfl (Nat.le_of_ble_eq_true rfl) q_2143 q_37 (by omega) rfl (Nat.le_of_ble_eq_true rfl) (Nat.zero_le _) (Nat.zero_le _) dX4_ageTraders_47 rfl (fun M5 => ?_)
          refine g_kl (fun v6 hv6 => ?_)
          refine g_iinc 53 1 2 v6 [(1, .int v6), (2, .ref w1), (0, .ref a0)] hX dX4_ageTraders_50 rfl rfl (by rw [hv6, kc_i_1]) (Nat.le_of_ble_eq_true rfl) rfl ?_
          refine g_goto 2 hX dX4_ageTraders_53 (by decide) ?_
          refine g_lv [2, 0] rfl ?_
          exact ih M5 a0 v6
set_option maxRecDepth 100000 in
set_option maxHeartbeats 4000000 in
theorem k_X4_ageTraders (l : Launch) (g : kG) (N : Nat) (M : kMem) (a0 : Nat) : kMet l g yX4_ageTraders cX4_ageTraders 3 none 4 0 0 [.ref a0] M (fun r : kMem => (none, r)) (F_X4_ageTraders N M a0) := by
  refine k_of (lv := [(0, .ref a0)]) RX4 (by decide) rfl rfl (Nat.le_of_ble_eq_true rfl) ?_
  intro p e s m args below meth c hX hr _
  unfold F_X4_ageTraders
  refine g_iconst 1 hX 0 dX4_ageTraders_0 rfl kc_i_0 ?_
  refine g_istore_n 2 1 [(1, .int 0), (0, .ref a0)] hX dX4_ageTraders_1 rfl rfl (Nat.le_of_ble_eq_true rfl) rfl ?_
  refine g_lv [1, 0] rfl ?_
  exact k_X4_ageTraders_2 hX hr N N M a0 0
set_option maxRecDepth 100000 in
set_option maxHeartbeats 4000000 in
theorem k_X4_payIncomes_48 {p : Program} {l : Launch} {e : Env} {s : State} {m : MethodId} {args : Array Value} {below : List Frame} {meth : Method} {c : Code} {g : kG} (hX : Cok (p, l, e, { frames := 4, cells := 0, slots := 0, locals := 60 * 4 }, s, m, args, below, meth, c, cX4_payIncomes, 5, RX4, g, 4)) (hr : meth.sig.returnType = none) (N : Nat) (k2 : kMem → Nat → Int32 → Option (kMem)) (h2 : ∀ (M : kMem) (a0 : Nat) (x1 : Int32), GG (p, l, e, { frames := 4, cells := 0, slots := 0, locals := 60 * 4 }, s, m, args, below, meth, c, cX4_payIncomes, 5, RX4, g, 4) (fun b => MQ below (kQ g ((fun r : kMem => (none, r)) b)) args s 0 0 (kZ g.2.2.1)) 0 0 (k2 M a0 x1) 2 [(0, .ref a0), (1, .int x1)] [] M) : ∀ (M : kMem) (a0 : Nat) (x1 : Int32) (a2 : Nat) (y0 : Int32), GG (p, l, e, { frames := 4, cells := 0, slots := 0, locals := 60 * 4 }, s, m, args, below, meth, c, cX4_payIncomes, 5, RX4, g, 4) (fun b => MQ below (kQ g ((fun r : kMem => (none, r)) b)) args s 0 0 (kZ g.2.2.1)) 0 0 (F_X4_payIncomes_48 N k2 M a0 x1 a2 y0) 48 [(0, .ref a0), (1, .int x1), (2, .ref a2)] [.int y0] M := by
  intro M a0 x1 a2 y0
  unfold F_X4_payIncomes_48
  refine g_istore 50 4 [(4, .int y0), (0, .ref a0), (1, .int x1), (2, .ref a2)] hX dX4_payIncomes_48 rfl (Nat.le_of_ble_eq_true rfl) rfl ?_
  refine g_aload_n 51 1 hX dX4_payIncomes_50 rfl rfl ?_
  refine g_dup 52 hX dX4_payIncomes_51 rfl rfl ?_
  refine r_X4_56 55 hX dX4_payIncomes_52 rfl ?_
  refine g_iload 57 0 hX dX4_payIncomes_55 rfl rfl ?_
  refine g_isub 58 hX dX4_payIncomes_57 rfl ?_
  refine p_X4_56 61 hX dX4_payIncomes_58 rfl ?_
  refine g_klM (fun M3 hM3 => ?_)
  refine g_aload_n 62 3 hX dX4_payIncomes_61 rfl rfl ?_
  refine g_dup 63 hX dX4_payIncomes_62 rfl rfl ?_
  refine r_X4_102 66 hX dX4_payIncomes_63 rfl ?_
  refine g_iload 68 0 hX dX4_payIncomes_66 rfl rfl ?_
  refine g_iadd 69 hX dX4_payIncomes_68 rfl ?_
  refine p_X4_102 72 hX dX4_payIncomes_69 rfl ?_
  refine g_klM (fun M4 hM4 => ?_)
  refine g_kl (fun v5 hv5 => ?_)
  refine g_iinc 75 1 2 v5 [(1, .int v5), (4, .int y0), (0, .ref a0), (2, .ref a2)] hX dX4_payIncomes_72 rfl rfl (by rw [hv5, kc_i_1]) (Nat.le_of_ble_eq_true rfl) rfl ?_
  refine g_goto 2 hX dX4_payIncomes_75 (by decide) ?_
  refine g_lv [2, 0] rfl ?_
  exact h2 M4 a0 v5
set_option maxRecDepth 100000 in
set_option maxHeartbeats 4000000 in
theorem k_X4_payIncomes_2 {p : Program} {l : Launch} {e : Env} {s : State} {m : MethodId} {args : Array Value} {below : List Frame} {meth : Method} {c : Code} {g : kG} (hX : Cok (p, l, e, { frames := 4, cells := 0, slots := 0, locals := 60 * 4 }, s, m, args, below, meth, c, cX4_payIncomes, 5, RX4, g, 4)) (hr : meth.sig.returnType = none) (N : Nat) : ∀ (n : Nat) (M : kMem) (a0 : Nat) (x1 : Int32), GG (p, l, e, { frames := 4, cells := 0, slots := 0, locals := 60 * 4 }, s, m, args, below, meth, c, cX4_payIncomes, 5, RX4, g, 4) (fun b => MQ below (kQ g ((fun r : kMem => (none, r)) b)) args s 0 0 (kZ g.2.2.1)) 0 0 (F_X4_payIncomes_2 N n M a0 x1) 2 [(0, .ref a0), (1, .int x1)] [] M := by
  intro n
  induction n with
  | zero => intro _ _ _; exact g_none
  | succ n ih =>
    intro M a0 x1
    unfold F_X4_payIncomes_2
    refine g_iload_n 3 1 hX dX4_payIncomes_2 rfl rfl ?_
    refine g_aload_n 4 0 hX dX4_payIncomes_3 rfl rfl ?_
    refine r_X4_50 7 hX dX4_payIncomes_4 rfl ?_
    refine g_icmp_ge 78 10 hX dX4_payIncomes_7 (by decide) rfl (fun _ => ?_) (fun _ => ?_)
    · exact g_vret hX hr rfl (Nat.le_refl 0) (Nat.le_refl 0) dX4_payIncomes_78
    · refine g_aload_n 11 0 hX dX4_payIncomes_10 rfl rfl ?_
      refine r_X4_19 14 hX dX4_payIncomes_11 rfl ?_
      refine g_iload_n 15 1 hX dX4_payIncomes_14 rfl rfl ?_
      refine g_aald 17 4 16 hX RX10 (Nat.le_of_ble_eq_true rfl) rfl dX4_payIncomes_15 rfl ?_
      refine g_klR (fun w1 hw1 => ?_)
      refine g_astore_n 17 2 [(2, .ref w1), (0, .ref a0), (1, .int x1)] hX dX4_payIncomes_16 rfl rfl (Nat.le_of_ble_eq_true rfl) rfl ?_
      refine g_aload_n 18 1 hX dX4_payIncomes_17 rfl rfl ?_
      refine g_aload_n 19 0 hX dX4_payIncomes_18 rfl rfl ?_
      refine g_callV_ip 22 hX (k_X4_incomeFor l g N M a0 w1) lk_X4_incomeFor rfl (ci := 4) rfl (Nat.le_of_ble_eq_true rfl) q_2137 q_1714 (by omega) rfl (Nat.le_of_ble_eq_true rfl) (Nat.zero_le _) (Nat.zero_le _) dX4_payIncomes_19 rfl (fun r2 => ?_)
      refine g_istore_n 23 3 [(3, .int r2), (2, .ref w1), (0, .ref a0), (1, .int x1)] hX dX4_payIncomes_22 rfl rfl (Nat.le_of_ble_eq_true rfl) rfl ?_
      refine g_iload_n 24 0 hX dX4_payIncomes_23 rfl rfl ?_
      refine g_if_le 38 27 hX dX4_payIncomes_24 (by decide) rfl (fun _ => ?_) (fun _ => ?_)
      · refine g_iload_n 39 0 hX dX4_payIncomes_38 rfl rfl ?_
        refine g_ineg 40 hX dX4_payIncomes_39 rfl ?_
        refine g_aload_n 41 1 hX dX4_payIncomes_40 rfl rfl ?_
        refine r_X4_102 44 hX dX4_payIncomes_41 rfl ?_
        refine g_mmin 47 hX q_2138 dX4_payIncomes_44 rfl (Nat.le_of_ble_eq_true rfl) (by decide) (Nat.zero_le _) (Nat.zero_le _) ?_
        refine g_ineg 48 hX dX4_payIncomes_47 rfl ?_
        refine g_lv [2, 3, 1] rfl ?_
        exact k_X4_payIncomes_48 hX hr N (fun M a0 x1 => F_X4_payIncomes_2 N n M a0 x1) ih M a0 x1 w1 (-(kmin (-r2) (kI M w1 3)))
      · refine g_iload_n 28 0 hX dX4_payIncomes_27 rfl rfl ?_
        refine g_aload_n 29 2 hX dX4_payIncomes_28 rfl rfl ?_
        refine r_X4_56 32 hX dX4_payIncomes_29 rfl ?_
        refine g_mmin 35 hX q_2138 dX4_payIncomes_32 rfl (Nat.le_of_ble_eq_true rfl) (by decide) (Nat.zero_le _) (Nat.zero_le _) ?_
        refine g_goto 48 hX dX4_payIncomes_35 (by decide) ?_
        refine g_lv [2, 3, 1] rfl ?_
        exact k_X4_payIncomes_48 hX hr N (fun M a0 x1 => F_X4_payIncomes_2 N n M a0 x1) ih M a0 x1 w1 (kmin r2 (kI M a0 1))
set_option maxRecDepth 100000 in
set_option maxHeartbeats 4000000 in
theorem k_X4_payIncomes (l : Launch) (g : kG) (N : Nat) (M : kMem) (a0 : Nat) : kMet l g yX4_payIncomes cX4_payIncomes 5 none 4 0 0 [.ref a0] M (fun r : kMem => (none, r)) (F_X4_payIncomes N M a0) := by
  refine k_of (lv := [(0, .ref a0)]) RX4 (by decide) rfl rfl (Nat.le_of_ble_eq_true rfl) ?_
  intro p e s m args below meth c hX hr _
  unfold F_X4_payIncomes
  refine g_iconst 1 hX 0 dX4_payIncomes_0 rfl kc_i_0 ?_
  refine g_istore_n 2 1 [(1, .int 0), (0, .ref a0)] hX dX4_payIncomes_1 rfl rfl (Nat.le_of_ble_eq_true rfl) rfl ?_
  refine g_lv [1, 0] rfl ?_
  exact k_X4_payIncomes_2 hX hr N N M a0 0
set_option maxRecDepth 100000 in
set_option maxHeartbeats 4000000 in
theorem k_X4_dropFarthest_5 {p : Program} {l : Launch} {e : Env} {s : State} {m : MethodId} {args : Array Value} {below : List Frame} {meth : Method} {c : Code} {g : kG} (hX : Cok (p, l, e, { frames := 3, cells := 0, slots := 0, locals := 60 * 3 }, s, m, args, below, meth, c, cX4_dropFarthest, 5, RX4, g, 3)) (hr : meth.sig.returnType = none) (N : Nat) : ∀ (n : Nat) (M : kMem) (a0 : Nat) (a1 : Nat) (x2 : Int32) (x3 : Int32), GG (p, l, e, { frames := 3, cells := 0, slots := 0, locals := 60 * 3 }, s, m, args, below, meth, c, cX4_dropFarthest, 5, RX4, g, 3) (fun b => MQ below (kQ g ((fun r : kMem => (none, r)) b)) args s 0 0 (kZ g.2.2.1)) 0 0 (F_X4_dropFarthest_5 N n M a0 a1 x2 x3) 5 [(0, .ref a0), (1, .ref a1), (2, .int x2), (3, .int x3)] [] M := by
  intro n
  induction n with
  | zero => intro _ _ _ _ _; exact g_none
  | succ n ih =>
    intro M a0 a1 x2 x3
    unfold F_X4_dropFarthest_5
    refine g_iload_n 6 3 hX dX4_dropFarthest_5 rfl rfl ?_
    refine g_iconst 7 hX 1 dX4_dropFarthest_6 rfl kc_i_1 ?_
    refine g_icmp_lt 68 10 hX dX4_dropFarthest_7 (by decide) rfl (fun _ => ?_) (fun _ => ?_)
    · exact g_vret hX hr rfl (Nat.le_refl 0) (Nat.le_refl 0) dX4_dropFarthest_68
    · refine g_aload_n 11 0 hX dX4_dropFarthest_10 rfl rfl ?_
      refine g_aload_n 12 1 hX dX4_dropFarthest_11 rfl rfl ?_
      refine g_iload_n 13 2 hX dX4_dropFarthest_12 rfl rfl ?_
      refine g_iload_n 14 3 hX dX4_dropFarthest_13 rfl rfl ?_
      refine g_imul 15 hX dX4_dropFarthest_14 rfl ?_
      refine g_callV_ip 18 hX (k_X0_ownerAt l g N M a1 (x2 * x3)) lk_X0_ownerAt rfl (ci := 0) rfl (Nat.le_of_ble_eq_true rfl) q_1634 q_592 (by omega) rfl (Nat.le_of_ble_eq_true rfl) (Nat.zero_le _) (Nat.zero_le _) dX4_dropFarthest_15 rfl (fun r2 => ?_)
      refine g_callV_rp 21 hX (k_X4_traderNumbered l g N M a0 r2) lk_X4_traderNumbered rfl (ci := 4) rfl (Nat.le_of_ble_eq_true rfl) q_1635 q_1637 (by omega) rfl (Nat.le_of_ble_eq_true rfl) (Nat.zero_le _) (Nat.zero_le _) dX4_dropFarthest_18 rfl (fun r3 => ?_)
      refine g_astore 23 4 [(4, .ref r3), (0, .ref a0), (1, .ref a1), (2, .int x2), (3, .int x3)] hX dX4_dropFarthest_21 rfl (Nat.le_of_ble_eq_true rfl) rfl ?_
      refine g_aload 25 0 hX dX4_dropFarthest_23 rfl rfl ?_
      refine g_ifnull 62 28 hX dX4_dropFarthest_25 (by decide) rfl (fun _ => ?_) (fun _ => ?_)
      · refine g_kl (fun v4 hv4 => ?_)
        refine g_iinc 65 3 4 v4 [(3, .int v4), (4, .ref r3), (0, .ref a0), (1, .ref a1), (2, .int x2)] hX dX4_dropFarthest_62 rfl rfl (by rw [hv4, kc_i_m1]) (Nat.le_of_ble_eq_true rfl) rfl ?_
        refine g_goto 5 hX dX4_dropFarthest_65 (by decide) ?_
        refine g_lv [2, 3, 4, 0] rfl ?_
        exact ih M a0 a1 x2 v4
      · refine g_aload_n 29 1 hX dX4_dropFarthest_28 rfl rfl ?_
        refine g_aload 31 0 hX dX4_dropFarthest_29 rfl rfl ?_
        refine g_callV_v 34 hX (k_X4_unseat l g N M a0 r3) lk_X4_unseat rfl (ci := 4) rfl (Nat.le_of_ble_eq_true rfl) q_1981 q_1983 (by omega) rfl (Nat.le_of_ble_eq_true rfl) (Nat.zero_le _) (Nat.zero_le _) dX4_dropFarthest_31 rfl (fun M5 => ?_)
        refine g_aload_n 35 1 hX dX4_dropFarthest_34 rfl rfl ?_
        refine g_aload 37 0 hX dX4_dropFarthest_35 rfl rfl ?_
        refine g_aload_n 38 1 hX dX4_dropFarthest_37 rfl rfl ?_
        refine r_X4_71 41 hX dX4_dropFarthest_38 rfl ?_
        refine g_callV_v 44 hX (k_X4_payToBank l g N M5 a0 r3 (kI M5 a0 6)) lk_X4_payToBank rfl (ci := 4) rfl (Nat.le_of_ble_eq_true rfl) q_2147 q_38 (by omega) rfl (Nat.le_of_ble_eq_true rfl) (Nat.zero_le _) (Nat.zero_le _) dX4_dropFarthest_41 rfl (fun M6 => ?_)
        refine g_aload_n 45 1 hX dX4_dropFarthest_44 rfl rfl ?_
        refine r_X4_26 48 hX dX4_dropFarthest_45 rfl ?_
        refine g_iconst 49 hX 1 dX4_dropFarthest_48 rfl kc_i_1 ?_
        refine g_aload 51 0 hX dX4_dropFarthest_49 rfl rfl ?_
        refine r_X4_118 54 hX dX4_dropFarthest_51 rfl ?_
        refine g_aload_n 55 1 hX dX4_dropFarthest_54 rfl rfl ?_
        refine r_X4_34 58 hX dX4_dropFarthest_55 rfl ?_
        refine g_callV_v 61 hX (k_X2_add l g N M6 (kR M6 a0 15) 1 (kI M6 r3 0) (kI M6 a0 0)) lk_X2_add rfl (ci := 2) rfl (Nat.le_of_ble_eq_true rfl) q_2151 q_2153 (by omega) rfl (Nat.le_of_ble_eq_true rfl) (Nat.zero_le _) (Nat.zero_le _) dX4_dropFarthest_58 rfl (fun M7 => ?_)
        exact g_vret hX hr rfl (Nat.le_refl 0) (Nat.le_refl 0) dX4_dropFarthest_61
set_option maxRecDepth 100000 in
set_option maxHeartbeats 4000000 in
theorem k_X4_dropFarthest (l : Launch) (g : kG) (N : Nat) (M : kMem) (a0 : Nat) (a1 : Nat) (x2 : Int32) : kMet l g yX4_dropFarthest cX4_dropFarthest 5 none 3 0 0 [.ref a0, .ref a1, .int x2] M (fun r : kMem => (none, r)) (F_X4_dropFarthest N M a0 a1 x2) := by
  refine k_of (lv := [(0, .ref a0), (1, .ref a1), (2, .int x2)]) RX4 (by decide) rfl rfl (Nat.le_of_ble_eq_true rfl) ?_
  intro p e s m args below meth c hX hr _
  unfold F_X4_dropFarthest
  refine g_aload_n 1 1 hX dX4_dropFarthest_0 rfl rfl ?_
  refine r_X4_155 4 hX dX4_dropFarthest_1 rfl ?_
  refine g_klI (fun v1 hv1 => ?_)
  refine g_istore_n 5 3 [(3, .int v1), (0, .ref a0), (1, .ref a1), (2, .int x2)] hX dX4_dropFarthest_4 rfl rfl (Nat.le_of_ble_eq_true rfl) rfl ?_
  refine g_lv [1, 2, 3, 0] rfl ?_
  exact k_X4_dropFarthest_5 hX hr N N M a0 a1 x2 v1
set_option maxRecDepth 100000 in
set_option maxHeartbeats 4000000 in
theorem k_X4_tipBoards_29 {p : Program} {l : Launch} {e : Env} {s : State} {m : MethodId} {args : Array Value} {below : List Frame} {meth : Method} {c : Code} {g : kG} (hX : Cok (p, l, e, { frames := 4, cells := 0, slots := 0, locals := 60 * 4 }, s, m, args, below, meth, c, cX4_tipBoards, 6, RX4, g, 4)) (hr : meth.sig.returnType = (some .int)) (N : Nat) (k4 : kMem → Nat → Int32 → Int32 → Option (Int32 × kMem)) (h4 : ∀ (M : kMem) (a0 : Nat) (x1 : Int32) (x2 : Int32), GG (p, l, e, { frames := 4, cells := 0, slots := 0, locals := 60 * 4 }, s, m, args, below, meth, c, cX4_tipBoards, 6, RX4, g, 4) (fun b => MQ below (kQ g ((fun r : Int32 × kMem => (some (.int r.1), r.2)) b)) args s 0 0 (kZ g.2.2.1)) 0 0 (k4 M a0 x1 x2) 4 [(0, .ref a0), (1, .int x1), (2, .int x2)] [] M) : ∀ (n : Nat) (M : kMem) (a0 : Nat) (x1 : Int32) (x2 : Int32) (a3 : Nat) (x4 : Int32) (x5 : Int32), GG (p, l, e, { frames := 4, cells := 0, slots := 0, locals := 60 * 4 }, s, m, args, below, meth, c, cX4_tipBoards, 6, RX4, g, 4) (fun b => MQ below (kQ g ((fun r : Int32 × kMem => (some (.int r.1), r.2)) b)) args s 0 0 (kZ g.2.2.1)) 0 0 (F_X4_tipBoards_29 N k4 n M a0 x1 x2 a3 x4 x5) 29 [(0, .ref a0), (1, .int x1), (2, .int x2), (3, .ref a3), (4, .int x4), (5, .int x5)] [] M := by
  intro n
  induction n with
  | zero => intro _ _ _ _ _ _ _; exact g_none
  | succ n ih =>
    intro M a0 x1 x2 a3 x4 x5
    unfold F_X4_tipBoards_29
    refine g_iload 31 5 hX dX4_tipBoards_29 rfl rfl ?_
    refine g_bipush 33 hX 12 dX4_tipBoards_31 rfl kc_b_12 ?_
    refine g_icmp_ge 76 36 hX dX4_tipBoards_33 (by decide) rfl (fun _ => ?_) (fun _ => ?_)
    · refine g_kl (fun v4 hv4 => ?_)
      refine g_iinc 79 2 2 v4 [(2, .int v4), (0, .ref a0), (1, .int x1), (3, .ref a3), (4, .int x4), (5, .int x5)] hX dX4_tipBoards_76 rfl rfl (by rw [hv4, kc_i_1]) (Nat.le_of_ble_eq_true rfl) rfl ?_
      refine g_goto 4 hX dX4_tipBoards_79 (by decide) ?_
      refine g_lv [1, 2, 0] rfl ?_
      exact h4 M a0 x1 v4
    · refine g_aload_n 37 3 hX dX4_tipBoards_36 rfl rfl ?_
      refine g_iload 39 4 hX dX4_tipBoards_37 rfl rfl ?_
      refine g_callV_ip 42 hX (k_X0_tipsUnder l g N M a3 x4) lk_X0_tipsUnder rfl (ci := 0) rfl (Nat.le_of_ble_eq_true rfl) q_1936 q_1938 (by omega) rfl (Nat.le_of_ble_eq_true rfl) (Nat.zero_le _) (Nat.zero_le _) dX4_tipBoards_39 rfl (fun r5 => ?_)
      refine g_if_eq 76 45 hX dX4_tipBoards_42 (by decide) rfl (fun _ => ?_) (fun _ => ?_)
      · refine g_kl (fun v6 hv6 => ?_)
        refine g_iinc 79 2 2 v6 [(2, .int v6), (0, .ref a0), (1, .int x1), (3, .ref a3), (4, .int x4), (5, .int x5)] hX dX4_tipBoards_76 rfl rfl (by rw [hv6, kc_i_1]) (Nat.le_of_ble_eq_true rfl) rfl ?_
        refine g_goto 4 hX dX4_tipBoards_79 (by decide) ?_
        refine g_lv [1, 2, 0] rfl ?_
        exact h4 M a0 x1 v6
      · refine g_aload_n 46 0 hX dX4_tipBoards_45 rfl rfl ?_
        refine g_aload_n 47 3 hX dX4_tipBoards_46 rfl rfl ?_
        refine g_iload 49 4 hX dX4_tipBoards_47 rfl rfl ?_
        refine g_if_le 56 52 hX dX4_tipBoards_49 (by decide) rfl (fun _ => ?_) (fun _ => ?_)
        · refine g_iconst 57 hX (-1) dX4_tipBoards_56 rfl kc_i_m1 ?_
          refine g_callV_v 60 hX (k_X4_dropFarthest l g N M a0 a3 (-1)) lk_X4_dropFarthest rfl (ci := 4) rfl (Nat.le_of_ble_eq_true rfl) q_2160 q_40 (by omega) rfl (Nat.le_of_ble_eq_true rfl) (Nat.zero_le _) (Nat.zero_le _) dX4_tipBoards_57 rfl (fun M7 => ?_)
          refine g_kl (fun v8 hv8 => ?_)
          refine g_iinc 63 1 1 v8 [(1, .int v8), (0, .ref a0), (2, .int x2), (3, .ref a3), (4, .int x4), (5, .int x5)] hX dX4_tipBoards_60 rfl rfl (by rw [hv8, kc_i_1]) (Nat.le_of_ble_eq_true rfl) rfl ?_
          refine g_aload_n 64 1 hX dX4_tipBoards_63 rfl rfl ?_
          refine g_aload_n 65 3 hX dX4_tipBoards_64 rfl rfl ?_
          refine g_callV_ip 68 hX (k_X4_torqueOn l g N M7 a0 a3) lk_X4_torqueOn rfl (ci := 4) rfl (Nat.le_of_ble_eq_true rfl) q_1622 q_1624 (by omega) rfl (Nat.le_of_ble_eq_true rfl) (Nat.zero_le _) (Nat.zero_le _) dX4_tipBoards_65 rfl (fun r9 => ?_)
          refine g_istore 70 4 [(4, .int r9), (1, .int v8), (0, .ref a0), (2, .int x2), (3, .ref a3), (5, .int x5)] hX dX4_tipBoards_68 rfl (Nat.le_of_ble_eq_true rfl) rfl ?_
          refine g_kl (fun v10 hv10 => ?_)
          refine g_iinc 73 5 5 v10 [(5, .int v10), (4, .int r9), (1, .int v8), (0, .ref a0), (2, .int x2), (3, .ref a3)] hX dX4_tipBoards_70 rfl rfl (by rw [hv10, kc_i_1]) (Nat.le_of_ble_eq_true rfl) rfl ?_
          refine g_goto 29 hX dX4_tipBoards_73 (by decide) ?_
          refine g_lv [3, 2, 4, 5, 1, 0] rfl ?_
          exact ih M7 a0 v8 x2 a3 r9 v10
        · refine g_iconst 53 hX 1 dX4_tipBoards_52 rfl kc_i_1 ?_
          refine g_goto 57 hX dX4_tipBoards_53 (by decide) ?_
          refine g_callV_v 60 hX (k_X4_dropFarthest l g N M a0 a3 1) lk_X4_dropFarthest rfl (ci := 4) rfl (Nat.le_of_ble_eq_true rfl) q_2160 q_40 (by omega) rfl (Nat.le_of_ble_eq_true rfl) (Nat.zero_le _) (Nat.zero_le _) dX4_tipBoards_57 rfl (fun M11 => ?_)
          refine g_kl (fun v12 hv12 => ?_)
          refine g_iinc 63 1 1 v12 [(1, .int v12), (0, .ref a0), (2, .int x2), (3, .ref a3), (4, .int x4), (5, .int x5)] hX dX4_tipBoards_60 rfl rfl (by rw [hv12, kc_i_1]) (Nat.le_of_ble_eq_true rfl) rfl ?_
          refine g_aload_n 64 1 hX dX4_tipBoards_63 rfl rfl ?_
          refine g_aload_n 65 3 hX dX4_tipBoards_64 rfl rfl ?_
          refine g_callV_ip 68 hX (k_X4_torqueOn l g N M11 a0 a3) lk_X4_torqueOn rfl (ci := 4) rfl (Nat.le_of_ble_eq_true rfl) q_1622 q_1624 (by omega) rfl (Nat.le_of_ble_eq_true rfl) (Nat.zero_le _) (Nat.zero_le _) dX4_tipBoards_65 rfl (fun r13 => ?_)
          refine g_istore 70 4 [(4, .int r13), (1, .int v12), (0, .ref a0), (2, .int x2), (3, .ref a3), (5, .int x5)] hX dX4_tipBoards_68 rfl (Nat.le_of_ble_eq_true rfl) rfl ?_
          refine g_kl (fun v14 hv14 => ?_)
          refine g_iinc 73 5 5 v14 [(5, .int v14), (4, .int r13), (1, .int v12), (0, .ref a0), (2, .int x2), (3, .ref a3)] hX dX4_tipBoards_70 rfl rfl (by rw [hv14, kc_i_1]) (Nat.le_of_ble_eq_true rfl) rfl ?_
          refine g_goto 29 hX dX4_tipBoards_73 (by decide) ?_
          refine g_lv [3, 2, 4, 5, 1, 0] rfl ?_
          exact ih M11 a0 v12 x2 a3 r13 v14
set_option maxRecDepth 100000 in
set_option maxHeartbeats 4000000 in
theorem k_X4_tipBoards_4 {p : Program} {l : Launch} {e : Env} {s : State} {m : MethodId} {args : Array Value} {below : List Frame} {meth : Method} {c : Code} {g : kG} (hX : Cok (p, l, e, { frames := 4, cells := 0, slots := 0, locals := 60 * 4 }, s, m, args, below, meth, c, cX4_tipBoards, 6, RX4, g, 4)) (hr : meth.sig.returnType = (some .int)) (N : Nat) : ∀ (n : Nat) (M : kMem) (a0 : Nat) (x1 : Int32) (x2 : Int32), GG (p, l, e, { frames := 4, cells := 0, slots := 0, locals := 60 * 4 }, s, m, args, below, meth, c, cX4_tipBoards, 6, RX4, g, 4) (fun b => MQ below (kQ g ((fun r : Int32 × kMem => (some (.int r.1), r.2)) b)) args s 0 0 (kZ g.2.2.1)) 0 0 (F_X4_tipBoards_4 N n M a0 x1 x2) 4 [(0, .ref a0), (1, .int x1), (2, .int x2)] [] M := by
  intro n
  induction n with
  | zero => intro _ _ _ _; exact g_none
  | succ n ih =>
    intro M a0 x1 x2
    unfold F_X4_tipBoards_4
    refine g_iload_n 5 2 hX dX4_tipBoards_4 rfl rfl ?_
    refine g_aload_n 6 0 hX dX4_tipBoards_5 rfl rfl ?_
    refine r_X4_47 9 hX dX4_tipBoards_6 rfl ?_
    refine g_icmp_ge 82 12 hX dX4_tipBoards_9 (by decide) rfl (fun _ => ?_) (fun _ => ?_)
    · refine g_aload_n 83 0 hX dX4_tipBoards_82 rfl rfl ?_
      refine g_dup 84 hX dX4_tipBoards_83 rfl rfl ?_
      refine r_X4_44 87 hX dX4_tipBoards_84 rfl ?_
      refine g_iload_n 88 1 hX dX4_tipBoards_87 rfl rfl ?_
      refine g_iadd 89 hX dX4_tipBoards_88 rfl ?_
      refine p_X4_44 92 hX dX4_tipBoards_89 rfl ?_
      refine g_klM (fun M1 hM1 => ?_)
      refine g_iload_n 93 1 hX dX4_tipBoards_92 rfl rfl ?_
      exact g_iret hX hr rfl (Nat.le_refl 0) (Nat.le_refl 0) dX4_tipBoards_93
    · refine g_aload_n 13 0 hX dX4_tipBoards_12 rfl rfl ?_
      refine r_X4_11 16 hX dX4_tipBoards_13 rfl ?_
      refine g_iload_n 17 2 hX dX4_tipBoards_16 rfl rfl ?_
      refine g_aald 16 3 18 hX RX0 (Nat.le_of_ble_eq_true rfl) rfl dX4_tipBoards_17 rfl ?_
      refine g_klR (fun w2 hw2 => ?_)
      refine g_astore_n 19 3 [(3, .ref w2), (0, .ref a0), (1, .int x1), (2, .int x2)] hX dX4_tipBoards_18 rfl rfl (Nat.le_of_ble_eq_true rfl) rfl ?_
      refine g_aload_n 20 1 hX dX4_tipBoards_19 rfl rfl ?_
      refine g_aload_n 21 0 hX dX4_tipBoards_20 rfl rfl ?_
      refine g_callV_ip 24 hX (k_X4_torqueOn l g N M a0 w2) lk_X4_torqueOn rfl (ci := 4) rfl (Nat.le_of_ble_eq_true rfl) q_1622 q_1624 (by omega) rfl (Nat.le_of_ble_eq_true rfl) (Nat.zero_le _) (Nat.zero_le _) dX4_tipBoards_21 rfl (fun r3 => ?_)
      refine g_istore 26 4 [(4, .int r3), (3, .ref w2), (0, .ref a0), (1, .int x1), (2, .int x2)] hX dX4_tipBoards_24 rfl (Nat.le_of_ble_eq_true rfl) rfl ?_
      refine g_iconst 27 hX 0 dX4_tipBoards_26 rfl kc_i_0 ?_
      refine g_istore 29 5 [(5, .int 0), (4, .int r3), (3, .ref w2), (0, .ref a0), (1, .int x1), (2, .int x2)] hX dX4_tipBoards_27 rfl (Nat.le_of_ble_eq_true rfl) rfl ?_
      refine g_lv [3, 4, 5, 2, 1, 0] rfl ?_
      exact k_X4_tipBoards_29 hX hr N (fun M a0 x1 x2 => F_X4_tipBoards_4 N n M a0 x1 x2) ih N M a0 x1 x2 w2 r3 0
set_option maxRecDepth 100000 in
set_option maxHeartbeats 4000000 in
theorem k_X4_tipBoards (l : Launch) (g : kG) (N : Nat) (M : kMem) (a0 : Nat) : kMet l g yX4_tipBoards cX4_tipBoards 6 (some .int) 4 0 0 [.ref a0] M (fun r : Int32 × kMem => (some (.int r.1), r.2)) (F_X4_tipBoards N M a0) := by
  refine k_of (lv := [(0, .ref a0)]) RX4 (by decide) rfl rfl (Nat.le_of_ble_eq_true rfl) ?_
  intro p e s m args below meth c hX hr _
  unfold F_X4_tipBoards
  refine g_iconst 1 hX 0 dX4_tipBoards_0 rfl kc_i_0 ?_
  refine g_istore_n 2 1 [(1, .int 0), (0, .ref a0)] hX dX4_tipBoards_1 rfl rfl (Nat.le_of_ble_eq_true rfl) rfl ?_
  refine g_iconst 3 hX 0 dX4_tipBoards_2 rfl kc_i_0 ?_
  refine g_istore_n 4 2 [(2, .int 0), (1, .int 0), (0, .ref a0)] hX dX4_tipBoards_3 rfl rfl (Nat.le_of_ble_eq_true rfl) rfl ?_
  refine g_lv [2, 1, 0] rfl ?_
  exact k_X4_tipBoards_4 hX hr N N M a0 0 0
set_option maxRecDepth 100000 in
set_option maxHeartbeats 4000000 in
theorem k_X4_passDays_4 {p : Program} {l : Launch} {e : Env} {s : State} {m : MethodId} {args : Array Value} {below : List Frame} {meth : Method} {c : Code} {g : kG} (hX : Cok (p, l, e, { frames := 5, cells := 0, slots := 0, locals := 60 * 5 }, s, m, args, below, meth, c, cX4_passDays, 4, RX4, g, 5)) (hr : meth.sig.returnType = (some .int)) (N : Nat) : ∀ (n : Nat) (M : kMem) (a0 : Nat) (x1 : Int32) (x2 : Int32) (x3 : Int32), GG (p, l, e, { frames := 5, cells := 0, slots := 0, locals := 60 * 5 }, s, m, args, below, meth, c, cX4_passDays, 4, RX4, g, 5) (fun b => MQ below (kQ g ((fun r : Int32 × kMem => (some (.int r.1), r.2)) b)) args s 0 0 (kZ g.2.2.1)) 0 0 (F_X4_passDays_4 N n M a0 x1 x2 x3) 4 [(0, .ref a0), (1, .int x1), (2, .int x2), (3, .int x3)] [] M := by
  intro n
  induction n with
  | zero => intro _ _ _ _ _; exact g_none
  | succ n ih =>
    intro M a0 x1 x2 x3
    unfold F_X4_passDays_4
    refine g_iload_n 5 3 hX dX4_passDays_4 rfl rfl ?_
    refine g_iload_n 6 1 hX dX4_passDays_5 rfl rfl ?_
    refine g_icmp_ge 40 9 hX dX4_passDays_6 (by decide) rfl (fun _ => ?_) (fun _ => ?_)
    · refine g_iload_n 41 2 hX dX4_passDays_40 rfl rfl ?_
      exact g_iret hX hr rfl (Nat.le_refl 0) (Nat.le_refl 0) dX4_passDays_41
    · refine g_aload_n 10 0 hX dX4_passDays_9 rfl rfl ?_
      refine g_dup 11 hX dX4_passDays_10 rfl rfl ?_
      refine r_X4_34 14 hX dX4_passDays_11 rfl ?_
      refine g_iconst 15 hX 1 dX4_passDays_14 rfl kc_i_1 ?_
      refine g_iadd 16 hX dX4_passDays_15 rfl ?_
      refine p_X4_34 19 hX dX4_passDays_16 rfl ?_
      refine g_klM (fun M1 hM1 => ?_)
      refine g_aload_n 20 0 hX dX4_passDays_19 rfl rfl ?_
      refine g_callV_v 23 hX (k_X4_payIncomes l g N M1 a0) lk_X4_payIncomes rfl (ci := 4) rfl (Nat.le_of_ble_eq_true rfl) q_2133 q_35 (by omega) rfl (Nat.le_of_ble_eq_true rfl) (Nat.zero_le _) (Nat.zero_le _) dX4_passDays_20 rfl (fun M2 => ?_)
      refine g_aload_n 24 0 hX dX4_passDays_23 rfl rfl ?_
      refine g_callV_v 27 hX (k_X4_ageTraders l g N M2 a0) lk_X4_ageTraders rfl (ci := 4) rfl (Nat.le_of_ble_eq_true rfl) q_2139 q_36 (by omega) rfl (Nat.le_of_ble_eq_true rfl) (Nat.zero_le _) (Nat.zero_le _) dX4_passDays_24 rfl (fun M3 => ?_)
      refine g_iload_n 28 2 hX dX4_passDays_27 rfl rfl ?_
      refine g_aload_n 29 0 hX dX4_passDays_28 rfl rfl ?_
      refine g_callV_i 32 hX (k_X4_tipBoards l g N M3 a0) lk_X4_tipBoards rfl (ci := 4) rfl (Nat.le_of_ble_eq_true rfl) q_2156 q_39 (by omega) rfl (Nat.le_of_ble_eq_true rfl) (Nat.zero_le _) (Nat.zero_le _) dX4_passDays_29 rfl (fun r4 => ?_)
      refine g_iadd 33 hX dX4_passDays_32 rfl ?_
      refine g_klI (fun v5 hv5 => ?_)
      refine g_istore_n 34 2 [(2, .int v5), (0, .ref a0), (1, .int x1), (3, .int x3)] hX dX4_passDays_33 rfl rfl (Nat.le_of_ble_eq_true rfl) rfl ?_
      refine g_kl (fun v6 hv6 => ?_)
      refine g_iinc 37 3 3 v6 [(3, .int v6), (2, .int v5), (0, .ref a0), (1, .int x1)] hX dX4_passDays_34 rfl rfl (by rw [hv6, kc_i_1]) (Nat.le_of_ble_eq_true rfl) rfl ?_
      refine g_goto 4 hX dX4_passDays_37 (by decide) ?_
      refine g_lv [2, 3, 1, 0] rfl ?_
      exact ih r4.2 a0 x1 v5 v6
set_option maxRecDepth 100000 in
set_option maxHeartbeats 4000000 in
theorem k_X4_passDays (l : Launch) (g : kG) (N : Nat) (M : kMem) (a0 : Nat) (x1 : Int32) : kMet l g yX4_passDays cX4_passDays 4 (some .int) 5 0 0 [.ref a0, .int x1] M (fun r : Int32 × kMem => (some (.int r.1), r.2)) (F_X4_passDays N M a0 x1) := by
  refine k_of (lv := [(0, .ref a0), (1, .int x1)]) RX4 (by decide) rfl rfl (Nat.le_of_ble_eq_true rfl) ?_
  intro p e s m args below meth c hX hr _
  unfold F_X4_passDays
  refine g_iconst 1 hX 0 dX4_passDays_0 rfl kc_i_0 ?_
  refine g_istore_n 2 2 [(2, .int 0), (0, .ref a0), (1, .int x1)] hX dX4_passDays_1 rfl rfl (Nat.le_of_ble_eq_true rfl) rfl ?_
  refine g_iconst 3 hX 0 dX4_passDays_2 rfl kc_i_0 ?_
  refine g_istore_n 4 3 [(3, .int 0), (2, .int 0), (0, .ref a0), (1, .int x1)] hX dX4_passDays_3 rfl rfl (Nat.le_of_ble_eq_true rfl) rfl ?_
  refine g_lv [2, 3, 1, 0] rfl ?_
  exact k_X4_passDays_4 hX hr N N M a0 x1 0 0
