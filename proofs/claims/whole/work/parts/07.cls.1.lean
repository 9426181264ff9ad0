def F_X0_build_18 (N : Nat) : Nat → kMem → Nat → Int32 → Option (kMem)
  | 0, _, _, _ => none
  | n + 1, M, a0, x4 =>
    kg (kt M a0 0) <|
    kg (kt M (kR M a0 4) 13) <|
    if x4 < (Int32.ofNat (kn M (kR M a0 4))) then (
      kg (kt M a0 0) <|
      kg (kin M (kR M a0 4) 13 x4) <| kl (ksI M (kR M a0 4) (kx x4) (-1)) fun M4 =>
      kl (x4 + 1) fun v5 =>
      F_X0_build_18 N n M4 a0 v5) else
    some M
def F_X0_build (N : Nat) (M : kMem) (a0 : Nat) (x1 : Int32) (x2 : Int32) (x3 : Int32) : Option (kMem) :=
    kg (kt M a0 0) <| kl (ksI M a0 1 x1) fun M1 =>
    kg (kt M1 a0 0) <| kl (ksI M1 a0 2 x2) fun M2 =>
    kg (kt M2 a0 0) <| kl (ksI M2 a0 3 x3) fun M3 =>
    F_X0_build_18 N N M3 a0 0
set_option maxRecDepth 100000 in
set_option maxHeartbeats 4000000 in
theorem k_X0_build_18 {p : Program} {l : Launch} {e : Env} {s : State} {m : MethodId} {args : Array Value} {below : List Frame} {meth : Method} {c : Code} {g : kG} (hX : Cok (p, l, e, { frames := 2 * 1, cells := 0, slots := 0, locals := 60 * 1 }, s, m, args, below, meth, c, cX0_build, 5, RX0, g, 1)) (hr : meth.sig.returnType = none) (N : Nat) : ∀ (n : Nat) (M : kMem) (a0 : Nat) (x4 : Int32), GG (p, l, e, { frames := 2 * 1, cells := 0, slots := 0, locals := 60 * 1 }, s, m, args, below, meth, c, cX0_build, 5, RX0, g, 1) (fun b => MQ below (kQ g ((fun r : kMem => (none, r)) b)) args s 0 0 (kZ g.2.2.1)) 0 0 (F_X0_build_18 N n M a0 x4) 18 [(0, .ref a0), (4, .int x4)] [] M := by
  intro n
  induction n with
  | zero => intro _ _ _; exact g_none
  | succ n ih =>
    intro M a0 x4
    unfold F_X0_build_18
    refine g_iload 20 1 hX dX0_build_18 rfl rfl ?_
    refine g_aload_n 21 0 hX dX0_build_20 rfl rfl ?_
    refine r_X0_9 24 hX dX0_build_21 rfl ?_
    refine g_alen13 25 hX dX0_build_24 rfl ?_
    refine g_icmp_ge 42 28 hX dX0_build_25 (by decide) rfl (fun _ => ?_) (fun _ => ?_)
    · exact g_vret hX hr rfl (Nat.le_refl 0) (Nat.le_refl 0) dX0_build_42
    · refine g_aload_n 29 0 hX dX0_build_28 rfl rfl ?_
      refine r_X0_9 32 hX dX0_build_29 rfl ?_
      refine g_iload 34 1 hX dX0_build_32 rfl rfl ?_
      refine g_iconst 35 hX (-1) dX0_build_34 rfl kc_i_m1 ?_
      refine g_iast 36 hX dX0_build_35 rfl ?_
      refine g_klM (fun M4 hM4 => ?_)
      refine g_kl (fun v5 hv5 => ?_)
      refine g_iinc 39 4 1 v5 [(4, .int v5), (0, .ref a0)] hX dX0_build_36 rfl rfl (by rw [hv5, kc_i_1]) (Nat.le_of_ble_eq_true rfl) rfl ?_
      refine g_goto 18 hX dX0_build_39 (by decide) ?_
      refine g_lv [1, 0] rfl ?_
      exact ih M4 a0 v5
set_option maxRecDepth 100000 in
set_option maxHeartbeats 4000000 in
theorem k_X0_build (l : Launch) (g : kG) (N : Nat) (M : kMem) (a0 : Nat) (x1 : Int32) (x2 : Int32) (x3 : Int32) : kMet l g yX0_build cX0_build 5 none 1 0 0 [.ref a0, .int x1, .int x2, .int x3] M (fun r : kMem => (none, r)) (F_X0_build N M a0 x1 x2 x3) := by
  refine k_of (lv := [(0, .ref a0), (1, .int x1), (2, .int x2), (3, .int x3)]) RX0 (by decide) rfl rfl (Nat.le_of_ble_eq_true rfl) ?_
  intro p e s m args below meth c hX hr _
  unfold F_X0_build
  refine g_aload_n 1 0 hX dX0_build_0 rfl rfl ?_
  refine g_iload_n 2 1 hX dX0_build_1 rfl rfl ?_
  refine p_X0_19 5 hX dX0_build_2 rfl ?_
  refine g_klM (fun M1 hM1 => ?_)
  refine g_aload_n 6 0 hX dX0_build_5 rfl rfl ?_
  refine g_iload_n 7 2 hX dX0_build_6 rfl rfl ?_
  refine p_X0_22 10 hX dX0_build_7 rfl ?_
  refine g_klM (fun M2 hM2 => ?_)
  refine g_aload_n 11 0 hX dX0_build_10 rfl rfl ?_
  refine g_iload_n 12 3 hX dX0_build_11 rfl rfl ?_
  refine p_X0_25 15 hX dX0_build_12 rfl ?_
  refine g_klM (fun M3 hM3 => ?_)
  refine g_iconst 16 hX 0 dX0_build_15 rfl kc_i_0 ?_
  refine g_istore 18 4 [(4, .int 0), (0, .ref a0), (1, .int x1), (2, .int x2), (3, .int x3)] hX dX0_build_16 rfl (Nat.le_of_ble_eq_true rfl) rfl ?_
  refine g_lv [1, 0] rfl ?_
  exact k_X0_build_18 hX hr N N M3 a0 0
def F_X0_hasSeat (N : Nat) (M : kMem) (a0 : Nat) (x1 : Int32) : Option (Int32) :=
    if x1 = 0 then (
      some 0) else
    kg (kt M a0 0) <|
    if x1 < (-(kI M a0 1)) then (
      some 0) else
    kg (kt M a0 0) <|
    if (kI M a0 1) < x1 then (
      some 0) else
    some 1
set_option maxRecDepth 100000 in
set_option maxHeartbeats 4000000 in
theorem k_X0_hasSeat (l : Launch) (g : kG) (N : Nat) (M : kMem) (a0 : Nat) (x1 : Int32) : kMet l g yX0_hasSeat cX0_hasSeat 2 (some .boolean) 1 0 0 [.ref a0, .int x1] M (fun r : Int32 => (some (.int r), M)) (F_X0_hasSeat N M a0 x1) := by
  refine k_of (lv := [(0, .ref a0), (1, .int x1)]) RX0 (by decide) rfl rfl (Nat.le_of_ble_eq_true rfl) ?_
  intro p e s m args below meth c hX hr _
  unfold F_X0_hasSeat
  refine g_iload_n 1 1 hX dX0_hasSeat_0 rfl rfl ?_
  refine g_if_eq 25 4 hX dX0_hasSeat_1 (by decide) rfl (fun _ => ?_) (fun _ => ?_)
  · refine g_iconst 26 hX 0 dX0_hasSeat_25 rfl kc_i_0 ?_
    exact g_zretL hX hr rfl rfl (Nat.le_refl 0) (Nat.le_refl 0) dX0_hasSeat_26
  · refine g_iload_n 5 1 hX dX0_hasSeat_4 rfl rfl ?_
    refine g_aload_n 6 0 hX dX0_hasSeat_5 rfl rfl ?_
    refine r_X0_19 9 hX dX0_hasSeat_6 rfl ?_
    refine g_ineg 10 hX dX0_hasSeat_9 rfl ?_
    refine g_icmp_lt 25 13 hX dX0_hasSeat_10 (by decide) rfl (fun _ => ?_) (fun _ => ?_)
    · refine g_iconst 26 hX 0 dX0_hasSeat_25 rfl kc_i_0 ?_
      exact g_zretL hX hr rfl rfl (Nat.le_refl 0) (Nat.le_refl 0) dX0_hasSeat_26
    · refine g_iload_n 14 1 hX dX0_hasSeat_13 rfl rfl ?_
      refine g_aload_n 15 0 hX dX0_hasSeat_14 rfl rfl ?_
      refine r_X0_19 18 hX dX0_hasSeat_15 rfl ?_
      refine g_icmp_gt 25 21 hX dX0_hasSeat_18 (by decide) rfl (fun _ => ?_) (fun _ => ?_)
      · refine g_iconst 26 hX 0 dX0_hasSeat_25 rfl kc_i_0 ?_
        exact g_zretL hX hr rfl rfl (Nat.le_refl 0) (Nat.le_refl 0) dX0_hasSeat_26
      · refine g_iconst 22 hX 1 dX0_hasSeat_21 rfl kc_i_1 ?_
        refine g_goto 26 hX dX0_hasSeat_22 (by decide) ?_
        exact g_zretL hX hr rfl rfl (Nat.le_refl 0) (Nat.le_refl 0) dX0_hasSeat_26
def F_X0_ownerAt (N : Nat) (M : kMem) (a0 : Nat) (x1 : Int32) : Option (Int32) :=
    kl (x1 + 6) fun v1 =>
    if v1 < 0 then (
      some (-1)) else
    kg (kt M a0 0) <|
    kg (kt M (kR M a0 4) 13) <|
    if v1 < (Int32.ofNat (kn M (kR M a0 4))) then (
      kg (kt M a0 0) <|
      kg (kin M (kR M a0 4) 13 v1) <|
      some (kI M (kR M a0 4) (kx v1))) else
    some (-1)
set_option maxRecDepth 100000 in
set_option maxHeartbeats 4000000 in
theorem k_X0_ownerAt (l : Launch) (g : kG) (N : Nat) (M : kMem) (a0 : Nat) (x1 : Int32) : kMet l g yX0_ownerAt cX0_ownerAt 3 (some .int) 1 0 0 [.ref a0, .int x1] M (fun r : Int32 => (some (.int r), M)) (F_X0_ownerAt N M a0 x1) := by
  refine k_of (lv := [(0, .ref a0), (1, .int x1)]) RX0 (by decide) rfl rfl (Nat.le_of_ble_eq_true rfl) ?_
  intro p e s m args below meth c hX hr _
  unfold F_X0_ownerAt
  refine g_iload_n 1 1 hX dX0_ownerAt_0 rfl rfl ?_
  refine g_bipush 3 hX 6 dX0_ownerAt_1 rfl kc_b_6 ?_
  refine g_iadd 4 hX dX0_ownerAt_3 rfl ?_
  refine g_klI (fun v1 hv1 => ?_)
  refine g_istore_n 5 2 [(2, .int v1), (0, .ref a0), (1, .int x1)] hX dX0_ownerAt_4 rfl rfl (Nat.le_of_ble_eq_true rfl) rfl ?_
  refine g_iload_n 6 0 hX dX0_ownerAt_5 rfl rfl ?_
  refine g_if_lt 27 9 hX dX0_ownerAt_6 (by decide) rfl (fun _ => ?_) (fun _ => ?_)
  · refine g_iconst 28 hX (-1) dX0_ownerAt_27 rfl kc_i_m1 ?_
    exact g_iret hX hr rfl (Nat.le_refl 0) (Nat.le_refl 0) dX0_ownerAt_28
  · refine g_iload_n 10 0 hX dX0_ownerAt_9 rfl rfl ?_
    refine g_aload_n 11 1 hX dX0_ownerAt_10 rfl rfl ?_
    refine r_X0_9 14 hX dX0_ownerAt_11 rfl ?_
    refine g_alen13 15 hX dX0_ownerAt_14 rfl ?_
    refine g_icmp_ge 27 18 hX dX0_ownerAt_15 (by decide) rfl (fun _ => ?_) (fun _ => ?_)
    · refine g_iconst 28 hX (-1) dX0_ownerAt_27 rfl kc_i_m1 ?_
      exact g_iret hX hr rfl (Nat.le_refl 0) (Nat.le_refl 0) dX0_ownerAt_28
    · refine g_aload_n 19 1 hX dX0_ownerAt_18 rfl rfl ?_
      refine r_X0_9 22 hX dX0_ownerAt_19 rfl ?_
      refine g_iload_n 23 0 hX dX0_ownerAt_22 rfl rfl ?_
      refine g_iald 24 hX dX0_ownerAt_23 rfl ?_
      refine g_goto 28 hX dX0_ownerAt_24 (by decide) ?_
      exact g_iret hX hr rfl (Nat.le_refl 0) (Nat.le_refl 0) dX0_ownerAt_28
def F_X0_setOwner (N : Nat) (M : kMem) (a0 : Nat) (x1 : Int32) (x2 : Int32) : Option (kMem) :=
    kl (x1 + 6) fun v1 =>
    if v1 < 0 then (
      some M) else
    kg (kt M a0 0) <|
    kg (kt M (kR M a0 4) 13) <|
    if v1 < (Int32.ofNat (kn M (kR M a0 4))) then (
      kg (kt M a0 0) <|
      kg (kin M (kR M a0 4) 13 v1) <| kl (ksI M (kR M a0 4) (kx v1) x2) fun M2 =>
      some M2) else
    some M
set_option maxRecDepth 100000 in
set_option maxHeartbeats 4000000 in
theorem k_X0_setOwner (l : Launch) (g : kG) (N : Nat) (M : kMem) (a0 : Nat) (x1 : Int32) (x2 : Int32) : kMet l g yX0_setOwner cX0_setOwner 4 none 1 0 0 [.ref a0, .int x1, .int x2] M (fun r : kMem => (none, r)) (F_X0_setOwner N M a0 x1 x2) := by
  refine k_of (lv := [(0, .ref a0), (1, .int x1), (2, .int x2)]) RX0 (by decide) rfl rfl (Nat.le_of_ble_eq_true rfl) ?_
  intro p e s m args below meth c hX hr _
  unfold F_X0_setOwner
  refine g_iload_n 1 1 hX dX0_setOwner_0 rfl rfl ?_
  refine g_bipush 3 hX 6 dX0_setOwner_1 rfl kc_b_6 ?_
  refine g_iadd 4 hX dX0_setOwner_3 rfl ?_
  refine g_klI (fun v1 hv1 => ?_)
  refine g_istore_n 5 3 [(3, .int v1), (0, .ref a0), (1, .int x1), (2, .int x2)] hX dX0_setOwner_4 rfl rfl (Nat.le_of_ble_eq_true rfl) rfl ?_
  refine g_iload_n 6 0 hX dX0_setOwner_5 rfl rfl ?_
  refine g_if_lt 25 9 hX dX0_setOwner_6 (by decide) rfl (fun _ => ?_) (fun _ => ?_)
  · exact g_vret hX hr rfl (Nat.le_refl 0) (Nat.le_refl 0) dX0_setOwner_25
  · refine g_iload_n 10 0 hX dX0_setOwner_9 rfl rfl ?_
    refine g_aload_n 11 1 hX dX0_setOwner_10 rfl rfl ?_
    refine r_X0_9 14 hX dX0_setOwner_11 rfl ?_
    refine g_alen13 15 hX dX0_setOwner_14 rfl ?_
    refine g_icmp_ge 25 18 hX dX0_setOwner_15 (by decide) rfl (fun _ => ?_) (fun _ => ?_)
    · exact g_vret hX hr rfl (Nat.le_refl 0) (Nat.le_refl 0) dX0_setOwner_25
    · refine g_aload_n 19 1 hX dX0_setOwner_18 rfl rfl ?_
      refine r_X0_9 22 hX dX0_setOwner_19 rfl ?_
      refine g_iload_n 23 0 hX dX0_setOwner_22 rfl rfl ?_
      refine g_iload_n 24 3 hX dX0_setOwner_23 rfl rfl ?_
      refine g_iast 25 hX dX0_setOwner_24 rfl ?_
      refine g_klM (fun M2 hM2 => ?_)
      exact g_vret hX hr rfl (Nat.le_refl 0) (Nat.le_refl 0) dX0_setOwner_25
def F_X0_isFree (N : Nat) (M : kMem) (a0 : Nat) (x1 : Int32) : Option (Int32) :=
    kg (kt M a0 0) <| (F_X0_hasSeat N M a0 x1).bind fun r1 =>
    if r1 = 0 then (
      some 0) else
    kg (kt M a0 0) <| (F_X0_ownerAt N M a0 x1).bind fun r2 =>
    if r2 = (-1) then (
      some 1) else
    some 0
set_option maxRecDepth 100000 in
set_option maxHeartbeats 4000000 in
theorem k_X0_isFree (l : Launch) (g : kG) (N : Nat) (M : kMem) (a0 : Nat) (x1 : Int32) : kMet l g yX0_isFree cX0_isFree 2 (some .boolean) 2 0 0 [.ref a0, .int x1] M (fun r : Int32 => (some (.int r), M)) (F_X0_isFree N M a0 x1) := by
  refine k_of (lv := [(0, .ref a0), (1, .int x1)]) RX0 (by decide) rfl rfl (Nat.le_of_ble_eq_true rfl) ?_
  intro p e s m args below meth c hX hr _
  unfold F_X0_isFree
  refine g_aload_n 1 0 hX dX0_isFree_0 rfl rfl ?_
  refine g_iload_n 2 1 hX dX0_isFree_1 rfl rfl ?_
  refine g_callV_ip 5 hX (k_X0_hasSeat l g N M a0 x1) lk_X0_hasSeat rfl (ci := 0) rfl (Nat.le_of_ble_eq_true rfl) q_725 q_727 (by omega) rfl (Nat.le_of_ble_eq_true rfl) (Nat.zero_le _) (Nat.zero_le _) dX0_isFree_2 rfl (fun r1 => ?_)
  refine g_if_eq 21 8 hX dX0_isFree_5 (by decide) rfl (fun _ => ?_) (fun _ => ?_)
  · refine g_iconst 22 hX 0 dX0_isFree_21 rfl kc_i_0 ?_
    exact g_zretL hX hr rfl rfl (Nat.le_refl 0) (Nat.le_refl 0) dX0_isFree_22
  · refine g_aload_n 9 0 hX dX0_isFree_8 rfl rfl ?_
    refine g_iload_n 10 1 hX dX0_isFree_9 rfl rfl ?_
    refine g_callV_ip 13 hX (k_X0_ownerAt l g N M a0 x1) lk_X0_ownerAt rfl (ci := 0) rfl (Nat.le_of_ble_eq_true rfl) q_729 q_731 (by omega) rfl (Nat.le_of_ble_eq_true rfl) (Nat.zero_le _) (Nat.zero_le _) dX0_isFree_10 rfl (fun r2 => ?_)
    refine g_iconst 14 hX (-1) dX0_isFree_13 rfl kc_i_m1 ?_
    refine g_icmp_ne 21 17 hX dX0_isFree_14 (by decide) rfl (fun _ => ?_) (fun _ => ?_)
    · refine g_iconst 22 hX 0 dX0_isFree_21 rfl kc_i_0 ?_
      exact g_zretL hX hr rfl rfl (Nat.le_refl 0) (Nat.le_refl 0) dX0_isFree_22
    · refine g_iconst 18 hX 1 dX0_isFree_17 rfl kc_i_1 ?_
      refine g_goto 22 hX dX0_isFree_18 (by decide) ?_
      exact g_zretL hX hr rfl rfl (Nat.le_refl 0) (Nat.le_refl 0) dX0_isFree_22
def F_X0_tipsUnder (N : Nat) (M : kMem) (a0 : Nat) (x1 : Int32) : Option (Int32) :=
    kg (kt M a0 0) <|
    if (kI M a0 3) < (kabs x1) then (
      some 1) else
    some 0
set_option maxRecDepth 100000 in
set_option maxHeartbeats 4000000 in
theorem k_X0_tipsUnder (l : Launch) (g : kG) (N : Nat) (M : kMem) (a0 : Nat) (x1 : Int32) : kMet l g yX0_tipsUnder cX0_tipsUnder 2 (some .boolean) 1 0 0 [.ref a0, .int x1] M (fun r : Int32 => (some (.int r), M)) (F_X0_tipsUnder N M a0 x1) := by
  refine k_of (lv := [(0, .ref a0), (1, .int x1)]) RX0 (by decide) rfl rfl (Nat.le_of_ble_eq_true rfl) ?_
  intro p e s m args below meth c hX hr _
  unfold F_X0_tipsUnder
  refine g_iload_n 1 1 hX dX0_tipsUnder_0 rfl rfl ?_
  refine g_mabs (y := 0) 4 hX q_940 dX0_tipsUnder_1 rfl (Nat.le_of_ble_eq_true rfl) (by decide) (Nat.zero_le _) (Nat.zero_le _) ?_
  refine g_aload_n 5 0 hX dX0_tipsUnder_4 rfl rfl ?_
  refine r_X0_25 8 hX dX0_tipsUnder_5 rfl ?_
  refine g_icmp_le 15 11 hX dX0_tipsUnder_8 (by decide) rfl (fun _ => ?_) (fun _ => ?_)
  · refine g_iconst 16 hX 0 dX0_tipsUnder_15 rfl kc_i_0 ?_
    exact g_zretL hX hr rfl rfl (Nat.le_refl 0) (Nat.le_refl 0) dX0_tipsUnder_16
  · refine g_iconst 12 hX 1 dX0_tipsUnder_11 rfl kc_i_1 ?_
    refine g_goto 16 hX dX0_tipsUnder_12 (by decide) ?_
    exact g_zretL hX hr rfl rfl (Nat.le_refl 0) (Nat.le_refl 0) dX0_tipsUnder_16
def F_X0_tiltUnder (N : Nat) (M : kMem) (a0 : Nat) (x1 : Int32) : Option (Int32) :=
    kg (kt M a0 0) <|
    if (kI M a0 2) < 1 then (
      some 0) else
    kg (kt M a0 0) <|
    kg (!((kI M a0 2) == 0)) <|
    some (kmax (-9) (kmin 9 (x1 / (kI M a0 2))))
set_option maxRecDepth 100000 in
set_option maxHeartbeats 4000000 in
theorem k_X0_tiltUnder (l : Launch) (g : kG) (N : Nat) (M : kMem) (a0 : Nat) (x1 : Int32) : kMet l g yX0_tiltUnder cX0_tiltUnder 2 (some .int) 1 0 0 [.ref a0, .int x1] M (fun r : Int32 => (some (.int r), M)) (F_X0_tiltUnder N M a0 x1) := by
  refine k_of (lv := [(0, .ref a0), (1, .int x1)]) RX0 (by decide) rfl rfl (Nat.le_of_ble_eq_true rfl) ?_
  intro p e s m args below meth c hX hr _
  unfold F_X0_tiltUnder
  refine g_aload_n 1 0 hX dX0_tiltUnder_0 rfl rfl ?_
  refine r_X0_22 4 hX dX0_tiltUnder_1 rfl ?_
  refine g_iconst 5 hX 1 dX0_tiltUnder_4 rfl kc_i_1 ?_
  refine g_icmp_ge 10 8 hX dX0_tiltUnder_5 (by decide) rfl (fun _ => ?_) (fun _ => ?_)
  · refine g_bipush 12 hX (-9) dX0_tiltUnder_10 rfl kc_b_m9 ?_
    refine g_bipush 14 hX 9 dX0_tiltUnder_12 rfl kc_b_9 ?_
    refine g_iload_n 15 1 hX dX0_tiltUnder_14 rfl rfl ?_
    refine g_aload_n 16 0 hX dX0_tiltUnder_15 rfl rfl ?_
    refine r_X0_22 19 hX dX0_tiltUnder_16 rfl ?_
    refine g_idiv 20 hX dX0_tiltUnder_19 rfl ?_
    refine g_mmin 23 hX q_927 dX0_tiltUnder_20 rfl (Nat.le_of_ble_eq_true rfl) (by decide) (Nat.zero_le _) (Nat.zero_le _) ?_
    refine g_mmax 26 hX q_928 dX0_tiltUnder_23 rfl (Nat.le_of_ble_eq_true rfl) (by decide) (Nat.zero_le _) (Nat.zero_le _) ?_
    exact g_iret hX hr rfl (Nat.le_refl 0) (Nat.le_refl 0) dX0_tiltUnder_26
  · refine g_iconst 9 hX 0 dX0_tiltUnder_8 rfl kc_i_0 ?_
    exact g_iret hX hr rfl (Nat.le_refl 0) (Nat.le_refl 0) dX0_tiltUnder_9
def F_X0_copyFrom (N : Nat) (M : kMem) (a0 : Nat) (a1 : Nat) : Option (kMem) :=
    kg (kt M a1 0) <|
    kg (kt M a0 0) <| kl (ksI M a0 1 (kI M a1 1)) fun M1 =>
    kg (kt M1 a1 0) <|
    kg (kt M1 a0 0) <| kl (ksI M1 a0 2 (kI M1 a1 2)) fun M2 =>
    kg (kt M2 a1 0) <|
    kg (kt M2 a0 0) <| kl (ksI M2 a0 3 (kI M2 a1 3)) fun M3 =>
    kg (kt M3 a1 0) <|
    kg (kt M3 a0 0) <|
    kg (kt M3 a0 0) <|
    kg (kt M3 (kR M3 a0 4) 13) <|
    kg (kcpOk M3 (kR M3 a1 4) 0 (kR M3 a0 4) 0 (Int32.ofNat (kn M3 (kR M3 a0 4)))) <| kl (kcp M3 (kR M3 a1 4) 0 (kR M3 a0 4) 0 (Int32.ofNat (kn M3 (kR M3 a0 4)))) fun M4 =>
    some M4
set_option maxRecDepth 100000 in
set_option maxHeartbeats 4000000 in
theorem k_X0_copyFrom (l : Launch) (g : kG) (N : Nat) (M : kMem) (a0 : Nat) (a1 : Nat) : kMet l g yX0_copyFrom cX0_copyFrom 2 none 1 0 0 [.ref a0, .ref a1] M (fun r : kMem => (none, r)) (F_X0_copyFrom N M a0 a1) := by
  refine k_of (lv := [(0, .ref a0), (1, .ref a1)]) RX0 (by decide) rfl rfl (Nat.le_of_ble_eq_true rfl) ?_
  intro p e s m args below meth c hX hr _
  unfold F_X0_copyFrom
  refine g_aload_n 1 0 hX dX0_copyFrom_0 rfl rfl ?_
  refine g_aload_n 2 1 hX dX0_copyFrom_1 rfl rfl ?_
  refine r_X0_19 5 hX dX0_copyFrom_2 rfl ?_
  refine p_X0_19 8 hX dX0_copyFrom_5 rfl ?_
  refine g_klM (fun M1 hM1 => ?_)
  refine g_aload_n 9 0 hX dX0_copyFrom_8 rfl rfl ?_
  refine g_aload_n 10 1 hX dX0_copyFrom_9 rfl rfl ?_
  refine r_X0_22 13 hX dX0_copyFrom_10 rfl ?_
  refine p_X0_22 16 hX dX0_copyFrom_13 rfl ?_
  refine g_klM (fun M2 hM2 => ?_)
  refine g_aload_n 17 0 hX dX0_copyFrom_16 rfl rfl ?_
  refine g_aload_n 18 1 hX dX0_copyFrom_17 rfl rfl ?_
  refine r_X0_25 21 hX dX0_copyFrom_18 rfl ?_
  refine p_X0_25 24 hX dX0_copyFrom_21 rfl ?_
  refine g_klM (fun M3 hM3 => ?_)
  refine g_aload_n 25 1 hX dX0_copyFrom_24 rfl rfl ?_
  refine r_X0_9 28 hX dX0_copyFrom_25 rfl ?_
  refine g_iconst 29 hX 0 dX0_copyFrom_28 rfl kc_i_0 ?_
  refine g_aload_n 30 0 hX dX0_copyFrom_29 rfl rfl ?_
  refine r_X0_9 33 hX dX0_copyFrom_30 rfl ?_
  refine g_iconst 34 hX 0 dX0_copyFrom_33 rfl kc_i_0 ?_
  refine g_aload_n 35 0 hX dX0_copyFrom_34 rfl rfl ?_
  refine r_X0_9 38 hX dX0_copyFrom_35 rfl ?_
  refine g_alen13 39 hX dX0_copyFrom_38 rfl ?_
  refine g_copy 42 hX q_754 dX0_copyFrom_39 rfl (Nat.le_of_ble_eq_true rfl) (by decide) ?_
  refine g_klM (fun M4 hM4 => ?_)
  exact g_vret hX hr rfl (Nat.le_refl 0) (Nat.le_refl 0) dX0_copyFrom_42
def F_X2_add_4 (N : Nat) : Nat → kMem → Nat → Int32 → Int32 → Int32 → Int32 → Option (kMem)
  | 0, _, _, _, _, _, _ => none
  | n + 1, M, a0, x1, x2, x3, x4 =>
    if (0 : Int32) < x4 then (
      kg (kt M a0 2) <|
      kg (kt M a0 2) <|
      kg (kin M (kR M a0 0) 13 (x4 - 1)) <|
      kg (kin M (kR M a0 0) 13 x4) <| kl (ksI M (kR M a0 0) (kx x4) (kI M (kR M a0 0) (kx (x4 - 1)))) fun M5 =>
      kg (kt M5 a0 2) <|
      kg (kt M5 a0 2) <|
      kg (kin M5 (kR M5 a0 1) 13 (x4 - 1)) <|
      kg (kin M5 (kR M5 a0 1) 13 x4) <| kl (ksI M5 (kR M5 a0 1) (kx x4) (kI M5 (kR M5 a0 1) (kx (x4 - 1)))) fun M6 =>
      kg (kt M6 a0 2) <|
      kg (kt M6 a0 2) <|
      kg (kin M6 (kR M6 a0 2) 13 (x4 - 1)) <|
      kg (kin M6 (kR M6 a0 2) 13 x4) <| kl (ksI M6 (kR M6 a0 2) (kx x4) (kI M6 (kR M6 a0 2) (kx (x4 - 1)))) fun M7 =>
      kl (x4 + (-1)) fun v8 =>
      F_X2_add_4 N n M7 a0 x1 x2 x3 v8) else
    kg (kt M a0 2) <|
    kg (kin M (kR M a0 0) 13 0) <| kl (ksI M (kR M a0 0) (kx 0) x1) fun M1 =>
    kg (kt M1 a0 2) <|
    kg (kin M1 (kR M1 a0 1) 13 0) <| kl (ksI M1 (kR M1 a0 1) (kx 0) x2) fun M2 =>
    kg (kt M2 a0 2) <|
    kg (kin M2 (kR M2 a0 2) 13 0) <| kl (ksI M2 (kR M2 a0 2) (kx 0) x3) fun M3 =>
    kg (kt M3 a0 2) <|
    kg (kt M3 a0 2) <| kl (ksI M3 a0 3 (kmin ((kI M3 a0 3) + 1) 12)) fun M4 =>
    some M4
def F_X2_add (N : Nat) (M : kMem) (a0 : Nat) (x1 : Int32) (x2 : Int32) (x3 : Int32) : Option (kMem) :=
    F_X2_add_4 N N M a0 x1 x2 x3 11
set_option maxRecDepth 100000 in
set_option maxHeartbeats 4000000 in
theorem k_X2_add_4 {p : Program} {l : Launch} {e : Env} {s : State} {m : MethodId} {args : Array Value} {below : List Frame} {meth : Method} {c : Code} {g : kG} (hX : Cok (p, l, e, { frames := 2 * 1, cells := 0, slots := 0, locals := 60 * 1 }, s, m, args, below, meth, c, cX2_add, 5, RX2, g, 1)) (hr : meth.sig.returnType = none) (N : Nat) : ∀ (n : Nat) (M : kMem) (a0 : Nat) (x1 : Int32) (x2 : Int32) (x3 : Int32) (x4 : Int32), GG (p, l, e, { frames := 2 * 1, cells := 0, slots := 0, locals := 60 * 1 }, s, m, args, below, meth, c, cX2_add, 5, RX2, g, 1) (fun b => MQ below (kQ g ((fun r : kMem => (none, r)) b)) args s 0 0 (kZ g.2.2.1)) 0 0 (F_X2_add_4 N n M a0 x1 x2 x3 x4) 4 [(0, .ref a0), (1, .int x1), (2, .int x2), (3, .int x3), (4, .int x4)] [] M := by
  intro n
  induction n with
  | zero => intro _ _ _ _ _ _; exact g_none
  | succ n ih =>
    intro M a0 x1 x2 x3 x4
    unfold F_X2_add_4
    refine g_iload 6 4 hX dX2_add_4 rfl rfl ?_
    refine g_if_le 63 9 hX dX2_add_6 (by decide) rfl (fun _ => ?_) (fun _ => ?_)
    · refine g_aload_n 64 0 hX dX2_add_63 rfl rfl ?_
      refine r_X2_9 67 hX dX2_add_64 rfl ?_
      refine g_iconst 68 hX 0 dX2_add_67 rfl kc_i_0 ?_
      refine g_iload_n 69 1 hX dX2_add_68 rfl rfl ?_
      refine g_iast 70 hX dX2_add_69 rfl ?_
      refine g_klM (fun M1 hM1 => ?_)
      refine g_aload_n 71 0 hX dX2_add_70 rfl rfl ?_
      refine r_X2_15 74 hX dX2_add_71 rfl ?_
      refine g_iconst 75 hX 0 dX2_add_74 rfl kc_i_0 ?_
      refine g_iload_n 76 2 hX dX2_add_75 rfl rfl ?_
      refine g_iast 77 hX dX2_add_76 rfl ?_
      refine g_klM (fun M2 hM2 => ?_)
      refine g_aload_n 78 0 hX dX2_add_77 rfl rfl ?_
      refine r_X2_18 81 hX dX2_add_78 rfl ?_
      refine g_iconst 82 hX 0 dX2_add_81 rfl kc_i_0 ?_
      refine g_iload_n 83 3 hX dX2_add_82 rfl rfl ?_
      refine g_iast 84 hX dX2_add_83 rfl ?_
      refine g_klM (fun M3 hM3 => ?_)
      refine g_aload_n 85 0 hX dX2_add_84 rfl rfl ?_
      refine g_aload_n 86 0 hX dX2_add_85 rfl rfl ?_
      refine r_X2_21 89 hX dX2_add_86 rfl ?_
      refine g_iconst 90 hX 1 dX2_add_89 rfl kc_i_1 ?_
      refine g_iadd 91 hX dX2_add_90 rfl ?_
      refine g_bipush 93 hX 12 dX2_add_91 rfl kc_b_12 ?_
      refine g_mmin 96 hX q_1025 dX2_add_93 rfl (Nat.le_of_ble_eq_true rfl) (by decide) (Nat.zero_le _) (Nat.zero_le _) ?_
      refine p_X2_21 99 hX dX2_add_96 rfl ?_
      refine g_klM (fun M4 hM4 => ?_)
      exact g_vret hX hr rfl (Nat.le_refl 0) (Nat.le_refl 0) dX2_add_99
    · refine g_aload_n 10 0 hX dX2_add_9 rfl rfl ?_
      refine r_X2_9 13 hX dX2_add_10 rfl ?_
      refine g_iload 15 4 hX dX2_add_13 rfl rfl ?_
      refine g_aload_n 16 0 hX dX2_add_15 rfl rfl ?_
      refine r_X2_9 19 hX dX2_add_16 rfl ?_
      refine g_iload 21 4 hX dX2_add_19 rfl rfl ?_
      refine g_iconst 22 hX 1 dX2_add_21 rfl kc_i_1 ?_
      refine g_isub 23 hX dX2_add_22 rfl ?_
      refine g_iald 24 hX dX2_add_23 rfl ?_
      refine g_iast 25 hX dX2_add_24 rfl ?_
      refine g_klM (fun M5 hM5 => ?_)
      refine g_aload_n 26 0 hX dX2_add_25 rfl rfl ?_
      refine r_X2_15 29 hX dX2_add_26 rfl ?_
      refine g_iload 31 4 hX dX2_add_29 rfl rfl ?_
      refine g_aload_n 32 0 hX dX2_add_31 rfl rfl ?_
      refine r_X2_15 35 hX dX2_add_32 rfl ?_
      refine g_iload 37 4 hX dX2_add_35 rfl rfl ?_
      refine g_iconst 38 hX 1 dX2_add_37 rfl kc_i_1 ?_
      refine g_isub 39 hX dX2_add_38 rfl ?_
      refine g_iald 40 hX dX2_add_39 rfl ?_
      refine g_iast 41 hX dX2_add_40 rfl ?_
      refine g_klM (fun M6 hM6 => ?_)
      refine g_aload_n 42 0 hX dX2_add_41 rfl rfl ?_
      refine r_X2_18 45 hX dX2_add_42 rfl ?_
      refine g_iload 47 4 hX dX2_add_45 rfl rfl ?_
      refine g_aload_n 48 0 hX dX2_add_47 rfl rfl ?_
      refine r_X2_18 51 hX dX2_add_48 rfl ?_
      refine g_iload 53 4 hX dX2_add_51 rfl rfl ?_
      refine g_iconst 54 hX 1 dX2_add_53 rfl kc_i_1 ?_
      refine g_isub 55 hX dX2_add_54 rfl ?_
      refine g_iald 56 hX dX2_add_55 rfl ?_
      refine g_iast 57 hX dX2_add_56 rfl ?_
      refine g_klM (fun M7 hM7 => ?_)
      refine g_kl (fun v8 hv8 => ?_)
      refine g_iinc 60 4 4 v8 [(4, .int v8), (0, .ref a0), (1, .int x1), (2, .int x2), (3, .int x3)] hX dX2_add_57 rfl rfl (by rw [hv8, kc_i_m1]) (Nat.le_of_ble_eq_true rfl) rfl ?_
      refine g_goto 4 hX dX2_add_60 (by decide) ?_
      refine g_lv [1, 2, 3, 4, 0] rfl ?_
      exact ih M7 a0 x1 x2 x3 v8
set_option maxRecDepth 100000 in
set_option maxHeartbeats 4000000 in
theorem k_X2_add (l : Launch) (g : kG) (N : Nat) (M : kMem) (a0 : Nat) (x1 : Int32) (x2 : Int32) (x3 : Int32) : kMet l g yX2_add cX2_add 5 none 1 0 0 [.ref a0, .int x1, .int x2, .int x3] M (fun r : kMem => (none, r)) (F_X2_add N M a0 x1 x2 x3) := by
  refine k_of (lv := [(0, .ref a0), (1, .int x1), (2, .int x2), (3, .int x3)]) RX2 (by decide) rfl rfl (Nat.le_of_ble_eq_true rfl) ?_
  intro p e s m args below meth c hX hr _
  unfold F_X2_add
  refine g_bipush 2 hX 11 dX2_add_0 rfl kc_b_11 ?_
  refine g_istore 4 4 [(4, .int 11), (0, .ref a0), (1, .int x1), (2, .int x2), (3, .int x3)] hX dX2_add_2 rfl (Nat.le_of_ble_eq_true rfl) rfl ?_
  refine g_lv [1, 2, 3, 4, 0] rfl ?_
  exact k_X2_add_4 hX hr N N M a0 x1 x2 x3 11
def F_X2_hasEvent (N : Nat) (M : kMem) (a0 : Nat) (x1 : Int32) : Option (Int32) :=
    if x1 < 0 then (
      some 0) else
    kg (kt M a0 2) <|
    if x1 < (kI M a0 3) then (
      if x1 < 12 then (
        some 1) else
      some 0) else
    some 0
set_option maxRecDepth 100000 in
set_option maxHeartbeats 4000000 in
theorem k_X2_hasEvent (l : Launch) (g : kG) (N : Nat) (M : kMem) (a0 : Nat) (x1 : Int32) : kMet l g yX2_hasEvent cX2_hasEvent 2 (some .boolean) 1 0 0 [.ref a0, .int x1] M (fun r : Int32 => (some (.int r), M)) (F_X2_hasEvent N M a0 x1) := by
  refine k_of (lv := [(0, .ref a0), (1, .int x1)]) RX2 (by decide) rfl rfl (Nat.le_of_ble_eq_true rfl) ?_
  intro p e s m args below meth c hX hr _
  unfold F_X2_hasEvent
  refine g_iload_n 1 1 hX dX2_hasEvent_0 rfl rfl ?_
  refine g_if_lt 22 4 hX dX2_hasEvent_1 (by decide) rfl (fun _ => ?_) (fun _ => ?_)
  · refine g_iconst 23 hX 0 dX2_hasEvent_22 rfl kc_i_0 ?_
    exact g_zretL hX hr rfl rfl (Nat.le_refl 0) (Nat.le_refl 0) dX2_hasEvent_23
  · refine g_iload_n 5 1 hX dX2_hasEvent_4 rfl rfl ?_
    refine g_aload_n 6 0 hX dX2_hasEvent_5 rfl rfl ?_
    refine r_X2_21 9 hX dX2_hasEvent_6 rfl ?_
    refine g_icmp_ge 22 12 hX dX2_hasEvent_9 (by decide) rfl (fun _ => ?_) (fun _ => ?_)
    · refine g_iconst 23 hX 0 dX2_hasEvent_22 rfl kc_i_0 ?_
      exact g_zretL hX hr rfl rfl (Nat.le_refl 0) (Nat.le_refl 0) dX2_hasEvent_23
    · refine g_iload_n 13 1 hX dX2_hasEvent_12 rfl rfl ?_
      refine g_bipush 15 hX 12 dX2_hasEvent_13 rfl kc_b_12 ?_
      refine g_icmp_ge 22 18 hX dX2_hasEvent_15 (by decide) rfl (fun _ => ?_) (fun _ => ?_)
      · refine g_iconst 23 hX 0 dX2_hasEvent_22 rfl kc_i_0 ?_
        exact g_zretL hX hr rfl rfl (Nat.le_refl 0) (Nat.le_refl 0) dX2_hasEvent_23
      · refine g_iconst 19 hX 1 dX2_hasEvent_18 rfl kc_i_1 ?_
        refine g_goto 23 hX dX2_hasEvent_19 (by decide) ?_
        exact g_zretL hX hr rfl rfl (Nat.le_refl 0) (Nat.le_refl 0) dX2_hasEvent_23
def F_X2_kindAt (N : Nat) (M : kMem) (a0 : Nat) (x1 : Int32) : Option (Int32) :=
    kg (kt M a0 2) <| (F_X2_hasEvent N M a0 x1).bind fun r1 =>
    if r1 = 0 then (
      some (-1)) else
    kg (kt M a0 2) <|
    kg (kin M (kR M a0 0) 13 x1) <|
    some (kI M (kR M a0 0) (kx x1))
set_option maxRecDepth 100000 in
set_option maxHeartbeats 4000000 in
theorem k_X2_kindAt (l : Launch) (g : kG) (N : Nat) (M : kMem) (a0 : Nat) (x1 : Int32) : kMet l g yX2_kindAt cX2_kindAt 2 (some .int) 2 0 0 [.ref a0, .int x1] M (fun r : Int32 => (some (.int r), M)) (F_X2_kindAt N M a0 x1) := by
  refine k_of (lv := [(0, .ref a0), (1, .int x1)]) RX2 (by decide) rfl rfl (Nat.le_of_ble_eq_true rfl) ?_
  intro p e s m args below meth c hX hr _
  unfold F_X2_kindAt
  refine g_aload_n 1 0 hX dX2_kindAt_0 rfl rfl ?_
  refine g_iload_n 2 1 hX dX2_kindAt_1 rfl rfl ?_
  refine g_callV_ip 5 hX (k_X2_hasEvent l g N M a0 x1) lk_X2_hasEvent rfl (ci := 2) rfl (Nat.le_of_ble_eq_true rfl) q_1158 q_31 (by omega) rfl (Nat.le_of_ble_eq_true rfl) (Nat.zero_le _) (Nat.zero_le _) dX2_kindAt_2 rfl (fun r1 => ?_)
  refine g_if_eq 17 8 hX dX2_kindAt_5 (by decide) rfl (fun _ => ?_) (fun _ => ?_)
  · refine g_iconst 18 hX (-1) dX2_kindAt_17 rfl kc_i_m1 ?_
    exact g_iret hX hr rfl (Nat.le_refl 0) (Nat.le_refl 0) dX2_kindAt_18
  · refine g_aload_n 9 0 hX dX2_kindAt_8 rfl rfl ?_
    refine r_X2_9 12 hX dX2_kindAt_9 rfl ?_
    refine g_iload_n 13 1 hX dX2_kindAt_12 rfl rfl ?_
    refine g_iald 14 hX dX2_kindAt_13 rfl ?_
    refine g_goto 18 hX dX2_kindAt_14 (by decide) ?_
    exact g_iret hX hr rfl (Nat.le_refl 0) (Nat.le_refl 0) dX2_kindAt_18
def F_X2_traderAt (N : Nat) (M : kMem) (a0 : Nat) (x1 : Int32) : Option (Int32) :=
    kg (kt M a0 2) <| (F_X2_hasEvent N M a0 x1).bind fun r1 =>
    if r1 = 0 then (
      some (-1)) else
    kg (kt M a0 2) <|
    kg (kin M (kR M a0 1) 13 x1) <|
    some (kI M (kR M a0 1) (kx x1))
set_option maxRecDepth 100000 in
set_option maxHeartbeats 4000000 in
theorem k_X2_traderAt (l : Launch) (g : kG) (N : Nat) (M : kMem) (a0 : Nat) (x1 : Int32) : kMet l g yX2_traderAt cX2_traderAt 2 (some .int) 2 0 0 [.ref a0, .int x1] M (fun r : Int32 => (some (.int r), M)) (F_X2_traderAt N M a0 x1) := by
  refine k_of (lv := [(0, .ref a0), (1, .int x1)]) RX2 (by decide) rfl rfl (Nat.le_of_ble_eq_true rfl) ?_
  intro p e s m args below meth c hX hr _
  unfold F_X2_traderAt
  refine g_aload_n 1 0 hX dX2_traderAt_0 rfl rfl ?_
  refine g_iload_n 2 1 hX dX2_traderAt_1 rfl rfl ?_
  refine g_callV_ip 5 hX (k_X2_hasEvent l g N M a0 x1) lk_X2_hasEvent rfl (ci := 2) rfl (Nat.le_of_ble_eq_true rfl) q_1158 q_31 (by omega) rfl (Nat.le_of_ble_eq_true rfl) (Nat.zero_le _) (Nat.zero_le _) dX2_traderAt_2 rfl (fun r1 => ?_)
  refine g_if_eq 17 8 hX dX2_traderAt_5 (by decide) rfl (fun _ => ?_) (fun _ => ?_)
  · refine g_iconst 18 hX (-1) dX2_traderAt_17 rfl kc_i_m1 ?_
    exact g_iret hX hr rfl (Nat.le_refl 0) (Nat.le_refl 0) dX2_traderAt_18
  · refine g_aload_n 9 0 hX dX2_traderAt_8 rfl rfl ?_
    refine r_X2_15 12 hX dX2_traderAt_9 rfl ?_
    refine g_iload_n 13 1 hX dX2_traderAt_12 rfl rfl ?_
    refine g_iald 14 hX dX2_traderAt_13 rfl ?_
    refine g_goto 18 hX dX2_traderAt_14 (by decide) ?_
    exact g_iret hX hr rfl (Nat.le_refl 0) (Nat.le_refl 0) dX2_traderAt_18
def F_X2_dayAt (N : Nat) (M : kMem) (a0 : Nat) (x1 : Int32) : Option (Int32) :=
    kg (kt M a0 2) <| (F_X2_hasEvent N M a0 x1).bind fun r1 =>
    if r1 = 0 then (
      some (-1)) else
    kg (kt M a0 2) <|
    kg (kin M (kR M a0 2) 13 x1) <|
    some (kI M (kR M a0 2) (kx x1))
set_option maxRecDepth 100000 in
set_option maxHeartbeats 4000000 in
theorem k_X2_dayAt (l : Launch) (g : kG) (N : Nat) (M : kMem) (a0 : Nat) (x1 : Int32) : kMet l g yX2_dayAt cX2_dayAt 2 (some .int) 2 0 0 [.ref a0, .int x1] M (fun r : Int32 => (some (.int r), M)) (F_X2_dayAt N M a0 x1) := by
  refine k_of (lv := [(0, .ref a0), (1, .int x1)]) RX2 (by decide) rfl rfl (Nat.le_of_ble_eq_true rfl) ?_
  intro p e s m args below meth c hX hr _
  unfold F_X2_dayAt
  refine g_aload_n 1 0 hX dX2_dayAt_0 rfl rfl ?_
  refine g_iload_n 2 1 hX dX2_dayAt_1 rfl rfl ?_
  refine g_callV_ip 5 hX (k_X2_hasEvent l g N M a0 x1) lk_X2_hasEvent rfl (ci := 2) rfl (Nat.le_of_ble_eq_true rfl) q_1158 q_31 (by omega) rfl (Nat.le_of_ble_eq_true rfl) (Nat.zero_le _) (Nat.zero_le _) dX2_dayAt_2 rfl (fun r1 => ?_)
  refine g_if_eq 17 8 hX dX2_dayAt_5 (by decide) rfl (fun _ => ?_) (fun _ => ?_)
  · refine g_iconst 18 hX (-1) dX2_dayAt_17 rfl kc_i_m1 ?_
    exact g_iret hX hr rfl (Nat.le_refl 0) (Nat.le_refl 0) dX2_dayAt_18
  · refine g_aload_n 9 0 hX dX2_dayAt_8 rfl rfl ?_
    refine r_X2_18 12 hX dX2_dayAt_9 rfl ?_
    refine g_iload_n 13 1 hX dX2_dayAt_12 rfl rfl ?_
    refine g_iald 14 hX dX2_dayAt_13 rfl ?_
    refine g_goto 18 hX dX2_dayAt_14 (by decide) ?_
    exact g_iret hX hr rfl (Nat.le_refl 0) (Nat.le_refl 0) dX2_dayAt_18
def F_X2_copyFrom (N : Nat) (M : kMem) (a0 : Nat) (a1 : Nat) : Option (kMem) :=
    kg (kt M a1 2) <|
    kg (kt M a0 2) <| kl (ksI M a0 3 (kI M a1 3)) fun M1 =>
    kg (kt M1 a1 2) <|
    kg (kt M1 a0 2) <|
    kg (kt M1 a0 2) <|
    kg (kt M1 (kR M1 a0 0) 13) <|
    kg (kcpOk M1 (kR M1 a1 0) 0 (kR M1 a0 0) 0 (Int32.ofNat (kn M1 (kR M1 a0 0)))) <| kl (kcp M1 (kR M1 a1 0) 0 (kR M1 a0 0) 0 (Int32.ofNat (kn M1 (kR M1 a0 0)))) fun M2 =>
    kg (kt M2 a1 2) <|
    kg (kt M2 a0 2) <|
    kg (kt M2 a0 2) <|
    kg (kt M2 (kR M2 a0 1) 13) <|
    kg (kcpOk M2 (kR M2 a1 1) 0 (kR M2 a0 1) 0 (Int32.ofNat (kn M2 (kR M2 a0 1)))) <| kl (kcp M2 (kR M2 a1 1) 0 (kR M2 a0 1) 0 (Int32.ofNat (kn M2 (kR M2 a0 1)))) fun M3 =>
    kg (kt M3 a1 2) <|
    kg (kt M3 a0 2) <|
    kg (kt M3 a0 2) <|
    kg (kt M3 (kR M3 a0 2) 13) <|
    kg (kcpOk M3 (kR M3 a1 2) 0 (kR M3 a0 2) 0 (Int32.ofNat (kn M3 (kR M3 a0 2)))) <| kl (kcp M3 (kR M3 a1 2) 0 (kR M3 a0 2) 0 (Int32.ofNat (kn M3 (kR M3 a0 2)))) fun M4 =>
    some M4
set_option maxRecDepth 100000 in
set_option maxHeartbeats 4000000 in
theorem k_X2_copyFrom (l : Launch) (g : kG) (N : Nat) (M : kMem) (a0 : Nat) (a1 : Nat) : kMet l g yX2_copyFrom cX2_copyFrom 2 none 1 0 0 [.ref a0, .ref a1] M (fun r : kMem => (none, r)) (F_X2_copyFrom N M a0 a1) := by
  refine k_of (lv := [(0, .ref a0), (1, .ref a1)]) RX2 (by decide) rfl rfl (Nat.le_of_ble_eq_true rfl) ?_
  intro p e s m args below meth c hX hr _
  unfold F_X2_copyFrom
  refine g_aload_n 1 0 hX dX2_copyFrom_0 rfl rfl ?_
  refine g_aload_n 2 1 hX dX2_copyFrom_1 rfl rfl ?_
  refine r_X2_21 5 hX dX2_copyFrom_2 rfl ?_
  refine p_X2_21 8 hX dX2_copyFrom_5 rfl ?_
  refine g_klM (fun M1 hM1 => ?_)
  refine g_aload_n 9 1 hX dX2_copyFrom_8 rfl rfl ?_
  refine r_X2_9 12 hX dX2_copyFrom_9 rfl ?_
  refine g_iconst 13 hX 0 dX2_copyFrom_12 rfl kc_i_0 ?_
  refine g_aload_n 14 0 hX dX2_copyFrom_13 rfl rfl ?_
  refine r_X2_9 17 hX dX2_copyFrom_14 rfl ?_
  refine g_iconst 18 hX 0 dX2_copyFrom_17 rfl kc_i_0 ?_
  refine g_aload_n 19 0 hX dX2_copyFrom_18 rfl rfl ?_
  refine r_X2_9 22 hX dX2_copyFrom_19 rfl ?_
  refine g_alen13 23 hX dX2_copyFrom_22 rfl ?_
  refine g_copy 26 hX q_764 dX2_copyFrom_23 rfl (Nat.le_of_ble_eq_true rfl) (by decide) ?_
  refine g_klM (fun M2 hM2 => ?_)
  refine g_aload_n 27 1 hX dX2_copyFrom_26 rfl rfl ?_
  refine r_X2_15 30 hX dX2_copyFrom_27 rfl ?_
  refine g_iconst 31 hX 0 dX2_copyFrom_30 rfl kc_i_0 ?_
  refine g_aload_n 32 0 hX dX2_copyFrom_31 rfl rfl ?_
  refine r_X2_15 35 hX dX2_copyFrom_32 rfl ?_
  refine g_iconst 36 hX 0 dX2_copyFrom_35 rfl kc_i_0 ?_
  refine g_aload_n 37 0 hX dX2_copyFrom_36 rfl rfl ?_
  refine r_X2_15 40 hX dX2_copyFrom_37 rfl ?_
  refine g_alen13 41 hX dX2_copyFrom_40 rfl ?_
  refine g_copy 44 hX q_764 dX2_copyFrom_41 rfl (Nat.le_of_ble_eq_true rfl) (by decide) ?_
  refine g_klM (fun M3 hM3 => ?_)
  refine g_aload_n 45 1 hX dX2_copyFrom_44 rfl rfl ?_
  refine r_X2_18 48 hX dX2_copyFrom_45 rfl ?_
  refine g_iconst 49 hX 0 dX2_copyFrom_48 rfl kc_i_0 ?_
  refine g_aload_n 50 0 hX dX2_copyFrom_49 rfl rfl ?_
  refine r_X2_18 53 hX dX2_copyFrom_50 rfl ?_
  refine g_iconst 54 hX 0 dX2_copyFrom_53 rfl kc_i_0 ?_
  refine g_aload_n 55 0 hX dX2_copyFrom_54 rfl rfl ?_
  refine r_X2_18 58 hX dX2_copyFrom_55 rfl ?_
  refine g_alen13 59 hX dX2_copyFrom_58 rfl ?_
  refine g_copy 62 hX q_764 dX2_copyFrom_59 rfl (Nat.le_of_ble_eq_true rfl) (by decide) ?_
  refine g_klM (fun M4 hM4 => ?_)
  exact g_vret hX hr rfl (Nat.le_refl 0) (Nat.le_refl 0) dX2_copyFrom_62
def F_X10_isSeated (N : Nat) (M : kMem) (a0 : Nat) : Option (Int32) :=
    kg (kt M a0 10) <|
    if (kI M a0 6) = (-1) then (
      some 0) else
    some 1
set_option maxRecDepth 100000 in
set_option maxHeartbeats 4000000 in
theorem k_X10_isSeated (l : Launch) (g : kG) (N : Nat) (M : kMem) (a0 : Nat) : kMet l g yX10_isSeated cX10_isSeated 1 (some .boolean) 1 0 0 [.ref a0] M (fun r : Int32 => (some (.int r), M)) (F_X10_isSeated N M a0) := by
  refine k_of (lv := [(0, .ref a0)]) RX10 (by decide) rfl rfl (Nat.le_of_ble_eq_true rfl) ?_
  intro p e s m args below meth c hX hr _
  unfold F_X10_isSeated
  refine g_aload_n 1 0 hX dX10_isSeated_0 rfl rfl ?_
  refine r_X10_22 4 hX dX10_isSeated_1 rfl ?_
  refine g_iconst 5 hX (-1) dX10_isSeated_4 rfl kc_i_m1 ?_
  refine g_icmp_eq 12 8 hX dX10_isSeated_5 (by decide) rfl (fun _ => ?_) (fun _ => ?_)
  · refine g_iconst 13 hX 0 dX10_isSeated_12 rfl kc_i_0 ?_
    exact g_zretL hX hr rfl rfl (Nat.le_refl 0) (Nat.le_refl 0) dX10_isSeated_13
  · refine g_iconst 9 hX 1 dX10_isSeated_8 rfl kc_i_1 ?_
    refine g_goto 13 hX dX10_isSeated_9 (by decide) ?_
    exact g_zretL hX hr rfl rfl (Nat.le_refl 0) (Nat.le_refl 0) dX10_isSeated_13
def F_X5_copyFrom (N : Nat) (M : kMem) (a0 : Nat) (a1 : Nat) : Option (kMem) :=
    kg (kt M a1 5) <|
    kg (kt M a0 5) <| kl (ksI M a0 1 (kI M a1 1)) fun M1 =>
    kg (kt M1 a1 5) <|
    kg (kt M1 a0 5) <|
    kg (kt M1 a0 5) <|
    kg (kt M1 (kR M1 a0 0) 13) <|
    kg (kcpOk M1 (kR M1 a1 0) 0 (kR M1 a0 0) 0 (Int32.ofNat (kn M1 (kR M1 a0 0)))) <| kl (kcp M1 (kR M1 a1 0) 0 (kR M1 a0 0) 0 (Int32.ofNat (kn M1 (kR M1 a0 0)))) fun M2 =>
    some M2
set_option maxRecDepth 100000 in
set_option maxHeartbeats 4000000 in
theorem k_X5_copyFrom (l : Launch) (g : kG) (N : Nat) (M : kMem) (a0 : Nat) (a1 : Nat) : kMet l g yX5_copyFrom cX5_copyFrom 2 none 1 0 0 [.ref a0, .ref a1] M (fun r : kMem => (none, r)) (F_X5_copyFrom N M a0 a1) := by
  refine k_of (lv := [(0, .ref a0), (1, .ref a1)]) RX5 (by decide) rfl rfl (Nat.le_of_ble_eq_true rfl) ?_
  intro p e s m args below meth c hX hr _
  unfold F_X5_copyFrom
  refine g_aload_n 1 0 hX dX5_copyFrom_0 rfl rfl ?_
  refine g_aload_n 2 1 hX dX5_copyFrom_1 rfl rfl ?_
  refine r_X5_15 5 hX dX5_copyFrom_2 rfl ?_
  refine p_X5_15 8 hX dX5_copyFrom_5 rfl ?_
  refine g_klM (fun M1 hM1 => ?_)
  refine g_aload_n 9 1 hX dX5_copyFrom_8 rfl rfl ?_
  refine r_X5_9 12 hX dX5_copyFrom_9 rfl ?_
  refine g_iconst 13 hX 0 dX5_copyFrom_12 rfl kc_i_0 ?_
  refine g_aload_n 14 0 hX dX5_copyFrom_13 rfl rfl ?_
  refine r_X5_9 17 hX dX5_copyFrom_14 rfl ?_
  refine g_iconst 18 hX 0 dX5_copyFrom_17 rfl kc_i_0 ?_
  refine g_aload_n 19 0 hX dX5_copyFrom_18 rfl rfl ?_
  refine r_X5_9 22 hX dX5_copyFrom_19 rfl ?_
  refine g_alen13 23 hX dX5_copyFrom_22 rfl ?_
  refine g_copy 26 hX q_699 dX5_copyFrom_23 rfl (Nat.le_of_ble_eq_true rfl) (by decide) ?_
  refine g_klM (fun M2 hM2 => ?_)
  exact g_vret hX hr rfl (Nat.le_refl 0) (Nat.le_refl 0) dX5_copyFrom_26
def F_X10_copyFrom (N : Nat) (M : kMem) (a0 : Nat) (a1 : Nat) : Option (kMem) :=
    kg (kt M a0 10) <|
    kg (kt M a1 10) <|
    kg (kt M (kR M a0 1) 5) <| (F_X5_copyFrom N M (kR M a0 1) (kR M a1 1)).bind fun M1 =>
    kg (kt M1 a1 10) <|
    kg (kt M1 a0 10) <| kl (ksI M1 a0 2 (kI M1 a1 2)) fun M2 =>
    kg (kt M2 a1 10) <|
    kg (kt M2 a0 10) <| kl (ksI M2 a0 3 (kI M2 a1 3)) fun M3 =>
    kg (kt M3 a1 10) <|
    kg (kt M3 a0 10) <| kl (ksI M3 a0 4 (kI M3 a1 4)) fun M4 =>
    kg (kt M4 a1 10) <|
    kg (kt M4 a0 10 && ((kI M4 a1 5) == 0 || (kI M4 a1 5) == 1)) <| kl (ksI M4 a0 5 (kI M4 a1 5)) fun M5 =>
    kg (kt M5 a1 10) <|
    kg (kt M5 a0 10) <| kl (ksI M5 a0 6 (kI M5 a1 6)) fun M6 =>
    kg (kt M6 a1 10) <|
    kg (kt M6 a0 10) <| kl (ksI M6 a0 7 (kI M6 a1 7)) fun M7 =>
    some M7
set_option maxRecDepth 100000 in
set_option maxHeartbeats 4000000 in
theorem k_X10_copyFrom (l : Launch) (g : kG) (N : Nat) (M : kMem) (a0 : Nat) (a1 : Nat) : kMet l g yX10_copyFrom cX10_copyFrom 2 none 2 0 0 [.ref a0, .ref a1] M (fun r : kMem => (none, r)) (F_X10_copyFrom N M a0 a1) := by
  refine k_of (lv := [(0, .ref a0), (1, .ref a1)]) RX10 (by decide) rfl rfl (Nat.le_of_ble_eq_true rfl) ?_
  intro p e s m args below meth c hX hr _
  unfold F_X10_copyFrom
  refine g_aload_n 1 0 hX dX10_copyFrom_0 rfl rfl ?_
  refine r_X10_12 4 hX dX10_copyFrom_1 rfl ?_
  refine g_aload_n 5 1 hX dX10_copyFrom_4 rfl rfl ?_
  refine r_X10_12 8 hX dX10_copyFrom_5 rfl ?_
  refine g_callV_v 11 hX (k_X5_copyFrom l g N M (kR M a0 1) (kR M a1 1)) lk_X5_copyFrom rfl (ci := 5) rfl (Nat.le_of_ble_eq_true rfl) q_759 q_697 (by omega) rfl (Nat.le_of_ble_eq_true rfl) (Nat.zero_le _) (Nat.zero_le _) dX10_copyFrom_8 rfl (fun M1 => ?_)
  refine g_aload_n 12 0 hX dX10_copyFrom_11 rfl rfl ?_
  refine g_aload_n 13 1 hX dX10_copyFrom_12 rfl rfl ?_
  refine r_X10_29 16 hX dX10_copyFrom_13 rfl ?_
  refine p_X10_29 19 hX dX10_copyFrom_16 rfl ?_
  refine g_klM (fun M2 hM2 => ?_)
  refine g_aload_n 20 0 hX dX10_copyFrom_19 rfl rfl ?_
  refine g_aload_n 21 1 hX dX10_copyFrom_20 rfl rfl ?_
  refine r_X10_32 24 hX dX10_copyFrom_21 rfl ?_
  refine p_X10_32 27 hX dX10_copyFrom_24 rfl ?_
  refine g_klM (fun M3 hM3 => ?_)
  refine g_aload_n 28 0 hX dX10_copyFrom_27 rfl rfl ?_
  refine g_aload_n 29 1 hX dX10_copyFrom_28 rfl rfl ?_
  refine r_X10_35 32 hX dX10_copyFrom_29 rfl ?_
  refine p_X10_35 35 hX dX10_copyFrom_32 rfl ?_
  refine g_klM (fun M4 hM4 => ?_)
  refine g_aload_n 36 0 hX dX10_copyFrom_35 rfl rfl ?_
  refine g_aload_n 37 1 hX dX10_copyFrom_36 rfl rfl ?_
  refine r_X10_38 40 hX dX10_copyFrom_37 rfl ?_
  refine p_X10_38 43 hX dX10_copyFrom_40 rfl ?_
  refine g_klM (fun M5 hM5 => ?_)
  refine g_aload_n 44 0 hX dX10_copyFrom_43 rfl rfl ?_
  refine g_aload_n 45 1 hX dX10_copyFrom_44 rfl rfl ?_
  refine r_X10_22 48 hX dX10_copyFrom_45 rfl ?_
  refine p_X10_22 51 hX dX10_copyFrom_48 rfl ?_
  refine g_klM (fun M6 hM6 => ?_)
  refine g_aload_n 52 0 hX dX10_copyFrom_51 rfl rfl ?_
  refine g_aload_n 53 1 hX dX10_copyFrom_52 rfl rfl ?_
  refine r_X10_42 56 hX dX10_copyFrom_53 rfl ?_
  refine p_X10_42 59 hX dX10_copyFrom_56 rfl ?_
  refine g_klM (fun M7 hM7 => ?_)
  exact g_vret hX hr rfl (Nat.le_refl 0) (Nat.le_refl 0) dX10_copyFrom_59
def F_X8_byteAt (N : Nat) (M : kMem) (a0 : Nat) (x1 : Int32) : Option (Int32) :=
    if x1 < 0 then (
      some (-1)) else
    kg (kt M a0 8) <|
    if x1 < (kI M a0 1) then (
      kg (kt M a0 8) <|
      kg (kt M (kR M a0 0) 13) <|
      if x1 < (Int32.ofNat (kn M (kR M a0 0))) then (
        kg (kt M a0 8) <|
        kg (kin M (kR M a0 0) 13 x1) <|
        some (kI M (kR M a0 0) (kx x1))) else
      some (-1)) else
    some (-1)
set_option maxRecDepth 100000 in
set_option maxHeartbeats 4000000 in
theorem k_X8_byteAt (l : Launch) (g : kG) (N : Nat) (M : kMem) (a0 : Nat) (x1 : Int32) : kMet l g yX8_byteAt cX8_byteAt 2 (some .int) 1 0 0 [.ref a0, .int x1] M (fun r : Int32 => (some (.int r), M)) (F_X8_byteAt N M a0 x1) := by
  refine k_of (lv := [(0, .ref a0), (1, .int x1)]) RX8 (by decide) rfl rfl (Nat.le_of_ble_eq_true rfl) ?_
  intro p e s m args below meth c hX hr _
  unfold F_X8_byteAt
  refine g_iload_n 1 1 hX dX8_byteAt_0 rfl rfl ?_
  refine g_if_lt 30 4 hX dX8_byteAt_1 (by decide) rfl (fun _ => ?_) (fun _ => ?_)
  · refine g_iconst 31 hX (-1) dX8_byteAt_30 rfl kc_i_m1 ?_
    exact g_iret hX hr rfl (Nat.le_refl 0) (Nat.le_refl 0) dX8_byteAt_31
  · refine g_iload_n 5 1 hX dX8_byteAt_4 rfl rfl ?_
    refine g_aload_n 6 0 hX dX8_byteAt_5 rfl rfl ?_
    refine r_X8_15 9 hX dX8_byteAt_6 rfl ?_
    refine g_icmp_ge 30 12 hX dX8_byteAt_9 (by decide) rfl (fun _ => ?_) (fun _ => ?_)
    · refine g_iconst 31 hX (-1) dX8_byteAt_30 rfl kc_i_m1 ?_
      exact g_iret hX hr rfl (Nat.le_refl 0) (Nat.le_refl 0) dX8_byteAt_31
    · refine g_iload_n 13 1 hX dX8_byteAt_12 rfl rfl ?_
      refine g_aload_n 14 0 hX dX8_byteAt_13 rfl rfl ?_
      refine r_X8_9 17 hX dX8_byteAt_14 rfl ?_
      refine g_alen13 18 hX dX8_byteAt_17 rfl ?_
      refine g_icmp_ge 30 21 hX dX8_byteAt_18 (by decide) rfl (fun _ => ?_) (fun _ => ?_)
      · refine g_iconst 31 hX (-1) dX8_byteAt_30 rfl kc_i_m1 ?_
        exact g_iret hX hr rfl (Nat.le_refl 0) (Nat.le_refl 0) dX8_byteAt_31
      · refine g_aload_n 22 0 hX dX8_byteAt_21 rfl rfl ?_
        refine r_X8_9 25 hX dX8_byteAt_22 rfl ?_
        refine g_iload_n 26 1 hX dX8_byteAt_25 rfl rfl ?_
        refine g_iald 27 hX dX8_byteAt_26 rfl ?_
        refine g_goto 31 hX dX8_byteAt_27 (by decide) ?_
        exact g_iret hX hr rfl (Nat.le_refl 0) (Nat.le_refl 0) dX8_byteAt_31
def F_X8_add (N : Nat) (M : kMem) (a0 : Nat) (x1 : Int32) : Option (kMem) :=
    kg (kt M a0 8) <|
    if (kI M a0 1) < 0 then (
      some M) else
    kg (kt M a0 8) <|
    kg (kt M a0 8) <|
    kg (kt M (kR M a0 0) 13) <|
    if (kI M a0 1) < (Int32.ofNat (kn M (kR M a0 0))) then (
      kg (kt M a0 8) <|
      kg (kt M a0 8) <|
      kg (kin M (kR M a0 0) 13 (kI M a0 1)) <| kl (ksI M (kR M a0 0) (kx (kI M a0 1)) x1) fun M1 =>
      kg (kt M1 a0 8) <|
      kg (kt M1 a0 8) <| kl (ksI M1 a0 1 ((kI M1 a0 1) + 1)) fun M2 =>
      some M2) else
    some M
set_option maxRecDepth 100000 in
set_option maxHeartbeats 4000000 in
theorem k_X8_add (l : Launch) (g : kG) (N : Nat) (M : kMem) (a0 : Nat) (x1 : Int32) : kMet l g yX8_add cX8_add 2 none 1 0 0 [.ref a0, .int x1] M (fun r : kMem => (none, r)) (F_X8_add N M a0 x1) := by
  refine k_of (lv := [(0, .ref a0), (1, .int x1)]) RX8 (by decide) rfl rfl (Nat.le_of_ble_eq_true rfl) ?_
  intro p e s m args below meth c hX hr _
  unfold F_X8_add
  refine g_aload_n 1 0 hX dX8_add_0 rfl rfl ?_
  refine r_X8_15 4 hX dX8_add_1 rfl ?_
  refine g_if_lt 39 7 hX dX8_add_4 (by decide) rfl (fun _ => ?_) (fun _ => ?_)
  · exact g_vret hX hr rfl (Nat.le_refl 0) (Nat.le_refl 0) dX8_add_39
  · refine g_aload_n 8 0 hX dX8_add_7 rfl rfl ?_
    refine r_X8_15 11 hX dX8_add_8 rfl ?_
    refine g_aload_n 12 0 hX dX8_add_11 rfl rfl ?_
    refine r_X8_9 15 hX dX8_add_12 rfl ?_
    refine g_alen13 16 hX dX8_add_15 rfl ?_
    refine g_icmp_ge 39 19 hX dX8_add_16 (by decide) rfl (fun _ => ?_) (fun _ => ?_)
    · exact g_vret hX hr rfl (Nat.le_refl 0) (Nat.le_refl 0) dX8_add_39
    · refine g_aload_n 20 0 hX dX8_add_19 rfl rfl ?_
      refine r_X8_9 23 hX dX8_add_20 rfl ?_
      refine g_aload_n 24 0 hX dX8_add_23 rfl rfl ?_
      refine r_X8_15 27 hX dX8_add_24 rfl ?_
      refine g_iload_n 28 1 hX dX8_add_27 rfl rfl ?_
      refine g_iast 29 hX dX8_add_28 rfl ?_
      refine g_klM (fun M1 hM1 => ?_)
      refine g_aload_n 30 0 hX dX8_add_29 rfl rfl ?_
      refine g_dup 31 hX dX8_add_30 rfl rfl ?_
      refine r_X8_15 34 hX dX8_add_31 rfl ?_
      refine g_iconst 35 hX 1 dX8_add_34 rfl kc_i_1 ?_
      refine g_iadd 36 hX dX8_add_35 rfl ?_
      refine p_X8_15 39 hX dX8_add_36 rfl ?_
      refine g_klM (fun M2 hM2 => ?_)
      exact g_vret hX hr rfl (Nat.le_refl 0) (Nat.le_refl 0) dX8_add_39
def F_X8_addBytesOf_3 (N : Nat) : Nat → kMem → Nat → Int32 → Int32 → Option (kMem)
  | 0, _, _, _, _ => none
  | n + 1, M, a0, x1, x2 =>
    if x2 < 0 then (
      some M) else
    kl (((x1.toUInt32 >>> (x2.toUInt32 &&& Int32.toUInt32 31)).toInt32) &&& 255) fun v1 =>
    if v1 = 0 then (
      kl (x2 + (-8)) fun v2 =>
      F_X8_addBytesOf_3 N n M a0 x1 v2) else
    kg (kt M a0 8) <| (F_X8_add N M a0 v1).bind fun M3 =>
    kl (x2 + (-8)) fun v4 =>
    F_X8_addBytesOf_3 N n M3 a0 x1 v4
def F_X8_addBytesOf (N : Nat) (M : kMem) (a0 : Nat) (x1 : Int32) : Option (kMem) :=
    F_X8_addBytesOf_3 N N M a0 x1 24
set_option maxRecDepth 100000 in
set_option maxHeartbeats 4000000 in
theorem k_X8_addBytesOf_3 {p : Program} {l : Launch} {e : Env} {s : State} {m : MethodId} {args : Array Value} {below : List Frame} {meth : Method} {c : Code} {g : kG} (hX : Cok (p, l, e, { frames := 2 * 2, cells := 0, slots := 0, locals := 60 * 2 }, s, m, args, below, meth, c, cX8_addBytesOf, 4, RX8, g, 2)) (hr : meth.sig.returnType = none) (N : Nat) : ∀ (n : Nat) (M : kMem) (a0 : Nat) (x1 : Int32) (x2 : Int32), GG (p, l, e, { frames := 2 * 2, cells := 0, slots := 0, locals := 60 * 2 }, s, m, args, below, meth, c, cX8_addBytesOf, 4, RX8, g, 2) (fun b => MQ below (kQ g ((fun r : kMem => (none, r)) b)) args s 0 0 (kZ g.2.2.1)) 0 0 (F_X8_addBytesOf_3 N n M a0 x1 x2) 3 [(0, .ref a0), (1, .int x1), (2, .int x2)] [] M := by
  intro n
  induction n with
  | zero => intro _ _ _ _; exact g_none
  | succ n ih =>
    intro M a0 x1 x2
    unfold F_X8_addBytesOf_3
    refine g_iload_n 4 2 hX dX8_addBytesOf_3 rfl rfl ?_
    refine g_if_lt 30 7 hX dX8_addBytesOf_4 (by decide) rfl (fun _ => ?_) (fun _ => ?_)
    · exact g_vret hX hr rfl (Nat.le_refl 0) (Nat.le_refl 0) dX8_addBytesOf_30
    · refine g_iload_n 8 1 hX dX8_addBytesOf_7 rfl rfl ?_
      refine g_iload_n 9 2 hX dX8_addBytesOf_8 rfl rfl ?_
      refine g_iushr 10 hX ((x1.toUInt32 >>> (x2.toUInt32 &&& Int32.toUInt32 31)).toInt32) dX8_addBytesOf_9 rfl rfl ?_
      refine g_sipush 13 hX 255 dX8_addBytesOf_10 rfl kc_s_255 ?_
      refine g_iand 14 hX dX8_addBytesOf_13 rfl ?_
      refine g_klI (fun v1 hv1 => ?_)
      refine g_istore_n 15 3 [(3, .int v1), (0, .ref a0), (1, .int x1), (2, .int x2)] hX dX8_addBytesOf_14 rfl rfl (Nat.le_of_ble_eq_true rfl) rfl ?_
      refine g_iload_n 16 0 hX dX8_addBytesOf_15 rfl rfl ?_
      refine g_if_eq 24 19 hX dX8_addBytesOf_16 (by decide) rfl (fun _ => ?_) (fun _ => ?_)
      · refine g_kl (fun v2 hv2 => ?_)
        refine g_iinc 27 2 3 v2 [(2, .int v2), (3, .int v1), (0, .ref a0), (1, .int x1)] hX dX8_addBytesOf_24 rfl rfl (by rw [hv2, kc_i_m8]) (Nat.le_of_ble_eq_true rfl) rfl ?_
        refine g_goto 3 hX dX8_addBytesOf_27 (by decide) ?_
        refine g_lv [2, 3, 0] rfl ?_
        exact ih M a0 x1 v2
      · refine g_aload_n 20 1 hX dX8_addBytesOf_19 rfl rfl ?_
        refine g_iload_n 21 0 hX dX8_addBytesOf_20 rfl rfl ?_
        refine g_callV_v 24 hX (k_X8_add l g N M a0 v1) lk_X8_add rfl (ci := 8) rfl (Nat.le_of_ble_eq_true rfl) q_544 q_546 (by omega) rfl (Nat.le_of_ble_eq_true rfl) (Nat.zero_le _) (Nat.zero_le _) dX8_addBytesOf_21 rfl (fun M3 => ?_)
        refine g_kl (fun v4 hv4 => ?_)
        refine g_iinc 27 2 3 v4 [(2, .int v4), (3, .int v1), (0, .ref a0), (1, .int x1)] hX dX8_addBytesOf_24 rfl rfl (by rw [hv4, kc_i_m8]) (Nat.le_of_ble_eq_true rfl) rfl ?_
        refine g_goto 3 hX dX8_addBytesOf_27 (by decide) ?_
        refine g_lv [2, 3, 0] rfl ?_
        exact ih M3 a0 x1 v4
set_option maxRecDepth 100000 in
set_option maxHeartbeats 4000000 in
theorem k_X8_addBytesOf (l : Launch) (g : kG) (N : Nat) (M : kMem) (a0 : Nat) (x1 : Int32) : kMet l g yX8_addBytesOf cX8_addBytesOf 4 none 2 0 0 [.ref a0, .int x1] M (fun r : kMem => (none, r)) (F_X8_addBytesOf N M a0 x1) := by
  refine k_of (lv := [(0, .ref a0), (1, .int x1)]) RX8 (by decide) rfl rfl (Nat.le_of_ble_eq_true rfl) ?_
  intro p e s m args below meth c hX hr _
  unfold F_X8_addBytesOf
  refine g_bipush 2 hX 24 dX8_addBytesOf_0 rfl kc_b_24 ?_
  refine g_istore_n 3 2 [(2, .int 24), (0, .ref a0), (1, .int x1)] hX dX8_addBytesOf_2 rfl rfl (Nat.le_of_ble_eq_true rfl) rfl ?_
  refine g_lv [1, 2, 0] rfl ?_
  exact k_X8_addBytesOf_3 hX hr N N M a0 x1 24
def F_X5_letterAt (N : Nat) (M : kMem) (a0 : Nat) (x1 : Int32) : Option (Int32) :=
    if x1 < 0 then (
      some (-1)) else
    kg (kt M a0 5) <|
    if x1 < (kI M a0 1) then (
      kg (kt M a0 5) <|
      kg (kt M (kR M a0 0) 13) <|
      if x1 < (Int32.ofNat (kn M (kR M a0 0))) then (
        kg (kt M a0 5) <|
        kg (kin M (kR M a0 0) 13 x1) <|
        some (kI M (kR M a0 0) (kx x1))) else
      some (-1)) else
    some (-1)
set_option maxRecDepth 100000 in
set_option maxHeartbeats 4000000 in
theorem k_X5_letterAt (l : Launch) (g : kG) (N : Nat) (M : kMem) (a0 : Nat) (x1 : Int32) : kMet l g yX5_letterAt cX5_letterAt 2 (some .int) 1 0 0 [.ref a0, .int x1] M (fun r : Int32 => (some (.int r), M)) (F_X5_letterAt N M a0 x1) := by
  refine k_of (lv := [(0, .ref a0), (1, .int x1)]) RX5 (by decide) rfl rfl (Nat.le_of_ble_eq_true rfl) ?_
  intro p e s m args below meth c hX hr _
  unfold F_X5_letterAt
  refine g_iload_n 1 1 hX dX5_letterAt_0 rfl rfl ?_
  refine g_if_lt 30 4 hX dX5_letterAt_1 (by decide) rfl (fun _ => ?_) (fun _ => ?_)
  · refine g_iconst 31 hX (-1) dX5_letterAt_30 rfl kc_i_m1 ?_
    exact g_iret hX hr rfl (Nat.le_refl 0) (Nat.le_refl 0) dX5_letterAt_31
  · refine g_iload_n 5 1 hX dX5_letterAt_4 rfl rfl ?_
    refine g_aload_n 6 0 hX dX5_letterAt_5 rfl rfl ?_
    refine r_X5_15 9 hX dX5_letterAt_6 rfl ?_
    refine g_icmp_ge 30 12 hX dX5_letterAt_9 (by decide) rfl (fun _ => ?_) (fun _ => ?_)
    · refine g_iconst 31 hX (-1) dX5_letterAt_30 rfl kc_i_m1 ?_
      exact g_iret hX hr rfl (Nat.le_refl 0) (Nat.le_refl 0) dX5_letterAt_31
    · refine g_iload_n 13 1 hX dX5_letterAt_12 rfl rfl ?_
      refine g_aload_n 14 0 hX dX5_letterAt_13 rfl rfl ?_
      refine r_X5_9 17 hX dX5_letterAt_14 rfl ?_
      refine g_alen13 18 hX dX5_letterAt_17 rfl ?_
      refine g_icmp_ge 30 21 hX dX5_letterAt_18 (by decide) rfl (fun _ => ?_) (fun _ => ?_)
      · refine g_iconst 31 hX (-1) dX5_letterAt_30 rfl kc_i_m1 ?_
        exact g_iret hX hr rfl (Nat.le_refl 0) (Nat.le_refl 0) dX5_letterAt_31
      · refine g_aload_n 22 0 hX dX5_letterAt_21 rfl rfl ?_
        refine r_X5_9 25 hX dX5_letterAt_22 rfl ?_
        refine g_iload_n 26 1 hX dX5_letterAt_25 rfl rfl ?_
        refine g_iald 27 hX dX5_letterAt_26 rfl ?_
        refine g_goto 31 hX dX5_letterAt_27 (by decide) ?_
        exact g_iret hX hr rfl (Nat.le_refl 0) (Nat.le_refl 0) dX5_letterAt_31
def F_X8_addName_2 (N : Nat) : Nat → kMem → Nat → Nat → Int32 → Option (kMem)
  | 0, _, _, _, _ => none
  | n + 1, M, a0, a1, x2 =>
    kg (kt M a1 5) <|
    if x2 < (kI M a1 1) then (
      kg (kt M a1 5) <| (F_X5_letterAt N M a1 x2).bind fun r1 =>
      kg (kt M a0 8) <| (F_X8_add N M a0 r1).bind fun M2 =>
      kl (x2 + 1) fun v3 =>
      F_X8_addName_2 N n M2 a0 a1 v3) else
    some M
def F_X8_addName (N : Nat) (M : kMem) (a0 : Nat) (a1 : Nat) : Option (kMem) :=
    F_X8_addName_2 N N M a0 a1 0
set_option maxRecDepth 100000 in
set_option maxHeartbeats 4000000 in
theorem k_X8_addName_2 {p : Program} {l : Launch} {e : Env} {s : State} {m : MethodId} {args : Array Value} {below : List Frame} {meth : Method} {c : Code} {g : kG} (hX : Cok (p, l, e, { frames := 2 * 2, cells := 0, slots := 0, locals := 60 * 2 }, s, m, args, below, meth, c, cX8_addName, 3, RX8, g, 2)) (hr : meth.sig.returnType = none) (N : Nat) : ∀ (n : Nat) (M : kMem) (a0 : Nat) (a1 : Nat) (x2 : Int32), GG (p, l, e, { frames := 2 * 2, cells := 0, slots := 0, locals := 60 * 2 }, s, m, args, below, meth, c, cX8_addName, 3, RX8, g, 2) (fun b => MQ below (kQ g ((fun r : kMem => (none, r)) b)) args s 0 0 (kZ g.2.2.1)) 0 0 (F_X8_addName_2 N n M a0 a1 x2) 2 [(0, .ref a0), (1, .ref a1), (2, .int x2)] [] M := by
  intro n
  induction n with
  | zero => intro _ _ _ _; exact g_none
  | succ n ih =>
    intro M a0 a1 x2
    unfold F_X8_addName_2
    refine g_iload_n 3 2 hX dX8_addName_2 rfl rfl ?_
    refine g_aload_n 4 1 hX dX8_addName_3 rfl rfl ?_
    refine r_X8_32 7 hX dX8_addName_4 rfl ?_
    refine g_icmp_ge 25 10 hX dX8_addName_7 (by decide) rfl (fun _ => ?_) (fun _ => ?_)
    · exact g_vret hX hr rfl (Nat.le_refl 0) (Nat.le_refl 0) dX8_addName_25
    · refine g_aload_n 11 0 hX dX8_addName_10 rfl rfl ?_
      refine g_aload_n 12 1 hX dX8_addName_11 rfl rfl ?_
      refine g_iload_n 13 2 hX dX8_addName_12 rfl rfl ?_
      refine g_callV_ip 16 hX (k_X5_letterAt l g N M a1 x2) lk_X5_letterAt rfl (ci := 5) rfl (Nat.le_of_ble_eq_true rfl) q_1625 q_685 (by omega) rfl (Nat.le_of_ble_eq_true rfl) (Nat.zero_le _) (Nat.zero_le _) dX8_addName_13 rfl (fun r1 => ?_)
      refine g_callV_v 19 hX (k_X8_add l g N M a0 r1) lk_X8_add rfl (ci := 8) rfl (Nat.le_of_ble_eq_true rfl) q_544 q_546 (by omega) rfl (Nat.le_of_ble_eq_true rfl) (Nat.zero_le _) (Nat.zero_le _) dX8_addName_16 rfl (fun M2 => ?_)
      refine g_kl (fun v3 hv3 => ?_)
      refine g_iinc 22 2 2 v3 [(2, .int v3), (0, .ref a0), (1, .ref a1)] hX dX8_addName_19 rfl rfl (by rw [hv3, kc_i_1]) (Nat.le_of_ble_eq_true rfl) rfl ?_
      refine g_goto 2 hX dX8_addName_22 (by decide) ?_
      refine g_lv [1, 2, 0] rfl ?_
      exact ih M2 a0 a1 v3
set_option maxRecDepth 100000 in
set_option maxHeartbeats 4000000 in
theorem k_X8_addName (l : Launch) (g : kG) (N : Nat) (M : kMem) (a0 : Nat) (a1 : Nat) : kMet l g yX8_addName cX8_addName 3 none 2 0 0 [.ref a0, .ref a1] M (fun r : kMem => (none, r)) (F_X8_addName N M a0 a1) := by
  refine k_of (lv := [(0, .ref a0), (1, .ref a1)]) RX8 (by decide) rfl rfl (Nat.le_of_ble_eq_true rfl) ?_
  intro p e s m args below meth c hX hr _
  unfold F_X8_addName
  refine g_iconst 1 hX 0 dX8_addName_0 rfl kc_i_0 ?_
  refine g_istore_n 2 2 [(2, .int 0), (0, .ref a0), (1, .ref a1)] hX dX8_addName_1 rfl rfl (Nat.le_of_ble_eq_true rfl) rfl ?_
  refine g_lv [1, 2, 0] rfl ?_
  exact k_X8_addName_2 hX hr N N M a0 a1 0
def F_X11_isLetter (N : Nat) (M : kMem) (x0 : Int32) : Option (Int32) :=
    if x0 < 97 then (
      some 0) else
    if (122 : Int32) < x0 then (
      some 0) else
    some 1
set_option maxRecDepth 100000 in
set_option maxHeartbeats 4000000 in
theorem k_X11_isLetter (l : Launch) (g : kG) (N : Nat) (M : kMem) (x0 : Int32) : kMet l g yX11_isLetter cX11_isLetter 1 (some .boolean) 1 0 0 [.int x0] M (fun r : Int32 => (some (.int r), M)) (F_X11_isLetter N M x0) := by
  refine k_of (lv := [(0, .int x0)]) RX11 (by decide) rfl rfl (Nat.le_of_ble_eq_true rfl) ?_
  intro p e s m args below meth c hX hr _
  unfold F_X11_isLetter
  refine g_iload_n 1 0 hX dX11_isLetter_0 rfl rfl ?_
  refine g_bipush 3 hX 97 dX11_isLetter_1 rfl kc_b_97 ?_
  refine g_icmp_lt 16 6 hX dX11_isLetter_3 (by decide) rfl (fun _ => ?_) (fun _ => ?_)
  · refine g_iconst 17 hX 0 dX11_isLetter_16 rfl kc_i_0 ?_
    exact g_zretL hX hr rfl rfl (Nat.le_refl 0) (Nat.le_refl 0) dX11_isLetter_17
  · refine g_iload_n 7 0 hX dX11_isLetter_6 rfl rfl ?_
    refine g_bipush 9 hX 122 dX11_isLetter_7 rfl kc_b_122 ?_
    refine g_icmp_gt 16 12 hX dX11_isLetter_9 (by decide) rfl (fun _ => ?_) (fun _ => ?_)
    · refine g_iconst 17 hX 0 dX11_isLetter_16 rfl kc_i_0 ?_
      exact g_zretL hX hr rfl rfl (Nat.le_refl 0) (Nat.le_refl 0) dX11_isLetter_17
    · refine g_iconst 13 hX 1 dX11_isLetter_12 rfl kc_i_1 ?_
      refine g_goto 17 hX dX11_isLetter_13 (by decide) ?_
      exact g_zretL hX hr rfl rfl (Nat.le_refl 0) (Nat.le_refl 0) dX11_isLetter_17
def F_X5_read_28 (N : Nat) : Nat → kMem → Nat → Nat → Int32 → Int32 → Int32 → Option (Int32 × kMem)
  | 0, _, _, _, _, _, _ => none
  | n + 1, M, a0, a1, x2, x3, x4 =>
    if x4 < (x3 - x2) then (
      kg (kt M a1 8) <| (F_X8_byteAt N M a1 (x2 + x4)).bind fun r3 =>
      (F_X11_isLetter N M r3).bind fun r4 =>
      if r4 = 0 then (
        some (0, M)) else
      kg (kt M a0 5) <|
      kg (kin M (kR M a0 0) 13 x4) <| kl (ksI M (kR M a0 0) (kx x4) r3) fun M5 =>
      kl (x4 + 1) fun v6 =>
      F_X5_read_28 N n M5 a0 a1 x2 x3 v6) else
    kg (kt M a0 5) <| kl (ksI M a0 1 (x3 - x2)) fun M2 =>
    some (1, M2)
def F_X5_read (N : Nat) (M : kMem) (a0 : Nat) (a1 : Nat) (x2 : Int32) (x3 : Int32) : Option (Int32 × kMem) :=
    kg (kt M a0 5) <| kl (ksI M a0 1 0) fun M1 =>
    if (x3 - x2) < 1 then (
      some (0, M1)) else
    kg (kt M1 a0 5) <|
    kg (kt M1 (kR M1 a0 0) 13) <|
    if (Int32.ofNat (kn M1 (kR M1 a0 0))) < (x3 - x2) then (
      some (0, M1)) else
    F_X5_read_28 N N M1 a0 a1 x2 x3 0
set_option maxRecDepth 100000 in
set_option maxHeartbeats 4000000 in
theorem k_X5_read_28 {p : Program} {l : Launch} {e : Env} {s : State} {m : MethodId} {args : Array Value} {below : List Frame} {meth : Method} {c : Code} {g : kG} (hX : Cok (p, l, e, { frames := 2 * 2, cells := 0, slots := 0, locals := 60 * 2 }, s, m, args, below, meth, c, cX5_read, 6, RX5, g, 2)) (hr : meth.sig.returnType = (some .boolean)) (N : Nat) : ∀ (n : Nat) (M : kMem) (a0 : Nat) (a1 : Nat) (x2 : Int32) (x3 : Int32) (x4 : Int32), GG (p, l, e, { frames := 2 * 2, cells := 0, slots := 0, locals := 60 * 2 }, s, m, args, below, meth, c, cX5_read, 6, RX5, g, 2) (fun b => MQ below (kQ g ((fun r : Int32 × kMem => (some (.int r.1), r.2)) b)) args s 0 0 (kZ g.2.2.1)) 0 0 (F_X5_read_28 N n M a0 a1 x2 x3 x4) 28 [(0, .ref a0), (1, .ref a1), (2, .int x2), (3, .int x3), (4, .int x4)] [] M := by
  intro n
  induction n with
  | zero => intro _ _ _ _ _ _; exact g_none
  | succ n ih =>
    intro M a0 a1 x2 x3 x4
    unfold F_X5_read_28
    refine g_iload 30 4 hX dX5_read_28 rfl rfl ?_
    refine g_iload_n 31 3 hX dX5_read_30 rfl rfl ?_
    refine g_iload_n 32 2 hX dX5_read_31 rfl rfl ?_
    refine g_isub 33 hX dX5_read_32 rfl ?_
    refine g_icmp_ge 71 36 hX dX5_read_33 (by decide) rfl (fun _ => ?_) (fun _ => ?_)
    · refine g_aload_n 72 0 hX dX5_read_71 rfl rfl ?_
      refine g_iload_n 73 3 hX dX5_read_72 rfl rfl ?_
      refine g_iload_n 74 2 hX dX5_read_73 rfl rfl ?_
      refine g_isub 75 hX dX5_read_74 rfl ?_
      refine p_X5_15 78 hX dX5_read_75 rfl ?_
      refine g_klM (fun M2 hM2 => ?_)
      refine g_iconst 79 hX 1 dX5_read_78 rfl kc_i_1 ?_
      exact g_zretL hX hr rfl rfl (Nat.le_refl 0) (Nat.le_refl 0) dX5_read_79
    · refine g_aload_n 37 1 hX dX5_read_36 rfl rfl ?_
      refine g_iload_n 38 2 hX dX5_read_37 rfl rfl ?_
      refine g_iload 40 4 hX dX5_read_38 rfl rfl ?_
      refine g_iadd 41 hX dX5_read_40 rfl ?_
      refine g_callV_ip 44 hX (k_X8_byteAt l g N M a1 (x2 + x4)) lk_X8_byteAt rfl (ci := 8) rfl (Nat.le_of_ble_eq_true rfl) q_673 q_560 (by omega) rfl (Nat.le_of_ble_eq_true rfl) (Nat.zero_le _) (Nat.zero_le _) dX5_read_41 rfl (fun r3 => ?_)
      refine g_istore 46 5 [(5, .int r3), (0, .ref a0), (1, .ref a1), (2, .int x2), (3, .int x3), (4, .int x4)] hX dX5_read_44 rfl (Nat.le_of_ble_eq_true rfl) rfl ?_
      refine g_iload 48 0 hX dX5_read_46 rfl rfl ?_
      refine g_callN_ip 51 hX (k_X11_isLetter l g N M r3) lk_X11_isLetter q_674 (by omega) rfl (Nat.le_of_ble_eq_true rfl) (Nat.zero_le _) (Nat.zero_le _) dX5_read_48 rfl (fun r4 => ?_)
      refine g_if_ne 56 54 hX dX5_read_51 (by decide) rfl (fun _ => ?_) (fun _ => ?_)
      · refine g_aload_n 57 1 hX dX5_read_56 rfl rfl ?_
        refine r_X5_9 60 hX dX5_read_57 rfl ?_
        refine g_iload 62 5 hX dX5_read_60 rfl rfl ?_
        refine g_iload 64 0 hX dX5_read_62 rfl rfl ?_
        refine g_iast 65 hX dX5_read_64 rfl ?_
        refine g_klM (fun M5 hM5 => ?_)
        refine g_kl (fun v6 hv6 => ?_)
        refine g_iinc 68 4 5 v6 [(4, .int v6), (5, .int r3), (0, .ref a0), (1, .ref a1), (2, .int x2), (3, .int x3)] hX dX5_read_65 rfl rfl (by rw [hv6, kc_i_1]) (Nat.le_of_ble_eq_true rfl) rfl ?_
        refine g_goto 28 hX dX5_read_68 (by decide) ?_
        refine g_lv [2, 3, 4, 5, 0] rfl ?_
        exact ih M5 a0 a1 x2 x3 v6
      · refine g_iconst 55 hX 0 dX5_read_54 rfl kc_i_0 ?_
        exact g_zretL hX hr rfl rfl (Nat.le_refl 0) (Nat.le_refl 0) dX5_read_55
set_option maxRecDepth 100000 in
set_option maxHeartbeats 4000000 in
theorem k_X5_read (l : Launch) (g : kG) (N : Nat) (M : kMem) (a0 : Nat) (a1 : Nat) (x2 : Int32) (x3 : Int32) : kMet l g yX5_read cX5_read 6 (some .boolean) 2 0 0 [.ref a0, .ref a1, .int x2, .int x3] M (fun r : Int32 × kMem => (some (.int r.1), r.2)) (F_X5_read N M a0 a1 x2 x3) := by
  refine k_of (lv := [(0, .ref a0), (1, .ref a1), (2, .int x2), (3, .int x3)]) RX5 (by decide) rfl rfl (Nat.le_of_ble_eq_true rfl) ?_
  intro p e s m args below meth c hX hr _
  unfold F_X5_read
  refine g_aload_n 1 0 hX dX5_read_0 rfl rfl ?_
  refine g_iconst 2 hX 0 dX5_read_1 rfl kc_i_0 ?_
  refine p_X5_15 5 hX dX5_read_2 rfl ?_
  refine g_klM (fun M1 hM1 => ?_)
  refine g_iload_n 6 3 hX dX5_read_5 rfl rfl ?_
  refine g_iload_n 7 2 hX dX5_read_6 rfl rfl ?_
  refine g_isub 8 hX dX5_read_7 rfl ?_
  refine g_iconst 9 hX 1 dX5_read_8 rfl kc_i_1 ?_
  refine g_icmp_lt 23 12 hX dX5_read_9 (by decide) rfl (fun _ => ?_) (fun _ => ?_)
  · refine g_iconst 24 hX 0 dX5_read_23 rfl kc_i_0 ?_
    exact g_zretL hX hr rfl rfl (Nat.le_refl 0) (Nat.le_refl 0) dX5_read_24
  · refine g_iload_n 13 3 hX dX5_read_12 rfl rfl ?_
    refine g_iload_n 14 2 hX dX5_read_13 rfl rfl ?_
    refine g_isub 15 hX dX5_read_14 rfl ?_
    refine g_aload_n 16 0 hX dX5_read_15 rfl rfl ?_
    refine r_X5_9 19 hX dX5_read_16 rfl ?_
    refine g_alen13 20 hX dX5_read_19 rfl ?_
    refine g_icmp_le 25 23 hX dX5_read_20 (by decide) rfl (fun _ => ?_) (fun _ => ?_)
    · refine g_iconst 26 hX 0 dX5_read_25 rfl kc_i_0 ?_
      refine g_istore 28 4 [(4, .int 0), (0, .ref a0), (1, .ref a1), (2, .int x2), (3, .int x3)] hX dX5_read_26 rfl (Nat.le_of_ble_eq_true rfl) rfl ?_
      refine g_lv [1, 2, 3, 4, 0] rfl ?_
      exact k_X5_read_28 hX hr N N M1 a0 a1 x2 x3 0
    · refine g_iconst 24 hX 0 dX5_read_23 rfl kc_i_0 ?_
      exact g_zretL hX hr rfl rfl (Nat.le_refl 0) (Nat.le_refl 0) dX5_read_24
def F_X5_matches_15 (N : Nat) (M : kMem) : Nat → Nat → Nat → Int32 → Option (Int32)
  | 0, _, _, _ => none
  | n + 1, a0, a1, x2 =>
    kg (kt M a0 5) <|
    if x2 < (kI M a0 1) then (
      kg (kt M a0 5) <| (F_X5_letterAt N M a0 x2).bind fun r1 =>
      kg (kt M a1 5) <| (F_X5_letterAt N M a1 x2).bind fun r2 =>
      if r1 = r2 then (
        kl (x2 + 1) fun v3 =>
        F_X5_matches_15 N M n a0 a1 v3) else
      some 0) else
    some 1
def F_X5_matches (N : Nat) (M : kMem) (a0 : Nat) (a1 : Nat) : Option (Int32) :=
    kg (kt M a0 5) <|
    kg (kt M a1 5) <|
    if (kI M a0 1) = (kI M a1 1) then (
      F_X5_matches_15 N M N a0 a1 0) else
    some 0
set_option maxRecDepth 100000 in
set_option maxHeartbeats 4000000 in
theorem k_X5_matches_15 {p : Program} {l : Launch} {e : Env} {s : State} {m : MethodId} {args : Array Value} {below : List Frame} {meth : Method} {c : Code} {g : kG} (hX : Cok (p, l, e, { frames := 2 * 2, cells := 0, slots := 0, locals := 60 * 2 }, s, m, args, below, meth, c, cX5_matches, 3, RX5, g, 2)) (hr : meth.sig.returnType = (some .boolean)) (N : Nat) (M : kMem) : ∀ (n : Nat) (a0 : Nat) (a1 : Nat) (x2 : Int32), GG (p, l, e, { frames := 2 * 2, cells := 0, slots := 0, locals := 60 * 2 }, s, m, args, below, meth, c, cX5_matches, 3, RX5, g, 2) (fun b => MQ below (kQ g ((fun r : Int32 => (some (.int r), M)) b)) args s 0 0 (kZ g.2.2.1)) 0 0 (F_X5_matches_15 N M n a0 a1 x2) 15 [(0, .ref a0), (1, .ref a1), (2, .int x2)] [] M := by
  intro n
  induction n with
  | zero => intro _ _ _; exact g_none
  | succ n ih =>
    intro a0 a1 x2
    unfold F_X5_matches_15
    refine g_iload_n 16 2 hX dX5_matches_15 rfl rfl ?_
    refine g_aload_n 17 0 hX dX5_matches_16 rfl rfl ?_
    refine r_X5_15 20 hX dX5_matches_17 rfl ?_
    refine g_icmp_ge 44 23 hX dX5_matches_20 (by decide) rfl (fun _ => ?_) (fun _ => ?_)
    · refine g_iconst 45 hX 1 dX5_matches_44 rfl kc_i_1 ?_
      exact g_zretL hX hr rfl rfl (Nat.le_refl 0) (Nat.le_refl 0) dX5_matches_45
    · refine g_aload_n 24 0 hX dX5_matches_23 rfl rfl ?_
      refine g_iload_n 25 2 hX dX5_matches_24 rfl rfl ?_
      refine g_callV_ip 28 hX (k_X5_letterAt l g N M a0 x2) lk_X5_letterAt rfl (ci := 5) rfl (Nat.le_of_ble_eq_true rfl) q_683 q_685 (by omega) rfl (Nat.le_of_ble_eq_true rfl) (Nat.zero_le _) (Nat.zero_le _) dX5_matches_25 rfl (fun r1 => ?_)
      refine g_aload_n 29 1 hX dX5_matches_28 rfl rfl ?_
      refine g_iload_n 30 2 hX dX5_matches_29 rfl rfl ?_
      refine g_callV_ip 33 hX (k_X5_letterAt l g N M a1 x2) lk_X5_letterAt rfl (ci := 5) rfl (Nat.le_of_ble_eq_true rfl) q_683 q_685 (by omega) rfl (Nat.le_of_ble_eq_true rfl) (Nat.zero_le _) (Nat.zero_le _) dX5_matches_30 rfl (fun r2 => ?_)
      refine g_icmp_eq 38 36 hX dX5_matches_33 (by decide) rfl (fun _ => ?_) (fun _ => ?_)
      · refine g_kl (fun v3 hv3 => ?_)
        refine g_iinc 41 2 2 v3 [(2, .int v3), (0, .ref a0), (1, .ref a1)] hX dX5_matches_38 rfl rfl (by rw [hv3, kc_i_1]) (Nat.le_of_ble_eq_true rfl) rfl ?_
        refine g_goto 15 hX dX5_matches_41 (by decide) ?_
        refine g_lv [1, 2, 0] rfl ?_
        exact ih a0 a1 v3
      · refine g_iconst 37 hX 0 dX5_matches_36 rfl kc_i_0 ?_
        exact g_zretL hX hr rfl rfl (Nat.le_refl 0) (Nat.le_refl 0) dX5_matches_37
set_option maxRecDepth 100000 in
set_option maxHeartbeats 4000000 in
theorem k_X5_matches (l : Launch) (g : kG) (N : Nat) (M : kMem) (a0 : Nat) (a1 : Nat) : kMet l g yX5_matches cX5_matches 3 (some .boolean) 2 0 0 [.ref a0, .ref a1] M (fun r : Int32 => (some (.int r), M)) (F_X5_matches N M a0 a1) := by
  refine k_of (lv := [(0, .ref a0), (1, .ref a1)]) RX5 (by decide) rfl rfl (Nat.le_of_ble_eq_true rfl) ?_
  intro p e s m args below meth c hX hr _
  unfold F_X5_matches
  refine g_aload_n 1 0 hX dX5_matches_0 rfl rfl ?_
  refine r_X5_15 4 hX dX5_matches_1 rfl ?_
  refine g_aload_n 5 1 hX dX5_matches_4 rfl rfl ?_
  refine r_X5_15 8 hX dX5_matches_5 rfl ?_
  refine g_icmp_eq 13 11 hX dX5_matches_8 (by decide) rfl (fun _ => ?_) (fun _ => ?_)
  · refine g_iconst 14 hX 0 dX5_matches_13 rfl kc_i_0 ?_
    refine g_istore_n 15 2 [(2, .int 0), (0, .ref a0), (1, .ref a1)] hX dX5_matches_14 rfl rfl (Nat.le_of_ble_eq_true rfl) rfl ?_
    refine g_lv [1, 2, 0] rfl ?_
    exact k_X5_matches_15 hX hr N M N a0 a1 0
  · refine g_iconst 12 hX 0 dX5_matches_11 rfl kc_i_0 ?_
    exact g_zretL hX hr rfl rfl (Nat.le_refl 0) (Nat.le_refl 0) dX5_matches_12
def F_X4_clear (N : Nat) (M : kMem) (a0 : Nat) : Option (kMem) :=
    kg (kt M a0 4) <| kl (ksI M a0 0 0) fun M1 =>
    kg (kt M1 a0 4) <| kl (ksI M1 a0 8 0) fun M2 =>
    kg (kt M2 a0 4) <| kl (ksI M2 a0 9 0) fun M3 =>
    kg (kt M3 a0 4) <| kl (ksI M3 a0 10 0) fun M4 =>
    kg (kt M4 a0 4) <| kl (ksI M4 a0 11 0) fun M5 =>
    kg (kt M5 a0 4) <| kl (ksI M5 a0 12 0) fun M6 =>
    kg (kt M6 a0 4) <|
    kg (kt M6 (kR M6 a0 15) 2) <| kl (ksI M6 (kR M6 a0 15) 3 0) fun M7 =>
    some M7
set_option maxRecDepth 100000 in
set_option maxHeartbeats 4000000 in
theorem k_X4_clear (l : Launch) (g : kG) (N : Nat) (M : kMem) (a0 : Nat) : kMet l g yX4_clear cX4_clear 1 none 1 0 0 [.ref a0] M (fun r : kMem => (none, r)) (F_X4_clear N M a0) := by
  refine k_of (lv := [(0, .ref a0)]) RX4 (by decide) rfl rfl (Nat.le_of_ble_eq_true rfl) ?_
  intro p e s m args below meth c hX hr _
  unfold F_X4_clear
  refine g_aload_n 1 0 hX dX4_clear_0 rfl rfl ?_
  refine g_iconst 2 hX 0 dX4_clear_1 rfl kc_i_0 ?_
  refine p_X4_34 5 hX dX4_clear_2 rfl ?_
  refine g_klM (fun M1 hM1 => ?_)
  refine g_aload_n 6 0 hX dX4_clear_5 rfl rfl ?_
  refine g_iconst 7 hX 0 dX4_clear_6 rfl kc_i_0 ?_
  refine p_X4_38 10 hX dX4_clear_7 rfl ?_
  refine g_klM (fun M2 hM2 => ?_)
  refine g_aload_n 11 0 hX dX4_clear_10 rfl rfl ?_
  refine g_iconst 12 hX 0 dX4_clear_11 rfl kc_i_0 ?_
  refine p_X4_41 15 hX dX4_clear_12 rfl ?_
  refine g_klM (fun M3 hM3 => ?_)
  refine g_aload_n 16 0 hX dX4_clear_15 rfl rfl ?_
  refine g_iconst 17 hX 0 dX4_clear_16 rfl kc_i_0 ?_
  refine p_X4_44 20 hX dX4_clear_17 rfl ?_
  refine g_klM (fun M4 hM4 => ?_)
  refine g_aload_n 21 0 hX dX4_clear_20 rfl rfl ?_
  refine g_iconst 22 hX 0 dX4_clear_21 rfl kc_i_0 ?_
  refine p_X4_47 25 hX dX4_clear_22 rfl ?_
  refine g_klM (fun M5 hM5 => ?_)
  refine g_aload_n 26 0 hX dX4_clear_25 rfl rfl ?_
  refine g_iconst 27 hX 0 dX4_clear_26 rfl kc_i_0 ?_
  refine p_X4_50 30 hX dX4_clear_27 rfl ?_
  refine g_klM (fun M6 hM6 => ?_)
  refine g_aload_n 31 0 hX dX4_clear_30 rfl rfl ?_
  refine r_X4_26 34 hX dX4_clear_31 rfl ?_
  refine g_iconst 35 hX 0 dX4_clear_34 rfl kc_i_0 ?_
  refine p_X4_53 38 hX dX4_clear_35 rfl ?_
  refine g_klM (fun M7 hM7 => ?_)
  exact g_vret hX hr rfl (Nat.le_refl 0) (Nat.le_refl 0) dX4_clear_38
def F_X4_copyFrom_138 (N : Nat) : Nat → kMem → Nat → Nat → Int32 → Option (kMem)
  | 0, _, _, _, _ => none
  | n + 1, M, a0, a1, x2 =>
    kg (kt M a0 4) <|
    kg (kt M (kR M a0 14) 17) <|
    if x2 < (Int32.ofNat (kn M (kR M a0 14))) then (
      kg (kt M a0 4) <|
      kg (kin M (kR M a0 14) 17 x2) <|
      kg (kt M a1 4) <|
      kg (kin M (kR M a1 14) 17 x2) <|
      kg (kt M (kR M (kR M a0 14) (kx x2)) 10) <| (F_X10_copyFrom N M (kR M (kR M a0 14) (kx x2)) (kR M (kR M a1 14) (kx x2))).bind fun M15 =>
      kl (x2 + 1) fun v16 =>
      F_X4_copyFrom_138 N n M15 a0 a1 v16) else
    kg (kt M a0 4) <|
    kg (kt M a1 4) <|
    kg (kt M (kR M a0 15) 2) <| (F_X2_copyFrom N M (kR M a0 15) (kR M a1 15)).bind fun M14 =>
    some M14
def F_X4_copyFrom_106 (N : Nat) : Nat → kMem → Nat → Nat → Int32 → Option (kMem)
  | 0, _, _, _, _ => none
  | n + 1, M, a0, a1, x2 =>
    kg (kt M a0 4) <|
    kg (kt M (kR M a0 13) 16) <|
    if x2 < (Int32.ofNat (kn M (kR M a0 13))) then (
      kg (kt M a0 4) <|
      kg (kin M (kR M a0 13) 16 x2) <|
      kg (kt M a1 4) <|
      kg (kin M (kR M a1 13) 16 x2) <|
      kg (kt M (kR M (kR M a0 13) (kx x2)) 0) <| (F_X0_copyFrom N M (kR M (kR M a0 13) (kx x2)) (kR M (kR M a1 13) (kx x2))).bind fun M17 =>
      kl (x2 + 1) fun v18 =>
      F_X4_copyFrom_106 N n M17 a0 a1 v18) else
    F_X4_copyFrom_138 N N M a0 a1 0
def F_X4_copyFrom (N : Nat) (M : kMem) (a0 : Nat) (a1 : Nat) : Option (kMem) :=
    kg (kt M a1 4) <|
    kg (kt M a0 4) <| kl (ksI M a0 0 (kI M a1 0)) fun M1 =>
    kg (kt M1 a1 4) <|
    kg (kt M1 a0 4) <| kl (ksI M1 a0 1 (kI M1 a1 1)) fun M2 =>
    kg (kt M2 a1 4) <|
    kg (kt M2 a0 4) <| kl (ksI M2 a0 2 (kI M2 a1 2)) fun M3 =>
    kg (kt M3 a1 4) <|
    kg (kt M3 a0 4) <| kl (ksI M3 a0 3 (kI M3 a1 3)) fun M4 =>
    kg (kt M4 a1 4) <|
    kg (kt M4 a0 4) <| kl (ksI M4 a0 4 (kI M4 a1 4)) fun M5 =>
    kg (kt M5 a1 4) <|
    kg (kt M5 a0 4) <| kl (ksI M5 a0 5 (kI M5 a1 5)) fun M6 =>
    kg (kt M6 a1 4) <|
    kg (kt M6 a0 4) <| kl (ksI M6 a0 6 (kI M6 a1 6)) fun M7 =>
    kg (kt M7 a1 4) <|
    kg (kt M7 a0 4) <| kl (ksI M7 a0 7 (kI M7 a1 7)) fun M8 =>
    kg (kt M8 a1 4) <|
    kg (kt M8 a0 4) <| kl (ksI M8 a0 8 (kI M8 a1 8)) fun M9 =>
    kg (kt M9 a1 4) <|
    kg (kt M9 a0 4) <| kl (ksI M9 a0 9 (kI M9 a1 9)) fun M10 =>
    kg (kt M10 a1 4) <|
    kg (kt M10 a0 4) <| kl (ksI M10 a0 10 (kI M10 a1 10)) fun M11 =>
    kg (kt M11 a1 4) <|
    kg (kt M11 a0 4) <| kl (ksI M11 a0 11 (kI M11 a1 11)) fun M12 =>
    kg (kt M12 a1 4) <|
    kg (kt M12 a0 4) <| kl (ksI M12 a0 12 (kI M12 a1 12)) fun M13 =>
    F_X4_copyFrom_106 N N M13 a0 a1 0
set_option maxRecDepth 100000 in
set_option maxHeartbeats 4000000 in
theorem k_X4_copyFrom_138 {p : Program} {l : Launch} {e : Env} {s : State} {m : MethodId} {args : Array Value} {below : List Frame} {meth : Method} {c : Code} {g : kG} (hX : Cok (p, l, e, { frames := 2 * 3, cells := 0, slots := 0, locals := 60 * 3 }, s, m, args, below, meth, c, cX4_copyFrom, 3, RX4, g, 3)) (hr : meth.sig.returnType = none) (N : Nat) : ∀ (n : Nat) (M : kMem) (a0 : Nat) (a1 : Nat) (x2 : Int32), GG (p, l, e, { frames := 2 * 3, cells := 0, slots := 0, locals := 60 * 3 }, s, m, args, below, meth, c, cX4_copyFrom, 3, RX4, g, 3) (fun b => MQ below (kQ g ((fun r : kMem => (none, r)) b)) args s 0 0 (kZ g.2.2.1)) 0 0 (F_X4_copyFrom_138 N n M a0 a1 x2) 138 [(0, .ref a0), (1, .ref a1), (2, .int x2)] [] M := by
  intro n
  induction n with
  | zero => intro _ _ _ _; exact g_none
  | succ n ih =>
    intro M a0 a1 x2
    unfold F_X4_copyFrom_138
    refine g_iload_n 139 2 hX dX4_copyFrom_138 rfl rfl ?_
    refine g_aload_n 140 0 hX dX4_copyFrom_139 rfl rfl ?_
    refine r_X4_19 143 hX dX4_copyFrom_140 rfl ?_
    refine g_alenR 17 4 144 hX RX10 (Nat.le_of_ble_eq_true rfl) rfl dX4_copyFrom_143 rfl ?_
    refine g_icmp_ge 168 147 hX dX4_copyFrom_144 (by decide) rfl (fun _ => ?_) (fun _ => ?_)
    · refine g_aload_n 169 0 hX dX4_copyFrom_168 rfl rfl ?_
      refine r_X4_26 172 hX dX4_copyFrom_169 rfl ?_
      refine g_aload_n 173 1 hX dX4_copyFrom_172 rfl rfl ?_
      refine r_X4_26 176 hX dX4_copyFrom_173 rfl ?_
      refine g_callV_v 179 hX (k_X2_copyFrom l g N M (kR M a0 15) (kR M a1 15)) lk_X2_copyFrom rfl (ci := 2) rfl (Nat.le_of_ble_eq_true rfl) q_760 q_762 (by omega) rfl (Nat.le_of_ble_eq_true rfl) (Nat.zero_le _) (Nat.zero_le _) dX4_copyFrom_176 rfl (fun M14 => ?_)
      exact g_vret hX hr rfl (Nat.le_refl 0) (Nat.le_refl 0) dX4_copyFrom_179
    · refine g_aload_n 148 0 hX dX4_copyFrom_147 rfl rfl ?_
      refine r_X4_19 151 hX dX4_copyFrom_148 rfl ?_
      refine g_iload_n 152 2 hX dX4_copyFrom_151 rfl rfl ?_
      refine g_aald 17 4 153 hX RX10 (Nat.le_of_ble_eq_true rfl) rfl dX4_copyFrom_152 rfl ?_
      refine g_aload_n 154 1 hX dX4_copyFrom_153 rfl rfl ?_
      refine r_X4_19 157 hX dX4_copyFrom_154 rfl ?_
      refine g_iload_n 158 2 hX dX4_copyFrom_157 rfl rfl ?_
      refine g_aald 17 4 159 hX RX10 (Nat.le_of_ble_eq_true rfl) rfl dX4_copyFrom_158 rfl ?_
      refine g_callV_v 162 hX (k_X10_copyFrom l g N M (kR M (kR M a0 14) (kx x2)) (kR M (kR M a1 14) (kx x2))) lk_X10_copyFrom rfl (ci := 10) rfl (Nat.le_of_ble_eq_true rfl) q_755 q_757 (by omega) rfl (Nat.le_of_ble_eq_true rfl) (Nat.zero_le _) (Nat.zero_le _) dX4_copyFrom_159 rfl (fun M15 => ?_)
      refine g_kl (fun v16 hv16 => ?_)
      refine g_iinc 165 2 2 v16 [(2, .int v16), (0, .ref a0), (1, .ref a1)] hX dX4_copyFrom_162 rfl rfl (by rw [hv16, kc_i_1]) (Nat.le_of_ble_eq_true rfl) rfl ?_
      refine g_goto 138 hX dX4_copyFrom_165 (by decide) ?_
      refine g_lv [1, 2, 0] rfl ?_
      exact ih M15 a0 a1 v16
set_option maxRecDepth 100000 in
set_option maxHeartbeats 4000000 in
theorem k_X4_copyFrom_106 {p : Program} {l : Launch} {e : Env} {s : State} {m : MethodId} {args : Array Value} {below : List Frame} {meth : Method} {c : Code} {g : kG} (hX : Cok (p, l, e, { frames := 2 * 3, cells := 0, slots := 0, locals := 60 * 3 }, s, m, args, below, meth, c, cX4_copyFrom, 3, RX4, g, 3)) (hr : meth.sig.returnType = none) (N : Nat) : ∀ (n : Nat) (M : kMem) (a0 : Nat) (a1 : Nat) (x2 : Int32), GG (p, l, e, { frames := 2 * 3, cells := 0, slots := 0, locals := 60 * 3 }, s, m, args, below, meth, c, cX4_copyFrom, 3, RX4, g, 3) (fun b => MQ below (kQ g ((fun r : kMem => (none, r)) b)) args s 0 0 (kZ g.2.2.1)) 0 0 (F_X4_copyFrom_106 N n M a0 a1 x2) 106 [(0, .ref a0), (1, .ref a1), (2, .int x2)] [] M := by
  intro n
  induction n with
  | zero => intro _ _ _ _; exact g_none
  | succ n ih =>
    intro M a0 a1 x2
    unfold F_X4_copyFrom_106
    refine g_iload_n 107 2 hX dX4_copyFrom_106 rfl rfl ?_
    refine g_aload_n 108 0 hX dX4_copyFrom_107 rfl rfl ?_
    refine r_X4_11 111 hX dX4_copyFrom_108 rfl ?_
    refine g_alenR 16 3 112 hX RX0 (Nat.le_of_ble_eq_true rfl) rfl dX4_copyFrom_111 rfl ?_
    refine g_icmp_ge 136 115 hX dX4_copyFrom_112 (by decide) rfl (fun _ => ?_) (fun _ => ?_)
    · refine g_iconst 137 hX 0 dX4_copyFrom_136 rfl kc_i_0 ?_
      refine g_istore_n 138 2 [(2, .int 0), (0, .ref a0), (1, .ref a1)] hX dX4_copyFrom_137 rfl rfl (Nat.le_of_ble_eq_true rfl) rfl ?_
      refine g_lv [1, 2, 0] rfl ?_
      exact k_X4_copyFrom_138 hX hr N N M a0 a1 0
    · refine g_aload_n 116 0 hX dX4_copyFrom_115 rfl rfl ?_
      refine r_X4_11 119 hX dX4_copyFrom_116 rfl ?_
      refine g_iload_n 120 2 hX dX4_copyFrom_119 rfl rfl ?_
      refine g_aald 16 3 121 hX RX0 (Nat.le_of_ble_eq_true rfl) rfl dX4_copyFrom_120 rfl ?_
      refine g_aload_n 122 1 hX dX4_copyFrom_121 rfl rfl ?_
      refine r_X4_11 125 hX dX4_copyFrom_122 rfl ?_
      refine g_iload_n 126 2 hX dX4_copyFrom_125 rfl rfl ?_
      refine g_aald 16 3 127 hX RX0 (Nat.le_of_ble_eq_true rfl) rfl dX4_copyFrom_126 rfl ?_
      refine g_callV_v 130 hX (k_X0_copyFrom l g N M (kR M (kR M a0 13) (kx x2)) (kR M (kR M a1 13) (kx x2))) lk_X0_copyFrom rfl (ci := 0) rfl (Nat.le_of_ble_eq_true rfl) q_750 q_752 (by omega) rfl (Nat.le_of_ble_eq_true rfl) (Nat.zero_le _) (Nat.zero_le _) dX4_copyFrom_127 rfl (fun M17 => ?_)
      refine g_kl (fun v18 hv18 => ?_)
      refine g_iinc 133 2 2 v18 [(2, .int v18), (0, .ref a0), (1, .ref a1)] hX dX4_copyFrom_130 rfl rfl (by rw [hv18, kc_i_1]) (Nat.le_of_ble_eq_true rfl) rfl ?_
      refine g_goto 106 hX dX4_copyFrom_133 (by decide) ?_
      refine g_lv [1, 2, 0] rfl ?_
      exact ih M17 a0 a1 v18
set_option maxRecDepth 100000 in
set_option maxHeartbeats 4000000 in
theorem k_X4_copyFrom (l : Launch) (g : kG) (N : Nat) (M : kMem) (a0 : Nat) (a1 : Nat) : kMet l g yX4_copyFrom cX4_copyFrom 3 none 3 0 0 [.ref a0, .ref a1] M (fun r : kMem => (none, r)) (F_X4_copyFrom N M a0 a1) := by
  refine k_of (lv := [(0, .ref a0), (1, .ref a1)]) RX4 (by decide) rfl rfl (Nat.le_of_ble_eq_true rfl) ?_
  intro p e s m args below meth c hX hr _
  unfold F_X4_copyFrom
  refine g_aload_n 1 0 hX dX4_copyFrom_0 rfl rfl ?_
  refine g_aload_n 2 1 hX dX4_copyFrom_1 rfl rfl ?_
  refine r_X4_34 5 hX dX4_copyFrom_2 rfl ?_
  refine p_X4_34 8 hX dX4_copyFrom_5 rfl ?_
  refine g_klM (fun M1 hM1 => ?_)
  refine g_aload_n 9 0 hX dX4_copyFrom_8 rfl rfl ?_
  refine g_aload_n 10 1 hX dX4_copyFrom_9 rfl rfl ?_
  refine r_X4_56 13 hX dX4_copyFrom_10 rfl ?_
  refine p_X4_56 16 hX dX4_copyFrom_13 rfl ?_
  refine g_klM (fun M2 hM2 => ?_)
  refine g_aload_n 17 0 hX dX4_copyFrom_16 rfl rfl ?_
  refine g_aload_n 18 1 hX dX4_copyFrom_17 rfl rfl ?_
  refine r_X4_59 21 hX dX4_copyFrom_18 rfl ?_
  refine p_X4_59 24 hX dX4_copyFrom_21 rfl ?_
  refine g_klM (fun M3 hM3 => ?_)
  refine g_aload_n 25 0 hX dX4_copyFrom_24 rfl rfl ?_
  refine g_aload_n 26 1 hX dX4_copyFrom_25 rfl rfl ?_
  refine r_X4_62 29 hX dX4_copyFrom_26 rfl ?_
  refine p_X4_62 32 hX dX4_copyFrom_29 rfl ?_
  refine g_klM (fun M4 hM4 => ?_)
  refine g_aload_n 33 0 hX dX4_copyFrom_32 rfl rfl ?_
  refine g_aload_n 34 1 hX dX4_copyFrom_33 rfl rfl ?_
  refine r_X4_65 37 hX dX4_copyFrom_34 rfl ?_
  refine p_X4_65 40 hX dX4_copyFrom_37 rfl ?_
  refine g_klM (fun M5 hM5 => ?_)
  refine g_aload_n 41 0 hX dX4_copyFrom_40 rfl rfl ?_
  refine g_aload_n 42 1 hX dX4_copyFrom_41 rfl rfl ?_
  refine r_X4_68 45 hX dX4_copyFrom_42 rfl ?_
  refine p_X4_68 48 hX dX4_copyFrom_45 rfl ?_
  refine g_klM (fun M6 hM6 => ?_)
  refine g_aload_n 49 0 hX dX4_copyFrom_48 rfl rfl ?_
  refine g_aload_n 50 1 hX dX4_copyFrom_49 rfl rfl ?_
  refine r_X4_71 53 hX dX4_copyFrom_50 rfl ?_
  refine p_X4_71 56 hX dX4_copyFrom_53 rfl ?_
  refine g_klM (fun M7 hM7 => ?_)
  refine g_aload_n 57 0 hX dX4_copyFrom_56 rfl rfl ?_
  refine g_aload_n 58 1 hX dX4_copyFrom_57 rfl rfl ?_
  refine r_X4_74 61 hX dX4_copyFrom_58 rfl ?_
  refine p_X4_74 64 hX dX4_copyFrom_61 rfl ?_
  refine g_klM (fun M8 hM8 => ?_)
  refine g_aload_n 65 0 hX dX4_copyFrom_64 rfl rfl ?_
  refine g_aload_n 66 1 hX dX4_copyFrom_65 rfl rfl ?_
  refine r_X4_38 69 hX dX4_copyFrom_66 rfl ?_
  refine p_X4_38 72 hX dX4_copyFrom_69 rfl ?_
  refine g_klM (fun M9 hM9 => ?_)
  refine g_aload_n 73 0 hX dX4_copyFrom_72 rfl rfl ?_
  refine g_aload_n 74 1 hX dX4_copyFrom_73 rfl rfl ?_
  refine r_X4_41 77 hX dX4_copyFrom_74 rfl ?_
  refine p_X4_41 80 hX dX4_copyFrom_77 rfl ?_
  refine g_klM (fun M10 hM10 => ?_)
  refine g_aload_n 81 0 hX dX4_copyFrom_80 rfl rfl ?_
  refine g_aload_n 82 1 hX dX4_copyFrom_81 rfl rfl ?_
  refine r_X4_44 85 hX dX4_copyFrom_82 rfl ?_
  refine p_X4_44 88 hX dX4_copyFrom_85 rfl ?_
  refine g_klM (fun M11 hM11 => ?_)
  refine g_aload_n 89 0 hX dX4_copyFrom_88 rfl rfl ?_
  refine g_aload_n 90 1 hX dX4_copyFrom_89 rfl rfl ?_
  refine r_X4_47 93 hX dX4_copyFrom_90 rfl ?_
  refine p_X4_47 96 hX dX4_copyFrom_93 rfl ?_
  refine g_klM (fun M12 hM12 => ?_)
  refine g_aload_n 97 0 hX dX4_copyFrom_96 rfl rfl ?_
  refine g_aload_n 98 1 hX dX4_copyFrom_97 rfl rfl ?_
  refine r_X4_50 101 hX dX4_copyFrom_98 rfl ?_
  refine p_X4_50 104 hX dX4_copyFrom_101 rfl ?_
  refine g_klM (fun M13 hM13 => ?_)
  refine g_iconst 105 hX 0 dX4_copyFrom_104 rfl kc_i_0 ?_
  refine g_istore_n 106 2 [(2, .int 0), (0, .ref a0), (1, .ref a1)] hX dX4_copyFrom_105 rfl rfl (Nat.le_of_ble_eq_true rfl) rfl ?_
  refine g_lv [1, 2, 0] rfl ?_
  exact k_X4_copyFrom_106 hX hr N N M13 a0 a1 0
def F_X4_boardNumbered (N : Nat) (M : kMem) (a0 : Nat) (x1 : Int32) : Option (Nat) :=
    if x1 < 0 then (
      some 0) else
    kg (kt M a0 4) <|
    if x1 < (kI M a0 11) then (
      kg (kt M a0 4) <|
      kg (kt M (kR M a0 13) 16) <|
      if x1 < (Int32.ofNat (kn M (kR M a0 13))) then (
        kg (kt M a0 4) <|
        kg (kin M (kR M a0 13) 16 x1) <|
        some (kR M (kR M a0 13) (kx x1))) else
      some 0) else
    some 0
set_option maxRecDepth 100000 in
set_option maxHeartbeats 4000000 in
theorem k_X4_boardNumbered (l : Launch) (g : kG) (N : Nat) (M : kMem) (a0 : Nat) (x1 : Int32) : kMet l g yX4_boardNumbered cX4_boardNumbered 2 (some (.object "SeesawMarket$Board")) 1 0 0 [.ref a0, .int x1] M (fun r : Nat => (some (.ref r), M)) (F_X4_boardNumbered N M a0 x1) := by
  refine k_of (lv := [(0, .ref a0), (1, .int x1)]) RX4 (by decide) rfl rfl (Nat.le_of_ble_eq_true rfl) ?_
  intro p e s m args below meth c hX hr _
  unfold F_X4_boardNumbered
  refine g_iload_n 1 1 hX dX4_boardNumbered_0 rfl rfl ?_
  refine g_if_lt 30 4 hX dX4_boardNumbered_1 (by decide) rfl (fun _ => ?_) (fun _ => ?_)
  · refine g_null 31 hX dX4_boardNumbered_30 rfl ?_
    exact g_aret hX hr (Or.inl ⟨_, rfl⟩) rfl (Nat.le_refl 0) (Nat.le_refl 0) dX4_boardNumbered_31
  · refine g_iload_n 5 1 hX dX4_boardNumbered_4 rfl rfl ?_
    refine g_aload_n 6 0 hX dX4_boardNumbered_5 rfl rfl ?_
    refine r_X4_47 9 hX dX4_boardNumbered_6 rfl ?_
    refine g_icmp_ge 30 12 hX dX4_boardNumbered_9 (by decide) rfl (fun _ => ?_) (fun _ => ?_)
    · refine g_null 31 hX dX4_boardNumbered_30 rfl ?_
      exact g_aret hX hr (Or.inl ⟨_, rfl⟩) rfl (Nat.le_refl 0) (Nat.le_refl 0) dX4_boardNumbered_31
    · refine g_iload_n 13 1 hX dX4_boardNumbered_12 rfl rfl ?_
      refine g_aload_n 14 0 hX dX4_boardNumbered_13 rfl rfl ?_
      refine r_X4_11 17 hX dX4_boardNumbered_14 rfl ?_
      refine g_alenR 16 3 18 hX RX0 (Nat.le_of_ble_eq_true rfl) rfl dX4_boardNumbered_17 rfl ?_
      refine g_icmp_ge 30 21 hX dX4_boardNumbered_18 (by decide) rfl (fun _ => ?_) (fun _ => ?_)
      · refine g_null 31 hX dX4_boardNumbered_30 rfl ?_
        exact g_aret hX hr (Or.inl ⟨_, rfl⟩) rfl (Nat.le_refl 0) (Nat.le_refl 0) dX4_boardNumbered_31
      · refine g_aload_n 22 0 hX dX4_boardNumbered_21 rfl rfl ?_
        refine r_X4_11 25 hX dX4_boardNumbered_22 rfl ?_
        refine g_iload_n 26 1 hX dX4_boardNumbered_25 rfl rfl ?_
        refine g_aald 16 3 27 hX RX0 (Nat.le_of_ble_eq_true rfl) rfl dX4_boardNumbered_26 rfl ?_
        refine g_goto 31 hX dX4_boardNumbered_27 (by decide) ?_
        exact g_aret hX hr (Or.inl ⟨_, rfl⟩) rfl (Nat.le_refl 0) (Nat.le_refl 0) dX4_boardNumbered_31
def F_X4_traderNumbered (N : Nat) (M : kMem) (a0 : Nat) (x1 : Int32) : Option (Nat) :=
    if x1 < 0 then (
      some 0) else
    kg (kt M a0 4) <|
    if x1 < (kI M a0 12) then (
      kg (kt M a0 4) <|
      kg (kt M (kR M a0 14) 17) <|
      if x1 < (Int32.ofNat (kn M (kR M a0 14))) then (
        kg (kt M a0 4) <|
        kg (kin M (kR M a0 14) 17 x1) <|
        some (kR M (kR M a0 14) (kx x1))) else
      some 0) else
    some 0
set_option maxRecDepth 100000 in
set_option maxHeartbeats 4000000 in
theorem k_X4_traderNumbered (l : Launch) (g : kG) (N : Nat) (M : kMem) (a0 : Nat) (x1 : Int32) : kMet l g yX4_traderNumbered cX4_traderNumbered 2 (some (.object "SeesawMarket$Trader")) 1 0 0 [.ref a0, .int x1] M (fun r : Nat => (some (.ref r), M)) (F_X4_traderNumbered N M a0 x1) := by
  refine k_of (lv := [(0, .ref a0), (1, .int x1)]) RX4 (by decide) rfl rfl (Nat.le_of_ble_eq_true rfl) ?_
  intro p e s m args below meth c hX hr _
  unfold F_X4_traderNumbered
  refine g_iload_n 1 1 hX dX4_traderNumbered_0 rfl rfl ?_
  refine g_if_lt 30 4 hX dX4_traderNumbered_1 (by decide) rfl (fun _ => ?_) (fun _ => ?_)
  · refine g_null 31 hX dX4_traderNumbered_30 rfl ?_
    exact g_aret hX hr (Or.inl ⟨_, rfl⟩) rfl (Nat.le_refl 0) (Nat.le_refl 0) dX4_traderNumbered_31
  · refine g_iload_n 5 1 hX dX4_traderNumbered_4 rfl rfl ?_
    refine g_aload_n 6 0 hX dX4_traderNumbered_5 rfl rfl ?_
    refine r_X4_50 9 hX dX4_traderNumbered_6 rfl ?_
    refine g_icmp_ge 30 12 hX dX4_traderNumbered_9 (by decide) rfl (fun _ => ?_) (fun _ => ?_)
    · refine g_null 31 hX dX4_traderNumbered_30 rfl ?_
      exact g_aret hX hr (Or.inl ⟨_, rfl⟩) rfl (Nat.le_refl 0) (Nat.le_refl 0) dX4_traderNumbered_31
    · refine g_iload_n 13 1 hX dX4_traderNumbered_12 rfl rfl ?_
      refine g_aload_n 14 0 hX dX4_traderNumbered_13 rfl rfl ?_
      refine r_X4_19 17 hX dX4_traderNumbered_14 rfl ?_
      refine g_alenR 17 4 18 hX RX10 (Nat.le_of_ble_eq_true rfl) rfl dX4_traderNumbered_17 rfl ?_
      refine g_icmp_ge 30 21 hX dX4_traderNumbered_18 (by decide) rfl (fun _ => ?_) (fun _ => ?_)
      · refine g_null 31 hX dX4_traderNumbered_30 rfl ?_
        exact g_aret hX hr (Or.inl ⟨_, rfl⟩) rfl (Nat.le_refl 0) (Nat.le_refl 0) dX4_traderNumbered_31
      · refine g_aload_n 22 0 hX dX4_traderNumbered_21 rfl rfl ?_
        refine r_X4_19 25 hX dX4_traderNumbered_22 rfl ?_
        refine g_iload_n 26 1 hX dX4_traderNumbered_25 rfl rfl ?_
        refine g_aald 17 4 27 hX RX10 (Nat.le_of_ble_eq_true rfl) rfl dX4_traderNumbered_26 rfl ?_
        refine g_goto 31 hX dX4_traderNumbered_27 (by decide) ?_
        exact g_aret hX hr (Or.inl ⟨_, rfl⟩) rfl (Nat.le_refl 0) (Nat.le_refl 0) dX4_traderNumbered_31
def F_X4_traderNamed_2 (N : Nat) (M : kMem) : Nat → Nat → Nat → Int32 → Option (Nat)
  | 0, _, _, _ => none
  | n + 1, a0, a1, x2 =>
    kg (kt M a0 4) <|
    if x2 < (kI M a0 12) then (
      kg (kt M a0 4) <|
      kg (kin M (kR M a0 14) 17 x2) <|
      kg (kt M (kR M (kR M a0 14) (kx x2)) 10) <|
      kg (kt M (kR M (kR M (kR M a0 14) (kx x2)) 1) 5) <| (F_X5_matches N M (kR M (kR M (kR M a0 14) (kx x2)) 1) a1).bind fun r1 =>
      if r1 = 0 then (
        kl (x2 + 1) fun v2 =>
        F_X4_traderNamed_2 N M n a0 a1 v2) else
      kg (kt M a0 4) <|
      kg (kin M (kR M a0 14) 17 x2) <|
      some (kR M (kR M a0 14) (kx x2))) else
    some 0
def F_X4_traderNamed (N : Nat) (M : kMem) (a0 : Nat) (a1 : Nat) : Option (Nat) :=
    F_X4_traderNamed_2 N M N a0 a1 0
set_option maxRecDepth 100000 in
set_option maxHeartbeats 4000000 in
theorem k_X4_traderNamed_2 {p : Program} {l : Launch} {e : Env} {s : State} {m : MethodId} {args : Array Value} {below : List Frame} {meth : Method} {c : Code} {g : kG} (hX : Cok (p, l, e, { frames := 2 * 3, cells := 0, slots := 0, locals := 60 * 3 }, s, m, args, below, meth, c, cX4_traderNamed, 3, RX4, g, 3)) (hr : meth.sig.returnType = (some (.object "SeesawMarket$Trader"))) (N : Nat) (M : kMem) : ∀ (n : Nat) (a0 : Nat) (a1 : Nat) (x2 : Int32), GG (p, l, e, { frames := 2 * 3, cells := 0, slots := 0, locals := 60 * 3 }, s, m, args, below, meth, c, cX4_traderNamed, 3, RX4, g, 3) (fun b => MQ below (kQ g ((fun r : Nat => (some (.ref r), M)) b)) args s 0 0 (kZ g.2.2.1)) 0 0 (F_X4_traderNamed_2 N M n a0 a1 x2) 2 [(0, .ref a0), (1, .ref a1), (2, .int x2)] [] M := by
  intro n
  induction n with
  | zero => intro _ _ _; exact g_none
  | succ n ih =>
    intro a0 a1 x2
    unfold F_X4_traderNamed_2
    refine g_iload_n 3 2 hX dX4_traderNamed_2 rfl rfl ?_
    refine g_aload_n 4 0 hX dX4_traderNamed_3 rfl rfl ?_
    refine r_X4_50 7 hX dX4_traderNamed_4 rfl ?_
    refine g_icmp_ge 39 10 hX dX4_traderNamed_7 (by decide) rfl (fun _ => ?_) (fun _ => ?_)
    · refine g_null 40 hX dX4_traderNamed_39 rfl ?_
      exact g_aret hX hr (Or.inl ⟨_, rfl⟩) rfl (Nat.le_refl 0) (Nat.le_refl 0) dX4_traderNamed_40
    · refine g_aload_n 11 0 hX dX4_traderNamed_10 rfl rfl ?_
      refine r_X4_19 14 hX dX4_traderNamed_11 rfl ?_
      refine g_iload_n 15 2 hX dX4_traderNamed_14 rfl rfl ?_
      refine g_aald 17 4 16 hX RX10 (Nat.le_of_ble_eq_true rfl) rfl dX4_traderNamed_15 rfl ?_
      refine r_X4_87 19 hX dX4_traderNamed_16 rfl ?_
      refine g_aload_n 20 1 hX dX4_traderNamed_19 rfl rfl ?_
      refine g_callV_ip 23 hX (k_X5_matches l g N M (kR M (kR M (kR M a0 14) (kx x2)) 1) a1) lk_X5_matches rfl (ci := 5) rfl (Nat.le_of_ble_eq_true rfl) q_679 q_681 (by omega) rfl (Nat.le_of_ble_eq_true rfl) (Nat.zero_le _) (Nat.zero_le _) dX4_traderNamed_20 rfl (fun r1 => ?_)
      refine g_if_eq 33 26 hX dX4_traderNamed_23 (by decide) rfl (fun _ => ?_) (fun _ => ?_)
      · refine g_kl (fun v2 hv2 => ?_)
        refine g_iinc 36 2 2 v2 [(2, .int v2), (0, .ref a0), (1, .ref a1)] hX dX4_traderNamed_33 rfl rfl (by rw [hv2, kc_i_1]) (Nat.le_of_ble_eq_true rfl) rfl ?_
        refine g_goto 2 hX dX4_traderNamed_36 (by decide) ?_
        refine g_lv [1, 2, 0] rfl ?_
        exact ih a0 a1 v2
      · refine g_aload_n 27 0 hX dX4_traderNamed_26 rfl rfl ?_
        refine r_X4_19 30 hX dX4_traderNamed_27 rfl ?_
        refine g_iload_n 31 2 hX dX4_traderNamed_30 rfl rfl ?_
        refine g_aald 17 4 32 hX RX10 (Nat.le_of_ble_eq_true rfl) rfl dX4_traderNamed_31 rfl ?_
        exact g_aret hX hr (Or.inl ⟨_, rfl⟩) rfl (Nat.le_refl 0) (Nat.le_refl 0) dX4_traderNamed_32
set_option maxRecDepth 100000 in
set_option maxHeartbeats 4000000 in
theorem k_X4_traderNamed (l : Launch) (g : kG) (N : Nat) (M : kMem) (a0 : Nat) (a1 : Nat) : kMet l g yX4_traderNamed cX4_traderNamed 3 (some (.object "SeesawMarket$Trader")) 3 0 0 [.ref a0, .ref a1] M (fun r : Nat => (some (.ref r), M)) (F_X4_traderNamed N M a0 a1) := by
  refine k_of (lv := [(0, .ref a0), (1, .ref a1)]) RX4 (by decide) rfl rfl (Nat.le_of_ble_eq_true rfl) ?_
  intro p e s m args below meth c hX hr _
  unfold F_X4_traderNamed
  refine g_iconst 1 hX 0 dX4_traderNamed_0 rfl kc_i_0 ?_
  refine g_istore_n 2 2 [(2, .int 0), (0, .ref a0), (1, .ref a1)] hX dX4_traderNamed_1 rfl rfl (Nat.le_of_ble_eq_true rfl) rfl ?_
  refine g_lv [1, 2, 0] rfl ?_
  exact k_X4_traderNamed_2 hX hr N M N a0 a1 0
def F_X4_addBoard (N : Nat) (M : kMem) (a0 : Nat) (x1 : Int32) (x2 : Int32) (x3 : Int32) : Option (kMem) :=
    kg (kt M a0 4) <|
    kg (kt M a0 4) <|
    kg (kt M (kR M a0 13) 16) <|
    if (kI M a0 11) < (Int32.ofNat (kn M (kR M a0 13))) then (
      kg (kt M a0 4) <|
      kg (kt M a0 4) <|
      kg (kin M (kR M a0 13) 16 (kI M a0 11)) <|
      kg (kt M (kR M (kR M a0 13) (kx (kI M a0 11))) 0) <| (F_X0_build N M (kR M (kR M a0 13) (kx (kI M a0 11))) x1 x2 x3).bind fun M1 =>
      kg (kt M1 a0 4) <|
      kg (kt M1 a0 4) <| kl (ksI M1 a0 11 ((kI M1 a0 11) + 1)) fun M2 =>
      some M2) else
    some M
set_option maxRecDepth 100000 in
set_option maxHeartbeats 4000000 in
theorem k_X4_addBoard (l : Launch) (g : kG) (N : Nat) (M : kMem) (a0 : Nat) (x1 : Int32) (x2 : Int32) (x3 : Int32) : kMet l g yX4_addBoard cX4_addBoard 4 none 2 0 0 [.ref a0, .int x1, .int x2, .int x3] M (fun r : kMem => (none, r)) (F_X4_addBoard N M a0 x1 x2 x3) := by
  refine k_of (lv := [(0, .ref a0), (1, .int x1), (2, .int x2), (3, .int x3)]) RX4 (by decide) rfl rfl (Nat.le_of_ble_eq_true rfl) ?_
  intro p e s m args below meth c hX hr _
  unfold F_X4_addBoard
  refine g_aload_n 1 0 hX dX4_addBoard_0 rfl rfl ?_
  refine r_X4_47 4 hX dX4_addBoard_1 rfl ?_
  refine g_aload_n 5 0 hX dX4_addBoard_4 rfl rfl ?_
  refine r_X4_11 8 hX dX4_addBoard_5 rfl ?_
  refine g_alenR 16 3 9 hX RX0 (Nat.le_of_ble_eq_true rfl) rfl dX4_addBoard_8 rfl ?_
  refine g_icmp_ge 37 12 hX dX4_addBoard_9 (by decide) rfl (fun _ => ?_) (fun _ => ?_)
  · exact g_vret hX hr rfl (Nat.le_refl 0) (Nat.le_refl 0) dX4_addBoard_37
  · refine g_aload_n 13 0 hX dX4_addBoard_12 rfl rfl ?_
    refine r_X4_11 16 hX dX4_addBoard_13 rfl ?_
    refine g_aload_n 17 0 hX dX4_addBoard_16 rfl rfl ?_
    refine r_X4_47 20 hX dX4_addBoard_17 rfl ?_
    refine g_aald 16 3 21 hX RX0 (Nat.le_of_ble_eq_true rfl) rfl dX4_addBoard_20 rfl ?_
    refine g_iload_n 22 1 hX dX4_addBoard_21 rfl rfl ?_
    refine g_iload_n 23 2 hX dX4_addBoard_22 rfl rfl ?_
    refine g_iload_n 24 3 hX dX4_addBoard_23 rfl rfl ?_
    refine g_callV_v 27 hX (k_X0_build l g N M (kR M (kR M a0 13) (kx (kI M a0 11))) x1 x2 x3) lk_X0_build rfl (ci := 0) rfl (Nat.le_of_ble_eq_true rfl) q_655 q_657 (by omega) rfl (Nat.le_of_ble_eq_true rfl) (Nat.zero_le _) (Nat.zero_le _) dX4_addBoard_24 rfl (fun M1 => ?_)
    refine g_aload_n 28 0 hX dX4_addBoard_27 rfl rfl ?_
    refine g_dup 29 hX dX4_addBoard_28 rfl rfl ?_
    refine r_X4_47 32 hX dX4_addBoard_29 rfl ?_
    refine g_iconst 33 hX 1 dX4_addBoard_32 rfl kc_i_1 ?_
    refine g_iadd 34 hX dX4_addBoard_33 rfl ?_
    refine p_X4_47 37 hX dX4_addBoard_34 rfl ?_
    refine g_klM (fun M2 hM2 => ?_)
    exact g_vret hX hr rfl (Nat.le_refl 0) (Nat.le_refl 0) dX4_addBoard_37
def F_X4_canAdmit (N : Nat) (M : kMem) (a0 : Nat) (a1 : Nat) : Option (Int32) :=
    kg (kt M a0 4) <|
    kg (kt M a0 4) <|
    kg (kt M (kR M a0 14) 17) <|
    if (kI M a0 12) < (Int32.ofNat (kn M (kR M a0 14))) then (
      kg (kt M a0 4) <| (F_X4_traderNamed N M a0 a1).bind fun r1 =>
      if r1 = 0 then (
        some 1) else
      some 0) else
    some 0
set_option maxRecDepth 100000 in
set_option maxHeartbeats 4000000 in
theorem k_X4_canAdmit (l : Launch) (g : kG) (N : Nat) (M : kMem) (a0 : Nat) (a1 : Nat) : kMet l g yX4_canAdmit cX4_canAdmit 2 (some .boolean) 4 0 0 [.ref a0, .ref a1] M (fun r : Int32 => (some (.int r), M)) (F_X4_canAdmit N M a0 a1) := by
  refine k_of (lv := [(0, .ref a0), (1, .ref a1)]) RX4 (by decide) rfl rfl (Nat.le_of_ble_eq_true rfl) ?_
  intro p e s m args below meth c hX hr _
  unfold F_X4_canAdmit
  refine g_aload_n 1 0 hX dX4_canAdmit_0 rfl rfl ?_
  refine r_X4_50 4 hX dX4_canAdmit_1 rfl ?_
  refine g_aload_n 5 0 hX dX4_canAdmit_4 rfl rfl ?_
  refine r_X4_19 8 hX dX4_canAdmit_5 rfl ?_
  refine g_alenR 17 4 9 hX RX10 (Nat.le_of_ble_eq_true rfl) rfl dX4_canAdmit_8 rfl ?_
  refine g_icmp_ge 24 12 hX dX4_canAdmit_9 (by decide) rfl (fun _ => ?_) (fun _ => ?_)
  · refine g_iconst 25 hX 0 dX4_canAdmit_24 rfl kc_i_0 ?_
    exact g_zretL hX hr rfl rfl (Nat.le_refl 0) (Nat.le_refl 0) dX4_canAdmit_25
  · refine g_aload_n 13 0 hX dX4_canAdmit_12 rfl rfl ?_
    refine g_aload_n 14 1 hX dX4_canAdmit_13 rfl rfl ?_
    refine g_callV_rp 17 hX (k_X4_traderNamed l g N M a0 a1) lk_X4_traderNamed rfl (ci := 4) rfl (Nat.le_of_ble_eq_true rfl) q_894 q_677 (by omega) rfl (Nat.le_of_ble_eq_true rfl) (Nat.zero_le _) (Nat.zero_le _) dX4_canAdmit_14 rfl (fun r1 => ?_)
    refine g_ifnonnull 24 20 hX dX4_canAdmit_17 (by decide) rfl (fun _ => ?_) (fun _ => ?_)
    · refine g_iconst 25 hX 0 dX4_canAdmit_24 rfl kc_i_0 ?_
      exact g_zretL hX hr rfl rfl (Nat.le_refl 0) (Nat.le_refl 0) dX4_canAdmit_25
    · refine g_iconst 21 hX 1 dX4_canAdmit_20 rfl kc_i_1 ?_
      refine g_goto 25 hX dX4_canAdmit_21 (by decide) ?_
      exact g_zretL hX hr rfl rfl (Nat.le_refl 0) (Nat.le_refl 0) dX4_canAdmit_25
def F_X4_admit (N : Nat) (M : kMem) (a0 : Nat) (a1 : Nat) (x2 : Int32) (x3 : Int32) (x4 : Int32) : Option (Int32 × kMem) :=
    kg (kt M a0 4) <|
    kg (kt M a0 4) <|
    kg (kt M (kR M a0 14) 17) <|
    if (kI M a0 12) < (Int32.ofNat (kn M (kR M a0 14))) then (
      kg (kt M a0 4) <|
      kg (kt M a0 4) <|
      kg (kin M (kR M a0 14) 17 (kI M a0 12)) <|
      kl (kR M (kR M a0 14) (kx (kI M a0 12))) fun w1 =>
      kg (kt M a0 4) <|
      kg (kt M a0 4) <| kl (ksI M a0 12 ((kI M a0 12) + 1)) fun M2 =>
      kg (kt M2 w1 10) <|
      kg (kt M2 (kR M2 w1 1) 5) <| (F_X5_copyFrom N M2 (kR M2 w1 1) a1).bind fun M3 =>
      kg (kt M3 w1 10) <| kl (ksI M3 w1 2 x2) fun M4 =>
      kg (kt M4 w1 10) <| kl (ksI M4 w1 3 x3) fun M5 =>
      kg (kt M5 w1 10) <| kl (ksI M5 w1 4 x4) fun M6 =>
      kg (kt M6 w1 10 && ((1 : Int32) == 0 || (1 : Int32) == 1)) <| kl (ksI M6 w1 5 1) fun M7 =>
      kg (kt M7 w1 10) <| kl (ksI M7 w1 6 (-1)) fun M8 =>
      kg (kt M8 w1 10) <| kl (ksI M8 w1 7 0) fun M9 =>
      kg (kt M9 a0 4) <|
      kg (kt M9 a0 4) <| kl (ksI M9 a0 7 ((kI M9 a0 7) + x3)) fun M10 =>
      kg (kt M10 w1 10) <|
      some (kI M10 w1 0, M10)) else
    some ((-1), M)
set_option maxRecDepth 100000 in
set_option maxHeartbeats 4000000 in
theorem k_X4_admit (l : Launch) (g : kG) (N : Nat) (M : kMem) (a0 : Nat) (a1 : Nat) (x2 : Int32) (x3 : Int32) (x4 : Int32) : kMet l g yX4_admit cX4_admit 6 (some .int) 2 0 0 [.ref a0, .ref a1, .int x2, .int x3, .int x4] M (fun r : Int32 × kMem => (some (.int r.1), r.2)) (F_X4_admit N M a0 a1 x2 x3 x4) := by
  refine k_of (lv := [(0, .ref a0), (1, .ref a1), (2, .int x2), (3, .int x3), (4, .int x4)]) RX4 (by decide) rfl rfl (Nat.le_of_ble_eq_true rfl) ?_
  intro p e s m args below meth c hX hr _
  unfold F_X4_admit
  refine g_aload_n 1 0 hX dX4_admit_0 rfl rfl ?_
  refine r_X4_50 4 hX dX4_admit_1 rfl ?_
  refine g_aload_n 5 0 hX dX4_admit_4 rfl rfl ?_
  refine r_X4_19 8 hX dX4_admit_5 rfl ?_
  refine g_alenR 17 4 9 hX RX10 (Nat.le_of_ble_eq_true rfl) rfl dX4_admit_8 rfl ?_
  refine g_icmp_lt 14 12 hX dX4_admit_9 (by decide) rfl (fun _ => ?_) (fun _ => ?_)
  · refine g_aload_n 15 0 hX dX4_admit_14 rfl rfl ?_
    refine r_X4_19 18 hX dX4_admit_15 rfl ?_
    refine g_aload_n 19 0 hX dX4_admit_18 rfl rfl ?_
    refine r_X4_50 22 hX dX4_admit_19 rfl ?_
    refine g_aald 17 4 23 hX RX10 (Nat.le_of_ble_eq_true rfl) rfl dX4_admit_22 rfl ?_
    refine g_klR (fun w1 hw1 => ?_)
    refine g_astore 25 5 [(5, .ref w1), (0, .ref a0), (1, .ref a1), (2, .int x2), (3, .int x3), (4, .int x4)] hX dX4_admit_23 rfl (Nat.le_of_ble_eq_true rfl) rfl ?_
    refine g_aload_n 26 1 hX dX4_admit_25 rfl rfl ?_
    refine g_dup 27 hX dX4_admit_26 rfl rfl ?_
    refine r_X4_50 30 hX dX4_admit_27 rfl ?_
    refine g_iconst 31 hX 1 dX4_admit_30 rfl kc_i_1 ?_
    refine g_iadd 32 hX dX4_admit_31 rfl ?_
    refine p_X4_50 35 hX dX4_admit_32 rfl ?_
    refine g_klM (fun M2 hM2 => ?_)
    refine g_aload 37 0 hX dX4_admit_35 rfl rfl ?_
    refine r_X4_87 40 hX dX4_admit_37 rfl ?_
    refine g_aload_n 41 2 hX dX4_admit_40 rfl rfl ?_
    refine g_callV_v 44 hX (k_X5_copyFrom l g N M2 (kR M2 w1 1) a1) lk_X5_copyFrom rfl (ci := 5) rfl (Nat.le_of_ble_eq_true rfl) q_695 q_697 (by omega) rfl (Nat.le_of_ble_eq_true rfl) (Nat.zero_le _) (Nat.zero_le _) dX4_admit_41 rfl (fun M3 => ?_)
    refine g_aload 46 0 hX dX4_admit_44 rfl rfl ?_
    refine g_iload_n 47 3 hX dX4_admit_46 rfl rfl ?_
    refine p_X4_108 50 hX dX4_admit_47 rfl ?_
    refine g_klM (fun M4 hM4 => ?_)
    refine g_aload 52 0 hX dX4_admit_50 rfl rfl ?_
    refine g_iload_n 53 4 hX dX4_admit_52 rfl rfl ?_
    refine p_X4_111 56 hX dX4_admit_53 rfl ?_
    refine g_klM (fun M5 hM5 => ?_)
    refine g_aload 58 0 hX dX4_admit_56 rfl rfl ?_
    refine g_iload 60 5 hX dX4_admit_58 rfl rfl ?_
    refine p_X4_114 63 hX dX4_admit_60 rfl ?_
    refine g_klM (fun M6 hM6 => ?_)
    refine g_aload 65 0 hX dX4_admit_63 rfl rfl ?_
    refine g_iconst 66 hX 1 dX4_admit_65 rfl kc_i_1 ?_
    refine p_X4_117 69 hX dX4_admit_66 rfl ?_
    refine g_klM (fun M7 hM7 => ?_)
    refine g_aload 71 0 hX dX4_admit_69 rfl rfl ?_
    refine g_iconst 72 hX (-1) dX4_admit_71 rfl kc_i_m1 ?_
    refine p_X4_121 75 hX dX4_admit_72 rfl ?_
    refine g_klM (fun M8 hM8 => ?_)
    refine g_aload 77 0 hX dX4_admit_75 rfl rfl ?_
    refine g_iconst 78 hX 0 dX4_admit_77 rfl kc_i_0 ?_
    refine p_X4_124 81 hX dX4_admit_78 rfl ?_
    refine g_klM (fun M9 hM9 => ?_)
    refine g_aload_n 82 1 hX dX4_admit_81 rfl rfl ?_
    refine g_dup 83 hX dX4_admit_82 rfl rfl ?_
    refine r_X4_74 86 hX dX4_admit_83 rfl ?_
    refine g_iload_n 87 4 hX dX4_admit_86 rfl rfl ?_
    refine g_iadd 88 hX dX4_admit_87 rfl ?_
    refine p_X4_74 91 hX dX4_admit_88 rfl ?_
    refine g_klM (fun M10 hM10 => ?_)
    refine g_aload 93 0 hX dX4_admit_91 rfl rfl ?_
    refine r_X4_127 96 hX dX4_admit_93 rfl ?_
    exact g_iret hX hr rfl (Nat.le_refl 0) (Nat.le_refl 0) dX4_admit_96
  · refine g_iconst 13 hX (-1) dX4_admit_12 rfl kc_i_m1 ?_
    exact g_iret hX hr rfl (Nat.le_refl 0) (Nat.le_refl 0) dX4_admit_13
def F_X4_torqueOn_4 (N : Nat) (M : kMem) : Nat → Nat → Nat → Int32 → Int32 → Option (Int32)
  | 0, _, _, _, _ => none
  | n + 1, a0, a1, x2, x3 =>
    kg (kt M a0 4) <|
    if x3 < (kI M a0 12) then (
      kg (kt M a0 4) <|
      kg (kin M (kR M a0 14) 17 x3) <|
      kl (kR M (kR M a0 14) (kx x3)) fun w1 =>
      kg (kt M w1 10) <|
      kg (kt M a1 0) <|
      if (kI M w1 6) = (kI M a1 0) then (
        kg (kt M w1 10) <|
        kg (kt M w1 10) <|
        kl (x2 + ((kI M w1 7) * (kI M w1 2))) fun v3 =>
        kl (x3 + 1) fun v4 =>
        F_X4_torqueOn_4 N M n a0 a1 v3 v4) else
      kl (x3 + 1) fun v2 =>
      F_X4_torqueOn_4 N M n a0 a1 x2 v2) else
    some x2
def F_X4_torqueOn (N : Nat) (M : kMem) (a0 : Nat) (a1 : Nat) : Option (Int32) :=
    F_X4_torqueOn_4 N M N a0 a1 0 0
set_option maxRecDepth 100000 in
set_option maxHeartbeats 4000000 in
theorem k_X4_torqueOn_4 {p : Program} {l : Launch} {e : Env} {s : State} {m : MethodId} {args : Array Value} {below : List Frame} {meth : Method} {c : Code} {g : kG} (hX : Cok (p, l, e, { frames := 2 * 1, cells := 0, slots := 0, locals := 60 * 1 }, s, m, args, below, meth, c, cX4_torqueOn, 5, RX4, g, 1)) (hr : meth.sig.returnType = (some .int)) (N : Nat) (M : kMem) : ∀ (n : Nat) (a0 : Nat) (a1 : Nat) (x2 : Int32) (x3 : Int32), GG (p, l, e, { frames := 2 * 1, cells := 0, slots := 0, locals := 60 * 1 }, s, m, args, below, meth, c, cX4_torqueOn, 5, RX4, g, 1) (fun b => MQ below (kQ g ((fun r : Int32 => (some (.int r), M)) b)) args s 0 0 (kZ g.2.2.1)) 0 0 (F_X4_torqueOn_4 N M n a0 a1 x2 x3) 4 [(0, .ref a0), (1, .ref a1), (2, .int x2), (3, .int x3)] [] M := by
  intro n
  induction n with
  | zero => intro _ _ _ _; exact g_none
  | succ n ih =>
    intro a0 a1 x2 x3
    unfold F_X4_torqueOn_4
    refine g_iload_n 5 3 hX dX4_torqueOn_4 rfl rfl ?_
    refine g_aload_n 6 0 hX dX4_torqueOn_5 rfl rfl ?_
    refine r_X4_50 9 hX dX4_torqueOn_6 rfl ?_
    refine g_icmp_ge 52 12 hX dX4_torqueOn_9 (by decide) rfl (fun _ => ?_) (fun _ => ?_)
    · refine g_iload_n 53 2 hX dX4_torqueOn_52 rfl rfl ?_
      exact g_iret hX hr rfl (Nat.le_refl 0) (Nat.le_refl 0) dX4_torqueOn_53
    · refine g_aload_n 13 0 hX dX4_torqueOn_12 rfl rfl ?_
      refine r_X4_19 16 hX dX4_torqueOn_13 rfl ?_
      refine g_iload_n 17 3 hX dX4_torqueOn_16 rfl rfl ?_
      refine g_aald 17 4 18 hX RX10 (Nat.le_of_ble_eq_true rfl) rfl dX4_torqueOn_17 rfl ?_
      refine g_klR (fun w1 hw1 => ?_)
      refine g_astore 20 4 [(4, .ref w1), (0, .ref a0), (1, .ref a1), (2, .int x2), (3, .int x3)] hX dX4_torqueOn_18 rfl (Nat.le_of_ble_eq_true rfl) rfl ?_
      refine g_aload 22 0 hX dX4_torqueOn_20 rfl rfl ?_
      refine r_X4_121 25 hX dX4_torqueOn_22 rfl ?_
      refine g_aload_n 26 2 hX dX4_torqueOn_25 rfl rfl ?_
      refine r_X4_130 29 hX dX4_torqueOn_26 rfl ?_
      refine g_icmp_ne 46 32 hX dX4_torqueOn_29 (by decide) rfl (fun _ => ?_) (fun _ => ?_)
      · refine g_kl (fun v2 hv2 => ?_)
        refine g_iinc 49 3 4 v2 [(3, .int v2), (4, .ref w1), (0, .ref a0), (1, .ref a1), (2, .int x2)] hX dX4_torqueOn_46 rfl rfl (by rw [hv2, kc_i_1]) (Nat.le_of_ble_eq_true rfl) rfl ?_
        refine g_goto 4 hX dX4_torqueOn_49 (by decide) ?_
        refine g_lv [2, 3, 4, 0] rfl ?_
        exact ih a0 a1 x2 v2
      · refine g_iload_n 33 3 hX dX4_torqueOn_32 rfl rfl ?_
        refine g_aload 35 0 hX dX4_torqueOn_33 rfl rfl ?_
        refine r_X4_124 38 hX dX4_torqueOn_35 rfl ?_
        refine g_aload 40 0 hX dX4_torqueOn_38 rfl rfl ?_
        refine r_X4_108 43 hX dX4_torqueOn_40 rfl ?_
        refine g_imul 44 hX dX4_torqueOn_43 rfl ?_
        refine g_iadd 45 hX dX4_torqueOn_44 rfl ?_
        refine g_klI (fun v3 hv3 => ?_)
        refine g_istore_n 46 2 [(2, .int v3), (4, .ref w1), (0, .ref a0), (1, .ref a1), (3, .int x3)] hX dX4_torqueOn_45 rfl rfl (Nat.le_of_ble_eq_true rfl) rfl ?_
        refine g_kl (fun v4 hv4 => ?_)
        refine g_iinc 49 3 4 v4 [(3, .int v4), (2, .int v3), (4, .ref w1), (0, .ref a0), (1, .ref a1)] hX dX4_torqueOn_46 rfl rfl (by rw [hv4, kc_i_1]) (Nat.le_of_ble_eq_true rfl) rfl ?_
        refine g_goto 4 hX dX4_torqueOn_49 (by decide) ?_
        refine g_lv [3, 4, 1, 0] rfl ?_
        exact ih a0 a1 v3 v4
set_option maxRecDepth 100000 in
set_option maxHeartbeats 4000000 in
theorem k_X4_torqueOn (l : Launch) (g : kG) (N : Nat) (M : kMem) (a0 : Nat) (a1 : Nat) : kMet l g yX4_torqueOn cX4_torqueOn 5 (some .int) 1 0 0 [.ref a0, .ref a1] M (fun r : Int32 => (some (.int r), M)) (F_X4_torqueOn N M a0 a1) := by
  refine k_of (lv := [(0, .ref a0), (1, .ref a1)]) RX4 (by decide) rfl rfl (Nat.le_of_ble_eq_true rfl) ?_
  intro p e s m args below meth c hX hr _
  unfold F_X4_torqueOn
  refine g_iconst 1 hX 0 dX4_torqueOn_0 rfl kc_i_0 ?_
  refine g_istore_n 2 2 [(2, .int 0), (0, .ref a0), (1, .ref a1)] hX dX4_torqueOn_1 rfl rfl (Nat.le_of_ble_eq_true rfl) rfl ?_
  refine g_iconst 3 hX 0 dX4_torqueOn_2 rfl kc_i_0 ?_
  refine g_istore_n 4 3 [(3, .int 0), (2, .int 0), (0, .ref a0), (1, .ref a1)] hX dX4_torqueOn_3 rfl rfl (Nat.le_of_ble_eq_true rfl) rfl ?_
  refine g_lv [2, 3, 1, 0] rfl ?_
  exact k_X4_torqueOn_4 hX hr N M N a0 a1 0 0
def F_X4_heightOn (N : Nat) (M : kMem) (a0 : Nat) (a1 : Nat) (x2 : Int32) : Option (Int32) :=
    kg (kt M a0 4) <| (F_X4_torqueOn N M a0 a1).bind fun r1 =>
    kg (kt M a1 0) <| (F_X0_tiltUnder N M a1 r1).bind fun r2 =>
    some ((-x2) * r2)
set_option maxRecDepth 100000 in
set_option maxHeartbeats 4000000 in
theorem k_X4_heightOn (l : Launch) (g : kG) (N : Nat) (M : kMem) (a0 : Nat) (a1 : Nat) (x2 : Int32) : kMet l g yX4_heightOn cX4_heightOn 3 (some .int) 2 0 0 [.ref a0, .ref a1, .int x2] M (fun r : Int32 => (some (.int r), M)) (F_X4_heightOn N M a0 a1 x2) := by
  refine k_of (lv := [(0, .ref a0), (1, .ref a1), (2, .int x2)]) RX4 (by decide) rfl rfl (Nat.le_of_ble_eq_true rfl) ?_
  intro p e s m args below meth c hX hr _
  unfold F_X4_heightOn
  refine g_iload_n 1 2 hX dX4_heightOn_0 rfl rfl ?_
  refine g_ineg 2 hX dX4_heightOn_1 rfl ?_
  refine g_aload_n 3 1 hX dX4_heightOn_2 rfl rfl ?_
  refine g_aload_n 4 0 hX dX4_heightOn_3 rfl rfl ?_
  refine g_aload_n 5 1 hX dX4_heightOn_4 rfl rfl ?_
  refine g_callV_ip 8 hX (k_X4_torqueOn l g N M a0 a1) lk_X4_torqueOn rfl (ci := 4) rfl (Nat.le_of_ble_eq_true rfl) q_919 q_921 (by omega) rfl (Nat.le_of_ble_eq_true rfl) (Nat.zero_le _) (Nat.zero_le _) dX4_heightOn_5 rfl (fun r1 => ?_)
  refine g_callV_ip 11 hX (k_X0_tiltUnder l g N M a1 r1) lk_X0_tiltUnder rfl (ci := 0) rfl (Nat.le_of_ble_eq_true rfl) q_923 q_925 (by omega) rfl (Nat.le_of_ble_eq_true rfl) (Nat.zero_le _) (Nat.zero_le _) dX4_heightOn_8 rfl (fun r2 => ?_)
  refine g_imul 12 hX dX4_heightOn_11 rfl ?_
  exact g_iret hX hr rfl (Nat.le_refl 0) (Nat.le_refl 0) dX4_heightOn_12
def F_X4_priceOn (N : Nat) (M : kMem) (a0 : Nat) (a1 : Nat) (x2 : Int32) : Option (Int32) :=
    kg (kt M a0 4) <|
    kg (kt M a0 4) <| (F_X4_heightOn N M a0 a1 x2).bind fun r1 =>
    some (((kI M a0 3) + (kabs x2)) + (kmax 0 r1))
set_option maxRecDepth 100000 in
set_option maxHeartbeats 4000000 in
theorem k_X4_priceOn (l : Launch) (g : kG) (N : Nat) (M : kMem) (a0 : Nat) (a1 : Nat) (x2 : Int32) : kMet l g yX4_priceOn cX4_priceOn 3 (some .int) 3 0 0 [.ref a0, .ref a1, .int x2] M (fun r : Int32 => (some (.int r), M)) (F_X4_priceOn N M a0 a1 x2) := by
  refine k_of (lv := [(0, .ref a0), (1, .ref a1), (2, .int x2)]) RX4 (by decide) rfl rfl (Nat.le_of_ble_eq_true rfl) ?_
  intro p e s m args below meth c hX hr _
  unfold F_X4_priceOn
  refine g_aload_n 1 0 hX dX4_priceOn_0 rfl rfl ?_
  refine r_X4_62 4 hX dX4_priceOn_1 rfl ?_
  refine g_iload_n 5 2 hX dX4_priceOn_4 rfl rfl ?_
  refine g_mabs (y := 0) 8 hX q_912 dX4_priceOn_5 rfl (Nat.le_of_ble_eq_true rfl) (by decide) (Nat.zero_le _) (Nat.zero_le _) ?_
  refine g_iadd 9 hX dX4_priceOn_8 rfl ?_
  refine g_iconst 10 hX 0 dX4_priceOn_9 rfl kc_i_0 ?_
  refine g_aload_n 11 0 hX dX4_priceOn_10 rfl rfl ?_
  refine g_aload_n 12 1 hX dX4_priceOn_11 rfl rfl ?_
  refine g_iload_n 13 2 hX dX4_priceOn_12 rfl rfl ?_
  refine g_callV_ip 16 hX (k_X4_heightOn l g N M a0 a1 x2) lk_X4_heightOn rfl (ci := 4) rfl (Nat.le_of_ble_eq_true rfl) q_915 q_917 (by omega) rfl (Nat.le_of_ble_eq_true rfl) (Nat.zero_le _) (Nat.zero_le _) dX4_priceOn_13 rfl (fun r1 => ?_)
  refine g_mmax 19 hX q_931 dX4_priceOn_16 rfl (Nat.le_of_ble_eq_true rfl) (by decide) (Nat.zero_le _) (Nat.zero_le _) ?_
  refine g_iadd 20 hX dX4_priceOn_19 rfl ?_
  exact g_iret hX hr rfl (Nat.le_refl 0) (Nat.le_refl 0) dX4_priceOn_20
def F_X4_heightUnder (N : Nat) (M : kMem) (a0 : Nat) (a1 : Nat) : Option (Int32) :=
    kg (kt M a1 10) <|
    kg (kt M a0 4) <| (F_X4_boardNumbered N M a0 (kI M a1 6)).bind fun r1 =>
    if r1 = 0 then (
      some 0) else
    kg (kt M a1 10) <|
    kg (kt M a0 4) <| (F_X4_torqueOn N M a0 r1).bind fun r2 =>
    kg (kt M r1 0) <| (F_X0_tiltUnder N M r1 r2).bind fun r3 =>
    some ((-(kI M a1 7)) * r3)
set_option maxRecDepth 100000 in
set_option maxHeartbeats 4000000 in
theorem k_X4_heightUnder (l : Launch) (g : kG) (N : Nat) (M : kMem) (a0 : Nat) (a1 : Nat) : kMet l g yX4_heightUnder cX4_heightUnder 3 (some .int) 2 0 0 [.ref a0, .ref a1] M (fun r : Int32 => (some (.int r), M)) (F_X4_heightUnder N M a0 a1) := by
  refine k_of (lv := [(0, .ref a0), (1, .ref a1)]) RX4 (by decide) rfl rfl (Nat.le_of_ble_eq_true rfl) ?_
  intro p e s m args below meth c hX hr _
  unfold F_X4_heightUnder
  refine g_aload_n 1 0 hX dX4_heightUnder_0 rfl rfl ?_
  refine g_aload_n 2 1 hX dX4_heightUnder_1 rfl rfl ?_
  refine r_X4_121 5 hX dX4_heightUnder_2 rfl ?_
  refine g_callV_rp 8 hX (k_X4_boardNumbered l g N M a0 (kI M a1 6)) lk_X4_boardNumbered rfl (ci := 4) rfl (Nat.le_of_ble_eq_true rfl) q_949 q_713 (by omega) rfl (Nat.le_of_ble_eq_true rfl) (Nat.zero_le _) (Nat.zero_le _) dX4_heightUnder_5 rfl (fun r1 => ?_)
  refine g_astore_n 9 2 [(2, .ref r1), (0, .ref a0), (1, .ref a1)] hX dX4_heightUnder_8 rfl rfl (Nat.le_of_ble_eq_true rfl) rfl ?_
  refine g_aload_n 10 0 hX dX4_heightUnder_9 rfl rfl ?_
  refine g_ifnonnull 17 13 hX dX4_heightUnder_10 (by decide) rfl (fun _ => ?_) (fun _ => ?_)
  · refine g_aload_n 18 2 hX dX4_heightUnder_17 rfl rfl ?_
    refine r_X4_124 21 hX dX4_heightUnder_18 rfl ?_
    refine g_ineg 22 hX dX4_heightUnder_21 rfl ?_
    refine g_aload_n 23 0 hX dX4_heightUnder_22 rfl rfl ?_
    refine g_aload_n 24 1 hX dX4_heightUnder_23 rfl rfl ?_
    refine g_aload_n 25 0 hX dX4_heightUnder_24 rfl rfl ?_
    refine g_callV_ip 28 hX (k_X4_torqueOn l g N M a0 r1) lk_X4_torqueOn rfl (ci := 4) rfl (Nat.le_of_ble_eq_true rfl) q_919 q_921 (by omega) rfl (Nat.le_of_ble_eq_true rfl) (Nat.zero_le _) (Nat.zero_le _) dX4_heightUnder_25 rfl (fun r2 => ?_)
    refine g_callV_ip 31 hX (k_X0_tiltUnder l g N M r1 r2) lk_X0_tiltUnder rfl (ci := 0) rfl (Nat.le_of_ble_eq_true rfl) q_923 q_925 (by omega) rfl (Nat.le_of_ble_eq_true rfl) (Nat.zero_le _) (Nat.zero_le _) dX4_heightUnder_28 rfl (fun r3 => ?_)
    refine g_imul 32 hX dX4_heightUnder_31 rfl ?_
    exact g_iret hX hr rfl (Nat.le_refl 0) (Nat.le_refl 0) dX4_heightUnder_32
  · refine g_iconst 14 hX 0 dX4_heightUnder_13 rfl kc_i_0 ?_
    refine g_goto 32 hX dX4_heightUnder_14 (by decide) ?_
    exact g_iret hX hr rfl (Nat.le_refl 0) (Nat.le_refl 0) dX4_heightUnder_32
def F_X4_incomeFor (N : Nat) (M : kMem) (a0 : Nat) (a1 : Nat) : Option (Int32) :=
    kg (kt M a1 10) <| (F_X10_isSeated N M a1).bind fun r1 =>
    if r1 = 0 then (
      some 0) else
    kg (kt M a0 4) <|
    kg (kt M a0 4) <| (F_X4_heightUnder N M a0 a1).bind fun r2 =>
    some ((kI M a0 2) + r2)
set_option maxRecDepth 100000 in
set_option maxHeartbeats 4000000 in
theorem k_X4_incomeFor (l : Launch) (g : kG) (N : Nat) (M : kMem) (a0 : Nat) (a1 : Nat) : kMet l g yX4_incomeFor cX4_incomeFor 2 (some .int) 3 0 0 [.ref a0, .ref a1] M (fun r : Int32 => (some (.int r), M)) (F_X4_incomeFor N M a0 a1) := by
  refine k_of (lv := [(0, .ref a0), (1, .ref a1)]) RX4 (by decide) rfl rfl (Nat.le_of_ble_eq_true rfl) ?_
  intro p e s m args below meth c hX hr _
  unfold F_X4_incomeFor
  refine g_aload_n 1 1 hX dX4_incomeFor_0 rfl rfl ?_
  refine g_callV_ip 4 hX (k_X10_isSeated l g N M a1) lk_X10_isSeated rfl (ci := 10) rfl (Nat.le_of_ble_eq_true rfl) q_964 q_709 (by omega) rfl (Nat.le_of_ble_eq_true rfl) (Nat.zero_le _) (Nat.zero_le _) dX4_incomeFor_1 rfl (fun r1 => ?_)
  refine g_if_eq 20 7 hX dX4_incomeFor_4 (by decide) rfl (fun _ => ?_) (fun _ => ?_)
  · refine g_iconst 21 hX 0 dX4_incomeFor_20 rfl kc_i_0 ?_
    exact g_iret hX hr rfl (Nat.le_refl 0) (Nat.le_refl 0) dX4_incomeFor_21
  · refine g_aload_n 8 0 hX dX4_incomeFor_7 rfl rfl ?_
    refine r_X4_59 11 hX dX4_incomeFor_8 rfl ?_
    refine g_aload_n 12 0 hX dX4_incomeFor_11 rfl rfl ?_
    refine g_aload_n 13 1 hX dX4_incomeFor_12 rfl rfl ?_
    refine g_callV_ip 16 hX (k_X4_heightUnder l g N M a0 a1) lk_X4_heightUnder rfl (ci := 4) rfl (Nat.le_of_ble_eq_true rfl) q_969 q_19 (by omega) rfl (Nat.le_of_ble_eq_true rfl) (Nat.zero_le _) (Nat.zero_le _) dX4_incomeFor_13 rfl (fun r2 => ?_)
    refine g_iadd 17 hX dX4_incomeFor_16 rfl ?_
    refine g_goto 21 hX dX4_incomeFor_17 (by decide) ?_
    exact g_iret hX hr rfl (Nat.le_refl 0) (Nat.le_refl 0) dX4_incomeFor_21
def F_X4_unitPrice (N : Nat) (M : kMem) (a0 : Nat) (a1 : Nat) (a2 : Nat) : Option (Int32) :=
    kg (kt M a0 4) <|
    kg (kt M a0 4) <| (F_X4_heightUnder N M a0 a2).bind fun r1 =>
    kg (kt M a0 4) <| (F_X4_heightUnder N M a0 a1).bind fun r2 =>
    some (kmax 1 (((kI M a0 4) + r1) - r2))
set_option maxRecDepth 100000 in
set_option maxHeartbeats 4000000 in
theorem k_X4_unitPrice (l : Launch) (g : kG) (N : Nat) (M : kMem) (a0 : Nat) (a1 : Nat) (a2 : Nat) : kMet l g yX4_unitPrice cX4_unitPrice 3 (some .int) 3 0 0 [.ref a0, .ref a1, .ref a2] M (fun r : Int32 => (some (.int r), M)) (F_X4_unitPrice N M a0 a1 a2) := by
  refine k_of (lv := [(0, .ref a0), (1, .ref a1), (2, .ref a2)]) RX4 (by decide) rfl rfl (Nat.le_of_ble_eq_true rfl) ?_
  intro p e s m args below meth c hX hr _
  unfold F_X4_unitPrice
  refine g_iconst 1 hX 1 dX4_unitPrice_0 rfl kc_i_1 ?_
  refine g_aload_n 2 0 hX dX4_unitPrice_1 rfl rfl ?_
  refine r_X4_65 5 hX dX4_unitPrice_2 rfl ?_
  refine g_aload_n 6 0 hX dX4_unitPrice_5 rfl rfl ?_
  refine g_aload_n 7 2 hX dX4_unitPrice_6 rfl rfl ?_
  refine g_callV_ip 10 hX (k_X4_heightUnder l g N M a0 a2) lk_X4_heightUnder rfl (ci := 4) rfl (Nat.le_of_ble_eq_true rfl) q_969 q_19 (by omega) rfl (Nat.le_of_ble_eq_true rfl) (Nat.zero_le _) (Nat.zero_le _) dX4_unitPrice_7 rfl (fun r1 => ?_)
  refine g_iadd 11 hX dX4_unitPrice_10 rfl ?_
  refine g_aload_n 12 0 hX dX4_unitPrice_11 rfl rfl ?_
  refine g_aload_n 13 1 hX dX4_unitPrice_12 rfl rfl ?_
  refine g_callV_ip 16 hX (k_X4_heightUnder l g N M a0 a1) lk_X4_heightUnder rfl (ci := 4) rfl (Nat.le_of_ble_eq_true rfl) q_969 q_19 (by omega) rfl (Nat.le_of_ble_eq_true rfl) (Nat.zero_le _) (Nat.zero_le _) dX4_unitPrice_13 rfl (fun r2 => ?_)
  refine g_isub 17 hX dX4_unitPrice_16 rfl ?_
  refine g_mmax 20 hX q_931 dX4_unitPrice_17 rfl (Nat.le_of_ble_eq_true rfl) (by decide) (Nat.zero_le _) (Nat.zero_le _) ?_
  exact g_iret hX hr rfl (Nat.le_refl 0) (Nat.le_refl 0) dX4_unitPrice_20
def F_X4_mostBalancingSeat_19 (N : Nat) (M : kMem) : Nat → Nat → Int32 → Int32 → Int32 → Int32 → Int32 → Option (Int32)
  | 0, _, _, _, _, _, _ => none
  | n + 1, a1, x2, x3, x4, x5, x6 =>
    kg (kt M a1 0) <|
    if (kI M a1 1) < x6 then (
      some x4) else
    kl (kabs (x3 + (x6 * x2))) fun v3 =>
    kg (kt M a1 0) <| (F_X0_isFree N M a1 x6).bind fun r4 =>
    if r4 = 0 then (
      kl (x6 + 1) fun v5 =>
      F_X4_mostBalancingSeat_19 N M n a1 x2 x3 x4 x5 v5) else
    if x4 = 0 then (
      kl (x6 + 1) fun v6 =>
      F_X4_mostBalancingSeat_19 N M n a1 x2 x3 x6 v3 v6) else
    if v3 < x5 then (
      kl (x6 + 1) fun v8 =>
      F_X4_mostBalancingSeat_19 N M n a1 x2 x3 x6 v3 v8) else
    kl (x6 + 1) fun v7 =>
    F_X4_mostBalancingSeat_19 N M n a1 x2 x3 x4 x5 v7
def F_X4_mostBalancingSeat (N : Nat) (M : kMem) (a0 : Nat) (a1 : Nat) (x2 : Int32) : Option (Int32) :=
    kg (kt M a0 4) <| (F_X4_torqueOn N M a0 a1).bind fun r1 =>
    kg (kt M a1 0) <|
    kl (-(kI M a1 1)) fun v2 =>
    F_X4_mostBalancingSeat_19 N M N a1 x2 r1 0 0 v2
set_option maxRecDepth 100000 in
set_option maxHeartbeats 4000000 in
theorem k_X4_mostBalancingSeat_19 {p : Program} {l : Launch} {e : Env} {s : State} {m : MethodId} {args : Array Value} {below : List Frame} {meth : Method} {c : Code} {g : kG} (hX : Cok (p, l, e, { frames := 2 * 3, cells := 0, slots := 0, locals := 60 * 3 }, s, m, args, below, meth, c, cX4_mostBalancingSeat, 8, RX4, g, 3)) (hr : meth.sig.returnType = (some .int)) (N : Nat) (M : kMem) : ∀ (n : Nat) (a1 : Nat) (x2 : Int32) (x3 : Int32) (x4 : Int32) (x5 : Int32) (x6 : Int32), GG (p, l, e, { frames := 2 * 3, cells := 0, slots := 0, locals := 60 * 3 }, s, m, args, below, meth, c, cX4_mostBalancingSeat, 8, RX4, g, 3) (fun b => MQ below (kQ g ((fun r : Int32 => (some (.int r), M)) b)) args s 0 0 (kZ g.2.2.1)) 0 0 (F_X4_mostBalancingSeat_19 N M n a1 x2 x3 x4 x5 x6) 19 [(1, .ref a1), (2, .int x2), (3, .int x3), (4, .int x4), (5, .int x5), (6, .int x6)] [] M := by
  intro n
  induction n with
  | zero => intro _ _ _ _ _ _; exact g_none
  | succ n ih =>
    intro a1 x2 x3 x4 x5 x6
    unfold F_X4_mostBalancingSeat_19
    refine g_iload 21 5 hX dX4_mostBalancingSeat_19 rfl rfl ?_
    refine g_aload_n 22 0 hX dX4_mostBalancingSeat_21 rfl rfl ?_
    refine r_X4_164 25 hX dX4_mostBalancingSeat_22 rfl ?_
    refine g_icmp_gt 74 28 hX dX4_mostBalancingSeat_25 (by decide) rfl (fun _ => ?_) (fun _ => ?_)
    · refine g_iload 76 3 hX dX4_mostBalancingSeat_74 rfl rfl ?_
      exact g_iret hX hr rfl (Nat.le_refl 0) (Nat.le_refl 0) dX4_mostBalancingSeat_76
    · refine g_iload_n 29 2 hX dX4_mostBalancingSeat_28 rfl rfl ?_
      refine g_iload 31 5 hX dX4_mostBalancingSeat_29 rfl rfl ?_
      refine g_iload_n 32 1 hX dX4_mostBalancingSeat_31 rfl rfl ?_
      refine g_imul 33 hX dX4_mostBalancingSeat_32 rfl ?_
      refine g_iadd 34 hX dX4_mostBalancingSeat_33 rfl ?_
      refine g_mabs (y := 0) 37 hX q_912 dX4_mostBalancingSeat_34 rfl (Nat.le_of_ble_eq_true rfl) (by decide) (Nat.zero_le _) (Nat.zero_le _) ?_
      refine g_klI (fun v3 hv3 => ?_)
      refine g_istore 39 7 [(7, .int v3), (1, .ref a1), (2, .int x2), (3, .int x3), (4, .int x4), (5, .int x5), (6, .int x6)] hX dX4_mostBalancingSeat_37 rfl (Nat.le_of_ble_eq_true rfl) rfl ?_
      refine g_aload_n 40 1 hX dX4_mostBalancingSeat_39 rfl rfl ?_
      refine g_iload 42 6 hX dX4_mostBalancingSeat_40 rfl rfl ?_
      refine g_callV_ip 45 hX (k_X0_isFree l g N M a1 x6) lk_X0_isFree rfl (ci := 0) rfl (Nat.le_of_ble_eq_true rfl) q_907 q_723 (by omega) rfl (Nat.le_of_ble_eq_true rfl) (Nat.zero_le _) (Nat.zero_le _) dX4_mostBalancingSeat_42 rfl (fun r4 => ?_)
      refine g_if_eq 68 48 hX dX4_mostBalancingSeat_45 (by decide) rfl (fun _ => ?_) (fun _ => ?_)
      · refine g_kl (fun v5 hv5 => ?_)
        refine g_iinc 71 6 6 v5 [(6, .int v5), (7, .int v3), (1, .ref a1), (2, .int x2), (3, .int x3), (4, .int x4), (5, .int x5)] hX dX4_mostBalancingSeat_68 rfl rfl (by rw [hv5, kc_i_1]) (Nat.le_of_ble_eq_true rfl) rfl ?_
        refine g_goto 19 hX dX4_mostBalancingSeat_71 (by decide) ?_
        refine g_lv [2, 3, 4, 5, 6, 0] rfl ?_
        exact ih a1 x2 x3 x4 x5 v5
      · refine g_iload 50 4 hX dX4_mostBalancingSeat_48 rfl rfl ?_
        refine g_if_eq 60 53 hX dX4_mostBalancingSeat_50 (by decide) rfl (fun _ => ?_) (fun _ => ?_)
        · refine g_iload 62 6 hX dX4_mostBalancingSeat_60 rfl rfl ?_
          refine g_istore 64 4 [(4, .int x6), (7, .int v3), (1, .ref a1), (2, .int x2), (3, .int x3), (5, .int x5), (6, .int x6)] hX dX4_mostBalancingSeat_62 rfl (Nat.le_of_ble_eq_true rfl) rfl ?_
          refine g_iload 66 1 hX dX4_mostBalancingSeat_64 rfl rfl ?_
          refine g_istore 68 5 [(5, .int v3), (4, .int x6), (7, .int v3), (1, .ref a1), (2, .int x2), (3, .int x3), (6, .int x6)] hX dX4_mostBalancingSeat_66 rfl (Nat.le_of_ble_eq_true rfl) rfl ?_
          refine g_kl (fun v6 hv6 => ?_)
          refine g_iinc 71 6 6 v6 [(6, .int v6), (5, .int v3), (4, .int x6), (7, .int v3), (1, .ref a1), (2, .int x2), (3, .int x3)] hX dX4_mostBalancingSeat_68 rfl rfl (by rw [hv6, kc_i_1]) (Nat.le_of_ble_eq_true rfl) rfl ?_
          refine g_goto 19 hX dX4_mostBalancingSeat_71 (by decide) ?_
          refine g_lv [4, 5, 6, 2, 1, 0] rfl ?_
          exact ih a1 x2 x3 x6 v3 v6
        · refine g_iload 55 0 hX dX4_mostBalancingSeat_53 rfl rfl ?_
          refine g_iload 57 5 hX dX4_mostBalancingSeat_55 rfl rfl ?_
          refine g_icmp_ge 68 60 hX dX4_mostBalancingSeat_57 (by decide) rfl (fun _ => ?_) (fun _ => ?_)
          · refine g_kl (fun v7 hv7 => ?_)
            refine g_iinc 71 6 6 v7 [(6, .int v7), (7, .int v3), (1, .ref a1), (2, .int x2), (3, .int x3), (4, .int x4), (5, .int x5)] hX dX4_mostBalancingSeat_68 rfl rfl (by rw [hv7, kc_i_1]) (Nat.le_of_ble_eq_true rfl) rfl ?_
            refine g_goto 19 hX dX4_mostBalancingSeat_71 (by decide) ?_
            refine g_lv [2, 3, 4, 5, 6, 0] rfl ?_
            exact ih a1 x2 x3 x4 x5 v7
          · refine g_iload 62 6 hX dX4_mostBalancingSeat_60 rfl rfl ?_
            refine g_istore 64 4 [(4, .int x6), (7, .int v3), (1, .ref a1), (2, .int x2), (3, .int x3), (5, .int x5), (6, .int x6)] hX dX4_mostBalancingSeat_62 rfl (Nat.le_of_ble_eq_true rfl) rfl ?_
            refine g_iload 66 1 hX dX4_mostBalancingSeat_64 rfl rfl ?_
            refine g_istore 68 5 [(5, .int v3), (4, .int x6), (7, .int v3), (1, .ref a1), (2, .int x2), (3, .int x3), (6, .int x6)] hX dX4_mostBalancingSeat_66 rfl (Nat.le_of_ble_eq_true rfl) rfl ?_
            refine g_kl (fun v8 hv8 => ?_)
            refine g_iinc 71 6 6 v8 [(6, .int v8), (5, .int v3), (4, .int x6), (7, .int v3), (1, .ref a1), (2, .int x2), (3, .int x3)] hX dX4_mostBalancingSeat_68 rfl rfl (by rw [hv8, kc_i_1]) (Nat.le_of_ble_eq_true rfl) rfl ?_
            refine g_goto 19 hX dX4_mostBalancingSeat_71 (by decide) ?_
            refine g_lv [4, 5, 6, 2, 1, 0] rfl ?_
            exact ih a1 x2 x3 x6 v3 v8
set_option maxRecDepth 100000 in
set_option maxHeartbeats 4000000 in
theorem k_X4_mostBalancingSeat (l : Launch) (g : kG) (N : Nat) (M : kMem) (a0 : Nat) (a1 : Nat) (x2 : Int32) : kMet l g yX4_mostBalancingSeat cX4_mostBalancingSeat 8 (some .int) 3 0 0 [.ref a0, .ref a1, .int x2] M (fun r : Int32 => (some (.int r), M)) (F_X4_mostBalancingSeat N M a0 a1 x2) := by
  refine k_of (lv := [(0, .ref a0), (1, .ref a1), (2, .int x2)]) RX4 (by decide) rfl rfl (Nat.le_of_ble_eq_true rfl) ?_
  intro p e s m args below meth c hX hr _
  unfold F_X4_mostBalancingSeat
  refine g_aload_n 1 0 hX dX4_mostBalancingSeat_0 rfl rfl ?_
  refine g_aload_n 2 1 hX dX4_mostBalancingSeat_1 rfl rfl ?_
  refine g_callV_ip 5 hX (k_X4_torqueOn l g N M a0 a1) lk_X4_torqueOn rfl (ci := 4) rfl (Nat.le_of_ble_eq_true rfl) q_919 q_921 (by omega) rfl (Nat.le_of_ble_eq_true rfl) (Nat.zero_le _) (Nat.zero_le _) dX4_mostBalancingSeat_2 rfl (fun r1 => ?_)
  refine g_istore_n 6 3 [(3, .int r1), (0, .ref a0), (1, .ref a1), (2, .int x2)] hX dX4_mostBalancingSeat_5 rfl rfl (Nat.le_of_ble_eq_true rfl) rfl ?_
  refine g_iconst 7 hX 0 dX4_mostBalancingSeat_6 rfl kc_i_0 ?_
  refine g_istore 9 4 [(4, .int 0), (3, .int r1), (0, .ref a0), (1, .ref a1), (2, .int x2)] hX dX4_mostBalancingSeat_7 rfl (Nat.le_of_ble_eq_true rfl) rfl ?_
  refine g_iconst 10 hX 0 dX4_mostBalancingSeat_9 rfl kc_i_0 ?_
  refine g_istore 12 5 [(5, .int 0), (4, .int 0), (3, .int r1), (0, .ref a0), (1, .ref a1), (2, .int x2)] hX dX4_mostBalancingSeat_10 rfl (Nat.le_of_ble_eq_true rfl) rfl ?_
  refine g_aload_n 13 4 hX dX4_mostBalancingSeat_12 rfl rfl ?_
  refine r_X4_164 16 hX dX4_mostBalancingSeat_13 rfl ?_
  refine g_ineg 17 hX dX4_mostBalancingSeat_16 rfl ?_
  refine g_klI (fun v2 hv2 => ?_)
  refine g_istore 19 6 [(6, .int v2), (5, .int 0), (4, .int 0), (3, .int r1), (0, .ref a0), (1, .ref a1), (2, .int x2)] hX dX4_mostBalancingSeat_17 rfl (Nat.le_of_ble_eq_true rfl) rfl ?_
  refine g_lv [5, 6, 3, 2, 1, 0] rfl ?_
  exact k_X4_mostBalancingSeat_19 hX hr N M N a1 x2 r1 0 0 v2
def F_X4_torqueAfterMove (N : Nat) (M : kMem) (a0 : Nat) (a1 : Nat) (a2 : Nat) (x3 : Int32) : Option (Int32) :=
    kg (kt M a0 4) <| (F_X4_torqueOn N M a0 a2).bind fun r1 =>
    kg (kt M a1 10) <|
    kl (r1 + (x3 * (kI M a1 2))) fun v2 =>
    kg (kt M a1 10) <|
    kg (kt M a2 0) <|
    if (kI M a1 6) = (kI M a2 0) then (
      kg (kt M a1 10) <|
      kg (kt M a1 10) <|
      some (v2 - ((kI M a1 7) * (kI M a1 2)))) else
    some v2
set_option maxRecDepth 100000 in
set_option maxHeartbeats 4000000 in
theorem k_X4_torqueAfterMove (l : Launch) (g : kG) (N : Nat) (M : kMem) (a0 : Nat) (a1 : Nat) (a2 : Nat) (x3 : Int32) : kMet l g yX4_torqueAfterMove cX4_torqueAfterMove 5 (some .int) 2 0 0 [.ref a0, .ref a1, .ref a2, .int x3] M (fun r : Int32 => (some (.int r), M)) (F_X4_torqueAfterMove N M a0 a1 a2 x3) := by
  refine k_of (lv := [(0, .ref a0), (1, .ref a1), (2, .ref a2), (3, .int x3)]) RX4 (by decide) rfl rfl (Nat.le_of_ble_eq_true rfl) ?_
  intro p e s m args below meth c hX hr _
  unfold F_X4_torqueAfterMove
  refine g_aload_n 1 0 hX dX4_torqueAfterMove_0 rfl rfl ?_
  refine g_aload_n 2 2 hX dX4_torqueAfterMove_1 rfl rfl ?_
  refine g_callV_ip 5 hX (k_X4_torqueOn l g N M a0 a2) lk_X4_torqueOn rfl (ci := 4) rfl (Nat.le_of_ble_eq_true rfl) q_919 q_921 (by omega) rfl (Nat.le_of_ble_eq_true rfl) (Nat.zero_le _) (Nat.zero_le _) dX4_torqueAfterMove_2 rfl (fun r1 => ?_)
  refine g_iload_n 6 3 hX dX4_torqueAfterMove_5 rfl rfl ?_
  refine g_aload_n 7 1 hX dX4_torqueAfterMove_6 rfl rfl ?_
  refine r_X4_108 10 hX dX4_torqueAfterMove_7 rfl ?_
  refine g_imul 11 hX dX4_torqueAfterMove_10 rfl ?_
  refine g_iadd 12 hX dX4_torqueAfterMove_11 rfl ?_
  refine g_klI (fun v2 hv2 => ?_)
  refine g_istore 14 4 [(4, .int v2), (0, .ref a0), (1, .ref a1), (2, .ref a2), (3, .int x3)] hX dX4_torqueAfterMove_12 rfl (Nat.le_of_ble_eq_true rfl) rfl ?_
  refine g_aload_n 15 2 hX dX4_torqueAfterMove_14 rfl rfl ?_
  refine r_X4_121 18 hX dX4_torqueAfterMove_15 rfl ?_
  refine g_aload_n 19 3 hX dX4_torqueAfterMove_18 rfl rfl ?_
  refine r_X4_130 22 hX dX4_torqueAfterMove_19 rfl ?_
  refine g_icmp_ne 40 25 hX dX4_torqueAfterMove_22 (by decide) rfl (fun _ => ?_) (fun _ => ?_)
  · refine g_iload 42 0 hX dX4_torqueAfterMove_40 rfl rfl ?_
    exact g_iret hX hr rfl (Nat.le_refl 0) (Nat.le_refl 0) dX4_torqueAfterMove_42
  · refine g_iload 27 0 hX dX4_torqueAfterMove_25 rfl rfl ?_
    refine g_aload_n 28 2 hX dX4_torqueAfterMove_27 rfl rfl ?_
    refine r_X4_124 31 hX dX4_torqueAfterMove_28 rfl ?_
    refine g_aload_n 32 2 hX dX4_torqueAfterMove_31 rfl rfl ?_
    refine r_X4_108 35 hX dX4_torqueAfterMove_32 rfl ?_
    refine g_imul 36 hX dX4_torqueAfterMove_35 rfl ?_
    refine g_isub 37 hX dX4_torqueAfterMove_36 rfl ?_
    refine g_goto 42 hX dX4_torqueAfterMove_37 (by decide) ?_
    exact g_iret hX hr rfl (Nat.le_refl 0) (Nat.le_refl 0) dX4_torqueAfterMove_42
def F_X4_whyNotSeat (N : Nat) (M : kMem) (a0 : Nat) (a1 : Nat) (a2 : Nat) (x3 : Int32) : Option (Int32) :=
    kg (kt M a1 10) <|
    if (kI M a1 5) = 0 then (
      some 1) else
    kg (kt M a2 0) <| (F_X0_isFree N M a2 x3).bind fun r1 =>
    if r1 = 0 then (
      some 2) else
    kg (kt M a1 10) <|
    kg (kt M a0 4) <| (F_X4_priceOn N M a0 a2 x3).bind fun r2 =>
    if (kI M a1 3) < r2 then (
      some 3) else
    kg (kt M a0 4) <| (F_X4_torqueAfterMove N M a0 a1 a2 x3).bind fun r3 =>
    kg (kt M a2 0) <| (F_X0_tipsUnder N M a2 r3).bind fun r4 =>
    if r4 = 0 then (
      some 0) else
    some 4
set_option maxRecDepth 100000 in
set_option maxHeartbeats 4000000 in
theorem k_X4_whyNotSeat (l : Launch) (g : kG) (N : Nat) (M : kMem) (a0 : Nat) (a1 : Nat) (a2 : Nat) (x3 : Int32) : kMet l g yX4_whyNotSeat cX4_whyNotSeat 4 (some .int) 4 0 0 [.ref a0, .ref a1, .ref a2, .int x3] M (fun r : Int32 => (some (.int r), M)) (F_X4_whyNotSeat N M a0 a1 a2 x3) := by
  refine k_of (lv := [(0, .ref a0), (1, .ref a1), (2, .ref a2), (3, .int x3)]) RX4 (by decide) rfl rfl (Nat.le_of_ble_eq_true rfl) ?_
  intro p e s m args below meth c hX hr _
  unfold F_X4_whyNotSeat
  refine g_aload_n 1 1 hX dX4_whyNotSeat_0 rfl rfl ?_
  refine r_X4_117 4 hX dX4_whyNotSeat_1 rfl ?_
  refine g_if_ne 9 7 hX dX4_whyNotSeat_4 (by decide) rfl (fun _ => ?_) (fun _ => ?_)
  · refine g_aload_n 10 2 hX dX4_whyNotSeat_9 rfl rfl ?_
    refine g_iload_n 11 3 hX dX4_whyNotSeat_10 rfl rfl ?_
    refine g_callV_ip 14 hX (k_X0_isFree l g N M a2 x3) lk_X0_isFree rfl (ci := 0) rfl (Nat.le_of_ble_eq_true rfl) q_907 q_723 (by omega) rfl (Nat.le_of_ble_eq_true rfl) (Nat.zero_le _) (Nat.zero_le _) dX4_whyNotSeat_11 rfl (fun r1 => ?_)
    refine g_if_ne 19 17 hX dX4_whyNotSeat_14 (by decide) rfl (fun _ => ?_) (fun _ => ?_)
    · refine g_aload_n 20 1 hX dX4_whyNotSeat_19 rfl rfl ?_
      refine r_X4_111 23 hX dX4_whyNotSeat_20 rfl ?_
      refine g_aload_n 24 0 hX dX4_whyNotSeat_23 rfl rfl ?_
      refine g_aload_n 25 2 hX dX4_whyNotSeat_24 rfl rfl ?_
      refine g_iload_n 26 3 hX dX4_whyNotSeat_25 rfl rfl ?_
      refine g_callV_ip 29 hX (k_X4_priceOn l g N M a0 a2 x3) lk_X4_priceOn rfl (ci := 4) rfl (Nat.le_of_ble_eq_true rfl) q_908 q_910 (by omega) rfl (Nat.le_of_ble_eq_true rfl) (Nat.zero_le _) (Nat.zero_le _) dX4_whyNotSeat_26 rfl (fun r2 => ?_)
      refine g_icmp_ge 34 32 hX dX4_whyNotSeat_29 (by decide) rfl (fun _ => ?_) (fun _ => ?_)
      · refine g_aload_n 35 2 hX dX4_whyNotSeat_34 rfl rfl ?_
        refine g_aload_n 36 0 hX dX4_whyNotSeat_35 rfl rfl ?_
        refine g_aload_n 37 1 hX dX4_whyNotSeat_36 rfl rfl ?_
        refine g_aload_n 38 2 hX dX4_whyNotSeat_37 rfl rfl ?_
        refine g_iload_n 39 3 hX dX4_whyNotSeat_38 rfl rfl ?_
        refine g_callV_ip 42 hX (k_X4_torqueAfterMove l g N M a0 a1 a2 x3) lk_X4_torqueAfterMove rfl (ci := 4) rfl (Nat.le_of_ble_eq_true rfl) q_932 q_17 (by omega) rfl (Nat.le_of_ble_eq_true rfl) (Nat.zero_le _) (Nat.zero_le _) dX4_whyNotSeat_39 rfl (fun r3 => ?_)
        refine g_callV_ip 45 hX (k_X0_tipsUnder l g N M a2 r3) lk_X0_tipsUnder rfl (ci := 0) rfl (Nat.le_of_ble_eq_true rfl) q_936 q_938 (by omega) rfl (Nat.le_of_ble_eq_true rfl) (Nat.zero_le _) (Nat.zero_le _) dX4_whyNotSeat_42 rfl (fun r4 => ?_)
        refine g_if_eq 52 48 hX dX4_whyNotSeat_45 (by decide) rfl (fun _ => ?_) (fun _ => ?_)
        · refine g_iconst 53 hX 0 dX4_whyNotSeat_52 rfl kc_i_0 ?_
          exact g_iret hX hr rfl (Nat.le_refl 0) (Nat.le_refl 0) dX4_whyNotSeat_53
        · refine g_iconst 49 hX 4 dX4_whyNotSeat_48 rfl kc_i_4 ?_
          refine g_goto 53 hX dX4_whyNotSeat_49 (by decide) ?_
          exact g_iret hX hr rfl (Nat.le_refl 0) (Nat.le_refl 0) dX4_whyNotSeat_53
      · refine g_iconst 33 hX 3 dX4_whyNotSeat_32 rfl kc_i_3 ?_
        exact g_iret hX hr rfl (Nat.le_refl 0) (Nat.le_refl 0) dX4_whyNotSeat_33
    · refine g_iconst 18 hX 2 dX4_whyNotSeat_17 rfl kc_i_2 ?_
      exact g_iret hX hr rfl (Nat.le_refl 0) (Nat.le_refl 0) dX4_whyNotSeat_18
  · refine g_iconst 8 hX 1 dX4_whyNotSeat_7 rfl kc_i_1 ?_
    exact g_iret hX hr rfl (Nat.le_refl 0) (Nat.le_refl 0) dX4_whyNotSeat_8
def F_X4_mostPayingSeat_12 (N : Nat) (M : kMem) : Nat → Nat → Nat → Nat → Int32 → Int32 → Int32 → Option (Int32)
  | 0, _, _, _, _, _, _ => none
  | n + 1, a0, a1, a2, x3, x4, x5 =>
    kg (kt M a2 0) <|
    if (kI M a2 1) < x5 then (
      some x3) else
    kg (kt M a0 4) <| (F_X4_torqueAfterMove N M a0 a1 a2 x5).bind fun r2 =>
    kg (kt M a2 0) <| (F_X0_tiltUnder N M a2 r2).bind fun r3 =>
    kl ((-x5) * r3) fun v4 =>
    kg (kt M a2 0) <| (F_X0_isFree N M a2 x5).bind fun r5 =>
    if r5 = 0 then (
      kl (x5 + 1) fun v6 =>
      F_X4_mostPayingSeat_12 N M n a0 a1 a2 x3 x4 v6) else
    kg (kt M a0 4) <| (F_X4_whyNotSeat N M a0 a1 a2 x5).bind fun r7 =>
    if r7 = 0 then (
      if x3 = 0 then (
        kl (x5 + 1) fun v9 =>
        F_X4_mostPayingSeat_12 N M n a0 a1 a2 x5 v4 v9) else
      if x4 < v4 then (
        kl (x5 + 1) fun v11 =>
        F_X4_mostPayingSeat_12 N M n a0 a1 a2 x5 v4 v11) else
      kl (x5 + 1) fun v10 =>
      F_X4_mostPayingSeat_12 N M n a0 a1 a2 x3 x4 v10) else
    kl (x5 + 1) fun v8 =>
    F_X4_mostPayingSeat_12 N M n a0 a1 a2 x3 x4 v8
def F_X4_mostPayingSeat (N : Nat) (M : kMem) (a0 : Nat) (a1 : Nat) (a2 : Nat) : Option (Int32) :=
    kg (kt M a2 0) <|
    kl (-(kI M a2 1)) fun v1 =>
    F_X4_mostPayingSeat_12 N M N a0 a1 a2 0 0 v1
set_option maxRecDepth 100000 in
set_option maxHeartbeats 4000000 in
theorem k_X4_mostPayingSeat_12 {p : Program} {l : Launch} {e : Env} {s : State} {m : MethodId} {args : Array Value} {below : List Frame} {meth : Method} {c : Code} {g : kG} (hX : Cok (p, l, e, { frames := 2 * 5, cells := 0, slots := 0, locals := 60 * 5 }, s, m, args, below, meth, c, cX4_mostPayingSeat, 7, RX4, g, 5)) (hr : meth.sig.returnType = (some .int)) (N : Nat) (M : kMem) : ∀ (n : Nat) (a0 : Nat) (a1 : Nat) (a2 : Nat) (x3 : Int32) (x4 : Int32) (x5 : Int32), GG (p, l, e, { frames := 2 * 5, cells := 0, slots := 0, locals := 60 * 5 }, s, m, args, below, meth, c, cX4_mostPayingSeat, 7, RX4, g, 5) (fun b => MQ below (kQ g ((fun r : Int32 => (some (.int r), M)) b)) args s 0 0 (kZ g.2.2.1)) 0 0 (F_X4_mostPayingSeat_12 N M n a0 a1 a2 x3 x4 x5) 12 [(0, .ref a0), (1, .ref a1), (2, .ref a2), (3, .int x3), (4, .int x4), (5, .int x5)] [] M := by
  intro n
  induction n with
  | zero => intro _ _ _ _ _ _; exact g_none
  | succ n ih =>
    intro a0 a1 a2 x3 x4 x5
    unfold F_X4_mostPayingSeat_12
    refine g_iload 14 5 hX dX4_mostPayingSeat_12 rfl rfl ?_
    refine g_aload_n 15 2 hX dX4_mostPayingSeat_14 rfl rfl ?_
    refine r_X4_164 18 hX dX4_mostPayingSeat_15 rfl ?_
    refine g_icmp_gt 83 21 hX dX4_mostPayingSeat_18 (by decide) rfl (fun _ => ?_) (fun _ => ?_)
    · refine g_iload_n 84 3 hX dX4_mostPayingSeat_83 rfl rfl ?_
      exact g_iret hX hr rfl (Nat.le_refl 0) (Nat.le_refl 0) dX4_mostPayingSeat_84
    · refine g_iload 23 5 hX dX4_mostPayingSeat_21 rfl rfl ?_
      refine g_ineg 24 hX dX4_mostPayingSeat_23 rfl ?_
      refine g_aload_n 25 2 hX dX4_mostPayingSeat_24 rfl rfl ?_
      refine g_aload_n 26 0 hX dX4_mostPayingSeat_25 rfl rfl ?_
      refine g_aload_n 27 1 hX dX4_mostPayingSeat_26 rfl rfl ?_
      refine g_aload_n 28 2 hX dX4_mostPayingSeat_27 rfl rfl ?_
      refine g_iload 30 5 hX dX4_mostPayingSeat_28 rfl rfl ?_
      refine g_callV_ip 33 hX (k_X4_torqueAfterMove l g N M a0 a1 a2 x5) lk_X4_torqueAfterMove rfl (ci := 4) rfl (Nat.le_of_ble_eq_true rfl) q_932 q_17 (by omega) rfl (Nat.le_of_ble_eq_true rfl) (Nat.zero_le _) (Nat.zero_le _) dX4_mostPayingSeat_30 rfl (fun r2 => ?_)
      refine g_callV_ip 36 hX (k_X0_tiltUnder l g N M a2 r2) lk_X0_tiltUnder rfl (ci := 0) rfl (Nat.le_of_ble_eq_true rfl) q_923 q_925 (by omega) rfl (Nat.le_of_ble_eq_true rfl) (Nat.zero_le _) (Nat.zero_le _) dX4_mostPayingSeat_33 rfl (fun r3 => ?_)
      refine g_imul 37 hX dX4_mostPayingSeat_36 rfl ?_
      refine g_klI (fun v4 hv4 => ?_)
      refine g_istore 39 6 [(6, .int v4), (0, .ref a0), (1, .ref a1), (2, .ref a2), (3, .int x3), (4, .int x4), (5, .int x5)] hX dX4_mostPayingSeat_37 rfl (Nat.le_of_ble_eq_true rfl) rfl ?_
      refine g_aload_n 40 3 hX dX4_mostPayingSeat_39 rfl rfl ?_
      refine g_iload 42 6 hX dX4_mostPayingSeat_40 rfl rfl ?_
      refine g_callV_ip 45 hX (k_X0_isFree l g N M a2 x5) lk_X0_isFree rfl (ci := 0) rfl (Nat.le_of_ble_eq_true rfl) q_907 q_723 (by omega) rfl (Nat.le_of_ble_eq_true rfl) (Nat.zero_le _) (Nat.zero_le _) dX4_mostPayingSeat_42 rfl (fun r5 => ?_)
      refine g_if_eq 77 48 hX dX4_mostPayingSeat_45 (by decide) rfl (fun _ => ?_) (fun _ => ?_)
      · refine g_kl (fun v6 hv6 => ?_)
        refine g_iinc 80 5 6 v6 [(5, .int v6), (6, .int v4), (0, .ref a0), (1, .ref a1), (2, .ref a2), (3, .int x3), (4, .int x4)] hX dX4_mostPayingSeat_77 rfl rfl (by rw [hv6, kc_i_1]) (Nat.le_of_ble_eq_true rfl) rfl ?_
        refine g_goto 12 hX dX4_mostPayingSeat_80 (by decide) ?_
        refine g_lv [2, 3, 4, 5, 6, 0] rfl ?_
        exact ih a0 a1 a2 x3 x4 v6
      · refine g_aload_n 49 1 hX dX4_mostPayingSeat_48 rfl rfl ?_
        refine g_aload_n 50 2 hX dX4_mostPayingSeat_49 rfl rfl ?_
        refine g_aload_n 51 3 hX dX4_mostPayingSeat_50 rfl rfl ?_
        refine g_iload 53 6 hX dX4_mostPayingSeat_51 rfl rfl ?_
        refine g_callV_ip 56 hX (k_X4_whyNotSeat l g N M a0 a1 a2 x5) lk_X4_whyNotSeat rfl (ci := 4) rfl (Nat.le_of_ble_eq_true rfl) q_1512 q_905 (by omega) rfl (Nat.le_of_ble_eq_true rfl) (Nat.zero_le _) (Nat.zero_le _) dX4_mostPayingSeat_53 rfl (fun r7 => ?_)
        refine g_if_ne 77 59 hX dX4_mostPayingSeat_56 (by decide) rfl (fun _ => ?_) (fun _ => ?_)
        · refine g_kl (fun v8 hv8 => ?_)
          refine g_iinc 80 5 6 v8 [(5, .int v8), (6, .int v4), (0, .ref a0), (1, .ref a1), (2, .ref a2), (3, .int x3), (4, .int x4)] hX dX4_mostPayingSeat_77 rfl rfl (by rw [hv8, kc_i_1]) (Nat.le_of_ble_eq_true rfl) rfl ?_
          refine g_goto 12 hX dX4_mostPayingSeat_80 (by decide) ?_
          refine g_lv [2, 3, 4, 5, 6, 0] rfl ?_
          exact ih a0 a1 a2 x3 x4 v8
        · refine g_iload_n 60 4 hX dX4_mostPayingSeat_59 rfl rfl ?_
          refine g_if_eq 70 63 hX dX4_mostPayingSeat_60 (by decide) rfl (fun _ => ?_) (fun _ => ?_)
          · refine g_iload 72 6 hX dX4_mostPayingSeat_70 rfl rfl ?_
            refine g_istore_n 73 3 [(3, .int x5), (6, .int v4), (0, .ref a0), (1, .ref a1), (2, .ref a2), (4, .int x4), (5, .int x5)] hX dX4_mostPayingSeat_72 rfl rfl (Nat.le_of_ble_eq_true rfl) rfl ?_
            refine g_iload 75 1 hX dX4_mostPayingSeat_73 rfl rfl ?_
            refine g_istore 77 4 [(4, .int v4), (3, .int x5), (6, .int v4), (0, .ref a0), (1, .ref a1), (2, .ref a2), (5, .int x5)] hX dX4_mostPayingSeat_75 rfl (Nat.le_of_ble_eq_true rfl) rfl ?_
            refine g_kl (fun v9 hv9 => ?_)
            refine g_iinc 80 5 6 v9 [(5, .int v9), (4, .int v4), (3, .int x5), (6, .int v4), (0, .ref a0), (1, .ref a1), (2, .ref a2)] hX dX4_mostPayingSeat_77 rfl rfl (by rw [hv9, kc_i_1]) (Nat.le_of_ble_eq_true rfl) rfl ?_
            refine g_goto 12 hX dX4_mostPayingSeat_80 (by decide) ?_
            refine g_lv [4, 5, 6, 2, 1, 0] rfl ?_
            exact ih a0 a1 a2 x5 v4 v9
          · refine g_iload 65 0 hX dX4_mostPayingSeat_63 rfl rfl ?_
            refine g_iload 67 5 hX dX4_mostPayingSeat_65 rfl rfl ?_
            refine g_icmp_le 77 70 hX dX4_mostPayingSeat_67 (by decide) rfl (fun _ => ?_) (fun _ => ?_)
            · refine g_kl (fun v10 hv10 => ?_)
              refine g_iinc 80 5 6 v10 [(5, .int v10), (6, .int v4), (0, .ref a0), (1, .ref a1), (2, .ref a2), (3, .int x3), (4, .int x4)] hX dX4_mostPayingSeat_77 rfl rfl (by rw [hv10, kc_i_1]) (Nat.le_of_ble_eq_true rfl) rfl ?_
              refine g_goto 12 hX dX4_mostPayingSeat_80 (by decide) ?_
              refine g_lv [2, 3, 4, 5, 6, 0] rfl ?_
              exact ih a0 a1 a2 x3 x4 v10
            · refine g_iload 72 6 hX dX4_mostPayingSeat_70 rfl rfl ?_
              refine g_istore_n 73 3 [(3, .int x5), (6, .int v4), (0, .ref a0), (1, .ref a1), (2, .ref a2), (4, .int x4), (5, .int x5)] hX dX4_mostPayingSeat_72 rfl rfl (Nat.le_of_ble_eq_true rfl) rfl ?_
              refine g_iload 75 1 hX dX4_mostPayingSeat_73 rfl rfl ?_
              refine g_istore 77 4 [(4, .int v4), (3, .int x5), (6, .int v4), (0, .ref a0), (1, .ref a1), (2, .ref a2), (5, .int x5)] hX dX4_mostPayingSeat_75 rfl (Nat.le_of_ble_eq_true rfl) rfl ?_
              refine g_kl (fun v11 hv11 => ?_)
              refine g_iinc 80 5 6 v11 [(5, .int v11), (4, .int v4), (3, .int x5), (6, .int v4), (0, .ref a0), (1, .ref a1), (2, .ref a2)] hX dX4_mostPayingSeat_77 rfl rfl (by rw [hv11, kc_i_1]) (Nat.le_of_ble_eq_true rfl) rfl ?_
              refine g_goto 12 hX dX4_mostPayingSeat_80 (by decide) ?_
              refine g_lv [4, 5, 6, 2, 1, 0] rfl ?_
              exact ih a0 a1 a2 x5 v4 v11
set_option maxRecDepth 100000 in
set_option maxHeartbeats 4000000 in
theorem k_X4_mostPayingSeat (l : Launch) (g : kG) (N : Nat) (M : kMem) (a0 : Nat) (a1 : Nat) (a2 : Nat) : kMet l g yX4_mostPayingSeat cX4_mostPayingSeat 7 (some .int) 5 0 0 [.ref a0, .ref a1, .ref a2] M (fun r : Int32 => (some (.int r), M)) (F_X4_mostPayingSeat N M a0 a1 a2) := by
  refine k_of (lv := [(0, .ref a0), (1, .ref a1), (2, .ref a2)]) RX4 (by decide) rfl rfl (Nat.le_of_ble_eq_true rfl) ?_
  intro p e s m args below meth c hX hr _
  unfold F_X4_mostPayingSeat
  refine g_iconst 1 hX 0 dX4_mostPayingSeat_0 rfl kc_i_0 ?_
  refine g_istore_n 2 3 [(3, .int 0), (0, .ref a0), (1, .ref a1), (2, .ref a2)] hX dX4_mostPayingSeat_1 rfl rfl (Nat.le_of_ble_eq_true rfl) rfl ?_
  refine g_iconst 3 hX 0 dX4_mostPayingSeat_2 rfl kc_i_0 ?_
  refine g_istore 5 4 [(4, .int 0), (3, .int 0), (0, .ref a0), (1, .ref a1), (2, .ref a2)] hX dX4_mostPayingSeat_3 rfl (Nat.le_of_ble_eq_true rfl) rfl ?_
  refine g_aload_n 6 4 hX dX4_mostPayingSeat_5 rfl rfl ?_
  refine r_X4_164 9 hX dX4_mostPayingSeat_6 rfl ?_
  refine g_ineg 10 hX dX4_mostPayingSeat_9 rfl ?_
  refine g_klI (fun v1 hv1 => ?_)
  refine g_istore 12 5 [(5, .int v1), (4, .int 0), (3, .int 0), (0, .ref a0), (1, .ref a1), (2, .ref a2)] hX dX4_mostPayingSeat_10 rfl (Nat.le_of_ble_eq_true rfl) rfl ?_
  refine g_lv [3, 4, 5, 2, 1, 0] rfl ?_
  exact k_X4_mostPayingSeat_12 hX hr N M N a0 a1 a2 0 0 v1
def F_X4_whyNotSale (N : Nat) (M : kMem) (a0 : Nat) (a1 : Nat) (a2 : Nat) (x3 : Int32) : Option (Int32) :=
    kg (kt M a1 10) <|
    kg (kt M a0 4) <| (F_X4_boardNumbered N M a0 (kI M a1 6)).bind fun r1 =>
    if r1 = 0 then (
      some 5) else
    kg (kt M a2 10) <| (F_X10_isSeated N M a2).bind fun r2 =>
    if r2 = 0 then (
      some 5) else
    kg (kt M a1 10) <|
    kg (kt M a2 10) <|
    if (kI M a1 6) = (kI M a2 6) then (
      kg (kt M a1 10) <|
      if ((kI M a1 2) - x3) < 1 then (
        some 7) else
      kg (kt M a2 10) <|
      if (99 : Int32) < ((kI M a2 2) + x3) then (
        some 7) else
      kg (kt M a2 10) <|
      kg (kt M a0 4) <| (F_X4_unitPrice N M a0 a1 a2).bind fun r3 =>
      if (kI M a2 3) < (x3 * r3) then (
        some 3) else
      kg (kt M a0 4) <| (F_X4_torqueOn N M a0 r1).bind fun r4 =>
      kg (kt M a2 10) <|
      kg (kt M a1 10) <|
      kl (r4 + (x3 * ((kI M a2 7) - (kI M a1 7)))) fun v5 =>
      kg (kt M r1 0) <| (F_X0_tipsUnder N M r1 v5).bind fun r6 =>
      if r6 = 0 then (
        some 0) else
      some 4) else
    some 6
set_option maxRecDepth 100000 in
set_option maxHeartbeats 4000000 in
theorem k_X4_whyNotSale (l : Launch) (g : kG) (N : Nat) (M : kMem) (a0 : Nat) (a1 : Nat) (a2 : Nat) (x3 : Int32) : kMet l g yX4_whyNotSale cX4_whyNotSale 6 (some .int) 4 0 0 [.ref a0, .ref a1, .ref a2, .int x3] M (fun r : Int32 => (some (.int r), M)) (F_X4_whyNotSale N M a0 a1 a2 x3) := by
  refine k_of (lv := [(0, .ref a0), (1, .ref a1), (2, .ref a2), (3, .int x3)]) RX4 (by decide) rfl rfl (Nat.le_of_ble_eq_true rfl) ?_
  intro p e s m args below meth c hX hr _
  unfold F_X4_whyNotSale
  refine g_aload_n 1 0 hX dX4_whyNotSale_0 rfl rfl ?_
  refine g_aload_n 2 1 hX dX4_whyNotSale_1 rfl rfl ?_
  refine r_X4_121 5 hX dX4_whyNotSale_2 rfl ?_
  refine g_callV_rp 8 hX (k_X4_boardNumbered l g N M a0 (kI M a1 6)) lk_X4_boardNumbered rfl (ci := 4) rfl (Nat.le_of_ble_eq_true rfl) q_949 q_713 (by omega) rfl (Nat.le_of_ble_eq_true rfl) (Nat.zero_le _) (Nat.zero_le _) dX4_whyNotSale_5 rfl (fun r1 => ?_)
  refine g_astore 10 4 [(4, .ref r1), (0, .ref a0), (1, .ref a1), (2, .ref a2), (3, .int x3)] hX dX4_whyNotSale_8 rfl (Nat.le_of_ble_eq_true rfl) rfl ?_
  refine g_aload 12 0 hX dX4_whyNotSale_10 rfl rfl ?_
  refine g_ifnull 22 15 hX dX4_whyNotSale_12 (by decide) rfl (fun _ => ?_) (fun _ => ?_)
  · refine g_iconst 23 hX 5 dX4_whyNotSale_22 rfl kc_i_5 ?_
    exact g_iret hX hr rfl (Nat.le_refl 0) (Nat.le_refl 0) dX4_whyNotSale_23
  · refine g_aload_n 16 3 hX dX4_whyNotSale_15 rfl rfl ?_
    refine g_callV_ip 19 hX (k_X10_isSeated l g N M a2) lk_X10_isSeated rfl (ci := 10) rfl (Nat.le_of_ble_eq_true rfl) q_964 q_709 (by omega) rfl (Nat.le_of_ble_eq_true rfl) (Nat.zero_le _) (Nat.zero_le _) dX4_whyNotSale_16 rfl (fun r2 => ?_)
    refine g_if_ne 24 22 hX dX4_whyNotSale_19 (by decide) rfl (fun _ => ?_) (fun _ => ?_)
    · refine g_aload_n 25 2 hX dX4_whyNotSale_24 rfl rfl ?_
      refine r_X4_121 28 hX dX4_whyNotSale_25 rfl ?_
      refine g_aload_n 29 3 hX dX4_whyNotSale_28 rfl rfl ?_
      refine r_X4_121 32 hX dX4_whyNotSale_29 rfl ?_
      refine g_icmp_eq 38 35 hX dX4_whyNotSale_32 (by decide) rfl (fun _ => ?_) (fun _ => ?_)
      · refine g_aload_n 39 2 hX dX4_whyNotSale_38 rfl rfl ?_
        refine r_X4_108 42 hX dX4_whyNotSale_39 rfl ?_
        refine g_iload_n 43 4 hX dX4_whyNotSale_42 rfl rfl ?_
        refine g_isub 44 hX dX4_whyNotSale_43 rfl ?_
        refine g_iconst 45 hX 1 dX4_whyNotSale_44 rfl kc_i_1 ?_
        refine g_icmp_lt 59 48 hX dX4_whyNotSale_45 (by decide) rfl (fun _ => ?_) (fun _ => ?_)
        · refine g_bipush 61 hX 7 dX4_whyNotSale_59 rfl kc_b_7 ?_
          exact g_iret hX hr rfl (Nat.le_refl 0) (Nat.le_refl 0) dX4_whyNotSale_61
        · refine g_aload_n 49 3 hX dX4_whyNotSale_48 rfl rfl ?_
          refine r_X4_108 52 hX dX4_whyNotSale_49 rfl ?_
          refine g_iload_n 53 4 hX dX4_whyNotSale_52 rfl rfl ?_
          refine g_iadd 54 hX dX4_whyNotSale_53 rfl ?_
          refine g_bipush 56 hX 99 dX4_whyNotSale_54 rfl kc_b_99 ?_
          refine g_icmp_le 62 59 hX dX4_whyNotSale_56 (by decide) rfl (fun _ => ?_) (fun _ => ?_)
          · refine g_aload_n 63 3 hX dX4_whyNotSale_62 rfl rfl ?_
            refine r_X4_111 66 hX dX4_whyNotSale_63 rfl ?_
            refine g_iload_n 67 4 hX dX4_whyNotSale_66 rfl rfl ?_
            refine g_aload_n 68 1 hX dX4_whyNotSale_67 rfl rfl ?_
            refine g_aload_n 69 2 hX dX4_whyNotSale_68 rfl rfl ?_
            refine g_aload_n 70 3 hX dX4_whyNotSale_69 rfl rfl ?_
            refine g_callV_ip 73 hX (k_X4_unitPrice l g N M a0 a1 a2) lk_X4_unitPrice rfl (ci := 4) rfl (Nat.le_of_ble_eq_true rfl) q_965 q_967 (by omega) rfl (Nat.le_of_ble_eq_true rfl) (Nat.zero_le _) (Nat.zero_le _) dX4_whyNotSale_70 rfl (fun r3 => ?_)
            refine g_imul 74 hX dX4_whyNotSale_73 rfl ?_
            refine g_icmp_ge 79 77 hX dX4_whyNotSale_74 (by decide) rfl (fun _ => ?_) (fun _ => ?_)
            · refine g_aload_n 80 1 hX dX4_whyNotSale_79 rfl rfl ?_
              refine g_aload 82 0 hX dX4_whyNotSale_80 rfl rfl ?_
              refine g_callV_ip 85 hX (k_X4_torqueOn l g N M a0 r1) lk_X4_torqueOn rfl (ci := 4) rfl (Nat.le_of_ble_eq_true rfl) q_919 q_921 (by omega) rfl (Nat.le_of_ble_eq_true rfl) (Nat.zero_le _) (Nat.zero_le _) dX4_whyNotSale_82 rfl (fun r4 => ?_)
              refine g_iload_n 86 4 hX dX4_whyNotSale_85 rfl rfl ?_
              refine g_aload_n 87 3 hX dX4_whyNotSale_86 rfl rfl ?_
              refine r_X4_124 90 hX dX4_whyNotSale_87 rfl ?_
              refine g_aload_n 91 2 hX dX4_whyNotSale_90 rfl rfl ?_
              refine r_X4_124 94 hX dX4_whyNotSale_91 rfl ?_
              refine g_isub 95 hX dX4_whyNotSale_94 rfl ?_
              refine g_imul 96 hX dX4_whyNotSale_95 rfl ?_
              refine g_iadd 97 hX dX4_whyNotSale_96 rfl ?_
              refine g_klI (fun v5 hv5 => ?_)
              refine g_istore 99 5 [(5, .int v5), (4, .ref r1), (0, .ref a0), (1, .ref a1), (2, .ref a2), (3, .int x3)] hX dX4_whyNotSale_97 rfl (Nat.le_of_ble_eq_true rfl) rfl ?_
              refine g_aload 101 1 hX dX4_whyNotSale_99 rfl rfl ?_
              refine g_iload 103 0 hX dX4_whyNotSale_101 rfl rfl ?_
              refine g_callV_ip 106 hX (k_X0_tipsUnder l g N M r1 v5) lk_X0_tipsUnder rfl (ci := 0) rfl (Nat.le_of_ble_eq_true rfl) q_936 q_938 (by omega) rfl (Nat.le_of_ble_eq_true rfl) (Nat.zero_le _) (Nat.zero_le _) dX4_whyNotSale_103 rfl (fun r6 => ?_)
              refine g_if_eq 113 109 hX dX4_whyNotSale_106 (by decide) rfl (fun _ => ?_) (fun _ => ?_)
              · refine g_iconst 114 hX 0 dX4_whyNotSale_113 rfl kc_i_0 ?_
                exact g_iret hX hr rfl (Nat.le_refl 0) (Nat.le_refl 0) dX4_whyNotSale_114
              · refine g_iconst 110 hX 4 dX4_whyNotSale_109 rfl kc_i_4 ?_
                refine g_goto 114 hX dX4_whyNotSale_110 (by decide) ?_
                exact g_iret hX hr rfl (Nat.le_refl 0) (Nat.le_refl 0) dX4_whyNotSale_114
            · refine g_iconst 78 hX 3 dX4_whyNotSale_77 rfl kc_i_3 ?_
              exact g_iret hX hr rfl (Nat.le_refl 0) (Nat.le_refl 0) dX4_whyNotSale_78
          · refine g_bipush 61 hX 7 dX4_whyNotSale_59 rfl kc_b_7 ?_
            exact g_iret hX hr rfl (Nat.le_refl 0) (Nat.le_refl 0) dX4_whyNotSale_61
      · refine g_bipush 37 hX 6 dX4_whyNotSale_35 rfl kc_b_6 ?_
        exact g_iret hX hr rfl (Nat.le_refl 0) (Nat.le_refl 0) dX4_whyNotSale_37
    · refine g_iconst 23 hX 5 dX4_whyNotSale_22 rfl kc_i_5 ?_
      exact g_iret hX hr rfl (Nat.le_refl 0) (Nat.le_refl 0) dX4_whyNotSale_23
def F_X4_tipsAfterSwap_37 (N : Nat) (M : kMem) (a1 : Nat) (a2 : Nat) (a3 : Nat) (x4 : Int32) : Option (Int32) :=
    kg (kt M a3 10) <|
    kg (kt M a1 0) <|
    if (kI M a3 6) = (kI M a1 0) then (
      kg (kt M a3 10) <|
      kg (kt M a2 10) <|
      kg (kt M a3 10) <|
      kl (x4 + ((kI M a3 7) * ((kI M a2 2) - (kI M a3 2)))) fun v3 =>
      kg (kt M a1 0) <| (F_X0_tipsUnder N M a1 v3).bind fun r4 =>
      kg (r4 == 0 || r4 == 1) <| some r4) else
    kg (kt M a1 0) <| (F_X0_tipsUnder N M a1 x4).bind fun r2 =>
    kg (r2 == 0 || r2 == 1) <| some r2
def F_X4_tipsAfterSwap (N : Nat) (M : kMem) (a0 : Nat) (a1 : Nat) (a2 : Nat) (a3 : Nat) : Option (Int32) :=
    kg (kt M a0 4) <| (F_X4_torqueOn N M a0 a1).bind fun r1 =>
    kg (kt M a2 10) <|
    kg (kt M a1 0) <|
    if (kI M a2 6) = (kI M a1 0) then (
      kg (kt M a2 10) <|
      kg (kt M a3 10) <|
      kg (kt M a2 10) <|
      kl (r1 + ((kI M a2 7) * ((kI M a3 2) - (kI M a2 2)))) fun v5 =>
      F_X4_tipsAfterSwap_37 N M a1 a2 a3 v5) else
    F_X4_tipsAfterSwap_37 N M a1 a2 a3 r1
set_option maxRecDepth 100000 in
set_option maxHeartbeats 4000000 in
theorem k_X4_tipsAfterSwap_37 {p : Program} {l : Launch} {e : Env} {s : State} {m : MethodId} {args : Array Value} {below : List Frame} {meth : Method} {c : Code} {g : kG} (hX : Cok (p, l, e, { frames := 2 * 2, cells := 0, slots := 0, locals := 60 * 2 }, s, m, args, below, meth, c, cX4_tipsAfterSwap, 5, RX4, g, 2)) (hr : meth.sig.returnType = (some .boolean)) (N : Nat) (M : kMem) : ∀ (a1 : Nat) (a2 : Nat) (a3 : Nat) (x4 : Int32), GG (p, l, e, { frames := 2 * 2, cells := 0, slots := 0, locals := 60 * 2 }, s, m, args, below, meth, c, cX4_tipsAfterSwap, 5, RX4, g, 2) (fun b => MQ below (kQ g ((fun r : Int32 => (some (.int r), M)) b)) args s 0 0 (kZ g.2.2.1)) 0 0 (F_X4_tipsAfterSwap_37 N M a1 a2 a3 x4) 37 [(1, .ref a1), (2, .ref a2), (3, .ref a3), (4, .int x4)] [] M := by
  intro a1 a2 a3 x4
  unfold F_X4_tipsAfterSwap_37
  refine g_aload_n 38 2 hX dX4_tipsAfterSwap_37 rfl rfl ?_
  refine r_X4_121 41 hX dX4_tipsAfterSwap_38 rfl ?_
  refine g_aload_n 42 0 hX dX4_tipsAfterSwap_41 rfl rfl ?_
  refine r_X4_130 45 hX dX4_tipsAfterSwap_42 rfl ?_
  refine g_icmp_ne 67 48 hX dX4_tipsAfterSwap_45 (by decide) rfl (fun _ => ?_) (fun _ => ?_)
  · refine g_aload_n 68 0 hX dX4_tipsAfterSwap_67 rfl rfl ?_
    refine g_iload 70 3 hX dX4_tipsAfterSwap_68 rfl rfl ?_
    refine g_callV_ip 73 hX (k_X0_tipsUnder l g N M a1 x4) lk_X0_tipsUnder rfl (ci := 0) rfl (Nat.le_of_ble_eq_true rfl) q_936 q_938 (by omega) rfl (Nat.le_of_ble_eq_true rfl) (Nat.zero_le _) (Nat.zero_le _) dX4_tipsAfterSwap_70 rfl (fun r2 => ?_)
    exact g_zret hX hr rfl (Nat.le_refl 0) (Nat.le_refl 0) dX4_tipsAfterSwap_73
  · refine g_iload 50 3 hX dX4_tipsAfterSwap_48 rfl rfl ?_
    refine g_aload_n 51 2 hX dX4_tipsAfterSwap_50 rfl rfl ?_
    refine r_X4_124 54 hX dX4_tipsAfterSwap_51 rfl ?_
    refine g_aload_n 55 1 hX dX4_tipsAfterSwap_54 rfl rfl ?_
    refine r_X4_108 58 hX dX4_tipsAfterSwap_55 rfl ?_
    refine g_aload_n 59 2 hX dX4_tipsAfterSwap_58 rfl rfl ?_
    refine r_X4_108 62 hX dX4_tipsAfterSwap_59 rfl ?_
    refine g_isub 63 hX dX4_tipsAfterSwap_62 rfl ?_
    refine g_imul 64 hX dX4_tipsAfterSwap_63 rfl ?_
    refine g_iadd 65 hX dX4_tipsAfterSwap_64 rfl ?_
    refine g_klI (fun v3 hv3 => ?_)
    refine g_istore 67 4 [(4, .int v3), (1, .ref a1), (2, .ref a2), (3, .ref a3)] hX dX4_tipsAfterSwap_65 rfl (Nat.le_of_ble_eq_true rfl) rfl ?_
    refine g_aload_n 68 1 hX dX4_tipsAfterSwap_67 rfl rfl ?_
    refine g_iload 70 0 hX dX4_tipsAfterSwap_68 rfl rfl ?_
    refine g_callV_ip 73 hX (k_X0_tipsUnder l g N M a1 v3) lk_X0_tipsUnder rfl (ci := 0) rfl (Nat.le_of_ble_eq_true rfl) q_936 q_938 (by omega) rfl (Nat.le_of_ble_eq_true rfl) (Nat.zero_le _) (Nat.zero_le _) dX4_tipsAfterSwap_70 rfl (fun r4 => ?_)
    exact g_zret hX hr rfl (Nat.le_refl 0) (Nat.le_refl 0) dX4_tipsAfterSwap_73
set_option maxRecDepth 100000 in
set_option maxHeartbeats 4000000 in
theorem k_X4_tipsAfterSwap (l : Launch) (g : kG) (N : Nat) (M : kMem) (a0 : Nat) (a1 : Nat) (a2 : Nat) (a3 : Nat) : kMet l g yX4_tipsAfterSwap cX4_tipsAfterSwap 5 (some .boolean) 2 0 0 [.ref a0, .ref a1, .ref a2, .ref a3] M (fun r : Int32 => (some (.int r), M)) (F_X4_tipsAfterSwap N M a0 a1 a2 a3) := by
  refine k_of (lv := [(0, .ref a0), (1, .ref a1), (2, .ref a2), (3, .ref a3)]) RX4 (by decide) rfl rfl (Nat.le_of_ble_eq_true rfl) ?_
  intro p e s m args below meth c hX hr _
  unfold F_X4_tipsAfterSwap
  refine g_aload_n 1 0 hX dX4_tipsAfterSwap_0 rfl rfl ?_
  refine g_aload_n 2 1 hX dX4_tipsAfterSwap_1 rfl rfl ?_
  refine g_callV_ip 5 hX (k_X4_torqueOn l g N M a0 a1) lk_X4_torqueOn rfl (ci := 4) rfl (Nat.le_of_ble_eq_true rfl) q_919 q_921 (by omega) rfl (Nat.le_of_ble_eq_true rfl) (Nat.zero_le _) (Nat.zero_le _) dX4_tipsAfterSwap_2 rfl (fun r1 => ?_)
  refine g_istore 7 4 [(4, .int r1), (0, .ref a0), (1, .ref a1), (2, .ref a2), (3, .ref a3)] hX dX4_tipsAfterSwap_5 rfl (Nat.le_of_ble_eq_true rfl) rfl ?_
  refine g_aload_n 8 3 hX dX4_tipsAfterSwap_7 rfl rfl ?_
  refine r_X4_121 11 hX dX4_tipsAfterSwap_8 rfl ?_
  refine g_aload_n 12 2 hX dX4_tipsAfterSwap_11 rfl rfl ?_
  refine r_X4_130 15 hX dX4_tipsAfterSwap_12 rfl ?_
  refine g_icmp_ne 37 18 hX dX4_tipsAfterSwap_15 (by decide) rfl (fun _ => ?_) (fun _ => ?_)
  · refine g_lv [2, 3, 4, 0] rfl ?_
    exact k_X4_tipsAfterSwap_37 hX hr N M a1 a2 a3 r1
  · refine g_iload 20 0 hX dX4_tipsAfterSwap_18 rfl rfl ?_
    refine g_aload_n 21 3 hX dX4_tipsAfterSwap_20 rfl rfl ?_
    refine r_X4_124 24 hX dX4_tipsAfterSwap_21 rfl ?_
    refine g_aload_n 25 4 hX dX4_tipsAfterSwap_24 rfl rfl ?_
    refine r_X4_108 28 hX dX4_tipsAfterSwap_25 rfl ?_
    refine g_aload_n 29 3 hX dX4_tipsAfterSwap_28 rfl rfl ?_
    refine r_X4_108 32 hX dX4_tipsAfterSwap_29 rfl ?_
    refine g_isub 33 hX dX4_tipsAfterSwap_32 rfl ?_
    refine g_imul 34 hX dX4_tipsAfterSwap_33 rfl ?_
    refine g_iadd 35 hX dX4_tipsAfterSwap_34 rfl ?_
    refine g_klI (fun v5 hv5 => ?_)
    refine g_istore 37 4 [(4, .int v5), (0, .ref a0), (1, .ref a1), (2, .ref a2), (3, .ref a3)] hX dX4_tipsAfterSwap_35 rfl (Nat.le_of_ble_eq_true rfl) rfl ?_
    refine g_lv [2, 3, 4, 0] rfl ?_
    exact k_X4_tipsAfterSwap_37 hX hr N M a1 a2 a3 v5
def F_X4_whyNotSwap (N : Nat) (M : kMem) (a0 : Nat) (a1 : Nat) (a2 : Nat) : Option (Int32) :=
    kg (kt M a1 10) <|
    kg (kt M a0 4) <| (F_X4_boardNumbered N M a0 (kI M a1 6)).bind fun r1 =>
    kg (kt M a2 10) <|
    kg (kt M a0 4) <| (F_X4_boardNumbered N M a0 (kI M a2 6)).bind fun r2 =>
    if r1 = 0 then (
      some 5) else
    if r2 = 0 then (
      some 5) else
    kg (kt M a0 4) <| (F_X4_heightUnder N M a0 a2).bind fun r3 =>
    kg (kt M a0 4) <| (F_X4_heightUnder N M a0 a1).bind fun r4 =>
    kl (r3 - r4) fun v5 =>
    kg (kt M a1 10) <|
    if (kI M a1 3) < v5 then (
      some 3) else
    kg (kt M a2 10) <|
    if (kI M a2 3) < (-v5) then (
      some 3) else
    kg (kt M a0 4) <| (F_X4_tipsAfterSwap N M a0 r1 a1 a2).bind fun r6 =>
    if r6 = 0 then (
      kg (kt M a0 4) <| (F_X4_tipsAfterSwap N M a0 r2 a1 a2).bind fun r7 =>
      if r7 = 0 then (
        some 0) else
      some 4) else
    some 4
set_option maxRecDepth 100000 in
set_option maxHeartbeats 4000000 in
theorem k_X4_whyNotSwap (l : Launch) (g : kG) (N : Nat) (M : kMem) (a0 : Nat) (a1 : Nat) (a2 : Nat) : kMet l g yX4_whyNotSwap cX4_whyNotSwap 6 (some .int) 3 0 0 [.ref a0, .ref a1, .ref a2] M (fun r : Int32 => (some (.int r), M)) (F_X4_whyNotSwap N M a0 a1 a2) := by
  refine k_of (lv := [(0, .ref a0), (1, .ref a1), (2, .ref a2)]) RX4 (by decide) rfl rfl (Nat.le_of_ble_eq_true rfl) ?_
  intro p e s m args below meth c hX hr _
  unfold F_X4_whyNotSwap
  refine g_aload_n 1 0 hX dX4_whyNotSwap_0 rfl rfl ?_
  refine g_aload_n 2 1 hX dX4_whyNotSwap_1 rfl rfl ?_
  refine r_X4_121 5 hX dX4_whyNotSwap_2 rfl ?_
  refine g_callV_rp 8 hX (k_X4_boardNumbered l g N M a0 (kI M a1 6)) lk_X4_boardNumbered rfl (ci := 4) rfl (Nat.le_of_ble_eq_true rfl) q_949 q_713 (by omega) rfl (Nat.le_of_ble_eq_true rfl) (Nat.zero_le _) (Nat.zero_le _) dX4_whyNotSwap_5 rfl (fun r1 => ?_)
  refine g_astore_n 9 3 [(3, .ref r1), (0, .ref a0), (1, .ref a1), (2, .ref a2)] hX dX4_whyNotSwap_8 rfl rfl (Nat.le_of_ble_eq_true rfl) rfl ?_
  refine g_aload_n 10 1 hX dX4_whyNotSwap_9 rfl rfl ?_
  refine g_aload_n 11 3 hX dX4_whyNotSwap_10 rfl rfl ?_
  refine r_X4_121 14 hX dX4_whyNotSwap_11 rfl ?_
  refine g_callV_rp 17 hX (k_X4_boardNumbered l g N M a0 (kI M a2 6)) lk_X4_boardNumbered rfl (ci := 4) rfl (Nat.le_of_ble_eq_true rfl) q_949 q_713 (by omega) rfl (Nat.le_of_ble_eq_true rfl) (Nat.zero_le _) (Nat.zero_le _) dX4_whyNotSwap_14 rfl (fun r2 => ?_)
  refine g_astore 19 4 [(4, .ref r2), (3, .ref r1), (0, .ref a0), (1, .ref a1), (2, .ref a2)] hX dX4_whyNotSwap_17 rfl (Nat.le_of_ble_eq_true rfl) rfl ?_
  refine g_aload_n 20 1 hX dX4_whyNotSwap_19 rfl rfl ?_
  refine g_ifnull 28 23 hX dX4_whyNotSwap_20 (by decide) rfl (fun _ => ?_) (fun _ => ?_)
  · refine g_iconst 29 hX 5 dX4_whyNotSwap_28 rfl kc_i_5 ?_
    exact g_iret hX hr rfl (Nat.le_refl 0) (Nat.le_refl 0) dX4_whyNotSwap_29
  · refine g_aload 25 0 hX dX4_whyNotSwap_23 rfl rfl ?_
    refine g_ifnonnull 30 28 hX dX4_whyNotSwap_25 (by decide) rfl (fun _ => ?_) (fun _ => ?_)
    · refine g_aload_n 31 2 hX dX4_whyNotSwap_30 rfl rfl ?_
      refine g_aload_n 32 4 hX dX4_whyNotSwap_31 rfl rfl ?_
      refine g_callV_ip 35 hX (k_X4_heightUnder l g N M a0 a2) lk_X4_heightUnder rfl (ci := 4) rfl (Nat.le_of_ble_eq_true rfl) q_969 q_19 (by omega) rfl (Nat.le_of_ble_eq_true rfl) (Nat.zero_le _) (Nat.zero_le _) dX4_whyNotSwap_32 rfl (fun r3 => ?_)
      refine g_aload_n 36 2 hX dX4_whyNotSwap_35 rfl rfl ?_
      refine g_aload_n 37 3 hX dX4_whyNotSwap_36 rfl rfl ?_
      refine g_callV_ip 40 hX (k_X4_heightUnder l g N M a0 a1) lk_X4_heightUnder rfl (ci := 4) rfl (Nat.le_of_ble_eq_true rfl) q_969 q_19 (by omega) rfl (Nat.le_of_ble_eq_true rfl) (Nat.zero_le _) (Nat.zero_le _) dX4_whyNotSwap_37 rfl (fun r4 => ?_)
      refine g_isub 41 hX dX4_whyNotSwap_40 rfl ?_
      refine g_klI (fun v5 hv5 => ?_)
      refine g_istore 43 5 [(5, .int v5), (4, .ref r2), (3, .ref r1), (0, .ref a0), (1, .ref a1), (2, .ref a2)] hX dX4_whyNotSwap_41 rfl (Nat.le_of_ble_eq_true rfl) rfl ?_
      refine g_aload_n 44 4 hX dX4_whyNotSwap_43 rfl rfl ?_
      refine r_X4_111 47 hX dX4_whyNotSwap_44 rfl ?_
      refine g_iload 49 0 hX dX4_whyNotSwap_47 rfl rfl ?_
      refine g_icmp_lt 62 52 hX dX4_whyNotSwap_49 (by decide) rfl (fun _ => ?_) (fun _ => ?_)
      · refine g_iconst 63 hX 3 dX4_whyNotSwap_62 rfl kc_i_3 ?_
        exact g_iret hX hr rfl (Nat.le_refl 0) (Nat.le_refl 0) dX4_whyNotSwap_63
      · refine g_aload_n 53 5 hX dX4_whyNotSwap_52 rfl rfl ?_
        refine r_X4_111 56 hX dX4_whyNotSwap_53 rfl ?_
        refine g_iload 58 0 hX dX4_whyNotSwap_56 rfl rfl ?_
        refine g_ineg 59 hX dX4_whyNotSwap_58 rfl ?_
        refine g_icmp_ge 64 62 hX dX4_whyNotSwap_59 (by decide) rfl (fun _ => ?_) (fun _ => ?_)
        · refine g_aload_n 65 3 hX dX4_whyNotSwap_64 rfl rfl ?_
          refine g_aload_n 66 2 hX dX4_whyNotSwap_65 rfl rfl ?_
          refine g_aload_n 67 4 hX dX4_whyNotSwap_66 rfl rfl ?_
          refine g_aload_n 68 5 hX dX4_whyNotSwap_67 rfl rfl ?_
          refine g_callV_ip 71 hX (k_X4_tipsAfterSwap l g N M a0 r1 a1 a2) lk_X4_tipsAfterSwap rfl (ci := 4) rfl (Nat.le_of_ble_eq_true rfl) q_984 q_20 (by omega) rfl (Nat.le_of_ble_eq_true rfl) (Nat.zero_le _) (Nat.zero_le _) dX4_whyNotSwap_68 rfl (fun r6 => ?_)
          refine g_if_ne 85 74 hX dX4_whyNotSwap_71 (by decide) rfl (fun _ => ?_) (fun _ => ?_)
          · refine g_iconst 86 hX 4 dX4_whyNotSwap_85 rfl kc_i_4 ?_
            refine g_goto 90 hX dX4_whyNotSwap_86 (by decide) ?_
            exact g_iret hX hr rfl (Nat.le_refl 0) (Nat.le_refl 0) dX4_whyNotSwap_90
          · refine g_aload_n 75 3 hX dX4_whyNotSwap_74 rfl rfl ?_
            refine g_aload 77 1 hX dX4_whyNotSwap_75 rfl rfl ?_
            refine g_aload_n 78 4 hX dX4_whyNotSwap_77 rfl rfl ?_
            refine g_aload_n 79 5 hX dX4_whyNotSwap_78 rfl rfl ?_
            refine g_callV_ip 82 hX (k_X4_tipsAfterSwap l g N M a0 r2 a1 a2) lk_X4_tipsAfterSwap rfl (ci := 4) rfl (Nat.le_of_ble_eq_true rfl) q_984 q_20 (by omega) rfl (Nat.le_of_ble_eq_true rfl) (Nat.zero_le _) (Nat.zero_le _) dX4_whyNotSwap_79 rfl (fun r7 => ?_)
            refine g_if_eq 89 85 hX dX4_whyNotSwap_82 (by decide) rfl (fun _ => ?_) (fun _ => ?_)
            · refine g_iconst 90 hX 0 dX4_whyNotSwap_89 rfl kc_i_0 ?_
              exact g_iret hX hr rfl (Nat.le_refl 0) (Nat.le_refl 0) dX4_whyNotSwap_90
            · refine g_iconst 86 hX 4 dX4_whyNotSwap_85 rfl kc_i_4 ?_
              refine g_goto 90 hX dX4_whyNotSwap_86 (by decide) ?_
              exact g_iret hX hr rfl (Nat.le_refl 0) (Nat.le_refl 0) dX4_whyNotSwap_90
        · refine g_iconst 63 hX 3 dX4_whyNotSwap_62 rfl kc_i_3 ?_
          exact g_iret hX hr rfl (Nat.le_refl 0) (Nat.le_refl 0) dX4_whyNotSwap_63
    · refine g_iconst 29 hX 5 dX4_whyNotSwap_28 rfl kc_i_5 ?_
      exact g_iret hX hr rfl (Nat.le_refl 0) (Nat.le_refl 0) dX4_whyNotSwap_29
def F_X4_seat (N : Nat) (M : kMem) (a0 : Nat) (a1 : Nat) (a2 : Nat) (x3 : Int32) : Option (kMem) :=
    kg (kt M a2 0) <|
    kg (kt M a1 10) <| kl (ksI M a1 6 (kI M a2 0)) fun M1 =>
    kg (kt M1 a1 10) <| kl (ksI M1 a1 7 x3) fun M2 =>
    kg (kt M2 a1 10) <|
    kg (kt M2 a2 0) <| (F_X0_setOwner N M2 a2 x3 (kI M2 a1 0)).bind fun M3 =>
    some M3
set_option maxRecDepth 100000 in
set_option maxHeartbeats 4000000 in
theorem k_X4_seat (l : Launch) (g : kG) (N : Nat) (M : kMem) (a0 : Nat) (a1 : Nat) (a2 : Nat) (x3 : Int32) : kMet l g yX4_seat cX4_seat 4 none 2 0 0 [.ref a0, .ref a1, .ref a2, .int x3] M (fun r : kMem => (none, r)) (F_X4_seat N M a0 a1 a2 x3) := by
  refine k_of (lv := [(0, .ref a0), (1, .ref a1), (2, .ref a2), (3, .int x3)]) RX4 (by decide) rfl rfl (Nat.le_of_ble_eq_true rfl) ?_
  intro p e s m args below meth c hX hr _
  unfold F_X4_seat
  refine g_aload_n 1 1 hX dX4_seat_0 rfl rfl ?_
  refine g_aload_n 2 2 hX dX4_seat_1 rfl rfl ?_
  refine r_X4_130 5 hX dX4_seat_2 rfl ?_
  refine p_X4_121 8 hX dX4_seat_5 rfl ?_
  refine g_klM (fun M1 hM1 => ?_)
  refine g_aload_n 9 1 hX dX4_seat_8 rfl rfl ?_
  refine g_iload_n 10 3 hX dX4_seat_9 rfl rfl ?_
  refine p_X4_124 13 hX dX4_seat_10 rfl ?_
  refine g_klM (fun M2 hM2 => ?_)
  refine g_aload_n 14 2 hX dX4_seat_13 rfl rfl ?_
  refine g_iload_n 15 3 hX dX4_seat_14 rfl rfl ?_
  refine g_aload_n 16 1 hX dX4_seat_15 rfl rfl ?_
  refine r_X4_127 19 hX dX4_seat_16 rfl ?_
  refine g_callV_v 22 hX (k_X0_setOwner l g N M2 a2 x3 (kI M2 a1 0)) lk_X0_setOwner rfl (ci := 0) rfl (Nat.le_of_ble_eq_true rfl) q_737 q_739 (by omega) rfl (Nat.le_of_ble_eq_true rfl) (Nat.zero_le _) (Nat.zero_le _) dX4_seat_19 rfl (fun M3 => ?_)
  exact g_vret hX hr rfl (Nat.le_refl 0) (Nat.le_refl 0) dX4_seat_22
def F_X4_unseat (N : Nat) (M : kMem) (a0 : Nat) (a1 : Nat) : Option (kMem) :=
    kg (kt M a1 10) <|
    kg (kt M a0 4) <| (F_X4_boardNumbered N M a0 (kI M a1 6)).bind fun r1 =>
    if r1 = 0 then (
      kg (kt M a1 10) <| kl (ksI M a1 6 (-1)) fun M2 =>
      kg (kt M2 a1 10) <| kl (ksI M2 a1 7 0) fun M3 =>
      some M3) else
    kg (kt M a1 10) <|
    kg (kt M r1 0) <| (F_X0_setOwner N M r1 (kI M a1 7) (-1)).bind fun M4 =>
    kg (kt M4 a1 10) <| kl (ksI M4 a1 6 (-1)) fun M5 =>
    kg (kt M5 a1 10) <| kl (ksI M5 a1 7 0) fun M6 =>
    some M6
set_option maxRecDepth 100000 in
set_option maxHeartbeats 4000000 in
theorem k_X4_unseat (l : Launch) (g : kG) (N : Nat) (M : kMem) (a0 : Nat) (a1 : Nat) : kMet l g yX4_unseat cX4_unseat 3 none 2 0 0 [.ref a0, .ref a1] M (fun r : kMem => (none, r)) (F_X4_unseat N M a0 a1) := by
  refine k_of (lv := [(0, .ref a0), (1, .ref a1)]) RX4 (by decide) rfl rfl (Nat.le_of_ble_eq_true rfl) ?_
  intro p e s m args below meth c hX hr _
  unfold F_X4_unseat
  refine g_aload_n 1 0 hX dX4_unseat_0 rfl rfl ?_
  refine g_aload_n 2 1 hX dX4_unseat_1 rfl rfl ?_
  refine r_X4_121 5 hX dX4_unseat_2 rfl ?_
  refine g_callV_rp 8 hX (k_X4_boardNumbered l g N M a0 (kI M a1 6)) lk_X4_boardNumbered rfl (ci := 4) rfl (Nat.le_of_ble_eq_true rfl) q_949 q_713 (by omega) rfl (Nat.le_of_ble_eq_true rfl) (Nat.zero_le _) (Nat.zero_le _) dX4_unseat_5 rfl (fun r1 => ?_)
  refine g_astore_n 9 2 [(2, .ref r1), (0, .ref a0), (1, .ref a1)] hX dX4_unseat_8 rfl rfl (Nat.le_of_ble_eq_true rfl) rfl ?_
  refine g_aload_n 10 0 hX dX4_unseat_9 rfl rfl ?_
  refine g_ifnull 22 13 hX dX4_unseat_10 (by decide) rfl (fun _ => ?_) (fun _ => ?_)
  · refine g_aload_n 23 2 hX dX4_unseat_22 rfl rfl ?_
    refine g_iconst 24 hX (-1) dX4_unseat_23 rfl kc_i_m1 ?_
    refine p_X4_121 27 hX dX4_unseat_24 rfl ?_
    refine g_klM (fun M2 hM2 => ?_)
    refine g_aload_n 28 2 hX dX4_unseat_27 rfl rfl ?_
    refine g_iconst 29 hX 0 dX4_unseat_28 rfl kc_i_0 ?_
    refine p_X4_124 32 hX dX4_unseat_29 rfl ?_
    refine g_klM (fun M3 hM3 => ?_)
    exact g_vret hX hr rfl (Nat.le_refl 0) (Nat.le_refl 0) dX4_unseat_32
  · refine g_aload_n 14 0 hX dX4_unseat_13 rfl rfl ?_
    refine g_aload_n 15 2 hX dX4_unseat_14 rfl rfl ?_
    refine r_X4_124 18 hX dX4_unseat_15 rfl ?_
    refine g_iconst 19 hX (-1) dX4_unseat_18 rfl kc_i_m1 ?_
    refine g_callV_v 22 hX (k_X0_setOwner l g N M r1 (kI M a1 7) (-1)) lk_X0_setOwner rfl (ci := 0) rfl (Nat.le_of_ble_eq_true rfl) q_737 q_739 (by omega) rfl (Nat.le_of_ble_eq_true rfl) (Nat.zero_le _) (Nat.zero_le _) dX4_unseat_19 rfl (fun M4 => ?_)
    refine g_aload_n 23 2 hX dX4_unseat_22 rfl rfl ?_
    refine g_iconst 24 hX (-1) dX4_unseat_23 rfl kc_i_m1 ?_
    refine p_X4_121 27 hX dX4_unseat_24 rfl ?_
    refine g_klM (fun M5 hM5 => ?_)
    refine g_aload_n 28 2 hX dX4_unseat_27 rfl rfl ?_
    refine g_iconst 29 hX 0 dX4_unseat_28 rfl kc_i_0 ?_
    refine p_X4_124 32 hX dX4_unseat_29 rfl ?_
    refine g_klM (fun M6 hM6 => ?_)
    exact g_vret hX hr rfl (Nat.le_refl 0) (Nat.le_refl 0) dX4_unseat_32
def F_X4_sellSeat (N : Nat) (M : kMem) (a0 : Nat) (a1 : Nat) (a2 : Nat) (x3 : Int32) : Option (Int32 × kMem) :=
    kg (kt M a0 4) <| (F_X4_priceOn N M a0 a2 x3).bind fun r1 =>
    kg (kt M a1 10) <|
    kg (kt M a1 10) <| kl (ksI M a1 3 ((kI M a1 3) - r1)) fun M2 =>
    kg (kt M2 a0 4) <|
    kg (kt M2 a0 4) <| kl (ksI M2 a0 1 ((kI M2 a0 1) + r1)) fun M3 =>
    kg (kt M3 a0 4) <| (F_X4_unseat N M3 a0 a1).bind fun M4 =>
    kg (kt M4 a0 4) <| (F_X4_seat N M4 a0 a1 a2 x3).bind fun M5 =>
    kg (kt M5 a0 4) <|
    kg (kt M5 a0 4) <| kl (ksI M5 a0 8 ((kI M5 a0 8) + 1)) fun M6 =>
    some (r1, M6)
set_option maxRecDepth 100000 in
set_option maxHeartbeats 4000000 in
theorem k_X4_sellSeat (l : Launch) (g : kG) (N : Nat) (M : kMem) (a0 : Nat) (a1 : Nat) (a2 : Nat) (x3 : Int32) : kMet l g yX4_sellSeat cX4_sellSeat 5 (some .int) 4 0 0 [.ref a0, .ref a1, .ref a2, .int x3] M (fun r : Int32 × kMem => (some (.int r.1), r.2)) (F_X4_sellSeat N M a0 a1 a2 x3) := by
  refine k_of (lv := [(0, .ref a0), (1, .ref a1), (2, .ref a2), (3, .int x3)]) RX4 (by decide) rfl rfl (Nat.le_of_ble_eq_true rfl) ?_
  intro p e s m args below meth c hX hr _
  unfold F_X4_sellSeat
  refine g_aload_n 1 0 hX dX4_sellSeat_0 rfl rfl ?_
  refine g_aload_n 2 2 hX dX4_sellSeat_1 rfl rfl ?_
  refine g_iload_n 3 3 hX dX4_sellSeat_2 rfl rfl ?_
  refine g_callV_ip 6 hX (k_X4_priceOn l g N M a0 a2 x3) lk_X4_priceOn rfl (ci := 4) rfl (Nat.le_of_ble_eq_true rfl) q_908 q_910 (by omega) rfl (Nat.le_of_ble_eq_true rfl) (Nat.zero_le _) (Nat.zero_le _) dX4_sellSeat_3 rfl (fun r1 => ?_)
  refine g_istore 8 4 [(4, .int r1), (0, .ref a0), (1, .ref a1), (2, .ref a2), (3, .int x3)] hX dX4_sellSeat_6 rfl (Nat.le_of_ble_eq_true rfl) rfl ?_
  refine g_aload_n 9 2 hX dX4_sellSeat_8 rfl rfl ?_
  refine g_dup 10 hX dX4_sellSeat_9 rfl rfl ?_
  refine r_X4_111 13 hX dX4_sellSeat_10 rfl ?_
  refine g_iload 15 0 hX dX4_sellSeat_13 rfl rfl ?_
  refine g_isub 16 hX dX4_sellSeat_15 rfl ?_
  refine p_X4_111 19 hX dX4_sellSeat_16 rfl ?_
  refine g_klM (fun M2 hM2 => ?_)
  refine g_aload_n 20 1 hX dX4_sellSeat_19 rfl rfl ?_
  refine g_dup 21 hX dX4_sellSeat_20 rfl rfl ?_
  refine r_X4_56 24 hX dX4_sellSeat_21 rfl ?_
  refine g_iload 26 0 hX dX4_sellSeat_24 rfl rfl ?_
  refine g_iadd 27 hX dX4_sellSeat_26 rfl ?_
  refine p_X4_56 30 hX dX4_sellSeat_27 rfl ?_
  refine g_klM (fun M3 hM3 => ?_)
  refine g_aload_n 31 1 hX dX4_sellSeat_30 rfl rfl ?_
  refine g_aload_n 32 2 hX dX4_sellSeat_31 rfl rfl ?_
  refine g_callV_v 35 hX (k_X4_unseat l g N M3 a0 a1) lk_X4_unseat rfl (ci := 4) rfl (Nat.le_of_ble_eq_true rfl) q_945 q_947 (by omega) rfl (Nat.le_of_ble_eq_true rfl) (Nat.zero_le _) (Nat.zero_le _) dX4_sellSeat_32 rfl (fun M4 => ?_)
  refine g_aload_n 36 1 hX dX4_sellSeat_35 rfl rfl ?_
  refine g_aload_n 37 2 hX dX4_sellSeat_36 rfl rfl ?_
  refine g_aload_n 38 3 hX dX4_sellSeat_37 rfl rfl ?_
  refine g_iload_n 39 4 hX dX4_sellSeat_38 rfl rfl ?_
  refine g_callV_v 42 hX (k_X4_seat l g N M4 a0 a1 a2 x3) lk_X4_seat rfl (ci := 4) rfl (Nat.le_of_ble_eq_true rfl) q_950 q_735 (by omega) rfl (Nat.le_of_ble_eq_true rfl) (Nat.zero_le _) (Nat.zero_le _) dX4_sellSeat_39 rfl (fun M5 => ?_)
  refine g_aload_n 43 1 hX dX4_sellSeat_42 rfl rfl ?_
  refine g_dup 44 hX dX4_sellSeat_43 rfl rfl ?_
  refine r_X4_38 47 hX dX4_sellSeat_44 rfl ?_
  refine g_iconst 48 hX 1 dX4_sellSeat_47 rfl kc_i_1 ?_
  refine g_iadd 49 hX dX4_sellSeat_48 rfl ?_
  refine p_X4_38 52 hX dX4_sellSeat_49 rfl ?_
  refine g_klM (fun M6 hM6 => ?_)
  refine g_iload 54 0 hX dX4_sellSeat_52 rfl rfl ?_
  exact g_iret hX hr rfl (Nat.le_refl 0) (Nat.le_refl 0) dX4_sellSeat_54
def F_X4_moveWeight (N : Nat) (M : kMem) (a0 : Nat) (a1 : Nat) (a2 : Nat) (x3 : Int32) : Option (Int32 × kMem) :=
    kg (kt M a0 4) <| (F_X4_unitPrice N M a0 a1 a2).bind fun r1 =>
    kl (x3 * r1) fun v2 =>
    kg (kt M a2 10) <|
    kg (kt M a2 10) <| kl (ksI M a2 3 ((kI M a2 3) - v2)) fun M3 =>
    kg (kt M3 a1 10) <|
    kg (kt M3 a1 10) <| kl (ksI M3 a1 3 ((kI M3 a1 3) + v2)) fun M4 =>
    kg (kt M4 a1 10) <|
    kg (kt M4 a1 10) <| kl (ksI M4 a1 2 ((kI M4 a1 2) - x3)) fun M5 =>
    kg (kt M5 a2 10) <|
    kg (kt M5 a2 10) <| kl (ksI M5 a2 2 ((kI M5 a2 2) + x3)) fun M6 =>
    kg (kt M6 a0 4) <|
    kg (kt M6 a0 4) <| kl (ksI M6 a0 9 ((kI M6 a0 9) + x3)) fun M7 =>
    some (v2, M7)
set_option maxRecDepth 100000 in
set_option maxHeartbeats 4000000 in
theorem k_X4_moveWeight (l : Launch) (g : kG) (N : Nat) (M : kMem) (a0 : Nat) (a1 : Nat) (a2 : Nat) (x3 : Int32) : kMet l g yX4_moveWeight cX4_moveWeight 5 (some .int) 4 0 0 [.ref a0, .ref a1, .ref a2, .int x3] M (fun r : Int32 × kMem => (some (.int r.1), r.2)) (F_X4_moveWeight N M a0 a1 a2 x3) := by
  refine k_of (lv := [(0, .ref a0), (1, .ref a1), (2, .ref a2), (3, .int x3)]) RX4 (by decide) rfl rfl (Nat.le_of_ble_eq_true rfl) ?_
  intro p e s m args below meth c hX hr _
  unfold F_X4_moveWeight
  refine g_iload_n 1 3 hX dX4_moveWeight_0 rfl rfl ?_
  refine g_aload_n 2 0 hX dX4_moveWeight_1 rfl rfl ?_
  refine g_aload_n 3 1 hX dX4_moveWeight_2 rfl rfl ?_
  refine g_aload_n 4 2 hX dX4_moveWeight_3 rfl rfl ?_
  refine g_callV_ip 7 hX (k_X4_unitPrice l g N M a0 a1 a2) lk_X4_unitPrice rfl (ci := 4) rfl (Nat.le_of_ble_eq_true rfl) q_965 q_967 (by omega) rfl (Nat.le_of_ble_eq_true rfl) (Nat.zero_le _) (Nat.zero_le _) dX4_moveWeight_4 rfl (fun r1 => ?_)
  refine g_imul 8 hX dX4_moveWeight_7 rfl ?_
  refine g_klI (fun v2 hv2 => ?_)
  refine g_istore 10 4 [(4, .int v2), (0, .ref a0), (1, .ref a1), (2, .ref a2), (3, .int x3)] hX dX4_moveWeight_8 rfl (Nat.le_of_ble_eq_true rfl) rfl ?_
  refine g_aload_n 11 3 hX dX4_moveWeight_10 rfl rfl ?_
  refine g_dup 12 hX dX4_moveWeight_11 rfl rfl ?_
  refine r_X4_111 15 hX dX4_moveWeight_12 rfl ?_
  refine g_iload 17 0 hX dX4_moveWeight_15 rfl rfl ?_
  refine g_isub 18 hX dX4_moveWeight_17 rfl ?_
  refine p_X4_111 21 hX dX4_moveWeight_18 rfl ?_
  refine g_klM (fun M3 hM3 => ?_)
  refine g_aload_n 22 2 hX dX4_moveWeight_21 rfl rfl ?_
  refine g_dup 23 hX dX4_moveWeight_22 rfl rfl ?_
  refine r_X4_111 26 hX dX4_moveWeight_23 rfl ?_
  refine g_iload 28 0 hX dX4_moveWeight_26 rfl rfl ?_
  refine g_iadd 29 hX dX4_moveWeight_28 rfl ?_
  refine p_X4_111 32 hX dX4_moveWeight_29 rfl ?_
  refine g_klM (fun M4 hM4 => ?_)
  refine g_aload_n 33 2 hX dX4_moveWeight_32 rfl rfl ?_
  refine g_dup 34 hX dX4_moveWeight_33 rfl rfl ?_
  refine r_X4_108 37 hX dX4_moveWeight_34 rfl ?_
  refine g_iload_n 38 4 hX dX4_moveWeight_37 rfl rfl ?_
  refine g_isub 39 hX dX4_moveWeight_38 rfl ?_
  refine p_X4_108 42 hX dX4_moveWeight_39 rfl ?_
  refine g_klM (fun M5 hM5 => ?_)
  refine g_aload_n 43 3 hX dX4_moveWeight_42 rfl rfl ?_
  refine g_dup 44 hX dX4_moveWeight_43 rfl rfl ?_
  refine r_X4_108 47 hX dX4_moveWeight_44 rfl ?_
  refine g_iload_n 48 4 hX dX4_moveWeight_47 rfl rfl ?_
  refine g_iadd 49 hX dX4_moveWeight_48 rfl ?_
  refine p_X4_108 52 hX dX4_moveWeight_49 rfl ?_
  refine g_klM (fun M6 hM6 => ?_)
  refine g_aload_n 53 1 hX dX4_moveWeight_52 rfl rfl ?_
  refine g_dup 54 hX dX4_moveWeight_53 rfl rfl ?_
  refine r_X4_41 57 hX dX4_moveWeight_54 rfl ?_
  refine g_iload_n 58 4 hX dX4_moveWeight_57 rfl rfl ?_
  refine g_iadd 59 hX dX4_moveWeight_58 rfl ?_
  refine p_X4_41 62 hX dX4_moveWeight_59 rfl ?_
  refine g_klM (fun M7 hM7 => ?_)
  refine g_iload 64 0 hX dX4_moveWeight_62 rfl rfl ?_
  exact g_iret hX hr rfl (Nat.le_refl 0) (Nat.le_refl 0) dX4_moveWeight_64
def F_X4_exchangeSeats (N : Nat) (M : kMem) (a0 : Nat) (a1 : Nat) (a2 : Nat) : Option (Int32 × kMem) :=
    kg (kt M a1 10) <|
    kg (kt M a0 4) <| (F_X4_boardNumbered N M a0 (kI M a1 6)).bind fun r1 =>
    kg (kt M a2 10) <|
    kg (kt M a0 4) <| (F_X4_boardNumbered N M a0 (kI M a2 6)).bind fun r2 =>
    if r1 = 0 then (
      some (0, M)) else
    if r2 = 0 then (
      some (0, M)) else
    kg (kt M a0 4) <| (F_X4_heightUnder N M a0 a2).bind fun r3 =>
    kg (kt M a0 4) <| (F_X4_heightUnder N M a0 a1).bind fun r4 =>
    kl (r3 - r4) fun v5 =>
    kg (kt M a1 10) <|
    kl (kI M a1 7) fun v6 =>
    kg (kt M a1 10) <|
    kg (kt M a1 10) <| kl (ksI M a1 3 ((kI M a1 3) - v5)) fun M7 =>
    kg (kt M7 a2 10) <|
    kg (kt M7 a2 10) <| kl (ksI M7 a2 3 ((kI M7 a2 3) + v5)) fun M8 =>
    kg (kt M8 a2 10) <|
    kg (kt M8 a0 4) <| (F_X4_seat N M8 a0 a1 r2 (kI M8 a2 7)).bind fun M9 =>
    kg (kt M9 a0 4) <| (F_X4_seat N M9 a0 a2 r1 v6).bind fun M10 =>
    some (v5, M10)
set_option maxRecDepth 100000 in
set_option maxHeartbeats 4000000 in
theorem k_X4_exchangeSeats (l : Launch) (g : kG) (N : Nat) (M : kMem) (a0 : Nat) (a1 : Nat) (a2 : Nat) : kMet l g yX4_exchangeSeats cX4_exchangeSeats 7 (some .int) 3 0 0 [.ref a0, .ref a1, .ref a2] M (fun r : Int32 × kMem => (some (.int r.1), r.2)) (F_X4_exchangeSeats N M a0 a1 a2) := by
  refine k_of (lv := [(0, .ref a0), (1, .ref a1), (2, .ref a2)]) RX4 (by decide) rfl rfl (Nat.le_of_ble_eq_true rfl) ?_
  intro p e s m args below meth c hX hr _
  unfold F_X4_exchangeSeats
  refine g_aload_n 1 0 hX dX4_exchangeSeats_0 rfl rfl ?_
  refine g_aload_n 2 1 hX dX4_exchangeSeats_1 rfl rfl ?_
  refine r_X4_121 5 hX dX4_exchangeSeats_2 rfl ?_
  refine g_callV_rp 8 hX (k_X4_boardNumbered l g N M a0 (kI M a1 6)) lk_X4_boardNumbered rfl (ci := 4) rfl (Nat.le_of_ble_eq_true rfl) q_949 q_713 (by omega) rfl (Nat.le_of_ble_eq_true rfl) (Nat.zero_le _) (Nat.zero_le _) dX4_exchangeSeats_5 rfl (fun r1 => ?_)
  refine g_astore_n 9 3 [(3, .ref r1), (0, .ref a0), (1, .ref a1), (2, .ref a2)] hX dX4_exchangeSeats_8 rfl rfl (Nat.le_of_ble_eq_true rfl) rfl ?_
  refine g_aload_n 10 1 hX dX4_exchangeSeats_9 rfl rfl ?_
  refine g_aload_n 11 3 hX dX4_exchangeSeats_10 rfl rfl ?_
  refine r_X4_121 14 hX dX4_exchangeSeats_11 rfl ?_
  refine g_callV_rp 17 hX (k_X4_boardNumbered l g N M a0 (kI M a2 6)) lk_X4_boardNumbered rfl (ci := 4) rfl (Nat.le_of_ble_eq_true rfl) q_949 q_713 (by omega) rfl (Nat.le_of_ble_eq_true rfl) (Nat.zero_le _) (Nat.zero_le _) dX4_exchangeSeats_14 rfl (fun r2 => ?_)
  refine g_astore 19 4 [(4, .ref r2), (3, .ref r1), (0, .ref a0), (1, .ref a1), (2, .ref a2)] hX dX4_exchangeSeats_17 rfl (Nat.le_of_ble_eq_true rfl) rfl ?_
  refine g_aload_n 20 1 hX dX4_exchangeSeats_19 rfl rfl ?_
  refine g_ifnull 28 23 hX dX4_exchangeSeats_20 (by decide) rfl (fun _ => ?_) (fun _ => ?_)
  · refine g_iconst 29 hX 0 dX4_exchangeSeats_28 rfl kc_i_0 ?_
    exact g_iret hX hr rfl (Nat.le_refl 0) (Nat.le_refl 0) dX4_exchangeSeats_29
  · refine g_aload 25 0 hX dX4_exchangeSeats_23 rfl rfl ?_
    refine g_ifnonnull 30 28 hX dX4_exchangeSeats_25 (by decide) rfl (fun _ => ?_) (fun _ => ?_)
    · refine g_aload_n 31 2 hX dX4_exchangeSeats_30 rfl rfl ?_
      refine g_aload_n 32 4 hX dX4_exchangeSeats_31 rfl rfl ?_
      refine g_callV_ip 35 hX (k_X4_heightUnder l g N M a0 a2) lk_X4_heightUnder rfl (ci := 4) rfl (Nat.le_of_ble_eq_true rfl) q_969 q_19 (by omega) rfl (Nat.le_of_ble_eq_true rfl) (Nat.zero_le _) (Nat.zero_le _) dX4_exchangeSeats_32 rfl (fun r3 => ?_)
      refine g_aload_n 36 2 hX dX4_exchangeSeats_35 rfl rfl ?_
      refine g_aload_n 37 3 hX dX4_exchangeSeats_36 rfl rfl ?_
      refine g_callV_ip 40 hX (k_X4_heightUnder l g N M a0 a1) lk_X4_heightUnder rfl (ci := 4) rfl (Nat.le_of_ble_eq_true rfl) q_969 q_19 (by omega) rfl (Nat.le_of_ble_eq_true rfl) (Nat.zero_le _) (Nat.zero_le _) dX4_exchangeSeats_37 rfl (fun r4 => ?_)
      refine g_isub 41 hX dX4_exchangeSeats_40 rfl ?_
      refine g_klI (fun v5 hv5 => ?_)
      refine g_istore 43 5 [(5, .int v5), (4, .ref r2), (3, .ref r1), (0, .ref a0), (1, .ref a1), (2, .ref a2)] hX dX4_exchangeSeats_41 rfl (Nat.le_of_ble_eq_true rfl) rfl ?_
      refine g_aload_n 44 4 hX dX4_exchangeSeats_43 rfl rfl ?_
      refine r_X4_124 47 hX dX4_exchangeSeats_44 rfl ?_
      refine g_klI (fun v6 hv6 => ?_)
      refine g_istore 49 6 [(6, .int v6), (5, .int v5), (4, .ref r2), (3, .ref r1), (0, .ref a0), (1, .ref a1), (2, .ref a2)] hX dX4_exchangeSeats_47 rfl (Nat.le_of_ble_eq_true rfl) rfl ?_
      refine g_aload_n 50 5 hX dX4_exchangeSeats_49 rfl rfl ?_
      refine g_dup 51 hX dX4_exchangeSeats_50 rfl rfl ?_
      refine r_X4_111 54 hX dX4_exchangeSeats_51 rfl ?_
      refine g_iload 56 1 hX dX4_exchangeSeats_54 rfl rfl ?_
      refine g_isub 57 hX dX4_exchangeSeats_56 rfl ?_
      refine p_X4_111 60 hX dX4_exchangeSeats_57 rfl ?_
      refine g_klM (fun M7 hM7 => ?_)
      refine g_aload_n 61 6 hX dX4_exchangeSeats_60 rfl rfl ?_
      refine g_dup 62 hX dX4_exchangeSeats_61 rfl rfl ?_
      refine r_X4_111 65 hX dX4_exchangeSeats_62 rfl ?_
      refine g_iload 67 1 hX dX4_exchangeSeats_65 rfl rfl ?_
      refine g_iadd 68 hX dX4_exchangeSeats_67 rfl ?_
      refine p_X4_111 71 hX dX4_exchangeSeats_68 rfl ?_
      refine g_klM (fun M8 hM8 => ?_)
      refine g_aload_n 72 4 hX dX4_exchangeSeats_71 rfl rfl ?_
      refine g_aload_n 73 5 hX dX4_exchangeSeats_72 rfl rfl ?_
      refine g_aload 75 2 hX dX4_exchangeSeats_73 rfl rfl ?_
      refine g_aload_n 76 6 hX dX4_exchangeSeats_75 rfl rfl ?_
      refine r_X4_124 79 hX dX4_exchangeSeats_76 rfl ?_
      refine g_callV_v 82 hX (k_X4_seat l g N M8 a0 a1 r2 (kI M8 a2 7)) lk_X4_seat rfl (ci := 4) rfl (Nat.le_of_ble_eq_true rfl) q_950 q_735 (by omega) rfl (Nat.le_of_ble_eq_true rfl) (Nat.zero_le _) (Nat.zero_le _) dX4_exchangeSeats_79 rfl (fun M9 => ?_)
      refine g_aload_n 83 4 hX dX4_exchangeSeats_82 rfl rfl ?_
      refine g_aload_n 84 6 hX dX4_exchangeSeats_83 rfl rfl ?_
      refine g_aload_n 85 3 hX dX4_exchangeSeats_84 rfl rfl ?_
      refine g_iload 87 0 hX dX4_exchangeSeats_85 rfl rfl ?_
      refine g_callV_v 90 hX (k_X4_seat l g N M9 a0 a2 r1 v6) lk_X4_seat rfl (ci := 4) rfl (Nat.le_of_ble_eq_true rfl) q_950 q_735 (by omega) rfl (Nat.le_of_ble_eq_true rfl) (Nat.zero_le _) (Nat.zero_le _) dX4_exchangeSeats_87 rfl (fun M10 => ?_)
      refine g_iload 92 1 hX dX4_exchangeSeats_90 rfl rfl ?_
      exact g_iret hX hr rfl (Nat.le_refl 0) (Nat.le_refl 0) dX4_exchangeSeats_92
    · refine g_iconst 29 hX 0 dX4_exchangeSeats_28 rfl kc_i_0 ?_
      exact g_iret hX hr rfl (Nat.le_refl 0) (Nat.le_refl 0) dX4_exchangeSeats_29
def F_X4_allowsDays (N : Nat) (M : kMem) (a0 : Nat) (x1 : Int32) : Option (Int32) :=
    kg (kt M a0 4) <|
    if (9999 : Int32) < ((kI M a0 0) + x1) then (
      some 0) else
    some 1
set_option maxRecDepth 100000 in
set_option maxHeartbeats 4000000 in
theorem k_X4_allowsDays (l : Launch) (g : kG) (N : Nat) (M : kMem) (a0 : Nat) (x1 : Int32) : kMet l g yX4_allowsDays cX4_allowsDays 2 (some .boolean) 1 0 0 [.ref a0, .int x1] M (fun r : Int32 => (some (.int r), M)) (F_X4_allowsDays N M a0 x1) := by
  refine k_of (lv := [(0, .ref a0), (1, .int x1)]) RX4 (by decide) rfl rfl (Nat.le_of_ble_eq_true rfl) ?_
  intro p e s m args below meth c hX hr _
  unfold F_X4_allowsDays
  refine g_aload_n 1 0 hX dX4_allowsDays_0 rfl rfl ?_
  refine r_X4_34 4 hX dX4_allowsDays_1 rfl ?_
  refine g_iload_n 5 1 hX dX4_allowsDays_4 rfl rfl ?_
  refine g_iadd 6 hX dX4_allowsDays_5 rfl ?_
  refine g_sipush 9 hX 9999 dX4_allowsDays_6 rfl kc_s_9999 ?_
  refine g_icmp_gt 16 12 hX dX4_allowsDays_9 (by decide) rfl (fun _ => ?_) (fun _ => ?_)
  · refine g_iconst 17 hX 0 dX4_allowsDays_16 rfl kc_i_0 ?_
    exact g_zretL hX hr rfl rfl (Nat.le_refl 0) (Nat.le_refl 0) dX4_allowsDays_17
  · refine g_iconst 13 hX 1 dX4_allowsDays_12 rfl kc_i_1 ?_
    refine g_goto 17 hX dX4_allowsDays_13 (by decide) ?_
    exact g_zretL hX hr rfl rfl (Nat.le_refl 0) (Nat.le_refl 0) dX4_allowsDays_17
def F_X4_payToBank (N : Nat) (M : kMem) (a0 : Nat) (a1 : Nat) (x2 : Int32) : Option (kMem) :=
    kg (kt M a1 10) <|
    kl (kmin x2 (kI M a1 3)) fun v1 =>
    kg (kt M a1 10) <|
    kg (kt M a1 10) <| kl (ksI M a1 3 ((kI M a1 3) - v1)) fun M2 =>
    kg (kt M2 a0 4) <|
    kg (kt M2 a0 4) <| kl (ksI M2 a0 1 ((kI M2 a0 1) + v1)) fun M3 =>
    some M3
set_option maxRecDepth 100000 in
set_option maxHeartbeats 4000000 in
theorem k_X4_payToBank (l : Launch) (g : kG) (N : Nat) (M : kMem) (a0 : Nat) (a1 : Nat) (x2 : Int32) : kMet l g yX4_payToBank cX4_payToBank 4 none 1 0 0 [.ref a0, .ref a1, .int x2] M (fun r : kMem => (none, r)) (F_X4_payToBank N M a0 a1 x2) := by
  refine k_of (lv := [(0, .ref a0), (1, .ref a1), (2, .int x2)]) RX4 (by decide) rfl rfl (Nat.le_of_ble_eq_true rfl) ?_
  intro p e s m args below meth c hX hr _
  unfold F_X4_payToBank
  refine g_iload_n 1 2 hX dX4_payToBank_0 rfl rfl ?_
  refine g_aload_n 2 1 hX dX4_payToBank_1 rfl rfl ?_
  refine r_X4_111 5 hX dX4_payToBank_2 rfl ?_
  refine g_mmin 8 hX q_1008 dX4_payToBank_5 rfl (Nat.le_of_ble_eq_true rfl) (by decide) (Nat.zero_le _) (Nat.zero_le _) ?_
  refine g_klI (fun v1 hv1 => ?_)
  refine g_istore_n 9 3 [(3, .int v1), (0, .ref a0), (1, .ref a1), (2, .int x2)] hX dX4_payToBank_8 rfl rfl (Nat.le_of_ble_eq_true rfl) rfl ?_
  refine g_aload_n 10 2 hX dX4_payToBank_9 rfl rfl ?_
  refine g_dup 11 hX dX4_payToBank_10 rfl rfl ?_
  refine r_X4_111 14 hX dX4_payToBank_11 rfl ?_
  refine g_iload_n 15 0 hX dX4_payToBank_14 rfl rfl ?_
  refine g_isub 16 hX dX4_payToBank_15 rfl ?_
  refine p_X4_111 19 hX dX4_payToBank_16 rfl ?_
  refine g_klM (fun M2 hM2 => ?_)
  refine g_aload_n 20 1 hX dX4_payToBank_19 rfl rfl ?_
  refine g_dup 21 hX dX4_payToBank_20 rfl rfl ?_
  refine r_X4_56 24 hX dX4_payToBank_21 rfl ?_
  refine g_iload_n 25 0 hX dX4_payToBank_24 rfl rfl ?_
  refine g_iadd 26 hX dX4_payToBank_25 rfl ?_
  refine p_X4_56 29 hX dX4_payToBank_26 rfl ?_
  refine g_klM (fun M3 hM3 => ?_)
  exact g_vret hX hr rfl (Nat.le_refl 0) (Nat.le_refl 0) dX4_payToBank_29
def F_X4_retire (N : Nat) (M : kMem) (a0 : Nat) (a1 : Nat) : Option (kMem) :=
    kg (kt M a0 4) <| (F_X4_unseat N M a0 a1).bind fun M1 =>
    kg (kt M1 a1 10) <|
    kg (kt M1 a0 4) <| (F_X4_payToBank N M1 a0 a1 (kI M1 a1 3)).bind fun M2 =>
    kg (kt M2 a1 10 && ((0 : Int32) == 0 || (0 : Int32) == 1)) <| kl (ksI M2 a1 5 0) fun M3 =>
    kg (kt M3 a0 4) <|
    kg (kt M3 a1 10) <|
    kg (kt M3 a0 4) <|
    kg (kt M3 (kR M3 a0 15) 2) <| (F_X2_add N M3 (kR M3 a0 15) 2 (kI M3 a1 0) (kI M3 a0 0)).bind fun M4 =>
    some M4
set_option maxRecDepth 100000 in
set_option maxHeartbeats 4000000 in
theorem k_X4_retire (l : Launch) (g : kG) (N : Nat) (M : kMem) (a0 : Nat) (a1 : Nat) : kMet l g yX4_retire cX4_retire 2 none 3 0 0 [.ref a0, .ref a1] M (fun r : kMem => (none, r)) (F_X4_retire N M a0 a1) := by
  refine k_of (lv := [(0, .ref a0), (1, .ref a1)]) RX4 (by decide) rfl rfl (Nat.le_of_ble_eq_true rfl) ?_
  intro p e s m args below meth c hX hr _
  unfold F_X4_retire
  refine g_aload_n 1 0 hX dX4_retire_0 rfl rfl ?_
  refine g_aload_n 2 1 hX dX4_retire_1 rfl rfl ?_
  refine g_callV_v 5 hX (k_X4_unseat l g N M a0 a1) lk_X4_unseat rfl (ci := 4) rfl (Nat.le_of_ble_eq_true rfl) q_945 q_947 (by omega) rfl (Nat.le_of_ble_eq_true rfl) (Nat.zero_le _) (Nat.zero_le _) dX4_retire_2 rfl (fun M1 => ?_)
  refine g_aload_n 6 0 hX dX4_retire_5 rfl rfl ?_
  refine g_aload_n 7 1 hX dX4_retire_6 rfl rfl ?_
  refine g_aload_n 8 1 hX dX4_retire_7 rfl rfl ?_
  refine r_X4_111 11 hX dX4_retire_8 rfl ?_
  refine g_callV_v 14 hX (k_X4_payToBank l g N M1 a0 a1 (kI M1 a1 3)) lk_X4_payToBank rfl (ci := 4) rfl (Nat.le_of_ble_eq_true rfl) q_1017 q_24 (by omega) rfl (Nat.le_of_ble_eq_true rfl) (Nat.zero_le _) (Nat.zero_le _) dX4_retire_11 rfl (fun M2 => ?_)
  refine g_aload_n 15 1 hX dX4_retire_14 rfl rfl ?_
  refine g_iconst 16 hX 0 dX4_retire_15 rfl kc_i_0 ?_
  refine p_X4_117 19 hX dX4_retire_16 rfl ?_
  refine g_klM (fun M3 hM3 => ?_)
  refine g_aload_n 20 0 hX dX4_retire_19 rfl rfl ?_
  refine r_X4_26 23 hX dX4_retire_20 rfl ?_
  refine g_iconst 24 hX 2 dX4_retire_23 rfl kc_i_2 ?_
  refine g_aload_n 25 1 hX dX4_retire_24 rfl rfl ?_
  refine r_X4_127 28 hX dX4_retire_25 rfl ?_
  refine g_aload_n 29 0 hX dX4_retire_28 rfl rfl ?_
  refine r_X4_34 32 hX dX4_retire_29 rfl ?_
  refine g_callV_v 35 hX (k_X2_add l g N M3 (kR M3 a0 15) 2 (kI M3 a1 0) (kI M3 a0 0)) lk_X2_add rfl (ci := 2) rfl (Nat.le_of_ble_eq_true rfl) q_1021 q_1023 (by omega) rfl (Nat.le_of_ble_eq_true rfl) (Nat.zero_le _) (Nat.zero_le _) dX4_retire_32 rfl (fun M4 => ?_)
  exact g_vret hX hr rfl (Nat.le_refl 0) (Nat.le_refl 0) dX4_retire_35
def F_X4_ageTraders_2 (N : Nat) : Nat → kMem → Nat → Int32 → Option (kMem)
  | 0, _, _, _ => none
  | n + 1, M, a0, x1 =>
    kg (kt M a0 4) <|
    if x1 < (kI M a0 12) then (
      kg (kt M a0 4) <|
      kg (kin M (kR M a0 14) 17 x1) <|
      kl (kR M (kR M a0 14) (kx x1)) fun w1 =>
      kg (kt M w1 10) <|
      if (kI M w1 5) = 0 then (
        kl (x1 + 1) fun v2 =>
        F_X4_ageTraders_2 N n M a0 v2) else
      kg (kt M w1 10) <|
      kg (kt M w1 10) <| kl (ksI M w1 4 ((kI M w1 4) + 1)) fun M3 =>
      kg (kt M3 w1 10) <|
      kg (kt M3 a0 4) <|
      if (kI M3 a0 5) < (kI M3 w1 4) then (
        kg (kt M3 a0 4) <| (F_X4_retire N M3 a0 w1).bind fun M5 =>
        kl (x1 + 1) fun v6 =>
        F_X4_ageTraders_2 N n M5 a0 v6) else
      kl (x1 + 1) fun v4 =>
      F_X4_ageTraders_2 N n M3 a0 v4) else
    some M
def F_X4_ageTraders (N : Nat) (M : kMem) (a0 : Nat) : Option (kMem) :=
    F_X4_ageTraders_2 N N M a0 0
set_option maxRecDepth 100000 in
set_option maxHeartbeats 4000000 in
theorem k_X4_ageTraders_2 {p : Program} {l : Launch} {e : Env} {s : State} {m : MethodId} {args : Array Value} {below : List Frame} {meth : Method} {c : Code} {g : kG} (hX : Cok (p, l, e, { frames := 2 * 4, cells := 0, slots := 0, locals := 60 * 4 }, s, m, args, below, meth, c, cX4_ageTraders, 3, RX4, g, 4)) (hr : meth.sig.returnType = none) (N : Nat) : ∀ (n : Nat) (M : kMem) (a0 : Nat) (x1 : Int32), GG (p, l, e, { frames := 2 * 4, cells := 0, slots := 0, locals := 60 * 4 }, s, m, args, below, meth, c, cX4_ageTraders, 3, RX4, g, 4) (fun b => MQ below (kQ g ((fun r : kMem => (none, r)) b)) args s 0 0 (kZ g.2.2.1)) 0 0 (F_X4_ageTraders_2 N n M a0 x1) 2 [(0, .ref a0), (1, .int x1)] [] M := by
  intro n
  induction n with
  | zero => intro _ _ _; exact g_none
  | succ n ih =>
    intro M a0 x1
    unfold F_X4_ageTraders_2
    refine g_iload_n 3 1 hX dX4_ageTraders_2 rfl rfl ?_
    refine g_aload_n 4 0 hX dX4_ageTraders_3 rfl rfl ?_
    refine r_X4_50 7 hX dX4_ageTraders_4 rfl ?_
    refine g_icmp_ge 56 10 hX dX4_ageTraders_7 (by decide) rfl (fun _ => ?_) (fun _ => ?_)
    · exact g_vret hX hr rfl (Nat.le_refl 0) (Nat.le_refl 0) dX4_ageTraders_56
    · refine g_aload_n 11 0 hX dX4_ageTraders_10 rfl rfl ?_
      refine r_X4_19 14 hX dX4_ageTraders_11 rfl ?_
      refine g_iload_n 15 1 hX dX4_ageTraders_14 rfl rfl ?_
      refine g_aald 17 4 16 hX RX10 (Nat.le_of_ble_eq_true rfl) rfl dX4_ageTraders_15 rfl ?_
      refine g_klR (fun w1 hw1 => ?_)
      refine g_astore_n 17 2 [(2, .ref w1), (0, .ref a0), (1, .int x1)] hX dX4_ageTraders_16 rfl rfl (Nat.le_of_ble_eq_true rfl) rfl ?_
      refine g_aload_n 18 0 hX dX4_ageTraders_17 rfl rfl ?_
      refine r_X4_117 21 hX dX4_ageTraders_18 rfl ?_
      refine g_if_eq 50 24 hX dX4_ageTraders_21 (by decide) rfl (fun _ => ?_) (fun _ => ?_)
      · refine g_kl (fun v2 hv2 => ?_)
        refine g_iinc 53 1 2 v2 [(1, .int v2), (2, .ref w1), (0, .ref a0)] hX dX4_ageTraders_50 rfl rfl (by rw [hv2, kc_i_1]) (Nat.le_of_ble_eq_true rfl) rfl ?_
        refine g_goto 2 hX dX4_ageTraders_53 (by decide) ?_
        refine g_lv [2, 0] rfl ?_
        exact ih M a0 v2
      · refine g_aload_n 25 0 hX dX4_ageTraders_24 rfl rfl ?_
        refine g_dup 26 hX dX4_ageTraders_25 rfl rfl ?_
        refine r_X4_114 29 hX dX4_ageTraders_26 rfl ?_
        refine g_iconst 30 hX 1 dX4_ageTraders_29 rfl kc_i_1 ?_
        refine g_iadd 31 hX dX4_ageTraders_30 rfl ?_
        refine p_X4_114 34 hX dX4_ageTraders_31 rfl ?_
        refine g_klM (fun M3 hM3 => ?_)
        refine g_aload_n 35 0 hX dX4_ageTraders_34 rfl rfl ?_
        refine r_X4_114 38 hX dX4_ageTraders_35 rfl ?_
        refine g_aload_n 39 1 hX dX4_ageTraders_38 rfl rfl ?_
        refine r_X4_68 42 hX dX4_ageTraders_39 rfl ?_
        refine g_icmp_le 50 45 hX dX4_ageTraders_42 (by decide) rfl (fun _ => ?_) (fun _ => ?_)
        · refine g_kl (fun v4 hv4 => ?_)
          refine g_iinc 53 1 2 v4 [(1, .int v4), (2, .ref w1), (0, .ref a0)] hX dX4_ageTraders_50 rfl rfl (by rw [hv4, kc_i_1]) (Nat.le_of_ble_eq_true rfl) rfl ?_
          refine g_goto 2 hX dX4_ageTraders_53 (by decide) ?_
          refine g_lv [2, 0] rfl ?_
          exact ih M3 a0 v4
        · refine g_aload_n 46 1 hX dX4_ageTraders_45 rfl rfl ?_
          refine g_aload_n 47 0 hX dX4_ageTraders_46 rfl rfl ?_
          refine g_callV_v 50 hX (k_X4_retire l g N M3 a0 w1) lk_X4_retire rfl (ci := 4) rfl (Nat.le_of_ble_eq_true rfl) q_1013 q_23 (by omega) rfl (Nat.le_of_ble_eq_true rfl) (Nat.zero_le _) (Nat.zero_le _) dX4_ageTraders_47 rfl (fun M5 => ?_)
          refine g_kl (fun v6 hv6 => ?_)
          refine g_iinc 53 1 2 v6 [(1, .int v6), (2, .ref w1), (0, .ref a0)] hX dX4_ageTraders_50 rfl rfl (by rw [hv6, kc_i_1]) (Nat.le_of_ble_eq_true rfl) rfl ?_
          refine g_goto 2 hX dX4_ageTraders_53 (by decide) ?_
          refine g_lv [2, 0] rfl ?_
          exact ih M5 a0 v6
set_option maxRecDepth 100000 in
set_option maxHeartbeats 4000000 in
theorem k_X4_ageTraders (l : Launch) (g : kG) (N : Nat) (M : kMem) (a0 : Nat) : kMet l g yX4_ageTraders cX4_ageTraders 3 none 4 0 0 [.ref a0] M (fun r : kMem => (none, r)) (F_X4_ageTraders N M a0) := by
  refine k_of (lv := [(0, .ref a0)]) RX4 (by decide) rfl rfl (Nat.le_of_ble_eq_true rfl) ?_
  intro p e s m args below meth c hX hr _
  unfold F_X4_ageTraders
  refine g_iconst 1 hX 0 dX4_ageTraders_0 rfl kc_i_0 ?_
  refine g_istore_n 2 1 [(1, .int 0), (0, .ref a0)] hX dX4_ageTraders_1 rfl rfl (Nat.le_of_ble_eq_true rfl) rfl ?_
  refine g_lv [1, 0] rfl ?_
  exact k_X4_ageTraders_2 hX hr N N M a0 0
def F_X4_payIncomes_48 (N : Nat) (k2 : kMem → Nat → Int32 → Option (kMem)) (M : kMem) (a0 : Nat) (x1 : Int32) (a2 : Nat) (y0 : Int32) : Option (kMem) :=
    kg (kt M a0 4) <|
    kg (kt M a0 4) <| kl (ksI M a0 1 ((kI M a0 1) - y0)) fun M3 =>
    kg (kt M3 a2 10) <|
    kg (kt M3 a2 10) <| kl (ksI M3 a2 3 ((kI M3 a2 3) + y0)) fun M4 =>
    kl (x1 + 1) fun v5 =>
    k2 M4 a0 v5
def F_X4_payIncomes_2 (N : Nat) : Nat → kMem → Nat → Int32 → Option (kMem)
  | 0, _, _, _ => none
  | n + 1, M, a0, x1 =>
    kg (kt M a0 4) <|
    if x1 < (kI M a0 12) then (
      kg (kt M a0 4) <|
      kg (kin M (kR M a0 14) 17 x1) <|
      kl (kR M (kR M a0 14) (kx x1)) fun w1 =>
      kg (kt M a0 4) <| (F_X4_incomeFor N M a0 w1).bind fun r2 =>
      if (0 : Int32) < r2 then (
        kg (kt M a0 4) <|
        F_X4_payIncomes_48 N (fun M a0 x1 => F_X4_payIncomes_2 N n M a0 x1) M a0 x1 w1 (kmin r2 (kI M a0 1))) else
      kg (kt M w1 10) <|
      F_X4_payIncomes_48 N (fun M a0 x1 => F_X4_payIncomes_2 N n M a0 x1) M a0 x1 w1 (-(kmin (-r2) (kI M w1 3)))) else
    some M
def F_X4_payIncomes (N : Nat) (M : kMem) (a0 : Nat) : Option (kMem) :=
    F_X4_payIncomes_2 N N M a0 0
set_option maxRecDepth 100000 in
set_option maxHeartbeats 4000000 in
theorem k_X4_payIncomes_48 {p : Program} {l : Launch} {e : Env} {s : State} {m : MethodId} {args : Array Value} {below : List Frame} {meth : Method} {c : Code} {g : kG} (hX : Cok (p, l, e, { frames := 2 * 4, cells := 0, slots := 0, locals := 60 * 4 }, s, m, args, below, meth, c, cX4_payIncomes, 5, RX4, g, 4)) (hr : meth.sig.returnType = none) (N : Nat) (k2 : kMem → Nat → Int32 → Option (kMem)) (h2 : ∀ (M : kMem) (a0 : Nat) (x1 : Int32), GG (p, l, e, { frames := 2 * 4, cells := 0, slots := 0, locals := 60 * 4 }, s, m, args, below, meth, c, cX4_payIncomes, 5, RX4, g, 4) (fun b => MQ below (kQ g ((fun r : kMem => (none, r)) b)) args s 0 0 (kZ g.2.2.1)) 0 0 (k2 M a0 x1) 2 [(0, .ref a0), (1, .int x1)] [] M) : ∀ (M : kMem) (a0 : Nat) (x1 : Int32) (a2 : Nat) (y0 : Int32), GG (p, l, e, { frames := 2 * 4, cells := 0, slots := 0, locals := 60 * 4 }, s, m, args, below, meth, c, cX4_payIncomes, 5, RX4, g, 4) (fun b => MQ below (kQ g ((fun r : kMem => (none, r)) b)) args s 0 0 (kZ g.2.2.1)) 0 0 (F_X4_payIncomes_48 N k2 M a0 x1 a2 y0) 48 [(0, .ref a0), (1, .int x1), (2, .ref a2)] [.int y0] M := by
  intro M a0 x1 a2 y0
  unfold F_X4_payIncomes_48
  refine g_istore 50 4 [(4, .int y0), (0, .ref a0), (1, .int x1), (2, .ref a2)] hX dX4_payIncomes_48 rfl (Nat.le_of_ble_eq_true rfl) rfl ?_
  refine g_aload_n 51 1 hX dX4_payIncomes_50 rfl rfl ?_
  refine g_dup 52 hX dX4_payIncomes_51 rfl rfl ?_
  refine r_X4_56 55 hX dX4_payIncomes_52 rfl ?_
  refine g_iload 57 0 hX dX4_payIncomes_55 rfl rfl ?_
  refine g_isub 58 hX dX4_payIncomes_57 rfl ?_
  refine p_X4_56 61 hX dX4_payIncomes_58 rfl ?_
  refine g_klM (fun M3 hM3 => ?_)
  refine g_aload_n 62 3 hX dX4_payIncomes_61 rfl rfl ?_
  refine g_dup 63 hX dX4_payIncomes_62 rfl rfl ?_
  refine r_X4_111 66 hX dX4_payIncomes_63 rfl ?_
  refine g_iload 68 0 hX dX4_payIncomes_66 rfl rfl ?_
  refine g_iadd 69 hX dX4_payIncomes_68 rfl ?_
  refine p_X4_111 72 hX dX4_payIncomes_69 rfl ?_
  refine g_klM (fun M4 hM4 => ?_)
  refine g_kl (fun v5 hv5 => ?_)
  refine g_iinc 75 1 2 v5 [(1, .int v5), (4, .int y0), (0, .ref a0), (2, .ref a2)] hX dX4_payIncomes_72 rfl rfl (by rw [hv5, kc_i_1]) (Nat.le_of_ble_eq_true rfl) rfl ?_
  refine g_goto 2 hX dX4_payIncomes_75 (by decide) ?_
  refine g_lv [2, 0] rfl ?_
  exact h2 M4 a0 v5
set_option maxRecDepth 100000 in
set_option maxHeartbeats 4000000 in
theorem k_X4_payIncomes_2 {p : Program} {l : Launch} {e : Env} {s : State} {m : MethodId} {args : Array Value} {below : List Frame} {meth : Method} {c : Code} {g : kG} (hX : Cok (p, l, e, { frames := 2 * 4, cells := 0, slots := 0, locals := 60 * 4 }, s, m, args, below, meth, c, cX4_payIncomes, 5, RX4, g, 4)) (hr : meth.sig.returnType = none) (N : Nat) : ∀ (n : Nat) (M : kMem) (a0 : Nat) (x1 : Int32), GG (p, l, e, { frames := 2 * 4, cells := 0, slots := 0, locals := 60 * 4 }, s, m, args, below, meth, c, cX4_payIncomes, 5, RX4, g, 4) (fun b => MQ below (kQ g ((fun r : kMem => (none, r)) b)) args s 0 0 (kZ g.2.2.1)) 0 0 (F_X4_payIncomes_2 N n M a0 x1) 2 [(0, .ref a0), (1, .int x1)] [] M := by
  intro n
  induction n with
  | zero => intro _ _ _; exact g_none
  | succ n ih =>
    intro M a0 x1
    unfold F_X4_payIncomes_2
    refine g_iload_n 3 1 hX dX4_payIncomes_2 rfl rfl ?_
    refine g_aload_n 4 0 hX dX4_payIncomes_3 rfl rfl ?_
    refine r_X4_50 7 hX dX4_payIncomes_4 rfl ?_
    refine g_icmp_ge 78 10 hX dX4_payIncomes_7 (by decide) rfl (fun _ => ?_) (fun _ => ?_)
    · exact g_vret hX hr rfl (Nat.le_refl 0) (Nat.le_refl 0) dX4_payIncomes_78
    · refine g_aload_n 11 0 hX dX4_payIncomes_10 rfl rfl ?_
      refine r_X4_19 14 hX dX4_payIncomes_11 rfl ?_
      refine g_iload_n 15 1 hX dX4_payIncomes_14 rfl rfl ?_
      refine g_aald 17 4 16 hX RX10 (Nat.le_of_ble_eq_true rfl) rfl dX4_payIncomes_15 rfl ?_
      refine g_klR (fun w1 hw1 => ?_)
      refine g_astore_n 17 2 [(2, .ref w1), (0, .ref a0), (1, .int x1)] hX dX4_payIncomes_16 rfl rfl (Nat.le_of_ble_eq_true rfl) rfl ?_
      refine g_aload_n 18 1 hX dX4_payIncomes_17 rfl rfl ?_
      refine g_aload_n 19 0 hX dX4_payIncomes_18 rfl rfl ?_
      refine g_callV_ip 22 hX (k_X4_incomeFor l g N M a0 w1) lk_X4_incomeFor rfl (ci := 4) rfl (Nat.le_of_ble_eq_true rfl) q_1004 q_1006 (by omega) rfl (Nat.le_of_ble_eq_true rfl) (Nat.zero_le _) (Nat.zero_le _) dX4_payIncomes_19 rfl (fun r2 => ?_)
      refine g_istore_n 23 3 [(3, .int r2), (2, .ref w1), (0, .ref a0), (1, .int x1)] hX dX4_payIncomes_22 rfl rfl (Nat.le_of_ble_eq_true rfl) rfl ?_
      refine g_iload_n 24 0 hX dX4_payIncomes_23 rfl rfl ?_
      refine g_if_le 38 27 hX dX4_payIncomes_24 (by decide) rfl (fun _ => ?_) (fun _ => ?_)
      · refine g_iload_n 39 0 hX dX4_payIncomes_38 rfl rfl ?_
        refine g_ineg 40 hX dX4_payIncomes_39 rfl ?_
        refine g_aload_n 41 1 hX dX4_payIncomes_40 rfl rfl ?_
        refine r_X4_111 44 hX dX4_payIncomes_41 rfl ?_
        refine g_mmin 47 hX q_1008 dX4_payIncomes_44 rfl (Nat.le_of_ble_eq_true rfl) (by decide) (Nat.zero_le _) (Nat.zero_le _) ?_
        refine g_ineg 48 hX dX4_payIncomes_47 rfl ?_
        refine g_lv [2, 3, 1] rfl ?_
        exact k_X4_payIncomes_48 hX hr N (fun M a0 x1 => F_X4_payIncomes_2 N n M a0 x1) ih M a0 x1 w1 (-(kmin (-r2) (kI M w1 3)))
      · refine g_iload_n 28 0 hX dX4_payIncomes_27 rfl rfl ?_
        refine g_aload_n 29 2 hX dX4_payIncomes_28 rfl rfl ?_
        refine r_X4_56 32 hX dX4_payIncomes_29 rfl ?_
        refine g_mmin 35 hX q_1008 dX4_payIncomes_32 rfl (Nat.le_of_ble_eq_true rfl) (by decide) (Nat.zero_le _) (Nat.zero_le _) ?_
        refine g_goto 48 hX dX4_payIncomes_35 (by decide) ?_
        refine g_lv [2, 3, 1] rfl ?_
        exact k_X4_payIncomes_48 hX hr N (fun M a0 x1 => F_X4_payIncomes_2 N n M a0 x1) ih M a0 x1 w1 (kmin r2 (kI M a0 1))
set_option maxRecDepth 100000 in
set_option maxHeartbeats 4000000 in
theorem k_X4_payIncomes (l : Launch) (g : kG) (N : Nat) (M : kMem) (a0 : Nat) : kMet l g yX4_payIncomes cX4_payIncomes 5 none 4 0 0 [.ref a0] M (fun r : kMem => (none, r)) (F_X4_payIncomes N M a0) := by
  refine k_of (lv := [(0, .ref a0)]) RX4 (by decide) rfl rfl (Nat.le_of_ble_eq_true rfl) ?_
  intro p e s m args below meth c hX hr _
  unfold F_X4_payIncomes
  refine g_iconst 1 hX 0 dX4_payIncomes_0 rfl kc_i_0 ?_
  refine g_istore_n 2 1 [(1, .int 0), (0, .ref a0)] hX dX4_payIncomes_1 rfl rfl (Nat.le_of_ble_eq_true rfl) rfl ?_
  refine g_lv [1, 0] rfl ?_
  exact k_X4_payIncomes_2 hX hr N N M a0 0
def F_X4_dropFarthest_5 (N : Nat) : Nat → kMem → Nat → Nat → Int32 → Int32 → Option (kMem)
  | 0, _, _, _, _, _ => none
  | n + 1, M, a0, a1, x2, x3 =>
    if x3 < 1 then (
      some M) else
    kg (kt M a1 0) <| (F_X0_ownerAt N M a1 (x2 * x3)).bind fun r2 =>
    kg (kt M a0 4) <| (F_X4_traderNumbered N M a0 r2).bind fun r3 =>
    if r3 = 0 then (
      kl (x3 + (-1)) fun v4 =>
      F_X4_dropFarthest_5 N n M a0 a1 x2 v4) else
    kg (kt M a0 4) <| (F_X4_unseat N M a0 r3).bind fun M5 =>
    kg (kt M5 a0 4) <|
    kg (kt M5 a0 4) <| (F_X4_payToBank N M5 a0 r3 (kI M5 a0 6)).bind fun M6 =>
    kg (kt M6 a0 4) <|
    kg (kt M6 r3 10) <|
    kg (kt M6 a0 4) <|
    kg (kt M6 (kR M6 a0 15) 2) <| (F_X2_add N M6 (kR M6 a0 15) 1 (kI M6 r3 0) (kI M6 a0 0)).bind fun M7 =>
    some M7
def F_X4_dropFarthest (N : Nat) (M : kMem) (a0 : Nat) (a1 : Nat) (x2 : Int32) : Option (kMem) :=
    kg (kt M a1 0) <|
    kl (kI M a1 1) fun v1 =>
    F_X4_dropFarthest_5 N N M a0 a1 x2 v1
set_option maxRecDepth 100000 in
set_option maxHeartbeats 4000000 in
theorem k_X4_dropFarthest_5 {p : Program} {l : Launch} {e : Env} {s : State} {m : MethodId} {args : Array Value} {below : List Frame} {meth : Method} {c : Code} {g : kG} (hX : Cok (p, l, e, { frames := 2 * 3, cells := 0, slots := 0, locals := 60 * 3 }, s, m, args, below, meth, c, cX4_dropFarthest, 5, RX4, g, 3)) (hr : meth.sig.returnType = none) (N : Nat) : ∀ (n : Nat) (M : kMem) (a0 : Nat) (a1 : Nat) (x2 : Int32) (x3 : Int32), GG (p, l, e, { frames := 2 * 3, cells := 0, slots := 0, locals := 60 * 3 }, s, m, args, below, meth, c, cX4_dropFarthest, 5, RX4, g, 3) (fun b => MQ below (kQ g ((fun r : kMem => (none, r)) b)) args s 0 0 (kZ g.2.2.1)) 0 0 (F_X4_dropFarthest_5 N n M a0 a1 x2 x3) 5 [(0, .ref a0), (1, .ref a1), (2, .int x2), (3, .int x3)] [] M := by
  intro n
  induction n with
  | zero => intro _ _ _ _ _; exact g_none
  | succ n ih =>
    intro M a0 a1 x2 x3
    unfold F_X4_dropFarthest_5
    refine g_iload_n 6 3 hX dX4_dropFarthest_5 rfl rfl ?_
    refine g_iconst 7 hX 1 dX4_dropFarthest_6 rfl kc_i_1 ?_
    refine g_icmp_lt 68 10 hX dX4_dropFarthest_7 (by decide) rfl (fun _ => ?_) (fun _ => ?_)
    · exact g_vret hX hr rfl (Nat.le_refl 0) (Nat.le_refl 0) dX4_dropFarthest_68
    · refine g_aload_n 11 0 hX dX4_dropFarthest_10 rfl rfl ?_
      refine g_aload_n 12 1 hX dX4_dropFarthest_11 rfl rfl ?_
      refine g_iload_n 13 2 hX dX4_dropFarthest_12 rfl rfl ?_
      refine g_iload_n 14 3 hX dX4_dropFarthest_13 rfl rfl ?_
      refine g_imul 15 hX dX4_dropFarthest_14 rfl ?_
      refine g_callV_ip 18 hX (k_X0_ownerAt l g N M a1 (x2 * x3)) lk_X0_ownerAt rfl (ci := 0) rfl (Nat.le_of_ble_eq_true rfl) q_1034 q_731 (by omega) rfl (Nat.le_of_ble_eq_true rfl) (Nat.zero_le _) (Nat.zero_le _) dX4_dropFarthest_15 rfl (fun r2 => ?_)
      refine g_callV_rp 21 hX (k_X4_traderNumbered l g N M a0 r2) lk_X4_traderNumbered rfl (ci := 4) rfl (Nat.le_of_ble_eq_true rfl) q_1035 q_1037 (by omega) rfl (Nat.le_of_ble_eq_true rfl) (Nat.zero_le _) (Nat.zero_le _) dX4_dropFarthest_18 rfl (fun r3 => ?_)
      refine g_astore 23 4 [(4, .ref r3), (0, .ref a0), (1, .ref a1), (2, .int x2), (3, .int x3)] hX dX4_dropFarthest_21 rfl (Nat.le_of_ble_eq_true rfl) rfl ?_
      refine g_aload 25 0 hX dX4_dropFarthest_23 rfl rfl ?_
      refine g_ifnull 62 28 hX dX4_dropFarthest_25 (by decide) rfl (fun _ => ?_) (fun _ => ?_)
      · refine g_kl (fun v4 hv4 => ?_)
        refine g_iinc 65 3 4 v4 [(3, .int v4), (4, .ref r3), (0, .ref a0), (1, .ref a1), (2, .int x2)] hX dX4_dropFarthest_62 rfl rfl (by rw [hv4, kc_i_m1]) (Nat.le_of_ble_eq_true rfl) rfl ?_
        refine g_goto 5 hX dX4_dropFarthest_65 (by decide) ?_
        refine g_lv [2, 3, 4, 0] rfl ?_
        exact ih M a0 a1 x2 v4
      · refine g_aload_n 29 1 hX dX4_dropFarthest_28 rfl rfl ?_
        refine g_aload 31 0 hX dX4_dropFarthest_29 rfl rfl ?_
        refine g_callV_v 34 hX (k_X4_unseat l g N M a0 r3) lk_X4_unseat rfl (ci := 4) rfl (Nat.le_of_ble_eq_true rfl) q_945 q_947 (by omega) rfl (Nat.le_of_ble_eq_true rfl) (Nat.zero_le _) (Nat.zero_le _) dX4_dropFarthest_31 rfl (fun M5 => ?_)
        refine g_aload_n 35 1 hX dX4_dropFarthest_34 rfl rfl ?_
        refine g_aload 37 0 hX dX4_dropFarthest_35 rfl rfl ?_
        refine g_aload_n 38 1 hX dX4_dropFarthest_37 rfl rfl ?_
        refine r_X4_71 41 hX dX4_dropFarthest_38 rfl ?_
        refine g_callV_v 44 hX (k_X4_payToBank l g N M5 a0 r3 (kI M5 a0 6)) lk_X4_payToBank rfl (ci := 4) rfl (Nat.le_of_ble_eq_true rfl) q_1017 q_24 (by omega) rfl (Nat.le_of_ble_eq_true rfl) (Nat.zero_le _) (Nat.zero_le _) dX4_dropFarthest_41 rfl (fun M6 => ?_)
        refine g_aload_n 45 1 hX dX4_dropFarthest_44 rfl rfl ?_
        refine r_X4_26 48 hX dX4_dropFarthest_45 rfl ?_
        refine g_iconst 49 hX 1 dX4_dropFarthest_48 rfl kc_i_1 ?_
        refine g_aload 51 0 hX dX4_dropFarthest_49 rfl rfl ?_
        refine r_X4_127 54 hX dX4_dropFarthest_51 rfl ?_
        refine g_aload_n 55 1 hX dX4_dropFarthest_54 rfl rfl ?_
        refine r_X4_34 58 hX dX4_dropFarthest_55 rfl ?_
        refine g_callV_v 61 hX (k_X2_add l g N M6 (kR M6 a0 15) 1 (kI M6 r3 0) (kI M6 a0 0)) lk_X2_add rfl (ci := 2) rfl (Nat.le_of_ble_eq_true rfl) q_1021 q_1023 (by omega) rfl (Nat.le_of_ble_eq_true rfl) (Nat.zero_le _) (Nat.zero_le _) dX4_dropFarthest_58 rfl (fun M7 => ?_)
        exact g_vret hX hr rfl (Nat.le_refl 0) (Nat.le_refl 0) dX4_dropFarthest_61
set_option maxRecDepth 100000 in
set_option maxHeartbeats 4000000 in
theorem k_X4_dropFarthest (l : Launch) (g : kG) (N : Nat) (M : kMem) (a0 : Nat) (a1 : Nat) (x2 : Int32) : kMet l g yX4_dropFarthest cX4_dropFarthest 5 none 3 0 0 [.ref a0, .ref a1, .int x2] M (fun r : kMem => (none, r)) (F_X4_dropFarthest N M a0 a1 x2) := by
  refine k_of (lv := [(0, .ref a0), (1, .ref a1), (2, .int x2)]) RX4 (by decide) rfl rfl (Nat.le_of_ble_eq_true rfl) ?_
  intro p e s m args below meth c hX hr _
  unfold F_X4_dropFarthest
  refine g_aload_n 1 1 hX dX4_dropFarthest_0 rfl rfl ?_
  refine r_X4_164 4 hX dX4_dropFarthest_1 rfl ?_
  refine g_klI (fun v1 hv1 => ?_)
  refine g_istore_n 5 3 [(3, .int v1), (0, .ref a0), (1, .ref a1), (2, .int x2)] hX dX4_dropFarthest_4 rfl rfl (Nat.le_of_ble_eq_true rfl) rfl ?_
  refine g_lv [1, 2, 3, 0] rfl ?_
  exact k_X4_dropFarthest_5 hX hr N N M a0 a1 x2 v1
def F_X4_tipBoards_29 (N : Nat) (k4 : kMem → Nat → Int32 → Int32 → Option (Int32 × kMem)) : Nat → kMem → Nat → Int32 → Int32 → Nat → Int32 → Int32 → Option (Int32 × kMem)
  | 0, _, _, _, _, _, _, _ => none
  | n + 1, M, a0, x1, x2, a3, x4, x5 =>
    if x5 < 12 then (
      kg (kt M a3 0) <| (F_X0_tipsUnder N M a3 x4).bind fun r5 =>
      if r5 = 0 then (
        kl (x2 + 1) fun v6 =>
        k4 M a0 x1 v6) else
      if (0 : Int32) < x4 then (
        kg (kt M a0 4) <| (F_X4_dropFarthest N M a0 a3 1).bind fun M11 =>
        kl (x1 + 1) fun v12 =>
        kg (kt M11 a0 4) <| (F_X4_torqueOn N M11 a0 a3).bind fun r13 =>
        kl (x5 + 1) fun v14 =>
        F_X4_tipBoards_29 N k4 n M11 a0 v12 x2 a3 r13 v14) else
      kg (kt M a0 4) <| (F_X4_dropFarthest N M a0 a3 (-1)).bind fun M7 =>
      kl (x1 + 1) fun v8 =>
      kg (kt M7 a0 4) <| (F_X4_torqueOn N M7 a0 a3).bind fun r9 =>
      kl (x5 + 1) fun v10 =>
      F_X4_tipBoards_29 N k4 n M7 a0 v8 x2 a3 r9 v10) else
    kl (x2 + 1) fun v4 =>
    k4 M a0 x1 v4
def F_X4_tipBoards_4 (N : Nat) : Nat → kMem → Nat → Int32 → Int32 → Option (Int32 × kMem)
  | 0, _, _, _, _ => none
  | n + 1, M, a0, x1, x2 =>
    kg (kt M a0 4) <|
    if x2 < (kI M a0 11) then (
      kg (kt M a0 4) <|
      kg (kin M (kR M a0 13) 16 x2) <|
      kl (kR M (kR M a0 13) (kx x2)) fun w2 =>
      kg (kt M a0 4) <| (F_X4_torqueOn N M a0 w2).bind fun r3 =>
      F_X4_tipBoards_29 N (fun M a0 x1 x2 => F_X4_tipBoards_4 N n M a0 x1 x2) N M a0 x1 x2 w2 r3 0) else
    kg (kt M a0 4) <|
    kg (kt M a0 4) <| kl (ksI M a0 10 ((kI M a0 10) + x1)) fun M1 =>
    some (x1, M1)
def F_X4_tipBoards (N : Nat) (M : kMem) (a0 : Nat) : Option (Int32 × kMem) :=
    F_X4_tipBoards_4 N N M a0 0 0
set_option maxRecDepth 100000 in
set_option maxHeartbeats 4000000 in
theorem k_X4_tipBoards_29 {p : Program} {l : Launch} {e : Env} {s : State} {m : MethodId} {args : Array Value} {below : List Frame} {meth : Method} {c : Code} {g : kG} (hX : Cok (p, l, e, { frames := 2 * 4, cells := 0, slots := 0, locals := 60 * 4 }, s, m, args, below, meth, c, cX4_tipBoards, 6, RX4, g, 4)) (hr : meth.sig.returnType = (some .int)) (N : Nat) (k4 : kMem → Nat → Int32 → Int32 → Option (Int32 × kMem)) (h4 : ∀ (M : kMem) (a0 : Nat) (x1 : Int32) (x2 : Int32), GG (p, l, e, { frames := 2 * 4, cells := 0, slots := 0, locals := 60 * 4 }, s, m, args, below, meth, c, cX4_tipBoards, 6, RX4, g, 4) (fun b => MQ below (kQ g ((fun r : Int32 × kMem => (some (.int r.1), r.2)) b)) args s 0 0 (kZ g.2.2.1)) 0 0 (k4 M a0 x1 x2) 4 [(0, .ref a0), (1, .int x1), (2, .int x2)] [] M) : ∀ (n : Nat) (M : kMem) (a0 : Nat) (x1 : Int32) (x2 : Int32) (a3 : Nat) (x4 : Int32) (x5 : Int32), GG (p, l, e, { frames := 2 * 4, cells := 0, slots := 0, locals := 60 * 4 }, s, m, args, below, meth, c, cX4_tipBoards, 6, RX4, g, 4) (fun b => MQ below (kQ g ((fun r : Int32 × kMem => (some (.int r.1), r.2)) b)) args s 0 0 (kZ g.2.2.1)) 0 0 (F_X4_tipBoards_29 N k4 n M a0 x1 x2 a3 x4 x5) 29 [(0, .ref a0), (1, .int x1), (2, .int x2), (3, .ref a3), (4, .int x4), (5, .int x5)] [] M := by
  intro n
  induction n with
  | zero => intro _ _ _ _ _ _ _; exact g_none
  | succ n ih =>
    intro M a0 x1 x2 a3 x4 x5
    unfold F_X4_tipBoards_29
    refine g_iload 31 5 hX dX4_tipBoards_29 rfl rfl ?_
    refine g_bipush 33 hX 12 dX4_tipBoards_31 rfl kc_b_12 ?_
    refine g_icmp_ge 76 36 hX dX4_tipBoards_33 (by decide) rfl (fun _ => ?_) (fun _ => ?_)
    · refine g_kl (fun v4 hv4 => ?_)
      refine g_iinc 79 2 2 v4 [(2, .int v4), (0, .ref a0), (1, .int x1), (3, .ref a3), (4, .int x4), (5, .int x5)] hX dX4_tipBoards_76 rfl rfl (by rw [hv4, kc_i_1]) (Nat.le_of_ble_eq_true rfl) rfl ?_
      refine g_goto 4 hX dX4_tipBoards_79 (by decide) ?_
      refine g_lv [1, 2, 0] rfl ?_
      exact h4 M a0 x1 v4
    · refine g_aload_n 37 3 hX dX4_tipBoards_36 rfl rfl ?_
      refine g_iload 39 4 hX dX4_tipBoards_37 rfl rfl ?_
      refine g_callV_ip 42 hX (k_X0_tipsUnder l g N M a3 x4) lk_X0_tipsUnder rfl (ci := 0) rfl (Nat.le_of_ble_eq_true rfl) q_936 q_938 (by omega) rfl (Nat.le_of_ble_eq_true rfl) (Nat.zero_le _) (Nat.zero_le _) dX4_tipBoards_39 rfl (fun r5 => ?_)
      refine g_if_eq 76 45 hX dX4_tipBoards_42 (by decide) rfl (fun _ => ?_) (fun _ => ?_)
      · refine g_kl (fun v6 hv6 => ?_)
        refine g_iinc 79 2 2 v6 [(2, .int v6), (0, .ref a0), (1, .int x1), (3, .ref a3), (4, .int x4), (5, .int x5)] hX dX4_tipBoards_76 rfl rfl (by rw [hv6, kc_i_1]) (Nat.le_of_ble_eq_true rfl) rfl ?_
        refine g_goto 4 hX dX4_tipBoards_79 (by decide) ?_
        refine g_lv [1, 2, 0] rfl ?_
        exact h4 M a0 x1 v6
      · refine g_aload_n 46 0 hX dX4_tipBoards_45 rfl rfl ?_
        refine g_aload_n 47 3 hX dX4_tipBoards_46 rfl rfl ?_
        refine g_iload 49 4 hX dX4_tipBoards_47 rfl rfl ?_
        refine g_if_le 56 52 hX dX4_tipBoards_49 (by decide) rfl (fun _ => ?_) (fun _ => ?_)
        · refine g_iconst 57 hX (-1) dX4_tipBoards_56 rfl kc_i_m1 ?_
          refine g_callV_v 60 hX (k_X4_dropFarthest l g N M a0 a3 (-1)) lk_X4_dropFarthest rfl (ci := 4) rfl (Nat.le_of_ble_eq_true rfl) q_1030 q_26 (by omega) rfl (Nat.le_of_ble_eq_true rfl) (Nat.zero_le _) (Nat.zero_le _) dX4_tipBoards_57 rfl (fun M7 => ?_)
          refine g_kl (fun v8 hv8 => ?_)
          refine g_iinc 63 1 1 v8 [(1, .int v8), (0, .ref a0), (2, .int x2), (3, .ref a3), (4, .int x4), (5, .int x5)] hX dX4_tipBoards_60 rfl rfl (by rw [hv8, kc_i_1]) (Nat.le_of_ble_eq_true rfl) rfl ?_
          refine g_aload_n 64 1 hX dX4_tipBoards_63 rfl rfl ?_
          refine g_aload_n 65 3 hX dX4_tipBoards_64 rfl rfl ?_
          refine g_callV_ip 68 hX (k_X4_torqueOn l g N M7 a0 a3) lk_X4_torqueOn rfl (ci := 4) rfl (Nat.le_of_ble_eq_true rfl) q_919 q_921 (by omega) rfl (Nat.le_of_ble_eq_true rfl) (Nat.zero_le _) (Nat.zero_le _) dX4_tipBoards_65 rfl (fun r9 => ?_)
          refine g_istore 70 4 [(4, .int r9), (1, .int v8), (0, .ref a0), (2, .int x2), (3, .ref a3), (5, .int x5)] hX dX4_tipBoards_68 rfl (Nat.le_of_ble_eq_true rfl) rfl ?_
          refine g_kl (fun v10 hv10 => ?_)
          refine g_iinc 73 5 5 v10 [(5, .int v10), (4, .int r9), (1, .int v8), (0, .ref a0), (2, .int x2), (3, .ref a3)] hX dX4_tipBoards_70 rfl rfl (by rw [hv10, kc_i_1]) (Nat.le_of_ble_eq_true rfl) rfl ?_
          refine g_goto 29 hX dX4_tipBoards_73 (by decide) ?_
          refine g_lv [3, 2, 4, 5, 1, 0] rfl ?_
          exact ih M7 a0 v8 x2 a3 r9 v10
        · refine g_iconst 53 hX 1 dX4_tipBoards_52 rfl kc_i_1 ?_
          refine g_goto 57 hX dX4_tipBoards_53 (by decide) ?_
          refine g_callV_v 60 hX (k_X4_dropFarthest l g N M a0 a3 1) lk_X4_dropFarthest rfl (ci := 4) rfl (Nat.le_of_ble_eq_true rfl) q_1030 q_26 (by omega) rfl (Nat.le_of_ble_eq_true rfl) (Nat.zero_le _) (Nat.zero_le _) dX4_tipBoards_57 rfl (fun M11 => ?_)
          refine g_kl (fun v12 hv12 => ?_)
          refine g_iinc 63 1 1 v12 [(1, .int v12), (0, .ref a0), (2, .int x2), (3, .ref a3), (4, .int x4), (5, .int x5)] hX dX4_tipBoards_60 rfl rfl (by rw [hv12, kc_i_1]) (Nat.le_of_ble_eq_true rfl) rfl ?_
          refine g_aload_n 64 1 hX dX4_tipBoards_63 rfl rfl ?_
          refine g_aload_n 65 3 hX dX4_tipBoards_64 rfl rfl ?_
          refine g_callV_ip 68 hX (k_X4_torqueOn l g N M11 a0 a3) lk_X4_torqueOn rfl (ci := 4) rfl (Nat.le_of_ble_eq_true rfl) q_919 q_921 (by omega) rfl (Nat.le_of_ble_eq_true rfl) (Nat.zero_le _) (Nat.zero_le _) dX4_tipBoards_65 rfl (fun r13 => ?_)
          refine g_istore 70 4 [(4, .int r13), (1, .int v12), (0, .ref a0), (2, .int x2), (3, .ref a3), (5, .int x5)] hX dX4_tipBoards_68 rfl (Nat.le_of_ble_eq_true rfl) rfl ?_
          refine g_kl (fun v14 hv14 => ?_)
          refine g_iinc 73 5 5 v14 [(5, .int v14), (4, .int r13), (1, .int v12), (0, .ref a0), (2, .int x2), (3, .ref a3)] hX dX4_tipBoards_70 rfl rfl (by rw [hv14, kc_i_1]) (Nat.le_of_ble_eq_true rfl) rfl ?_
          refine g_goto 29 hX dX4_tipBoards_73 (by decide) ?_
          refine g_lv [3, 2, 4, 5, 1, 0] rfl ?_
          exact ih M11 a0 v12 x2 a3 r13 v14
set_option maxRecDepth 100000 in
set_option maxHeartbeats 4000000 in
theorem k_X4_tipBoards_4 {p : Program} {l : Launch} {e : Env} {s : State} {m : MethodId} {args : Array Value} {below : List Frame} {meth : Method} {c : Code} {g : kG} (hX : Cok (p, l, e, { frames := 2 * 4, cells := 0, slots := 0, locals := 60 * 4 }, s, m, args, below, meth, c, cX4_tipBoards, 6, RX4, g, 4)) (hr : meth.sig.returnType = (some .int)) (N : Nat) : ∀ (n : Nat) (M : kMem) (a0 : Nat) (x1 : Int32) (x2 : Int32), GG (p, l, e, { frames := 2 * 4, cells := 0, slots := 0, locals := 60 * 4 }, s, m, args, below, meth, c, cX4_tipBoards, 6, RX4, g, 4) (fun b => MQ below (kQ g ((fun r : Int32 × kMem => (some (.int r.1), r.2)) b)) args s 0 0 (kZ g.2.2.1)) 0 0 (F_X4_tipBoards_4 N n M a0 x1 x2) 4 [(0, .ref a0), (1, .int x1), (2, .int x2)] [] M := by
  intro n
  induction n with
  | zero => intro _ _ _ _; exact g_none
  | succ n ih =>
    intro M a0 x1 x2
    unfold F_X4_tipBoards_4
    refine g_iload_n 5 2 hX dX4_tipBoards_4 rfl rfl ?_
    refine g_aload_n 6 0 hX dX4_tipBoards_5 rfl rfl ?_
    refine r_X4_47 9 hX dX4_tipBoards_6 rfl ?_
    refine g_icmp_ge 82 12 hX dX4_tipBoards_9 (by decide) rfl (fun _ => ?_) (fun _ => ?_)
    · refine g_aload_n 83 0 hX dX4_tipBoards_82 rfl rfl ?_
      refine g_dup 84 hX dX4_tipBoards_83 rfl rfl ?_
      refine r_X4_44 87 hX dX4_tipBoards_84 rfl ?_
      refine g_iload_n 88 1 hX dX4_tipBoards_87 rfl rfl ?_
      refine g_iadd 89 hX dX4_tipBoards_88 rfl ?_
      refine p_X4_44 92 hX dX4_tipBoards_89 rfl ?_
      refine g_klM (fun M1 hM1 => ?_)
      refine g_iload_n 93 1 hX dX4_tipBoards_92 rfl rfl ?_
      exact g_iret hX hr rfl (Nat.le_refl 0) (Nat.le_refl 0) dX4_tipBoards_93
    · refine g_aload_n 13 0 hX dX4_tipBoards_12 rfl rfl ?_
      refine r_X4_11 16 hX dX4_tipBoards_13 rfl ?_
      refine g_iload_n 17 2 hX dX4_tipBoards_16 rfl rfl ?_
      refine g_aald 16 3 18 hX RX0 (Nat.le_of_ble_eq_true rfl) rfl dX4_tipBoards_17 rfl ?_
      refine g_klR (fun w2 hw2 => ?_)
      refine g_astore_n 19 3 [(3, .ref w2), (0, .ref a0), (1, .int x1), (2, .int x2)] hX dX4_tipBoards_18 rfl rfl (Nat.le_of_ble_eq_true rfl) rfl ?_
      refine g_aload_n 20 1 hX dX4_tipBoards_19 rfl rfl ?_
      refine g_aload_n 21 0 hX dX4_tipBoards_20 rfl rfl ?_
      refine g_callV_ip 24 hX (k_X4_torqueOn l g N M a0 w2) lk_X4_torqueOn rfl (ci := 4) rfl (Nat.le_of_ble_eq_true rfl) q_919 q_921 (by omega) rfl (Nat.le_of_ble_eq_true rfl) (Nat.zero_le _) (Nat.zero_le _) dX4_tipBoards_21 rfl (fun r3 => ?_)
      refine g_istore 26 4 [(4, .int r3), (3, .ref w2), (0, .ref a0), (1, .int x1), (2, .int x2)] hX dX4_tipBoards_24 rfl (Nat.le_of_ble_eq_true rfl) rfl ?_
      refine g_iconst 27 hX 0 dX4_tipBoards_26 rfl kc_i_0 ?_
      refine g_istore 29 5 [(5, .int 0), (4, .int r3), (3, .ref w2), (0, .ref a0), (1, .int x1), (2, .int x2)] hX dX4_tipBoards_27 rfl (Nat.le_of_ble_eq_true rfl) rfl ?_
      refine g_lv [3, 4, 5, 2, 1, 0] rfl ?_
      exact k_X4_tipBoards_29 hX hr N (fun M a0 x1 x2 => F_X4_tipBoards_4 N n M a0 x1 x2) ih N M a0 x1 x2 w2 r3 0
set_option maxRecDepth 100000 in
set_option maxHeartbeats 4000000 in
theorem k_X4_tipBoards (l : Launch) (g : kG) (N : Nat) (M : kMem) (a0 : Nat) : kMet l g yX4_tipBoards cX4_tipBoards 6 (some .int) 4 0 0 [.ref a0] M (fun r : Int32 × kMem => (some (.int r.1), r.2)) (F_X4_tipBoards N M a0) := by
  refine k_of (lv := [(0, .ref a0)]) RX4 (by decide) rfl rfl (Nat.le_of_ble_eq_true rfl) ?_
  intro p e s m args below meth c hX hr _
  unfold F_X4_tipBoards
  refine g_iconst 1 hX 0 dX4_tipBoards_0 rfl kc_i_0 ?_
  refine g_istore_n 2 1 [(1, .int 0), (0, .ref a0)] hX dX4_tipBoards_1 rfl rfl (Nat.le_of_ble_eq_true rfl) rfl ?_
  refine g_iconst 3 hX 0 dX4_tipBoards_2 rfl kc_i_0 ?_
  refine g_istore_n 4 2 [(2, .int 0), (1, .int 0), (0, .ref a0)] hX dX4_tipBoards_3 rfl rfl (Nat.le_of_ble_eq_true rfl) rfl ?_
  refine g_lv [2, 1, 0] rfl ?_
  exact k_X4_tipBoards_4 hX hr N N M a0 0 0
def F_X4_passDays_4 (N : Nat) : Nat → kMem → Nat → Int32 → Int32 → Int32 → Option (Int32 × kMem)
  | 0, _, _, _, _, _ => none
  | n + 1, M, a0, x1, x2, x3 =>
    if x3 < x1 then (
      kg (kt M a0 4) <|
      kg (kt M a0 4) <| kl (ksI M a0 0 ((kI M a0 0) + 1)) fun M1 =>
      kg (kt M1 a0 4) <| (F_X4_payIncomes N M1 a0).bind fun M2 =>
      kg (kt M2 a0 4) <| (F_X4_ageTraders N M2 a0).bind fun M3 =>
      kg (kt M3 a0 4) <| (F_X4_tipBoards N M3 a0).bind fun r4 =>
      kl (x2 + r4.1) fun v5 =>
      kl (x3 + 1) fun v6 =>
      F_X4_passDays_4 N n r4.2 a0 x1 v5 v6) else
    some (x2, M)
def F_X4_passDays (N : Nat) (M : kMem) (a0 : Nat) (x1 : Int32) : Option (Int32 × kMem) :=
    F_X4_passDays_4 N N M a0 x1 0 0
set_option maxRecDepth 100000 in
set_option maxHeartbeats 4000000 in
theorem k_X4_passDays_4 {p : Program} {l : Launch} {e : Env} {s : State} {m : MethodId} {args : Array Value} {below : List Frame} {meth : Method} {c : Code} {g : kG} (hX : Cok (p, l, e, { frames := 2 * 5, cells := 0, slots := 0, locals := 60 * 5 }, s, m, args, below, meth, c, cX4_passDays, 4, RX4, g, 5)) (hr : meth.sig.returnType = (some .int)) (N : Nat) : ∀ (n : Nat) (M : kMem) (a0 : Nat) (x1 : Int32) (x2 : Int32) (x3 : Int32), GG (p, l, e, { frames := 2 * 5, cells := 0, slots := 0, locals := 60 * 5 }, s, m, args, below, meth, c, cX4_passDays, 4, RX4, g, 5) (fun b => MQ below (kQ g ((fun r : Int32 × kMem => (some (.int r.1), r.2)) b)) args s 0 0 (kZ g.2.2.1)) 0 0 (F_X4_passDays_4 N n M a0 x1 x2 x3) 4 [(0, .ref a0), (1, .int x1), (2, .int x2), (3, .int x3)] [] M := by
  intro n
  induction n with
  | zero => intro _ _ _ _ _; exact g_none
  | succ n ih =>
    intro M a0 x1 x2 x3
    unfold F_X4_passDays_4
    refine g_iload_n 5 3 hX dX4_passDays_4 rfl rfl ?_
    refine g_iload_n 6 1 hX dX4_passDays_5 rfl rfl ?_
    refine g_icmp_ge 40 9 hX dX4_passDays_6 (by decide) rfl (fun _ => ?_) (fun _ => ?_)
    · refine g_iload_n 41 2 hX dX4_passDays_40 rfl rfl ?_
      exact g_iret hX hr rfl (Nat.le_refl 0) (Nat.le_refl 0) dX4_passDays_41
    · refine g_aload_n 10 0 hX dX4_passDays_9 rfl rfl ?_
      refine g_dup 11 hX dX4_passDays_10 rfl rfl ?_
      refine r_X4_34 14 hX dX4_passDays_11 rfl ?_
      refine g_iconst 15 hX 1 dX4_passDays_14 rfl kc_i_1 ?_
      refine g_iadd 16 hX dX4_passDays_15 rfl ?_
      refine p_X4_34 19 hX dX4_passDays_16 rfl ?_
      refine g_klM (fun M1 hM1 => ?_)
      refine g_aload_n 20 0 hX dX4_passDays_19 rfl rfl ?_
      refine g_callV_v 23 hX (k_X4_payIncomes l g N M1 a0) lk_X4_payIncomes rfl (ci := 4) rfl (Nat.le_of_ble_eq_true rfl) q_1000 q_21 (by omega) rfl (Nat.le_of_ble_eq_true rfl) (Nat.zero_le _) (Nat.zero_le _) dX4_passDays_20 rfl (fun M2 => ?_)
      refine g_aload_n 24 0 hX dX4_passDays_23 rfl rfl ?_
      refine g_callV_v 27 hX (k_X4_ageTraders l g N M2 a0) lk_X4_ageTraders rfl (ci := 4) rfl (Nat.le_of_ble_eq_true rfl) q_1009 q_22 (by omega) rfl (Nat.le_of_ble_eq_true rfl) (Nat.zero_le _) (Nat.zero_le _) dX4_passDays_24 rfl (fun M3 => ?_)
      refine g_iload_n 28 2 hX dX4_passDays_27 rfl rfl ?_
      refine g_aload_n 29 0 hX dX4_passDays_28 rfl rfl ?_
      refine g_callV_i 32 hX (k_X4_tipBoards l g N M3 a0) lk_X4_tipBoards rfl (ci := 4) rfl (Nat.le_of_ble_eq_true rfl) q_1026 q_25 (by omega) rfl (Nat.le_of_ble_eq_true rfl) (Nat.zero_le _) (Nat.zero_le _) dX4_passDays_29 rfl (fun r4 => ?_)
      refine g_iadd 33 hX dX4_passDays_32 rfl ?_
      refine g_klI (fun v5 hv5 => ?_)
      refine g_istore_n 34 2 [(2, .int v5), (0, .ref a0), (1, .int x1), (3, .int x3)] hX dX4_passDays_33 rfl rfl (Nat.le_of_ble_eq_true rfl) rfl ?_
      refine g_kl (fun v6 hv6 => ?_)
      refine g_iinc 37 3 3 v6 [(3, .int v6), (2, .int v5), (0, .ref a0), (1, .int x1)] hX dX4_passDays_34 rfl rfl (by rw [hv6, kc_i_1]) (Nat.le_of_ble_eq_true rfl) rfl ?_
      refine g_goto 4 hX dX4_passDays_37 (by decide) ?_
      refine g_lv [2, 3, 1, 0] rfl ?_
      exact ih r4.2 a0 x1 v5 v6
set_option maxRecDepth 100000 in
set_option maxHeartbeats 4000000 in
theorem k_X4_passDays (l : Launch) (g : kG) (N : Nat) (M : kMem) (a0 : Nat) (x1 : Int32) : kMet l g yX4_passDays cX4_passDays 4 (some .int) 5 0 0 [.ref a0, .int x1] M (fun r : Int32 × kMem => (some (.int r.1), r.2)) (F_X4_passDays N M a0 x1) := by
  refine k_of (lv := [(0, .ref a0), (1, .int x1)]) RX4 (by decide) rfl rfl (Nat.le_of_ble_eq_true rfl) ?_
  intro p e s m args below meth c hX hr _
  unfold F_X4_passDays
  refine g_iconst 1 hX 0 dX4_passDays_0 rfl kc_i_0 ?_
  refine g_istore_n 2 2 [(2, .int 0), (0, .ref a0), (1, .int x1)] hX dX4_passDays_1 rfl rfl (Nat.le_of_ble_eq_true rfl) rfl ?_
  refine g_iconst 3 hX 0 dX4_passDays_2 rfl kc_i_0 ?_
  refine g_istore_n 4 3 [(3, .int 0), (2, .int 0), (0, .ref a0), (1, .int x1)] hX dX4_passDays_3 rfl rfl (Nat.le_of_ble_eq_true rfl) rfl ?_
  refine g_lv [2, 3, 1, 0] rfl ?_
  exact k_X4_passDays_4 hX hr N N M a0 x1 0 0
def F_X4_passDaysUntilFall_2 (N : Nat) : Nat → kMem → Nat → Nat → Int32 → Option (Int32 × kMem)
  | 0, _, _, _, _ => none
  | n + 1, M, a0, a1, x2 =>
    if (100 : Int32) < x2 then (
      some ((-1), M)) else
    if a1 = 0 then (
      some ((-1), M)) else
    kg (kt M a1 10) <| (F_X10_isSeated N M a1).bind fun r1 =>
    if r1 = 0 then (
      some ((-1), M)) else
    kg (kt M a0 4) <| (F_X4_passDays N M a0 1).bind fun r2 =>
    kg (kt r2.2 a1 10) <|
    if (kI r2.2 a1 5) = 0 then (
      kl (x2 + 1) fun v3 =>
      F_X4_passDaysUntilFall_2 N n r2.2 a0 a1 v3) else
    kg (kt r2.2 a1 10) <| (F_X10_isSeated N r2.2 a1).bind fun r4 =>
    if r4 = 0 then (
      some (x2, r2.2)) else
    kl (x2 + 1) fun v5 =>
    F_X4_passDaysUntilFall_2 N n r2.2 a0 a1 v5
def F_X4_passDaysUntilFall (N : Nat) (M : kMem) (a0 : Nat) (a1 : Nat) : Option (Int32 × kMem) :=
    F_X4_passDaysUntilFall_2 N N M a0 a1 1
set_option maxRecDepth 100000 in
set_option maxHeartbeats 4000000 in
theorem k_X4_passDaysUntilFall_2 {p : Program} {l : Launch} {e : Env} {s : State} {m : MethodId} {args : Array Value} {below : List Frame} {meth : Method} {c : Code} {g : kG} (hX : Cok (p, l, e, { frames := 2 * 6, cells := 0, slots := 0, locals := 60 * 6 }, s, m, args, below, meth, c, cX4_passDaysUntilFall, 3, RX4, g, 6)) (hr : meth.sig.returnType = (some .int)) (N : Nat) : ∀ (n : Nat) (M : kMem) (a0 : Nat) (a1 : Nat) (x2 : Int32), GG (p, l, e, { frames := 2 * 6, cells := 0, slots := 0, locals := 60 * 6 }, s, m, args, below, meth, c, cX4_passDaysUntilFall, 3, RX4, g, 6) (fun b => MQ below (kQ g ((fun r : Int32 × kMem => (some (.int r.1), r.2)) b)) args s 0 0 (kZ g.2.2.1)) 0 0 (F_X4_passDaysUntilFall_2 N n M a0 a1 x2) 2 [(0, .ref a0), (1, .ref a1), (2, .int x2)] [] M := by
  intro n
  induction n with
  | zero => intro _ _ _ _; exact g_none
  | succ n ih =>
    intro M a0 a1 x2
    unfold F_X4_passDaysUntilFall_2
    refine g_iload_n 3 2 hX dX4_passDaysUntilFall_2 rfl rfl ?_
    refine g_bipush 5 hX 100 dX4_passDaysUntilFall_3 rfl kc_b_100 ?_
    refine g_icmp_gt 47 8 hX dX4_passDaysUntilFall_5 (by decide) rfl (fun _ => ?_) (fun _ => ?_)
    · refine g_iconst 48 hX (-1) dX4_passDaysUntilFall_47 rfl kc_i_m1 ?_
      exact g_iret hX hr rfl (Nat.le_refl 0) (Nat.le_refl 0) dX4_passDaysUntilFall_48
    · refine g_aload_n 9 1 hX dX4_passDaysUntilFall_8 rfl rfl ?_
      refine g_ifnull 47 12 hX dX4_passDaysUntilFall_9 (by decide) rfl (fun _ => ?_) (fun _ => ?_)
      · refine g_iconst 48 hX (-1) dX4_passDaysUntilFall_47 rfl kc_i_m1 ?_
        exact g_iret hX hr rfl (Nat.le_refl 0) (Nat.le_refl 0) dX4_passDaysUntilFall_48
      · refine g_aload_n 13 1 hX dX4_passDaysUntilFall_12 rfl rfl ?_
        refine g_callV_ip 16 hX (k_X10_isSeated l g N M a1) lk_X10_isSeated rfl (ci := 10) rfl (Nat.le_of_ble_eq_true rfl) q_964 q_709 (by omega) rfl (Nat.le_of_ble_eq_true rfl) (Nat.zero_le _) (Nat.zero_le _) dX4_passDaysUntilFall_13 rfl (fun r1 => ?_)
        refine g_if_eq 47 19 hX dX4_passDaysUntilFall_16 (by decide) rfl (fun _ => ?_) (fun _ => ?_)
        · refine g_iconst 48 hX (-1) dX4_passDaysUntilFall_47 rfl kc_i_m1 ?_
          exact g_iret hX hr rfl (Nat.le_refl 0) (Nat.le_refl 0) dX4_passDaysUntilFall_48
        · refine g_aload_n 20 0 hX dX4_passDaysUntilFall_19 rfl rfl ?_
          refine g_iconst 21 hX 1 dX4_passDaysUntilFall_20 rfl kc_i_1 ?_
          refine g_callV_i 24 hX (k_X4_passDays l g N M a0 1) lk_X4_passDays rfl (ci := 4) rfl (Nat.le_of_ble_eq_true rfl) q_1539 q_998 (by omega) rfl (Nat.le_of_ble_eq_true rfl) (Nat.zero_le _) (Nat.zero_le _) dX4_passDaysUntilFall_21 rfl (fun r2 => ?_)
          refine g_pop 25 hX dX4_passDaysUntilFall_24 rfl rfl ?_
          refine g_aload_n 26 1 hX dX4_passDaysUntilFall_25 rfl rfl ?_
          refine r_X4_117 29 hX dX4_passDaysUntilFall_26 rfl ?_
          refine g_if_eq 41 32 hX dX4_passDaysUntilFall_29 (by decide) rfl (fun _ => ?_) (fun _ => ?_)
          · refine g_kl (fun v3 hv3 => ?_)
            refine g_iinc 44 2 2 v3 [(2, .int v3), (0, .ref a0), (1, .ref a1)] hX dX4_passDaysUntilFall_41 rfl rfl (by rw [hv3, kc_i_1]) (Nat.le_of_ble_eq_true rfl) rfl ?_
            refine g_goto 2 hX dX4_passDaysUntilFall_44 (by decide) ?_
            refine g_lv [1, 2, 0] rfl ?_
            exact ih r2.2 a0 a1 v3
          · refine g_aload_n 33 1 hX dX4_passDaysUntilFall_32 rfl rfl ?_
            refine g_callV_ip 36 hX (k_X10_isSeated l g N r2.2 a1) lk_X10_isSeated rfl (ci := 10) rfl (Nat.le_of_ble_eq_true rfl) q_964 q_709 (by omega) rfl (Nat.le_of_ble_eq_true rfl) (Nat.zero_le _) (Nat.zero_le _) dX4_passDaysUntilFall_33 rfl (fun r4 => ?_)
            refine g_if_ne 41 39 hX dX4_passDaysUntilFall_36 (by decide) rfl (fun _ => ?_) (fun _ => ?_)
            · refine g_kl (fun v5 hv5 => ?_)
              refine g_iinc 44 2 2 v5 [(2, .int v5), (0, .ref a0), (1, .ref a1)] hX dX4_passDaysUntilFall_41 rfl rfl (by rw [hv5, kc_i_1]) (Nat.le_of_ble_eq_true rfl) rfl ?_
              refine g_goto 2 hX dX4_passDaysUntilFall_44 (by decide) ?_
              refine g_lv [1, 2, 0] rfl ?_
              exact ih r2.2 a0 a1 v5
            · refine g_iload_n 40 2 hX dX4_passDaysUntilFall_39 rfl rfl ?_
              exact g_iret hX hr rfl (Nat.le_refl 0) (Nat.le_refl 0) dX4_passDaysUntilFall_40
set_option maxRecDepth 100000 in
set_option maxHeartbeats 4000000 in
theorem k_X4_passDaysUntilFall (l : Launch) (g : kG) (N : Nat) (M : kMem) (a0 : Nat) (a1 : Nat) : kMet l g yX4_passDaysUntilFall cX4_passDaysUntilFall 3 (some .int) 6 0 0 [.ref a0, .ref a1] M (fun r : Int32 × kMem => (some (.int r.1), r.2)) (F_X4_passDaysUntilFall N M a0 a1) := by
  refine k_of (lv := [(0, .ref a0), (1, .ref a1)]) RX4 (by decide) rfl rfl (Nat.le_of_ble_eq_true rfl) ?_
  intro p e s m args below meth c hX hr _
  unfold F_X4_passDaysUntilFall
  refine g_iconst 1 hX 1 dX4_passDaysUntilFall_0 rfl kc_i_1 ?_
  refine g_istore_n 2 2 [(2, .int 1), (0, .ref a0), (1, .ref a1)] hX dX4_passDaysUntilFall_1 rfl rfl (Nat.le_of_ble_eq_true rfl) rfl ?_
  refine g_lv [1, 2, 0] rfl ?_
  exact k_X4_passDaysUntilFall_2 hX hr N N M a0 a1 1
def F_X4_presentTraders_4 (N : Nat) (M : kMem) : Nat → Nat → Int32 → Int32 → Option (Int32)
  | 0, _, _, _ => none
  | n + 1, a0, x1, x2 =>
    kg (kt M a0 4) <|
    if x2 < (kI M a0 12) then (
      kg (kt M a0 4) <|
      kg (kin M (kR M a0 14) 17 x2) <|
      kg (kt M (kR M (kR M a0 14) (kx x2)) 10) <|
      if (kI M (kR M (kR M a0 14) (kx x2)) 5) = 0 then (
        kl (x2 + 1) fun v1 =>
        F_X4_presentTraders_4 N M n a0 x1 v1) else
      kl (x1 + 1) fun v2 =>
      kl (x2 + 1) fun v3 =>
      F_X4_presentTraders_4 N M n a0 v2 v3) else
    some x1
def F_X4_presentTraders (N : Nat) (M : kMem) (a0 : Nat) : Option (Int32) :=
    F_X4_presentTraders_4 N M N a0 0 0
set_option maxRecDepth 100000 in
set_option maxHeartbeats 4000000 in
theorem k_X4_presentTraders_4 {p : Program} {l : Launch} {e : Env} {s : State} {m : MethodId} {args : Array Value} {below : List Frame} {meth : Method} {c : Code} {g : kG} (hX : Cok (p, l, e, { frames := 2 * 1, cells := 0, slots := 0, locals := 60 * 1 }, s, m, args, below, meth, c, cX4_presentTraders, 3, RX4, g, 1)) (hr : meth.sig.returnType = (some .int)) (N : Nat) (M : kMem) : ∀ (n : Nat) (a0 : Nat) (x1 : Int32) (x2 : Int32), GG (p, l, e, { frames := 2 * 1, cells := 0, slots := 0, locals := 60 * 1 }, s, m, args, below, meth, c, cX4_presentTraders, 3, RX4, g, 1) (fun b => MQ below (kQ g ((fun r : Int32 => (some (.int r), M)) b)) args s 0 0 (kZ g.2.2.1)) 0 0 (F_X4_presentTraders_4 N M n a0 x1 x2) 4 [(0, .ref a0), (1, .int x1), (2, .int x2)] [] M := by
  intro n
  induction n with
  | zero => intro _ _ _; exact g_none
  | succ n ih =>
    intro a0 x1 x2
    unfold F_X4_presentTraders_4
    refine g_iload_n 5 2 hX dX4_presentTraders_4 rfl rfl ?_
    refine g_aload_n 6 0 hX dX4_presentTraders_5 rfl rfl ?_
    refine r_X4_50 9 hX dX4_presentTraders_6 rfl ?_
    refine g_icmp_ge 33 12 hX dX4_presentTraders_9 (by decide) rfl (fun _ => ?_) (fun _ => ?_)
    · refine g_iload_n 34 1 hX dX4_presentTraders_33 rfl rfl ?_
      exact g_iret hX hr rfl (Nat.le_refl 0) (Nat.le_refl 0) dX4_presentTraders_34
    · refine g_aload_n 13 0 hX dX4_presentTraders_12 rfl rfl ?_
      refine r_X4_19 16 hX dX4_presentTraders_13 rfl ?_
      refine g_iload_n 17 2 hX dX4_presentTraders_16 rfl rfl ?_
      refine g_aald 17 4 18 hX RX10 (Nat.le_of_ble_eq_true rfl) rfl dX4_presentTraders_17 rfl ?_
      refine r_X4_117 21 hX dX4_presentTraders_18 rfl ?_
      refine g_if_eq 27 24 hX dX4_presentTraders_21 (by decide) rfl (fun _ => ?_) (fun _ => ?_)
      · refine g_kl (fun v1 hv1 => ?_)
        refine g_iinc 30 2 2 v1 [(2, .int v1), (0, .ref a0), (1, .int x1)] hX dX4_presentTraders_27 rfl rfl (by rw [hv1, kc_i_1]) (Nat.le_of_ble_eq_true rfl) rfl ?_
        refine g_goto 4 hX dX4_presentTraders_30 (by decide) ?_
        refine g_lv [1, 2, 0] rfl ?_
        exact ih a0 x1 v1
      · refine g_kl (fun v2 hv2 => ?_)
        refine g_iinc 27 1 1 v2 [(1, .int v2), (0, .ref a0), (2, .int x2)] hX dX4_presentTraders_24 rfl rfl (by rw [hv2, kc_i_1]) (Nat.le_of_ble_eq_true rfl) rfl ?_
        refine g_kl (fun v3 hv3 => ?_)
        refine g_iinc 30 2 2 v3 [(2, .int v3), (1, .int v2), (0, .ref a0)] hX dX4_presentTraders_27 rfl rfl (by rw [hv3, kc_i_1]) (Nat.le_of_ble_eq_true rfl) rfl ?_
        refine g_goto 4 hX dX4_presentTraders_30 (by decide) ?_
        refine g_lv [2, 1, 0] rfl ?_
        exact ih a0 v2 v3
set_option maxRecDepth 100000 in
set_option maxHeartbeats 4000000 in
theorem k_X4_presentTraders (l : Launch) (g : kG) (N : Nat) (M : kMem) (a0 : Nat) : kMet l g yX4_presentTraders cX4_presentTraders 3 (some .int) 1 0 0 [.ref a0] M (fun r : Int32 => (some (.int r), M)) (F_X4_presentTraders N M a0) := by
  refine k_of (lv := [(0, .ref a0)]) RX4 (by decide) rfl rfl (Nat.le_of_ble_eq_true rfl) ?_
  intro p e s m args below meth c hX hr _
  unfold F_X4_presentTraders
  refine g_iconst 1 hX 0 dX4_presentTraders_0 rfl kc_i_0 ?_
  refine g_istore_n 2 1 [(1, .int 0), (0, .ref a0)] hX dX4_presentTraders_1 rfl rfl (Nat.le_of_ble_eq_true rfl) rfl ?_
  refine g_iconst 3 hX 0 dX4_presentTraders_2 rfl kc_i_0 ?_
  refine g_istore_n 4 2 [(2, .int 0), (1, .int 0), (0, .ref a0)] hX dX4_presentTraders_3 rfl rfl (Nat.le_of_ble_eq_true rfl) rfl ?_
  refine g_lv [2, 1, 0] rfl ?_
  exact k_X4_presentTraders_4 hX hr N M N a0 0 0
def F_X4_coinsInPurses_4 (N : Nat) (M : kMem) : Nat → Nat → Int32 → Int32 → Option (Int32)
  | 0, _, _, _ => none
  | n + 1, a0, x1, x2 =>
    kg (kt M a0 4) <|
    if x2 < (kI M a0 12) then (
      kg (kt M a0 4) <|
      kg (kin M (kR M a0 14) 17 x2) <|
      kg (kt M (kR M (kR M a0 14) (kx x2)) 10) <|
      kl (x1 + (kI M (kR M (kR M a0 14) (kx x2)) 3)) fun v1 =>
      kl (x2 + 1) fun v2 =>
      F_X4_coinsInPurses_4 N M n a0 v1 v2) else
    some x1
def F_X4_coinsInPurses (N : Nat) (M : kMem) (a0 : Nat) : Option (Int32) :=
    F_X4_coinsInPurses_4 N M N a0 0 0
set_option maxRecDepth 100000 in
set_option maxHeartbeats 4000000 in
theorem k_X4_coinsInPurses_4 {p : Program} {l : Launch} {e : Env} {s : State} {m : MethodId} {args : Array Value} {below : List Frame} {meth : Method} {c : Code} {g : kG} (hX : Cok (p, l, e, { frames := 2 * 1, cells := 0, slots := 0, locals := 60 * 1 }, s, m, args, below, meth, c, cX4_coinsInPurses, 3, RX4, g, 1)) (hr : meth.sig.returnType = (some .int)) (N : Nat) (M : kMem) : ∀ (n : Nat) (a0 : Nat) (x1 : Int32) (x2 : Int32), GG (p, l, e, { frames := 2 * 1, cells := 0, slots := 0, locals := 60 * 1 }, s, m, args, below, meth, c, cX4_coinsInPurses, 3, RX4, g, 1) (fun b => MQ below (kQ g ((fun r : Int32 => (some (.int r), M)) b)) args s 0 0 (kZ g.2.2.1)) 0 0 (F_X4_coinsInPurses_4 N M n a0 x1 x2) 4 [(0, .ref a0), (1, .int x1), (2, .int x2)] [] M := by
  intro n
  induction n with
  | zero => intro _ _ _; exact g_none
  | succ n ih =>
    intro a0 x1 x2
    unfold F_X4_coinsInPurses_4
    refine g_iload_n 5 2 hX dX4_coinsInPurses_4 rfl rfl ?_
    refine g_aload_n 6 0 hX dX4_coinsInPurses_5 rfl rfl ?_
    refine r_X4_50 9 hX dX4_coinsInPurses_6 rfl ?_
    refine g_icmp_ge 30 12 hX dX4_coinsInPurses_9 (by decide) rfl (fun _ => ?_) (fun _ => ?_)
    · refine g_iload_n 31 1 hX dX4_coinsInPurses_30 rfl rfl ?_
      exact g_iret hX hr rfl (Nat.le_refl 0) (Nat.le_refl 0) dX4_coinsInPurses_31
    · refine g_iload_n 13 1 hX dX4_coinsInPurses_12 rfl rfl ?_
      refine g_aload_n 14 0 hX dX4_coinsInPurses_13 rfl rfl ?_
      refine r_X4_19 17 hX dX4_coinsInPurses_14 rfl ?_
      refine g_iload_n 18 2 hX dX4_coinsInPurses_17 rfl rfl ?_
      refine g_aald 17 4 19 hX RX10 (Nat.le_of_ble_eq_true rfl) rfl dX4_coinsInPurses_18 rfl ?_
      refine r_X4_111 22 hX dX4_coinsInPurses_19 rfl ?_
      refine g_iadd 23 hX dX4_coinsInPurses_22 rfl ?_
      refine g_klI (fun v1 hv1 => ?_)
      refine g_istore_n 24 1 [(1, .int v1), (0, .ref a0), (2, .int x2)] hX dX4_coinsInPurses_23 rfl rfl (Nat.le_of_ble_eq_true rfl) rfl ?_
      refine g_kl (fun v2 hv2 => ?_)
      refine g_iinc 27 2 2 v2 [(2, .int v2), (1, .int v1), (0, .ref a0)] hX dX4_coinsInPurses_24 rfl rfl (by rw [hv2, kc_i_1]) (Nat.le_of_ble_eq_true rfl) rfl ?_
      refine g_goto 4 hX dX4_coinsInPurses_27 (by decide) ?_
      refine g_lv [2, 1, 0] rfl ?_
      exact ih a0 v1 v2
set_option maxRecDepth 100000 in
set_option maxHeartbeats 4000000 in
theorem k_X4_coinsInPurses (l : Launch) (g : kG) (N : Nat) (M : kMem) (a0 : Nat) : kMet l g yX4_coinsInPurses cX4_coinsInPurses 3 (some .int) 1 0 0 [.ref a0] M (fun r : Int32 => (some (.int r), M)) (F_X4_coinsInPurses N M a0) := by
  refine k_of (lv := [(0, .ref a0)]) RX4 (by decide) rfl rfl (Nat.le_of_ble_eq_true rfl) ?_
  intro p e s m args below meth c hX hr _
  unfold F_X4_coinsInPurses
  refine g_iconst 1 hX 0 dX4_coinsInPurses_0 rfl kc_i_0 ?_
  refine g_istore_n 2 1 [(1, .int 0), (0, .ref a0)] hX dX4_coinsInPurses_1 rfl rfl (Nat.le_of_ble_eq_true rfl) rfl ?_
  refine g_iconst 3 hX 0 dX4_coinsInPurses_2 rfl kc_i_0 ?_
  refine g_istore_n 4 2 [(2, .int 0), (1, .int 0), (0, .ref a0)] hX dX4_coinsInPurses_3 rfl rfl (Nat.le_of_ble_eq_true rfl) rfl ?_
  refine g_lv [2, 1, 0] rfl ?_
  exact k_X4_coinsInPurses_4 hX hr N M N a0 0 0
def F_X4_rankOf_52 (N : Nat) (M : kMem) (k4 : Nat → Nat → Int32 → Int32 → Option (Int32)) (a0 : Nat) (a1 : Nat) (x2 : Int32) (x3 : Int32) (a4 : Nat) : Option (Int32) :=
    kg (kt M a4 10) <|
    if (kI M a4 5) = 0 then (
      kl (x3 + 1) fun v2 =>
      k4 a0 a1 x2 v2) else
    if (1 : Int32) = 0 then (
      kl (x3 + 1) fun v3 =>
      k4 a0 a1 x2 v3) else
    kl (x2 + 1) fun v4 =>
    kl (x3 + 1) fun v5 =>
    k4 a0 a1 v4 v5
def F_X4_rankOf_56 (N : Nat) (M : kMem) (k4 : Nat → Nat → Int32 → Int32 → Option (Int32)) (a0 : Nat) (a1 : Nat) (x2 : Int32) (x3 : Int32) (a4 : Nat) : Option (Int32) :=
    kg (kt M a4 10) <|
    if (kI M a4 5) = 0 then (
      kl (x3 + 1) fun v6 =>
      k4 a0 a1 x2 v6) else
    if (0 : Int32) = 0 then (
      kl (x3 + 1) fun v7 =>
      k4 a0 a1 x2 v7) else
    kl (x2 + 1) fun v8 =>
    kl (x3 + 1) fun v9 =>
    k4 a0 a1 v8 v9
def F_X4_rankOf_4 (N : Nat) (M : kMem) : Nat → Nat → Nat → Int32 → Int32 → Option (Int32)
  | 0, _, _, _, _ => none
  | n + 1, a0, a1, x2, x3 =>
    kg (kt M a0 4) <|
    if x3 < (kI M a0 12) then (
      kg (kt M a0 4) <|
      kg (kin M (kR M a0 14) 17 x3) <|
      kl (kR M (kR M a0 14) (kx x3)) fun w1 =>
      kg (kt M w1 10) <|
      kg (kt M a1 10) <|
      if (kI M a1 3) < (kI M w1 3) then (
        F_X4_rankOf_52 N M (fun a0 a1 x2 x3 => F_X4_rankOf_4 N M n a0 a1 x2 x3) a0 a1 x2 x3 w1) else
      kg (kt M w1 10) <|
      kg (kt M a1 10) <|
      if (kI M w1 3) = (kI M a1 3) then (
        kg (kt M a1 10) <|
        if x3 < (kI M a1 0) then (
          F_X4_rankOf_52 N M (fun a0 a1 x2 x3 => F_X4_rankOf_4 N M n a0 a1 x2 x3) a0 a1 x2 x3 w1) else
        F_X4_rankOf_56 N M (fun a0 a1 x2 x3 => F_X4_rankOf_4 N M n a0 a1 x2 x3) a0 a1 x2 x3 w1) else
      F_X4_rankOf_56 N M (fun a0 a1 x2 x3 => F_X4_rankOf_4 N M n a0 a1 x2 x3) a0 a1 x2 x3 w1) else
    some x2
def F_X4_rankOf (N : Nat) (M : kMem) (a0 : Nat) (a1 : Nat) : Option (Int32) :=
    F_X4_rankOf_4 N M N a0 a1 0 0
set_option maxRecDepth 100000 in
set_option maxHeartbeats 4000000 in
theorem k_X4_rankOf_52 {p : Program} {l : Launch} {e : Env} {s : State} {m : MethodId} {args : Array Value} {below : List Frame} {meth : Method} {c : Code} {g : kG} (hX : Cok (p, l, e, { frames := 2 * 1, cells := 0, slots := 0, locals := 60 * 1 }, s, m, args, below, meth, c, cX4_rankOf, 6, RX4, g, 1)) (hr : meth.sig.returnType = (some .int)) (N : Nat) (M : kMem) (k4 : Nat → Nat → Int32 → Int32 → Option (Int32)) (h4 : ∀ (a0 : Nat) (a1 : Nat) (x2 : Int32) (x3 : Int32), GG (p, l, e, { frames := 2 * 1, cells := 0, slots := 0, locals := 60 * 1 }, s, m, args, below, meth, c, cX4_rankOf, 6, RX4, g, 1) (fun b => MQ below (kQ g ((fun r : Int32 => (some (.int r), M)) b)) args s 0 0 (kZ g.2.2.1)) 0 0 (k4 a0 a1 x2 x3) 4 [(0, .ref a0), (1, .ref a1), (2, .int x2), (3, .int x3)] [] M) : ∀ (a0 : Nat) (a1 : Nat) (x2 : Int32) (x3 : Int32) (a4 : Nat), GG (p, l, e, { frames := 2 * 1, cells := 0, slots := 0, locals := 60 * 1 }, s, m, args, below, meth, c, cX4_rankOf, 6, RX4, g, 1) (fun b => MQ below (kQ g ((fun r : Int32 => (some (.int r), M)) b)) args s 0 0 (kZ g.2.2.1)) 0 0 (F_X4_rankOf_52 N M k4 a0 a1 x2 x3 a4) 52 [(0, .ref a0), (1, .ref a1), (2, .int x2), (3, .int x3), (4, .ref a4)] [] M := by
  intro a0 a1 x2 x3 a4
  unfold F_X4_rankOf_52
  refine g_iconst 53 hX 1 dX4_rankOf_52 rfl kc_i_1 ?_
  refine g_goto 57 hX dX4_rankOf_53 (by decide) ?_
  refine g_istore 59 5 [(5, .int 1), (0, .ref a0), (1, .ref a1), (2, .int x2), (3, .int x3), (4, .ref a4)] hX dX4_rankOf_57 rfl (Nat.le_of_ble_eq_true rfl) rfl ?_
  refine g_aload 61 5 hX dX4_rankOf_59 rfl rfl ?_
  refine r_X4_117 64 hX dX4_rankOf_61 rfl ?_
  refine g_if_eq 75 67 hX dX4_rankOf_64 (by decide) rfl (fun _ => ?_) (fun _ => ?_)
  · refine g_kl (fun v2 hv2 => ?_)
    refine g_iinc 78 3 4 v2 [(3, .int v2), (5, .int 1), (0, .ref a0), (1, .ref a1), (2, .int x2), (4, .ref a4)] hX dX4_rankOf_75 rfl rfl (by rw [hv2, kc_i_1]) (Nat.le_of_ble_eq_true rfl) rfl ?_
    refine g_goto 4 hX dX4_rankOf_78 (by decide) ?_
    refine g_lv [2, 3, 4, 0] rfl ?_
    exact h4 a0 a1 x2 v2
  · refine g_iload 69 0 hX dX4_rankOf_67 rfl rfl ?_
    refine g_if_eq 75 72 hX dX4_rankOf_69 (by decide) rfl (fun _ => ?_) (fun _ => ?_)
    · refine g_kl (fun v3 hv3 => ?_)
      refine g_iinc 78 3 4 v3 [(3, .int v3), (5, .int 1), (0, .ref a0), (1, .ref a1), (2, .int x2), (4, .ref a4)] hX dX4_rankOf_75 rfl rfl (by rw [hv3, kc_i_1]) (Nat.le_of_ble_eq_true rfl) rfl ?_
      refine g_goto 4 hX dX4_rankOf_78 (by decide) ?_
      refine g_lv [2, 3, 4, 0] rfl ?_
      exact h4 a0 a1 x2 v3
    · refine g_kl (fun v4 hv4 => ?_)
      refine g_iinc 75 2 3 v4 [(2, .int v4), (5, .int 1), (0, .ref a0), (1, .ref a1), (3, .int x3), (4, .ref a4)] hX dX4_rankOf_72 rfl rfl (by rw [hv4, kc_i_1]) (Nat.le_of_ble_eq_true rfl) rfl ?_
      refine g_kl (fun v5 hv5 => ?_)
      refine g_iinc 78 3 4 v5 [(3, .int v5), (2, .int v4), (5, .int 1), (0, .ref a0), (1, .ref a1), (4, .ref a4)] hX dX4_rankOf_75 rfl rfl (by rw [hv5, kc_i_1]) (Nat.le_of_ble_eq_true rfl) rfl ?_
      refine g_goto 4 hX dX4_rankOf_78 (by decide) ?_
      refine g_lv [3, 4, 1, 0] rfl ?_
      exact h4 a0 a1 v4 v5
set_option maxRecDepth 100000 in
set_option maxHeartbeats 4000000 in
theorem k_X4_rankOf_56 {p : Program} {l : Launch} {e : Env} {s : State} {m : MethodId} {args : Array Value} {below : List Frame} {meth : Method} {c : Code} {g : kG} (hX : Cok (p, l, e, { frames := 2 * 1, cells := 0, slots := 0, locals := 60 * 1 }, s, m, args, below, meth, c, cX4_rankOf, 6, RX4, g, 1)) (hr : meth.sig.returnType = (some .int)) (N : Nat) (M : kMem) (k4 : Nat → Nat → Int32 → Int32 → Option (Int32)) (h4 : ∀ (a0 : Nat) (a1 : Nat) (x2 : Int32) (x3 : Int32), GG (p, l, e, { frames := 2 * 1, cells := 0, slots := 0, locals := 60 * 1 }, s, m, args, below, meth, c, cX4_rankOf, 6, RX4, g, 1) (fun b => MQ below (kQ g ((fun r : Int32 => (some (.int r), M)) b)) args s 0 0 (kZ g.2.2.1)) 0 0 (k4 a0 a1 x2 x3) 4 [(0, .ref a0), (1, .ref a1), (2, .int x2), (3, .int x3)] [] M) : ∀ (a0 : Nat) (a1 : Nat) (x2 : Int32) (x3 : Int32) (a4 : Nat), GG (p, l, e, { frames := 2 * 1, cells := 0, slots := 0, locals := 60 * 1 }, s, m, args, below, meth, c, cX4_rankOf, 6, RX4, g, 1) (fun b => MQ below (kQ g ((fun r : Int32 => (some (.int r), M)) b)) args s 0 0 (kZ g.2.2.1)) 0 0 (F_X4_rankOf_56 N M k4 a0 a1 x2 x3 a4) 56 [(0, .ref a0), (1, .ref a1), (2, .int x2), (3, .int x3), (4, .ref a4)] [] M := by
  intro a0 a1 x2 x3 a4
  unfold F_X4_rankOf_56
  refine g_iconst 57 hX 0 dX4_rankOf_56 rfl kc_i_0 ?_
  refine g_istore 59 5 [(5, .int 0), (0, .ref a0), (1, .ref a1), (2, .int x2), (3, .int x3), (4, .ref a4)] hX dX4_rankOf_57 rfl (Nat.le_of_ble_eq_true rfl) rfl ?_
  refine g_aload 61 5 hX dX4_rankOf_59 rfl rfl ?_
  refine r_X4_117 64 hX dX4_rankOf_61 rfl ?_
  refine g_if_eq 75 67 hX dX4_rankOf_64 (by decide) rfl (fun _ => ?_) (fun _ => ?_)
  · refine g_kl (fun v6 hv6 => ?_)
    refine g_iinc 78 3 4 v6 [(3, .int v6), (5, .int 0), (0, .ref a0), (1, .ref a1), (2, .int x2), (4, .ref a4)] hX dX4_rankOf_75 rfl rfl (by rw [hv6, kc_i_1]) (Nat.le_of_ble_eq_true rfl) rfl ?_
    refine g_goto 4 hX dX4_rankOf_78 (by decide) ?_
    refine g_lv [2, 3, 4, 0] rfl ?_
    exact h4 a0 a1 x2 v6
  · refine g_iload 69 0 hX dX4_rankOf_67 rfl rfl ?_
    refine g_if_eq 75 72 hX dX4_rankOf_69 (by decide) rfl (fun _ => ?_) (fun _ => ?_)
    · refine g_kl (fun v7 hv7 => ?_)
      refine g_iinc 78 3 4 v7 [(3, .int v7), (5, .int 0), (0, .ref a0), (1, .ref a1), (2, .int x2), (4, .ref a4)] hX dX4_rankOf_75 rfl rfl (by rw [hv7, kc_i_1]) (Nat.le_of_ble_eq_true rfl) rfl ?_
      refine g_goto 4 hX dX4_rankOf_78 (by decide) ?_
      refine g_lv [2, 3, 4, 0] rfl ?_
      exact h4 a0 a1 x2 v7
    · refine g_kl (fun v8 hv8 => ?_)
      refine g_iinc 75 2 3 v8 [(2, .int v8), (5, .int 0), (0, .ref a0), (1, .ref a1), (3, .int x3), (4, .ref a4)] hX dX4_rankOf_72 rfl rfl (by rw [hv8, kc_i_1]) (Nat.le_of_ble_eq_true rfl) rfl ?_
      refine g_kl (fun v9 hv9 => ?_)
      refine g_iinc 78 3 4 v9 [(3, .int v9), (2, .int v8), (5, .int 0), (0, .ref a0), (1, .ref a1), (4, .ref a4)] hX dX4_rankOf_75 rfl rfl (by rw [hv9, kc_i_1]) (Nat.le_of_ble_eq_true rfl) rfl ?_
      refine g_goto 4 hX dX4_rankOf_78 (by decide) ?_
      refine g_lv [3, 4, 1, 0] rfl ?_
      exact h4 a0 a1 v8 v9
set_option maxRecDepth 100000 in
set_option maxHeartbeats 4000000 in
theorem k_X4_rankOf_4 {p : Program} {l : Launch} {e : Env} {s : State} {m : MethodId} {args : Array Value} {below : List Frame} {meth : Method} {c : Code} {g : kG} (hX : Cok (p, l, e, { frames := 2 * 1, cells := 0, slots := 0, locals := 60 * 1 }, s, m, args, below, meth, c, cX4_rankOf, 6, RX4, g, 1)) (hr : meth.sig.returnType = (some .int)) (N : Nat) (M : kMem) : ∀ (n : Nat) (a0 : Nat) (a1 : Nat) (x2 : Int32) (x3 : Int32), GG (p, l, e, { frames := 2 * 1, cells := 0, slots := 0, locals := 60 * 1 }, s, m, args, below, meth, c, cX4_rankOf, 6, RX4, g, 1) (fun b => MQ below (kQ g ((fun r : Int32 => (some (.int r), M)) b)) args s 0 0 (kZ g.2.2.1)) 0 0 (F_X4_rankOf_4 N M n a0 a1 x2 x3) 4 [(0, .ref a0), (1, .ref a1), (2, .int x2), (3, .int x3)] [] M := by
  intro n
  induction n with
  | zero => intro _ _ _ _; exact g_none
  | succ n ih =>
    intro a0 a1 x2 x3
    unfold F_X4_rankOf_4
    refine g_iload_n 5 3 hX dX4_rankOf_4 rfl rfl ?_
    refine g_aload_n 6 0 hX dX4_rankOf_5 rfl rfl ?_
    refine r_X4_50 9 hX dX4_rankOf_6 rfl ?_
    refine g_icmp_ge 81 12 hX dX4_rankOf_9 (by decide) rfl (fun _ => ?_) (fun _ => ?_)
    · refine g_iload_n 82 2 hX dX4_rankOf_81 rfl rfl ?_
      exact g_iret hX hr rfl (Nat.le_refl 0) (Nat.le_refl 0) dX4_rankOf_82
    · refine g_aload_n 13 0 hX dX4_rankOf_12 rfl rfl ?_
      refine r_X4_19 16 hX dX4_rankOf_13 rfl ?_
      refine g_iload_n 17 3 hX dX4_rankOf_16 rfl rfl ?_
      refine g_aald 17 4 18 hX RX10 (Nat.le_of_ble_eq_true rfl) rfl dX4_rankOf_17 rfl ?_
      refine g_klR (fun w1 hw1 => ?_)
      refine g_astore 20 4 [(4, .ref w1), (0, .ref a0), (1, .ref a1), (2, .int x2), (3, .int x3)] hX dX4_rankOf_18 rfl (Nat.le_of_ble_eq_true rfl) rfl ?_
      refine g_aload 22 0 hX dX4_rankOf_20 rfl rfl ?_
      refine r_X4_111 25 hX dX4_rankOf_22 rfl ?_
      refine g_aload_n 26 2 hX dX4_rankOf_25 rfl rfl ?_
      refine r_X4_111 29 hX dX4_rankOf_26 rfl ?_
      refine g_icmp_gt 52 32 hX dX4_rankOf_29 (by decide) rfl (fun _ => ?_) (fun _ => ?_)
      · refine g_lv [1, 2, 3, 4, 0] rfl ?_
        exact k_X4_rankOf_52 hX hr N M (fun a0 a1 x2 x3 => F_X4_rankOf_4 N M n a0 a1 x2 x3) ih a0 a1 x2 x3 w1
      · refine g_aload 34 0 hX dX4_rankOf_32 rfl rfl ?_
        refine r_X4_111 37 hX dX4_rankOf_34 rfl ?_
        refine g_aload_n 38 2 hX dX4_rankOf_37 rfl rfl ?_
        refine r_X4_111 41 hX dX4_rankOf_38 rfl ?_
        refine g_icmp_ne 56 44 hX dX4_rankOf_41 (by decide) rfl (fun _ => ?_) (fun _ => ?_)
        · refine g_lv [1, 2, 3, 4, 0] rfl ?_
          exact k_X4_rankOf_56 hX hr N M (fun a0 a1 x2 x3 => F_X4_rankOf_4 N M n a0 a1 x2 x3) ih a0 a1 x2 x3 w1
        · refine g_iload_n 45 4 hX dX4_rankOf_44 rfl rfl ?_
          refine g_aload_n 46 2 hX dX4_rankOf_45 rfl rfl ?_
          refine r_X4_127 49 hX dX4_rankOf_46 rfl ?_
          refine g_icmp_ge 56 52 hX dX4_rankOf_49 (by decide) rfl (fun _ => ?_) (fun _ => ?_)
          · refine g_lv [1, 2, 3, 4, 0] rfl ?_
            exact k_X4_rankOf_56 hX hr N M (fun a0 a1 x2 x3 => F_X4_rankOf_4 N M n a0 a1 x2 x3) ih a0 a1 x2 x3 w1
          · refine g_lv [1, 2, 3, 4, 0] rfl ?_
            exact k_X4_rankOf_52 hX hr N M (fun a0 a1 x2 x3 => F_X4_rankOf_4 N M n a0 a1 x2 x3) ih a0 a1 x2 x3 w1
set_option maxRecDepth 100000 in
set_option maxHeartbeats 4000000 in
theorem k_X4_rankOf (l : Launch) (g : kG) (N : Nat) (M : kMem) (a0 : Nat) (a1 : Nat) : kMet l g yX4_rankOf cX4_rankOf 6 (some .int) 1 0 0 [.ref a0, .ref a1] M (fun r : Int32 => (some (.int r), M)) (F_X4_rankOf N M a0 a1) := by
  refine k_of (lv := [(0, .ref a0), (1, .ref a1)]) RX4 (by decide) rfl rfl (Nat.le_of_ble_eq_true rfl) ?_
  intro p e s m args below meth c hX hr _
  unfold F_X4_rankOf
  refine g_iconst 1 hX 0 dX4_rankOf_0 rfl kc_i_0 ?_
  refine g_istore_n 2 2 [(2, .int 0), (0, .ref a0), (1, .ref a1)] hX dX4_rankOf_1 rfl rfl (Nat.le_of_ble_eq_true rfl) rfl ?_
  refine g_iconst 3 hX 0 dX4_rankOf_2 rfl kc_i_0 ?_
  refine g_istore_n 4 3 [(3, .int 0), (2, .int 0), (0, .ref a0), (1, .ref a1)] hX dX4_rankOf_3 rfl rfl (Nat.le_of_ble_eq_true rfl) rfl ?_
  refine g_lv [2, 3, 1, 0] rfl ?_
  exact k_X4_rankOf_4 hX hr N M N a0 a1 0 0
def F_X4_traderWithRank_2 (N : Nat) (M : kMem) : Nat → Nat → Int32 → Int32 → Option (Int32)
  | 0, _, _, _ => none
  | n + 1, a0, x1, x2 =>
    kg (kt M a0 4) <|
    if x2 < (kI M a0 12) then (
      kg (kt M a0 4) <|
      kg (kin M (kR M a0 14) 17 x2) <|
      kg (kt M (kR M (kR M a0 14) (kx x2)) 10) <|
      if (kI M (kR M (kR M a0 14) (kx x2)) 5) = 0 then (
        kl (x2 + 1) fun v1 =>
        F_X4_traderWithRank_2 N M n a0 x1 v1) else
      kg (kt M a0 4) <|
      kg (kin M (kR M a0 14) 17 x2) <|
      kg (kt M a0 4) <| (F_X4_rankOf N M a0 (kR M (kR M a0 14) (kx x2))).bind fun r2 =>
      if r2 = x1 then (
        some x2) else
      kl (x2 + 1) fun v3 =>
      F_X4_traderWithRank_2 N M n a0 x1 v3) else
    some (-1)
def F_X4_traderWithRank (N : Nat) (M : kMem) (a0 : Nat) (x1 : Int32) : Option (Int32) :=
    F_X4_traderWithRank_2 N M N a0 x1 0
set_option maxRecDepth 100000 in
set_option maxHeartbeats 4000000 in
theorem k_X4_traderWithRank_2 {p : Program} {l : Launch} {e : Env} {s : State} {m : MethodId} {args : Array Value} {below : List Frame} {meth : Method} {c : Code} {g : kG} (hX : Cok (p, l, e, { frames := 2 * 2, cells := 0, slots := 0, locals := 60 * 2 }, s, m, args, below, meth, c, cX4_traderWithRank, 3, RX4, g, 2)) (hr : meth.sig.returnType = (some .int)) (N : Nat) (M : kMem) : ∀ (n : Nat) (a0 : Nat) (x1 : Int32) (x2 : Int32), GG (p, l, e, { frames := 2 * 2, cells := 0, slots := 0, locals := 60 * 2 }, s, m, args, below, meth, c, cX4_traderWithRank, 3, RX4, g, 2) (fun b => MQ below (kQ g ((fun r : Int32 => (some (.int r), M)) b)) args s 0 0 (kZ g.2.2.1)) 0 0 (F_X4_traderWithRank_2 N M n a0 x1 x2) 2 [(0, .ref a0), (1, .int x1), (2, .int x2)] [] M := by
  intro n
  induction n with
  | zero => intro _ _ _; exact g_none
  | succ n ih =>
    intro a0 x1 x2
    unfold F_X4_traderWithRank_2
    refine g_iload_n 3 2 hX dX4_traderWithRank_2 rfl rfl ?_
    refine g_aload_n 4 0 hX dX4_traderWithRank_3 rfl rfl ?_
    refine r_X4_50 7 hX dX4_traderWithRank_4 rfl ?_
    refine g_icmp_ge 44 10 hX dX4_traderWithRank_7 (by decide) rfl (fun _ => ?_) (fun _ => ?_)
    · refine g_iconst 45 hX (-1) dX4_traderWithRank_44 rfl kc_i_m1 ?_
      exact g_iret hX hr rfl (Nat.le_refl 0) (Nat.le_refl 0) dX4_traderWithRank_45
    · refine g_aload_n 11 0 hX dX4_traderWithRank_10 rfl rfl ?_
      refine r_X4_19 14 hX dX4_traderWithRank_11 rfl ?_
      refine g_iload_n 15 2 hX dX4_traderWithRank_14 rfl rfl ?_
      refine g_aald 17 4 16 hX RX10 (Nat.le_of_ble_eq_true rfl) rfl dX4_traderWithRank_15 rfl ?_
      refine r_X4_117 19 hX dX4_traderWithRank_16 rfl ?_
      refine g_if_eq 38 22 hX dX4_traderWithRank_19 (by decide) rfl (fun _ => ?_) (fun _ => ?_)
      · refine g_kl (fun v1 hv1 => ?_)
        refine g_iinc 41 2 2 v1 [(2, .int v1), (0, .ref a0), (1, .int x1)] hX dX4_traderWithRank_38 rfl rfl (by rw [hv1, kc_i_1]) (Nat.le_of_ble_eq_true rfl) rfl ?_
        refine g_goto 2 hX dX4_traderWithRank_41 (by decide) ?_
        refine g_lv [1, 2, 0] rfl ?_
        exact ih a0 x1 v1
      · refine g_aload_n 23 0 hX dX4_traderWithRank_22 rfl rfl ?_
        refine g_aload_n 24 0 hX dX4_traderWithRank_23 rfl rfl ?_
        refine r_X4_19 27 hX dX4_traderWithRank_24 rfl ?_
        refine g_iload_n 28 2 hX dX4_traderWithRank_27 rfl rfl ?_
        refine g_aald 17 4 29 hX RX10 (Nat.le_of_ble_eq_true rfl) rfl dX4_traderWithRank_28 rfl ?_
        refine g_callV_ip 32 hX (k_X4_rankOf l g N M a0 (kR M (kR M a0 14) (kx x2))) lk_X4_rankOf rfl (ci := 4) rfl (Nat.le_of_ble_eq_true rfl) q_1089 q_27 (by omega) rfl (Nat.le_of_ble_eq_true rfl) (Nat.zero_le _) (Nat.zero_le _) dX4_traderWithRank_29 rfl (fun r2 => ?_)
        refine g_iload_n 33 1 hX dX4_traderWithRank_32 rfl rfl ?_
        refine g_icmp_ne 38 36 hX dX4_traderWithRank_33 (by decide) rfl (fun _ => ?_) (fun _ => ?_)
        · refine g_kl (fun v3 hv3 => ?_)
          refine g_iinc 41 2 2 v3 [(2, .int v3), (0, .ref a0), (1, .int x1)] hX dX4_traderWithRank_38 rfl rfl (by rw [hv3, kc_i_1]) (Nat.le_of_ble_eq_true rfl) rfl ?_
          refine g_goto 2 hX dX4_traderWithRank_41 (by decide) ?_
          refine g_lv [1, 2, 0] rfl ?_
          exact ih a0 x1 v3
        · refine g_iload_n 37 2 hX dX4_traderWithRank_36 rfl rfl ?_
          exact g_iret hX hr rfl (Nat.le_refl 0) (Nat.le_refl 0) dX4_traderWithRank_37
set_option maxRecDepth 100000 in
set_option maxHeartbeats 4000000 in
theorem k_X4_traderWithRank (l : Launch) (g : kG) (N : Nat) (M : kMem) (a0 : Nat) (x1 : Int32) : kMet l g yX4_traderWithRank cX4_traderWithRank 3 (some .int) 2 0 0 [.ref a0, .int x1] M (fun r : Int32 => (some (.int r), M)) (F_X4_traderWithRank N M a0 x1) := by
  refine k_of (lv := [(0, .ref a0), (1, .int x1)]) RX4 (by decide) rfl rfl (Nat.le_of_ble_eq_true rfl) ?_
  intro p e s m args below meth c hX hr _
  unfold F_X4_traderWithRank
  refine g_iconst 1 hX 0 dX4_traderWithRank_0 rfl kc_i_0 ?_
  refine g_istore_n 2 2 [(2, .int 0), (0, .ref a0), (1, .int x1)] hX dX4_traderWithRank_1 rfl rfl (Nat.le_of_ble_eq_true rfl) rfl ?_
  refine g_lv [1, 2, 0] rfl ?_
  exact k_X4_traderWithRank_2 hX hr N M N a0 x1 0
def F_X4_seatCount_4 (N : Nat) (M : kMem) : Nat → Nat → Int32 → Int32 → Option (Int32)
  | 0, _, _, _ => none
  | n + 1, a0, x1, x2 =>
    kg (kt M a0 4) <|
    if x2 < (kI M a0 11) then (
      kg (kt M a0 4) <|
      kg (kin M (kR M a0 13) 16 x2) <|
      kg (kt M (kR M (kR M a0 13) (kx x2)) 0) <|
      kl (x1 + (2 * (kI M (kR M (kR M a0 13) (kx x2)) 1))) fun v1 =>
      kl (x2 + 1) fun v2 =>
      F_X4_seatCount_4 N M n a0 v1 v2) else
    some x1
def F_X4_seatCount (N : Nat) (M : kMem) (a0 : Nat) : Option (Int32) :=
    F_X4_seatCount_4 N M N a0 0 0
set_option maxRecDepth 100000 in
set_option maxHeartbeats 4000000 in
theorem k_X4_seatCount_4 {p : Program} {l : Launch} {e : Env} {s : State} {m : MethodId} {args : Array Value} {below : List Frame} {meth : Method} {c : Code} {g : kG} (hX : Cok (p, l, e, { frames := 2 * 1, cells := 0, slots := 0, locals := 60 * 1 }, s, m, args, below, meth, c, cX4_seatCount, 3, RX4, g, 1)) (hr : meth.sig.returnType = (some .int)) (N : Nat) (M : kMem) : ∀ (n : Nat) (a0 : Nat) (x1 : Int32) (x2 : Int32), GG (p, l, e, { frames := 2 * 1, cells := 0, slots := 0, locals := 60 * 1 }, s, m, args, below, meth, c, cX4_seatCount, 3, RX4, g, 1) (fun b => MQ below (kQ g ((fun r : Int32 => (some (.int r), M)) b)) args s 0 0 (kZ g.2.2.1)) 0 0 (F_X4_seatCount_4 N M n a0 x1 x2) 4 [(0, .ref a0), (1, .int x1), (2, .int x2)] [] M := by
  intro n
  induction n with
  | zero => intro _ _ _; exact g_none
  | succ n ih =>
    intro a0 x1 x2
    unfold F_X4_seatCount_4
    refine g_iload_n 5 2 hX dX4_seatCount_4 rfl rfl ?_
    refine g_aload_n 6 0 hX dX4_seatCount_5 rfl rfl ?_
    refine r_X4_47 9 hX dX4_seatCount_6 rfl ?_
    refine g_icmp_ge 32 12 hX dX4_seatCount_9 (by decide) rfl (fun _ => ?_) (fun _ => ?_)
    · refine g_iload_n 33 1 hX dX4_seatCount_32 rfl rfl ?_
      exact g_iret hX hr rfl (Nat.le_refl 0) (Nat.le_refl 0) dX4_seatCount_33
    · refine g_iload_n 13 1 hX dX4_seatCount_12 rfl rfl ?_
      refine g_iconst 14 hX 2 dX4_seatCount_13 rfl kc_i_2 ?_
      refine g_aload_n 15 0 hX dX4_seatCount_14 rfl rfl ?_
      refine r_X4_11 18 hX dX4_seatCount_15 rfl ?_
      refine g_iload_n 19 2 hX dX4_seatCount_18 rfl rfl ?_
      refine g_aald 16 3 20 hX RX0 (Nat.le_of_ble_eq_true rfl) rfl dX4_seatCount_19 rfl ?_
      refine r_X4_164 23 hX dX4_seatCount_20 rfl ?_
      refine g_imul 24 hX dX4_seatCount_23 rfl ?_
      refine g_iadd 25 hX dX4_seatCount_24 rfl ?_
      refine g_klI (fun v1 hv1 => ?_)
      refine g_istore_n 26 1 [(1, .int v1), (0, .ref a0), (2, .int x2)] hX dX4_seatCount_25 rfl rfl (Nat.le_of_ble_eq_true rfl) rfl ?_
      refine g_kl (fun v2 hv2 => ?_)
      refine g_iinc 29 2 2 v2 [(2, .int v2), (1, .int v1), (0, .ref a0)] hX dX4_seatCount_26 rfl rfl (by rw [hv2, kc_i_1]) (Nat.le_of_ble_eq_true rfl) rfl ?_
      refine g_goto 4 hX dX4_seatCount_29 (by decide) ?_
      refine g_lv [2, 1, 0] rfl ?_
      exact ih a0 v1 v2
set_option maxRecDepth 100000 in
set_option maxHeartbeats 4000000 in
theorem k_X4_seatCount (l : Launch) (g : kG) (N : Nat) (M : kMem) (a0 : Nat) : kMet l g yX4_seatCount cX4_seatCount 3 (some .int) 1 0 0 [.ref a0] M (fun r : Int32 => (some (.int r), M)) (F_X4_seatCount N M a0) := by
  refine k_of (lv := [(0, .ref a0)]) RX4 (by decide) rfl rfl (Nat.le_of_ble_eq_true rfl) ?_
  intro p e s m args below meth c hX hr _
  unfold F_X4_seatCount
  refine g_iconst 1 hX 0 dX4_seatCount_0 rfl kc_i_0 ?_
  refine g_istore_n 2 1 [(1, .int 0), (0, .ref a0)] hX dX4_seatCount_1 rfl rfl (Nat.le_of_ble_eq_true rfl) rfl ?_
  refine g_iconst 3 hX 0 dX4_seatCount_2 rfl kc_i_0 ?_
  refine g_istore_n 4 2 [(2, .int 0), (1, .int 0), (0, .ref a0)] hX dX4_seatCount_3 rfl rfl (Nat.le_of_ble_eq_true rfl) rfl ?_
  refine g_lv [2, 1, 0] rfl ?_
  exact k_X4_seatCount_4 hX hr N M N a0 0 0
def F_X4_seatedTraders_4 (N : Nat) (M : kMem) : Nat → Nat → Int32 → Int32 → Option (Int32)
  | 0, _, _, _ => none
  | n + 1, a0, x1, x2 =>
    kg (kt M a0 4) <|
    if x2 < (kI M a0 12) then (
      kg (kt M a0 4) <|
      kg (kin M (kR M a0 14) 17 x2) <|
      kg (kt M (kR M (kR M a0 14) (kx x2)) 10) <| (F_X10_isSeated N M (kR M (kR M a0 14) (kx x2))).bind fun r1 =>
      if r1 = 0 then (
        kl (x2 + 1) fun v2 =>
        F_X4_seatedTraders_4 N M n a0 x1 v2) else
      kl (x1 + 1) fun v3 =>
      kl (x2 + 1) fun v4 =>
      F_X4_seatedTraders_4 N M n a0 v3 v4) else
    some x1
def F_X4_seatedTraders (N : Nat) (M : kMem) (a0 : Nat) : Option (Int32) :=
    F_X4_seatedTraders_4 N M N a0 0 0
set_option maxRecDepth 100000 in
set_option maxHeartbeats 4000000 in
theorem k_X4_seatedTraders_4 {p : Program} {l : Launch} {e : Env} {s : State} {m : MethodId} {args : Array Value} {below : List Frame} {meth : Method} {c : Code} {g : kG} (hX : Cok (p, l, e, { frames := 2 * 2, cells := 0, slots := 0, locals := 60 * 2 }, s, m, args, below, meth, c, cX4_seatedTraders, 3, RX4, g, 2)) (hr : meth.sig.returnType = (some .int)) (N : Nat) (M : kMem) : ∀ (n : Nat) (a0 : Nat) (x1 : Int32) (x2 : Int32), GG (p, l, e, { frames := 2 * 2, cells := 0, slots := 0, locals := 60 * 2 }, s, m, args, below, meth, c, cX4_seatedTraders, 3, RX4, g, 2) (fun b => MQ below (kQ g ((fun r : Int32 => (some (.int r), M)) b)) args s 0 0 (kZ g.2.2.1)) 0 0 (F_X4_seatedTraders_4 N M n a0 x1 x2) 4 [(0, .ref a0), (1, .int x1), (2, .int x2)] [] M := by
  intro n
  induction n with
  | zero => intro _ _ _; exact g_none
  | succ n ih =>
    intro a0 x1 x2
    unfold F_X4_seatedTraders_4
    refine g_iload_n 5 2 hX dX4_seatedTraders_4 rfl rfl ?_
    refine g_aload_n 6 0 hX dX4_seatedTraders_5 rfl rfl ?_
    refine r_X4_50 9 hX dX4_seatedTraders_6 rfl ?_
    refine g_icmp_ge 33 12 hX dX4_seatedTraders_9 (by decide) rfl (fun _ => ?_) (fun _ => ?_)
    · refine g_iload_n 34 1 hX dX4_seatedTraders_33 rfl rfl ?_
      exact g_iret hX hr rfl (Nat.le_refl 0) (Nat.le_refl 0) dX4_seatedTraders_34
    · refine g_aload_n 13 0 hX dX4_seatedTraders_12 rfl rfl ?_
      refine r_X4_19 16 hX dX4_seatedTraders_13 rfl ?_
      refine g_iload_n 17 2 hX dX4_seatedTraders_16 rfl rfl ?_
      refine g_aald 17 4 18 hX RX10 (Nat.le_of_ble_eq_true rfl) rfl dX4_seatedTraders_17 rfl ?_
      refine g_callV_ip 21 hX (k_X10_isSeated l g N M (kR M (kR M a0 14) (kx x2))) lk_X10_isSeated rfl (ci := 10) rfl (Nat.le_of_ble_eq_true rfl) q_964 q_709 (by omega) rfl (Nat.le_of_ble_eq_true rfl) (Nat.zero_le _) (Nat.zero_le _) dX4_seatedTraders_18 rfl (fun r1 => ?_)
      refine g_if_eq 27 24 hX dX4_seatedTraders_21 (by decide) rfl (fun _ => ?_) (fun _ => ?_)
      · refine g_kl (fun v2 hv2 => ?_)
        refine g_iinc 30 2 2 v2 [(2, .int v2), (0, .ref a0), (1, .int x1)] hX dX4_seatedTraders_27 rfl rfl (by rw [hv2, kc_i_1]) (Nat.le_of_ble_eq_true rfl) rfl ?_
        refine g_goto 4 hX dX4_seatedTraders_30 (by decide) ?_
        refine g_lv [1, 2, 0] rfl ?_
        exact ih a0 x1 v2
      · refine g_kl (fun v3 hv3 => ?_)
        refine g_iinc 27 1 1 v3 [(1, .int v3), (0, .ref a0), (2, .int x2)] hX dX4_seatedTraders_24 rfl rfl (by rw [hv3, kc_i_1]) (Nat.le_of_ble_eq_true rfl) rfl ?_
        refine g_kl (fun v4 hv4 => ?_)
        refine g_iinc 30 2 2 v4 [(2, .int v4), (1, .int v3), (0, .ref a0)] hX dX4_seatedTraders_27 rfl rfl (by rw [hv4, kc_i_1]) (Nat.le_of_ble_eq_true rfl) rfl ?_
        refine g_goto 4 hX dX4_seatedTraders_30 (by decide) ?_
        refine g_lv [2, 1, 0] rfl ?_
        exact ih a0 v3 v4
set_option maxRecDepth 100000 in
set_option maxHeartbeats 4000000 in
theorem k_X4_seatedTraders (l : Launch) (g : kG) (N : Nat) (M : kMem) (a0 : Nat) : kMet l g yX4_seatedTraders cX4_seatedTraders 3 (some .int) 2 0 0 [.ref a0] M (fun r : Int32 => (some (.int r), M)) (F_X4_seatedTraders N M a0) := by
  refine k_of (lv := [(0, .ref a0)]) RX4 (by decide) rfl rfl (Nat.le_of_ble_eq_true rfl) ?_
  intro p e s m args below meth c hX hr _
  unfold F_X4_seatedTraders
  refine g_iconst 1 hX 0 dX4_seatedTraders_0 rfl kc_i_0 ?_
  refine g_istore_n 2 1 [(1, .int 0), (0, .ref a0)] hX dX4_seatedTraders_1 rfl rfl (Nat.le_of_ble_eq_true rfl) rfl ?_
  refine g_iconst 3 hX 0 dX4_seatedTraders_2 rfl kc_i_0 ?_
  refine g_istore_n 4 2 [(2, .int 0), (1, .int 0), (0, .ref a0)] hX dX4_seatedTraders_3 rfl rfl (Nat.le_of_ble_eq_true rfl) rfl ?_
  refine g_lv [2, 1, 0] rfl ?_
  exact k_X4_seatedTraders_4 hX hr N M N a0 0 0
def F_X4_weightOn (N : Nat) (M : kMem) (a0 : Nat) (a1 : Nat) (x2 : Int32) : Option (Int32) :=
    kg (kt M a1 0) <| (F_X0_ownerAt N M a1 x2).bind fun r1 =>
    kg (kt M a0 4) <| (F_X4_traderNumbered N M a0 r1).bind fun r2 =>
    if r2 = 0 then (
      some 0) else
    kg (kt M r2 10) <|
    some (kI M r2 2)
set_option maxRecDepth 100000 in
set_option maxHeartbeats 4000000 in
theorem k_X4_weightOn (l : Launch) (g : kG) (N : Nat) (M : kMem) (a0 : Nat) (a1 : Nat) (x2 : Int32) : kMet l g yX4_weightOn cX4_weightOn 4 (some .int) 2 0 0 [.ref a0, .ref a1, .int x2] M (fun r : Int32 => (some (.int r), M)) (F_X4_weightOn N M a0 a1 x2) := by
  refine k_of (lv := [(0, .ref a0), (1, .ref a1), (2, .int x2)]) RX4 (by decide) rfl rfl (Nat.le_of_ble_eq_true rfl) ?_
  intro p e s m args below meth c hX hr _
  unfold F_X4_weightOn
  refine g_aload_n 1 0 hX dX4_weightOn_0 rfl rfl ?_
  refine g_aload_n 2 1 hX dX4_weightOn_1 rfl rfl ?_
  refine g_iload_n 3 2 hX dX4_weightOn_2 rfl rfl ?_
  refine g_callV_ip 6 hX (k_X0_ownerAt l g N M a1 x2) lk_X0_ownerAt rfl (ci := 0) rfl (Nat.le_of_ble_eq_true rfl) q_1034 q_731 (by omega) rfl (Nat.le_of_ble_eq_true rfl) (Nat.zero_le _) (Nat.zero_le _) dX4_weightOn_3 rfl (fun r1 => ?_)
  refine g_callV_rp 9 hX (k_X4_traderNumbered l g N M a0 r1) lk_X4_traderNumbered rfl (ci := 4) rfl (Nat.le_of_ble_eq_true rfl) q_1035 q_1037 (by omega) rfl (Nat.le_of_ble_eq_true rfl) (Nat.zero_le _) (Nat.zero_le _) dX4_weightOn_6 rfl (fun r2 => ?_)
  refine g_astore_n 10 3 [(3, .ref r2), (0, .ref a0), (1, .ref a1), (2, .int x2)] hX dX4_weightOn_9 rfl rfl (Nat.le_of_ble_eq_true rfl) rfl ?_
  refine g_aload_n 11 0 hX dX4_weightOn_10 rfl rfl ?_
  refine g_ifnonnull 18 14 hX dX4_weightOn_11 (by decide) rfl (fun _ => ?_) (fun _ => ?_)
  · refine g_aload_n 19 0 hX dX4_weightOn_18 rfl rfl ?_
    refine r_X4_108 22 hX dX4_weightOn_19 rfl ?_
    exact g_iret hX hr rfl (Nat.le_refl 0) (Nat.le_refl 0) dX4_weightOn_22
  · refine g_iconst 15 hX 0 dX4_weightOn_14 rfl kc_i_0 ?_
    refine g_goto 22 hX dX4_weightOn_15 (by decide) ?_
    exact g_iret hX hr rfl (Nat.le_refl 0) (Nat.le_refl 0) dX4_weightOn_22
def F_X4_torqueByDistances_15 (N : Nat) (M : kMem) (k4 : Nat → Nat → Int32 → Int32 → Option (Int32)) : Nat → Nat → Nat → Int32 → Int32 → Int32 → Option (Int32)
  | 0, _, _, _, _, _ => none
  | n + 1, a0, a1, x2, x3, x4 =>
    kg (kt M a1 0) <|
    if (kI M a1 1) < x4 then (
      kl (x3 + 1) fun v1 =>
      k4 a0 a1 x2 v1) else
    kg (kt M a0 4) <| (F_X4_weightOn N M a0 a1 x4).bind fun r2 =>
    kg (kt M a0 4) <| (F_X4_weightOn N M a0 a1 (-x4)).bind fun r3 =>
    kl (x2 + (r2 - r3)) fun v4 =>
    kl (x4 + 1) fun v5 =>
    F_X4_torqueByDistances_15 N M k4 n a0 a1 v4 x3 v5
def F_X4_torqueByDistances_4 (N : Nat) (M : kMem) : Nat → Nat → Nat → Int32 → Int32 → Option (Int32)
  | 0, _, _, _, _ => none
  | n + 1, a0, a1, x2, x3 =>
    kg (kt M a1 0) <|
    if (kI M a1 1) < x3 then (
      some x2) else
    F_X4_torqueByDistances_15 N M (fun a0 a1 x2 x3 => F_X4_torqueByDistances_4 N M n a0 a1 x2 x3) N a0 a1 x2 x3 x3
def F_X4_torqueByDistances (N : Nat) (M : kMem) (a0 : Nat) (a1 : Nat) : Option (Int32) :=
    F_X4_torqueByDistances_4 N M N a0 a1 0 1
set_option maxRecDepth 100000 in
set_option maxHeartbeats 4000000 in
theorem k_X4_torqueByDistances_15 {p : Program} {l : Launch} {e : Env} {s : State} {m : MethodId} {args : Array Value} {below : List Frame} {meth : Method} {c : Code} {g : kG} (hX : Cok (p, l, e, { frames := 2 * 3, cells := 0, slots := 0, locals := 60 * 3 }, s, m, args, below, meth, c, cX4_torqueByDistances, 5, RX4, g, 3)) (hr : meth.sig.returnType = (some .int)) (N : Nat) (M : kMem) (k4 : Nat → Nat → Int32 → Int32 → Option (Int32)) (h4 : ∀ (a0 : Nat) (a1 : Nat) (x2 : Int32) (x3 : Int32), GG (p, l, e, { frames := 2 * 3, cells := 0, slots := 0, locals := 60 * 3 }, s, m, args, below, meth, c, cX4_torqueByDistances, 5, RX4, g, 3) (fun b => MQ below (kQ g ((fun r : Int32 => (some (.int r), M)) b)) args s 0 0 (kZ g.2.2.1)) 0 0 (k4 a0 a1 x2 x3) 4 [(0, .ref a0), (1, .ref a1), (2, .int x2), (3, .int x3)] [] M) : ∀ (n : Nat) (a0 : Nat) (a1 : Nat) (x2 : Int32) (x3 : Int32) (x4 : Int32), GG (p, l, e, { frames := 2 * 3, cells := 0, slots := 0, locals := 60 * 3 }, s, m, args, below, meth, c, cX4_torqueByDistances, 5, RX4, g, 3) (fun b => MQ below (kQ g ((fun r : Int32 => (some (.int r), M)) b)) args s 0 0 (kZ g.2.2.1)) 0 0 (F_X4_torqueByDistances_15 N M k4 n a0 a1 x2 x3 x4) 15 [(0, .ref a0), (1, .ref a1), (2, .int x2), (3, .int x3), (4, .int x4)] [] M := by
  intro n
  induction n with
  | zero => intro _ _ _ _ _; exact g_none
  | succ n ih =>
    intro a0 a1 x2 x3 x4
    unfold F_X4_torqueByDistances_15
    refine g_iload 17 4 hX dX4_torqueByDistances_15 rfl rfl ?_
    refine g_aload_n 18 1 hX dX4_torqueByDistances_17 rfl rfl ?_
    refine r_X4_164 21 hX dX4_torqueByDistances_18 rfl ?_
    refine g_icmp_gt 49 24 hX dX4_torqueByDistances_21 (by decide) rfl (fun _ => ?_) (fun _ => ?_)
    · refine g_kl (fun v1 hv1 => ?_)
      refine g_iinc 52 3 3 v1 [(3, .int v1), (0, .ref a0), (1, .ref a1), (2, .int x2), (4, .int x4)] hX dX4_torqueByDistances_49 rfl rfl (by rw [hv1, kc_i_1]) (Nat.le_of_ble_eq_true rfl) rfl ?_
      refine g_goto 4 hX dX4_torqueByDistances_52 (by decide) ?_
      refine g_lv [1, 2, 3, 0] rfl ?_
      exact h4 a0 a1 x2 v1
    · refine g_iload_n 25 2 hX dX4_torqueByDistances_24 rfl rfl ?_
      refine g_aload_n 26 0 hX dX4_torqueByDistances_25 rfl rfl ?_
      refine g_aload_n 27 1 hX dX4_torqueByDistances_26 rfl rfl ?_
      refine g_iload 29 4 hX dX4_torqueByDistances_27 rfl rfl ?_
      refine g_callV_ip 32 hX (k_X4_weightOn l g N M a0 a1 x4) lk_X4_weightOn rfl (ci := 4) rfl (Nat.le_of_ble_eq_true rfl) q_1142 q_29 (by omega) rfl (Nat.le_of_ble_eq_true rfl) (Nat.zero_le _) (Nat.zero_le _) dX4_torqueByDistances_29 rfl (fun r2 => ?_)
      refine g_aload_n 33 0 hX dX4_torqueByDistances_32 rfl rfl ?_
      refine g_aload_n 34 1 hX dX4_torqueByDistances_33 rfl rfl ?_
      refine g_iload 36 4 hX dX4_torqueByDistances_34 rfl rfl ?_
      refine g_ineg 37 hX dX4_torqueByDistances_36 rfl ?_
      refine g_callV_ip 40 hX (k_X4_weightOn l g N M a0 a1 (-x4)) lk_X4_weightOn rfl (ci := 4) rfl (Nat.le_of_ble_eq_true rfl) q_1142 q_29 (by omega) rfl (Nat.le_of_ble_eq_true rfl) (Nat.zero_le _) (Nat.zero_le _) dX4_torqueByDistances_37 rfl (fun r3 => ?_)
      refine g_isub 41 hX dX4_torqueByDistances_40 rfl ?_
      refine g_iadd 42 hX dX4_torqueByDistances_41 rfl ?_
      refine g_klI (fun v4 hv4 => ?_)
      refine g_istore_n 43 2 [(2, .int v4), (0, .ref a0), (1, .ref a1), (3, .int x3), (4, .int x4)] hX dX4_torqueByDistances_42 rfl rfl (Nat.le_of_ble_eq_true rfl) rfl ?_
      refine g_kl (fun v5 hv5 => ?_)
      refine g_iinc 46 4 4 v5 [(4, .int v5), (2, .int v4), (0, .ref a0), (1, .ref a1), (3, .int x3)] hX dX4_torqueByDistances_43 rfl rfl (by rw [hv5, kc_i_1]) (Nat.le_of_ble_eq_true rfl) rfl ?_
      refine g_goto 15 hX dX4_torqueByDistances_46 (by decide) ?_
      refine g_lv [2, 3, 1, 4, 0] rfl ?_
      exact ih a0 a1 v4 x3 v5
set_option maxRecDepth 100000 in
set_option maxHeartbeats 4000000 in
theorem k_X4_torqueByDistances_4 {p : Program} {l : Launch} {e : Env} {s : State} {m : MethodId} {args : Array Value} {below : List Frame} {meth : Method} {c : Code} {g : kG} (hX : Cok (p, l, e, { frames := 2 * 3, cells := 0, slots := 0, locals := 60 * 3 }, s, m, args, below, meth, c, cX4_torqueByDistances, 5, RX4, g, 3)) (hr : meth.sig.returnType = (some .int)) (N : Nat) (M : kMem) : ∀ (n : Nat) (a0 : Nat) (a1 : Nat) (x2 : Int32) (x3 : Int32), GG (p, l, e, { frames := 2 * 3, cells := 0, slots := 0, locals := 60 * 3 }, s, m, args, below, meth, c, cX4_torqueByDistances, 5, RX4, g, 3) (fun b => MQ below (kQ g ((fun r : Int32 => (some (.int r), M)) b)) args s 0 0 (kZ g.2.2.1)) 0 0 (F_X4_torqueByDistances_4 N M n a0 a1 x2 x3) 4 [(0, .ref a0), (1, .ref a1), (2, .int x2), (3, .int x3)] [] M := by
  intro n
  induction n with
  | zero => intro _ _ _ _; exact g_none
  | succ n ih =>
    intro a0 a1 x2 x3
    unfold F_X4_torqueByDistances_4
    refine g_iload_n 5 3 hX dX4_torqueByDistances_4 rfl rfl ?_
    refine g_aload_n 6 1 hX dX4_torqueByDistances_5 rfl rfl ?_
    refine r_X4_164 9 hX dX4_torqueByDistances_6 rfl ?_
    refine g_icmp_gt 55 12 hX dX4_torqueByDistances_9 (by decide) rfl (fun _ => ?_) (fun _ => ?_)
    · refine g_iload_n 56 2 hX dX4_torqueByDistances_55 rfl rfl ?_
      exact g_iret hX hr rfl (Nat.le_refl 0) (Nat.le_refl 0) dX4_torqueByDistances_56
    · refine g_iload_n 13 3 hX dX4_torqueByDistances_12 rfl rfl ?_
      refine g_istore 15 4 [(4, .int x3), (0, .ref a0), (1, .ref a1), (2, .int x2), (3, .int x3)] hX dX4_torqueByDistances_13 rfl (Nat.le_of_ble_eq_true rfl) rfl ?_
      refine g_lv [1, 2, 3, 4, 0] rfl ?_
      exact k_X4_torqueByDistances_15 hX hr N M (fun a0 a1 x2 x3 => F_X4_torqueByDistances_4 N M n a0 a1 x2 x3) ih N a0 a1 x2 x3 x3
set_option maxRecDepth 100000 in
set_option maxHeartbeats 4000000 in
theorem k_X4_torqueByDistances (l : Launch) (g : kG) (N : Nat) (M : kMem) (a0 : Nat) (a1 : Nat) : kMet l g yX4_torqueByDistances cX4_torqueByDistances 5 (some .int) 3 0 0 [.ref a0, .ref a1] M (fun r : Int32 => (some (.int r), M)) (F_X4_torqueByDistances N M a0 a1) := by
  refine k_of (lv := [(0, .ref a0), (1, .ref a1)]) RX4 (by decide) rfl rfl (Nat.le_of_ble_eq_true rfl) ?_
  intro p e s m args below meth c hX hr _
  unfold F_X4_torqueByDistances
  refine g_iconst 1 hX 0 dX4_torqueByDistances_0 rfl kc_i_0 ?_
  refine g_istore_n 2 2 [(2, .int 0), (0, .ref a0), (1, .ref a1)] hX dX4_torqueByDistances_1 rfl rfl (Nat.le_of_ble_eq_true rfl) rfl ?_
  refine g_iconst 3 hX 1 dX4_torqueByDistances_2 rfl kc_i_1 ?_
  refine g_istore_n 4 3 [(3, .int 1), (2, .int 0), (0, .ref a0), (1, .ref a1)] hX dX4_torqueByDistances_3 rfl rfl (Nat.le_of_ble_eq_true rfl) rfl ?_
  refine g_lv [2, 3, 1, 0] rfl ?_
  exact k_X4_torqueByDistances_4 hX hr N M N a0 a1 0 1
def F_X4_wrongSeats_8 (N : Nat) (M : kMem) : Nat → Nat → Nat → Int32 → Int32 → Option (Int32)
  | 0, _, _, _, _ => none
  | n + 1, a0, a1, x2, x3 =>
    kg (kt M a1 0) <|
    if (kI M a1 1) < x3 then (
      some x2) else
    kg (kt M a1 0) <| (F_X0_ownerAt N M a1 x3).bind fun r2 =>
    kg (kt M a0 4) <| (F_X4_traderNumbered N M a0 r2).bind fun r3 =>
    if r3 = 0 then (
      kl (x3 + 1) fun v4 =>
      F_X4_wrongSeats_8 N M n a0 a1 x2 v4) else
    kg (kt M r3 10) <|
    kg (kt M a1 0) <|
    if (kI M r3 6) = (kI M a1 0) then (
      kg (kt M r3 10) <|
      if (kI M r3 7) = x3 then (
        kl (x3 + 1) fun v7 =>
        F_X4_wrongSeats_8 N M n a0 a1 x2 v7) else
      kl (x2 + 1) fun v8 =>
      kl (x3 + 1) fun v9 =>
      F_X4_wrongSeats_8 N M n a0 a1 v8 v9) else
    kl (x2 + 1) fun v5 =>
    kl (x3 + 1) fun v6 =>
    F_X4_wrongSeats_8 N M n a0 a1 v5 v6
def F_X4_wrongSeats (N : Nat) (M : kMem) (a0 : Nat) (a1 : Nat) : Option (Int32) :=
    kg (kt M a1 0) <|
    kl (-(kI M a1 1)) fun v1 =>
    F_X4_wrongSeats_8 N M N a0 a1 0 v1
set_option maxRecDepth 100000 in
set_option maxHeartbeats 4000000 in
theorem k_X4_wrongSeats_8 {p : Program} {l : Launch} {e : Env} {s : State} {m : MethodId} {args : Array Value} {below : List Frame} {meth : Method} {c : Code} {g : kG} (hX : Cok (p, l, e, { frames := 2 * 2, cells := 0, slots := 0, locals := 60 * 2 }, s, m, args, below, meth, c, cX4_wrongSeats, 5, RX4, g, 2)) (hr : meth.sig.returnType = (some .int)) (N : Nat) (M : kMem) : ∀ (n : Nat) (a0 : Nat) (a1 : Nat) (x2 : Int32) (x3 : Int32), GG (p, l, e, { frames := 2 * 2, cells := 0, slots := 0, locals := 60 * 2 }, s, m, args, below, meth, c, cX4_wrongSeats, 5, RX4, g, 2) (fun b => MQ below (kQ g ((fun r : Int32 => (some (.int r), M)) b)) args s 0 0 (kZ g.2.2.1)) 0 0 (F_X4_wrongSeats_8 N M n a0 a1 x2 x3) 8 [(0, .ref a0), (1, .ref a1), (2, .int x2), (3, .int x3)] [] M := by
  intro n
  induction n with
  | zero => intro _ _ _ _; exact g_none
  | succ n ih =>
    intro a0 a1 x2 x3
    unfold F_X4_wrongSeats_8
    refine g_iload_n 9 3 hX dX4_wrongSeats_8 rfl rfl ?_
    refine g_aload_n 10 1 hX dX4_wrongSeats_9 rfl rfl ?_
    refine r_X4_164 13 hX dX4_wrongSeats_10 rfl ?_
    refine g_icmp_gt 62 16 hX dX4_wrongSeats_13 (by decide) rfl (fun _ => ?_) (fun _ => ?_)
    · refine g_iload_n 63 2 hX dX4_wrongSeats_62 rfl rfl ?_
      exact g_iret hX hr rfl (Nat.le_refl 0) (Nat.le_refl 0) dX4_wrongSeats_63
    · refine g_aload_n 17 0 hX dX4_wrongSeats_16 rfl rfl ?_
      refine g_aload_n 18 1 hX dX4_wrongSeats_17 rfl rfl ?_
      refine g_iload_n 19 3 hX dX4_wrongSeats_18 rfl rfl ?_
      refine g_callV_ip 22 hX (k_X0_ownerAt l g N M a1 x3) lk_X0_ownerAt rfl (ci := 0) rfl (Nat.le_of_ble_eq_true rfl) q_1034 q_731 (by omega) rfl (Nat.le_of_ble_eq_true rfl) (Nat.zero_le _) (Nat.zero_le _) dX4_wrongSeats_19 rfl (fun r2 => ?_)
      refine g_callV_rp 25 hX (k_X4_traderNumbered l g N M a0 r2) lk_X4_traderNumbered rfl (ci := 4) rfl (Nat.le_of_ble_eq_true rfl) q_1035 q_1037 (by omega) rfl (Nat.le_of_ble_eq_true rfl) (Nat.zero_le _) (Nat.zero_le _) dX4_wrongSeats_22 rfl (fun r3 => ?_)
      refine g_astore 27 4 [(4, .ref r3), (0, .ref a0), (1, .ref a1), (2, .int x2), (3, .int x3)] hX dX4_wrongSeats_25 rfl (Nat.le_of_ble_eq_true rfl) rfl ?_
      refine g_aload 29 0 hX dX4_wrongSeats_27 rfl rfl ?_
      refine g_ifnull 56 32 hX dX4_wrongSeats_29 (by decide) rfl (fun _ => ?_) (fun _ => ?_)
      · refine g_kl (fun v4 hv4 => ?_)
        refine g_iinc 59 3 4 v4 [(3, .int v4), (4, .ref r3), (0, .ref a0), (1, .ref a1), (2, .int x2)] hX dX4_wrongSeats_56 rfl rfl (by rw [hv4, kc_i_1]) (Nat.le_of_ble_eq_true rfl) rfl ?_
        refine g_goto 8 hX dX4_wrongSeats_59 (by decide) ?_
        refine g_lv [2, 3, 4, 0] rfl ?_
        exact ih a0 a1 x2 v4
      · refine g_aload 34 0 hX dX4_wrongSeats_32 rfl rfl ?_
        refine r_X4_121 37 hX dX4_wrongSeats_34 rfl ?_
        refine g_aload_n 38 2 hX dX4_wrongSeats_37 rfl rfl ?_
        refine r_X4_130 41 hX dX4_wrongSeats_38 rfl ?_
        refine g_icmp_ne 53 44 hX dX4_wrongSeats_41 (by decide) rfl (fun _ => ?_) (fun _ => ?_)
        · refine g_kl (fun v5 hv5 => ?_)
          refine g_iinc 56 2 3 v5 [(2, .int v5), (4, .ref r3), (0, .ref a0), (1, .ref a1), (3, .int x3)] hX dX4_wrongSeats_53 rfl rfl (by rw [hv5, kc_i_1]) (Nat.le_of_ble_eq_true rfl) rfl ?_
          refine g_kl (fun v6 hv6 => ?_)
          refine g_iinc 59 3 4 v6 [(3, .int v6), (2, .int v5), (4, .ref r3), (0, .ref a0), (1, .ref a1)] hX dX4_wrongSeats_56 rfl rfl (by rw [hv6, kc_i_1]) (Nat.le_of_ble_eq_true rfl) rfl ?_
          refine g_goto 8 hX dX4_wrongSeats_59 (by decide) ?_
          refine g_lv [3, 4, 1, 0] rfl ?_
          exact ih a0 a1 v5 v6
        · refine g_aload 46 0 hX dX4_wrongSeats_44 rfl rfl ?_
          refine r_X4_124 49 hX dX4_wrongSeats_46 rfl ?_
          refine g_iload_n 50 4 hX dX4_wrongSeats_49 rfl rfl ?_
          refine g_icmp_eq 56 53 hX dX4_wrongSeats_50 (by decide) rfl (fun _ => ?_) (fun _ => ?_)
          · refine g_kl (fun v7 hv7 => ?_)
            refine g_iinc 59 3 4 v7 [(3, .int v7), (4, .ref r3), (0, .ref a0), (1, .ref a1), (2, .int x2)] hX dX4_wrongSeats_56 rfl rfl (by rw [hv7, kc_i_1]) (Nat.le_of_ble_eq_true rfl) rfl ?_
            refine g_goto 8 hX dX4_wrongSeats_59 (by decide) ?_
            refine g_lv [2, 3, 4, 0] rfl ?_
            exact ih a0 a1 x2 v7
          · refine g_kl (fun v8 hv8 => ?_)
            refine g_iinc 56 2 3 v8 [(2, .int v8), (4, .ref r3), (0, .ref a0), (1, .ref a1), (3, .int x3)] hX dX4_wrongSeats_53 rfl rfl (by rw [hv8, kc_i_1]) (Nat.le_of_ble_eq_true rfl) rfl ?_
            refine g_kl (fun v9 hv9 => ?_)
            refine g_iinc 59 3 4 v9 [(3, .int v9), (2, .int v8), (4, .ref r3), (0, .ref a0), (1, .ref a1)] hX dX4_wrongSeats_56 rfl rfl (by rw [hv9, kc_i_1]) (Nat.le_of_ble_eq_true rfl) rfl ?_
            refine g_goto 8 hX dX4_wrongSeats_59 (by decide) ?_
            refine g_lv [3, 4, 1, 0] rfl ?_
            exact ih a0 a1 v8 v9
set_option maxRecDepth 100000 in
set_option maxHeartbeats 4000000 in
theorem k_X4_wrongSeats (l : Launch) (g : kG) (N : Nat) (M : kMem) (a0 : Nat) (a1 : Nat) : kMet l g yX4_wrongSeats cX4_wrongSeats 5 (some .int) 2 0 0 [.ref a0, .ref a1] M (fun r : Int32 => (some (.int r), M)) (F_X4_wrongSeats N M a0 a1) := by
  refine k_of (lv := [(0, .ref a0), (1, .ref a1)]) RX4 (by decide) rfl rfl (Nat.le_of_ble_eq_true rfl) ?_
  intro p e s m args below meth c hX hr _
  unfold F_X4_wrongSeats
  refine g_iconst 1 hX 0 dX4_wrongSeats_0 rfl kc_i_0 ?_
  refine g_istore_n 2 2 [(2, .int 0), (0, .ref a0), (1, .ref a1)] hX dX4_wrongSeats_1 rfl rfl (Nat.le_of_ble_eq_true rfl) rfl ?_
  refine g_aload_n 3 2 hX dX4_wrongSeats_2 rfl rfl ?_
  refine r_X4_164 6 hX dX4_wrongSeats_3 rfl ?_
  refine g_ineg 7 hX dX4_wrongSeats_6 rfl ?_
  refine g_klI (fun v1 hv1 => ?_)
  refine g_istore_n 8 3 [(3, .int v1), (2, .int 0), (0, .ref a0), (1, .ref a1)] hX dX4_wrongSeats_7 rfl rfl (Nat.le_of_ble_eq_true rfl) rfl ?_
  refine g_lv [2, 3, 1, 0] rfl ?_
  exact k_X4_wrongSeats_8 hX hr N M N a0 a1 0 v1
def F_X4_countContradictions_20 (N : Nat) (M : kMem) : Nat → Nat → Int32 → Int32 → Option (Int32)
  | 0, _, _, _ => none
  | n + 1, a0, x1, x2 =>
    kg (kt M a0 4) <|
    if x2 < (kI M a0 11) then (
      kg (kt M a0 4) <|
      kg (kin M (kR M a0 13) 16 x2) <|
      kl (kR M (kR M a0 13) (kx x2)) fun w3 =>
      kg (kt M a0 4) <| (F_X4_torqueOn N M a0 w3).bind fun r4 =>
      kg (kt M a0 4) <| (F_X4_torqueByDistances N M a0 w3).bind fun r5 =>
      kl (x1 + (kabs (r4 - r5))) fun v6 =>
      kg (kt M a0 4) <| (F_X4_wrongSeats N M a0 w3).bind fun r7 =>
      kl (v6 + r7) fun v8 =>
      kl (x2 + 1) fun v9 =>
      F_X4_countContradictions_20 N M n a0 v8 v9) else
    some x1
def F_X4_countContradictions (N : Nat) (M : kMem) (a0 : Nat) : Option (Int32) :=
    kg (kt M a0 4) <|
    kg (kt M a0 4) <| (F_X4_coinsInPurses N M a0).bind fun r1 =>
    kg (kt M a0 4) <|
    kl (kabs (((kI M a0 7) - r1) - (kI M a0 1))) fun v2 =>
    F_X4_countContradictions_20 N M N a0 v2 0
set_option maxRecDepth 100000 in
set_option maxHeartbeats 4000000 in
theorem k_X4_countContradictions_20 {p : Program} {l : Launch} {e : Env} {s : State} {m : MethodId} {args : Array Value} {below : List Frame} {meth : Method} {c : Code} {g : kG} (hX : Cok (p, l, e, { frames := 2 * 4, cells := 0, slots := 0, locals := 60 * 4 }, s, m, args, below, meth, c, cX4_countContradictions, 4, RX4, g, 4)) (hr : meth.sig.returnType = (some .int)) (N : Nat) (M : kMem) : ∀ (n : Nat) (a0 : Nat) (x1 : Int32) (x2 : Int32), GG (p, l, e, { frames := 2 * 4, cells := 0, slots := 0, locals := 60 * 4 }, s, m, args, below, meth, c, cX4_countContradictions, 4, RX4, g, 4) (fun b => MQ below (kQ g ((fun r : Int32 => (some (.int r), M)) b)) args s 0 0 (kZ g.2.2.1)) 0 0 (F_X4_countContradictions_20 N M n a0 x1 x2) 20 [(0, .ref a0), (1, .int x1), (2, .int x2)] [] M := by
  intro n
  induction n with
  | zero => intro _ _ _; exact g_none
  | succ n ih =>
    intro a0 x1 x2
    unfold F_X4_countContradictions_20
    refine g_iload_n 21 2 hX dX4_countContradictions_20 rfl rfl ?_
    refine g_aload_n 22 0 hX dX4_countContradictions_21 rfl rfl ?_
    refine r_X4_47 25 hX dX4_countContradictions_22 rfl ?_
    refine g_icmp_ge 66 28 hX dX4_countContradictions_25 (by decide) rfl (fun _ => ?_) (fun _ => ?_)
    · refine g_iload_n 67 1 hX dX4_countContradictions_66 rfl rfl ?_
      exact g_iret hX hr rfl (Nat.le_refl 0) (Nat.le_refl 0) dX4_countContradictions_67
    · refine g_aload_n 29 0 hX dX4_countContradictions_28 rfl rfl ?_
      refine r_X4_11 32 hX dX4_countContradictions_29 rfl ?_
      refine g_iload_n 33 2 hX dX4_countContradictions_32 rfl rfl ?_
      refine g_aald 16 3 34 hX RX0 (Nat.le_of_ble_eq_true rfl) rfl dX4_countContradictions_33 rfl ?_
      refine g_klR (fun w3 hw3 => ?_)
      refine g_astore_n 35 3 [(3, .ref w3), (0, .ref a0), (1, .int x1), (2, .int x2)] hX dX4_countContradictions_34 rfl rfl (Nat.le_of_ble_eq_true rfl) rfl ?_
      refine g_iload_n 36 2 hX dX4_countContradictions_35 rfl rfl ?_
      refine g_aload_n 37 1 hX dX4_countContradictions_36 rfl rfl ?_
      refine g_aload_n 38 0 hX dX4_countContradictions_37 rfl rfl ?_
      refine g_callV_ip 41 hX (k_X4_torqueOn l g N M a0 w3) lk_X4_torqueOn rfl (ci := 4) rfl (Nat.le_of_ble_eq_true rfl) q_919 q_921 (by omega) rfl (Nat.le_of_ble_eq_true rfl) (Nat.zero_le _) (Nat.zero_le _) dX4_countContradictions_38 rfl (fun r4 => ?_)
      refine g_aload_n 42 1 hX dX4_countContradictions_41 rfl rfl ?_
      refine g_aload_n 43 0 hX dX4_countContradictions_42 rfl rfl ?_
      refine g_callV_ip 46 hX (k_X4_torqueByDistances l g N M a0 w3) lk_X4_torqueByDistances rfl (ci := 4) rfl (Nat.le_of_ble_eq_true rfl) q_1138 q_28 (by omega) rfl (Nat.le_of_ble_eq_true rfl) (Nat.zero_le _) (Nat.zero_le _) dX4_countContradictions_43 rfl (fun r5 => ?_)
      refine g_isub 47 hX dX4_countContradictions_46 rfl ?_
      refine g_mabs (y := 0) 50 hX q_912 dX4_countContradictions_47 rfl (Nat.le_of_ble_eq_true rfl) (by decide) (Nat.zero_le _) (Nat.zero_le _) ?_
      refine g_iadd 51 hX dX4_countContradictions_50 rfl ?_
      refine g_klI (fun v6 hv6 => ?_)
      refine g_istore_n 52 1 [(1, .int v6), (3, .ref w3), (0, .ref a0), (2, .int x2)] hX dX4_countContradictions_51 rfl rfl (Nat.le_of_ble_eq_true rfl) rfl ?_
      refine g_iload_n 53 0 hX dX4_countContradictions_52 rfl rfl ?_
      refine g_aload_n 54 2 hX dX4_countContradictions_53 rfl rfl ?_
      refine g_aload_n 55 1 hX dX4_countContradictions_54 rfl rfl ?_
      refine g_callV_ip 58 hX (k_X4_wrongSeats l g N M a0 w3) lk_X4_wrongSeats rfl (ci := 4) rfl (Nat.le_of_ble_eq_true rfl) q_1146 q_30 (by omega) rfl (Nat.le_of_ble_eq_true rfl) (Nat.zero_le _) (Nat.zero_le _) dX4_countContradictions_55 rfl (fun r7 => ?_)
      refine g_iadd 59 hX dX4_countContradictions_58 rfl ?_
      refine g_klI (fun v8 hv8 => ?_)
      refine g_istore_n 60 1 [(1, .int v8), (3, .ref w3), (0, .ref a0), (2, .int x2)] hX dX4_countContradictions_59 rfl rfl (Nat.le_of_ble_eq_true rfl) rfl ?_
      refine g_kl (fun v9 hv9 => ?_)
      refine g_iinc 63 2 3 v9 [(2, .int v9), (1, .int v8), (3, .ref w3), (0, .ref a0)] hX dX4_countContradictions_60 rfl rfl (by rw [hv9, kc_i_1]) (Nat.le_of_ble_eq_true rfl) rfl ?_
      refine g_goto 20 hX dX4_countContradictions_63 (by decide) ?_
      refine g_lv [3, 1, 0] rfl ?_
      exact ih a0 v8 v9
set_option maxRecDepth 100000 in
set_option maxHeartbeats 4000000 in
theorem k_X4_countContradictions (l : Launch) (g : kG) (N : Nat) (M : kMem) (a0 : Nat) : kMet l g yX4_countContradictions cX4_countContradictions 4 (some .int) 4 0 0 [.ref a0] M (fun r : Int32 => (some (.int r), M)) (F_X4_countContradictions N M a0) := by
  refine k_of (lv := [(0, .ref a0)]) RX4 (by decide) rfl rfl (Nat.le_of_ble_eq_true rfl) ?_
  intro p e s m args below meth c hX hr _
  unfold F_X4_countContradictions
  refine g_aload_n 1 0 hX dX4_countContradictions_0 rfl rfl ?_
  refine r_X4_74 4 hX dX4_countContradictions_1 rfl ?_
  refine g_aload_n 5 0 hX dX4_countContradictions_4 rfl rfl ?_
  refine g_callV_ip 8 hX (k_X4_coinsInPurses l g N M a0) lk_X4_coinsInPurses rfl (ci := 4) rfl (Nat.le_of_ble_eq_true rfl) q_1137 q_1115 (by omega) rfl (Nat.le_of_ble_eq_true rfl) (Nat.zero_le _) (Nat.zero_le _) dX4_countContradictions_5 rfl (fun r1 => ?_)
  refine g_isub 9 hX dX4_countContradictions_8 rfl ?_
  refine g_aload_n 10 0 hX dX4_countContradictions_9 rfl rfl ?_
  refine r_X4_56 13 hX dX4_countContradictions_10 rfl ?_
  refine g_isub 14 hX dX4_countContradictions_13 rfl ?_
  refine g_mabs (y := 0) 17 hX q_912 dX4_countContradictions_14 rfl (Nat.le_of_ble_eq_true rfl) (by decide) (Nat.zero_le _) (Nat.zero_le _) ?_
  refine g_klI (fun v2 hv2 => ?_)
  refine g_istore_n 18 1 [(1, .int v2), (0, .ref a0)] hX dX4_countContradictions_17 rfl rfl (Nat.le_of_ble_eq_true rfl) rfl ?_
  refine g_iconst 19 hX 0 dX4_countContradictions_18 rfl kc_i_0 ?_
  refine g_istore_n 20 2 [(2, .int 0), (1, .int v2), (0, .ref a0)] hX dX4_countContradictions_19 rfl rfl (Nat.le_of_ble_eq_true rfl) rfl ?_
  refine g_lv [2, 1, 0] rfl ?_
  exact k_X4_countContradictions_20 hX hr N M N a0 v2 0
def F_X3_record (N : Nat) (M : kMem) (a0 : Nat) (a1 : Nat) : Option (kMem) :=
    kg (kt M a0 3) <|
    kg (kt M a0 3) <|
    kg (kin M (kR M a0 0) 18 (kI M a0 1)) <|
    kg (kt M (kR M (kR M a0 0) (kx (kI M a0 1))) 4) <| (F_X4_copyFrom N M (kR M (kR M a0 0) (kx (kI M a0 1))) a1).bind fun M1 =>
    kg (kt M1 a0 3) <|
    kg (!((8 : Int32) == 0)) <|
    kg (kt M1 a0 3) <| kl (ksI M1 a0 1 (((kI M1 a0 1) + 1) - (((kI M1 a0 1) + 1) / 8) * 8)) fun M2 =>
    kg (kt M2 a0 3) <|
    kg (kt M2 a0 3) <| kl (ksI M2 a0 2 (kmin ((kI M2 a0 2) + 1) 8)) fun M3 =>
    some M3
set_option maxRecDepth 100000 in
set_option maxHeartbeats 4000000 in
theorem k_X3_record (l : Launch) (g : kG) (N : Nat) (M : kMem) (a0 : Nat) (a1 : Nat) : kMet l g yX3_record cX3_record 2 none 4 0 0 [.ref a0, .ref a1] M (fun r : kMem => (none, r)) (F_X3_record N M a0 a1) := by
  refine k_of (lv := [(0, .ref a0), (1, .ref a1)]) RX3 (by decide) rfl rfl (Nat.le_of_ble_eq_true rfl) ?_
  intro p e s m args below meth c hX hr _
  unfold F_X3_record
  refine g_aload_n 1 0 hX dX3_record_0 rfl rfl ?_
  refine r_X3_11 4 hX dX3_record_1 rfl ?_
  refine g_aload_n 5 0 hX dX3_record_4 rfl rfl ?_
  refine r_X3_18 8 hX dX3_record_5 rfl ?_
  refine g_aald 18 5 9 hX RX4 (Nat.le_of_ble_eq_true rfl) rfl dX3_record_8 rfl ?_
  refine g_aload_n 10 1 hX dX3_record_9 rfl rfl ?_
  refine g_callV_v 13 hX (k_X4_copyFrom l g N M (kR M (kR M a0 0) (kx (kI M a0 1))) a1) lk_X4_copyFrom rfl (ci := 4) rfl (Nat.le_of_ble_eq_true rfl) q_876 q_748 (by omega) rfl (Nat.le_of_ble_eq_true rfl) (Nat.zero_le _) (Nat.zero_le _) dX3_record_10 rfl (fun M1 => ?_)
  refine g_aload_n 14 0 hX dX3_record_13 rfl rfl ?_
  refine g_aload_n 15 0 hX dX3_record_14 rfl rfl ?_
  refine r_X3_18 18 hX dX3_record_15 rfl ?_
  refine g_iconst 19 hX 1 dX3_record_18 rfl kc_i_1 ?_
  refine g_iadd 20 hX dX3_record_19 rfl ?_
  refine g_bipush 22 hX 8 dX3_record_20 rfl kc_b_8 ?_
  refine g_irem 23 hX dX3_record_22 rfl ?_
  refine p_X3_18 26 hX dX3_record_23 rfl ?_
  refine g_klM (fun M2 hM2 => ?_)
  refine g_aload_n 27 0 hX dX3_record_26 rfl rfl ?_
  refine g_aload_n 28 0 hX dX3_record_27 rfl rfl ?_
  refine r_X3_26 31 hX dX3_record_28 rfl ?_
  refine g_iconst 32 hX 1 dX3_record_31 rfl kc_i_1 ?_
  refine g_iadd 33 hX dX3_record_32 rfl ?_
  refine g_bipush 35 hX 8 dX3_record_33 rfl kc_b_8 ?_
  refine g_mmin 38 hX q_877 dX3_record_35 rfl (Nat.le_of_ble_eq_true rfl) (by decide) (Nat.zero_le _) (Nat.zero_le _) ?_
  refine p_X3_26 41 hX dX3_record_38 rfl ?_
  refine g_klM (fun M3 hM3 => ?_)
  exact g_vret hX hr rfl (Nat.le_refl 0) (Nat.le_refl 0) dX3_record_41
def F_X3_takeBack (N : Nat) (M : kMem) (a0 : Nat) (a1 : Nat) : Option (kMem) :=
    kg (kt M a0 3) <|
    kg (!((8 : Int32) == 0)) <|
    kg (kt M a0 3) <| kl (ksI M a0 1 ((((kI M a0 1) + 8) - 1) - ((((kI M a0 1) + 8) - 1) / 8) * 8)) fun M1 =>
    kg (kt M1 a0 3) <|
    kg (kt M1 a0 3) <| kl (ksI M1 a0 2 ((kI M1 a0 2) - 1)) fun M2 =>
    kg (kt M2 a0 3) <|
    kg (kt M2 a0 3) <|
    kg (kin M2 (kR M2 a0 0) 18 (kI M2 a0 1)) <|
    kg (kt M2 a1 4) <| (F_X4_copyFrom N M2 a1 (kR M2 (kR M2 a0 0) (kx (kI M2 a0 1)))).bind fun M3 =>
    some M3
set_option maxRecDepth 100000 in
set_option maxHeartbeats 4000000 in
theorem k_X3_takeBack (l : Launch) (g : kG) (N : Nat) (M : kMem) (a0 : Nat) (a1 : Nat) : kMet l g yX3_takeBack cX3_takeBack 2 none 4 0 0 [.ref a0, .ref a1] M (fun r : kMem => (none, r)) (F_X3_takeBack N M a0 a1) := by
  refine k_of (lv := [(0, .ref a0), (1, .ref a1)]) RX3 (by decide) rfl rfl (Nat.le_of_ble_eq_true rfl) ?_
  intro p e s m args below meth c hX hr _
  unfold F_X3_takeBack
  refine g_aload_n 1 0 hX dX3_takeBack_0 rfl rfl ?_
  refine g_aload_n 2 0 hX dX3_takeBack_1 rfl rfl ?_
  refine r_X3_18 5 hX dX3_takeBack_2 rfl ?_
  refine g_bipush 7 hX 8 dX3_takeBack_5 rfl kc_b_8 ?_
  refine g_iadd 8 hX dX3_takeBack_7 rfl ?_
  refine g_iconst 9 hX 1 dX3_takeBack_8 rfl kc_i_1 ?_
  refine g_isub 10 hX dX3_takeBack_9 rfl ?_
  refine g_bipush 12 hX 8 dX3_takeBack_10 rfl kc_b_8 ?_
  refine g_irem 13 hX dX3_takeBack_12 rfl ?_
  refine p_X3_18 16 hX dX3_takeBack_13 rfl ?_
  refine g_klM (fun M1 hM1 => ?_)
  refine g_aload_n 17 0 hX dX3_takeBack_16 rfl rfl ?_
  refine g_dup 18 hX dX3_takeBack_17 rfl rfl ?_
  refine r_X3_26 21 hX dX3_takeBack_18 rfl ?_
  refine g_iconst 22 hX 1 dX3_takeBack_21 rfl kc_i_1 ?_
  refine g_isub 23 hX dX3_takeBack_22 rfl ?_
  refine p_X3_26 26 hX dX3_takeBack_23 rfl ?_
  refine g_klM (fun M2 hM2 => ?_)
  refine g_aload_n 27 1 hX dX3_takeBack_26 rfl rfl ?_
  refine g_aload_n 28 0 hX dX3_takeBack_27 rfl rfl ?_
  refine r_X3_11 31 hX dX3_takeBack_28 rfl ?_
  refine g_aload_n 32 0 hX dX3_takeBack_31 rfl rfl ?_
  refine r_X3_18 35 hX dX3_takeBack_32 rfl ?_
  refine g_aald 18 5 36 hX RX4 (Nat.le_of_ble_eq_true rfl) rfl dX3_takeBack_35 rfl ?_
  refine g_callV_v 39 hX (k_X4_copyFrom l g N M2 a1 (kR M2 (kR M2 a0 0) (kx (kI M2 a0 1)))) lk_X4_copyFrom rfl (ci := 4) rfl (Nat.le_of_ble_eq_true rfl) q_876 q_748 (by omega) rfl (Nat.le_of_ble_eq_true rfl) (Nat.zero_le _) (Nat.zero_le _) dX3_takeBack_36 rfl (fun M3 => ?_)
  exact g_vret hX hr rfl (Nat.le_refl 0) (Nat.le_refl 0) dX3_takeBack_39
def F_X3_forget (N : Nat) (M : kMem) (a0 : Nat) : Option (kMem) :=
    kg (kt M a0 3) <| kl (ksI M a0 2 0) fun M1 =>
    some M1
set_option maxRecDepth 100000 in
set_option maxHeartbeats 4000000 in
theorem k_X3_forget (l : Launch) (g : kG) (N : Nat) (M : kMem) (a0 : Nat) : kMet l g yX3_forget cX3_forget 1 none 1 0 0 [.ref a0] M (fun r : kMem => (none, r)) (F_X3_forget N M a0) := by
  refine k_of (lv := [(0, .ref a0)]) RX3 (by decide) rfl rfl (Nat.le_of_ble_eq_true rfl) ?_
  intro p e s m args below meth c hX hr _
  unfold F_X3_forget
  refine g_aload_n 1 0 hX dX3_forget_0 rfl rfl ?_
  refine g_iconst 2 hX 0 dX3_forget_1 rfl kc_i_0 ?_
  refine p_X3_26 5 hX dX3_forget_2 rfl ?_
  refine g_klM (fun M1 hM1 => ?_)
  exact g_vret hX hr rfl (Nat.le_refl 0) (Nat.le_refl 0) dX3_forget_5
def F_X9_add (N : Nat) (M : kMem) (a0 : Nat) (x1 : Int32) (x2 : Int32) (x3 : Int32) : Option (kMem) :=
    kg (kt M a0 9) <|
    kg (kt M a0 9) <|
    kg (kt M (kR M a0 1) 13) <|
    if (kI M a0 4) < (Int32.ofNat (kn M (kR M a0 1))) then (
      kg (kt M a0 9) <|
      kg (kt M a0 9) <|
      kg (kin M (kR M a0 1) 13 (kI M a0 4)) <| kl (ksI M (kR M a0 1) (kx (kI M a0 4)) x1) fun M1 =>
      kg (kt M1 a0 9) <|
      kg (kt M1 a0 9) <|
      kg (kin M1 (kR M1 a0 2) 13 (kI M1 a0 4)) <| kl (ksI M1 (kR M1 a0 2) (kx (kI M1 a0 4)) x2) fun M2 =>
      kg (kt M2 a0 9) <|
      kg (kt M2 a0 9) <|
      kg (kin M2 (kR M2 a0 3) 13 (kI M2 a0 4)) <| kl (ksI M2 (kR M2 a0 3) (kx (kI M2 a0 4)) x3) fun M3 =>
      kg (kt M3 a0 9) <|
      kg (kt M3 a0 9) <| kl (ksI M3 a0 4 ((kI M3 a0 4) + 1)) fun M4 =>
      some M4) else
    some M
set_option maxRecDepth 100000 in
set_option maxHeartbeats 4000000 in
theorem k_X9_add (l : Launch) (g : kG) (N : Nat) (M : kMem) (a0 : Nat) (x1 : Int32) (x2 : Int32) (x3 : Int32) : kMet l g yX9_add cX9_add 4 none 1 0 0 [.ref a0, .int x1, .int x2, .int x3] M (fun r : kMem => (none, r)) (F_X9_add N M a0 x1 x2 x3) := by
  refine k_of (lv := [(0, .ref a0), (1, .int x1), (2, .int x2), (3, .int x3)]) RX9 (by decide) rfl rfl (Nat.le_of_ble_eq_true rfl) ?_
  intro p e s m args below meth c hX hr _
  unfold F_X9_add
  refine g_aload_n 1 0 hX dX9_add_0 rfl rfl ?_
  refine r_X9_35 4 hX dX9_add_1 rfl ?_
  refine g_aload_n 5 0 hX dX9_add_4 rfl rfl ?_
  refine r_X9_9 8 hX dX9_add_5 rfl ?_
  refine g_alen13 9 hX dX9_add_8 rfl ?_
  refine g_icmp_ge 52 12 hX dX9_add_9 (by decide) rfl (fun _ => ?_) (fun _ => ?_)
  · exact g_vret hX hr rfl (Nat.le_refl 0) (Nat.le_refl 0) dX9_add_52
  · refine g_aload_n 13 0 hX dX9_add_12 rfl rfl ?_
    refine r_X9_9 16 hX dX9_add_13 rfl ?_
    refine g_aload_n 17 0 hX dX9_add_16 rfl rfl ?_
    refine r_X9_35 20 hX dX9_add_17 rfl ?_
    refine g_iload_n 21 1 hX dX9_add_20 rfl rfl ?_
    refine g_iast 22 hX dX9_add_21 rfl ?_
    refine g_klM (fun M1 hM1 => ?_)
    refine g_aload_n 23 0 hX dX9_add_22 rfl rfl ?_
    refine r_X9_15 26 hX dX9_add_23 rfl ?_
    refine g_aload_n 27 0 hX dX9_add_26 rfl rfl ?_
    refine r_X9_35 30 hX dX9_add_27 rfl ?_
    refine g_iload_n 31 2 hX dX9_add_30 rfl rfl ?_
    refine g_iast 32 hX dX9_add_31 rfl ?_
    refine g_klM (fun M2 hM2 => ?_)
    refine g_aload_n 33 0 hX dX9_add_32 rfl rfl ?_
    refine r_X9_18 36 hX dX9_add_33 rfl ?_
    refine g_aload_n 37 0 hX dX9_add_36 rfl rfl ?_
    refine r_X9_35 40 hX dX9_add_37 rfl ?_
    refine g_iload_n 41 3 hX dX9_add_40 rfl rfl ?_
    refine g_iast 42 hX dX9_add_41 rfl ?_
    refine g_klM (fun M3 hM3 => ?_)
    refine g_aload_n 43 0 hX dX9_add_42 rfl rfl ?_
    refine g_dup 44 hX dX9_add_43 rfl rfl ?_
    refine r_X9_35 47 hX dX9_add_44 rfl ?_
    refine g_iconst 48 hX 1 dX9_add_47 rfl kc_i_1 ?_
    refine g_iadd 49 hX dX9_add_48 rfl ?_
    refine p_X9_35 52 hX dX9_add_49 rfl ?_
    refine g_klM (fun M4 hM4 => ?_)
    exact g_vret hX hr rfl (Nat.le_refl 0) (Nat.le_refl 0) dX9_add_52
def F_X11_isDigit (N : Nat) (M : kMem) (x0 : Int32) : Option (Int32) :=
    if x0 < 48 then (
      some 0) else
    if (57 : Int32) < x0 then (
      some 0) else
    some 1
set_option maxRecDepth 100000 in
set_option maxHeartbeats 4000000 in
theorem k_X11_isDigit (l : Launch) (g : kG) (N : Nat) (M : kMem) (x0 : Int32) : kMet l g yX11_isDigit cX11_isDigit 1 (some .boolean) 1 0 0 [.int x0] M (fun r : Int32 => (some (.int r), M)) (F_X11_isDigit N M x0) := by
  refine k_of (lv := [(0, .int x0)]) RX11 (by decide) rfl rfl (Nat.le_of_ble_eq_true rfl) ?_
  intro p e s m args below meth c hX hr _
  unfold F_X11_isDigit
  refine g_iload_n 1 0 hX dX11_isDigit_0 rfl rfl ?_
  refine g_bipush 3 hX 48 dX11_isDigit_1 rfl kc_b_48 ?_
  refine g_icmp_lt 16 6 hX dX11_isDigit_3 (by decide) rfl (fun _ => ?_) (fun _ => ?_)
  · refine g_iconst 17 hX 0 dX11_isDigit_16 rfl kc_i_0 ?_
    exact g_zretL hX hr rfl rfl (Nat.le_refl 0) (Nat.le_refl 0) dX11_isDigit_17
  · refine g_iload_n 7 0 hX dX11_isDigit_6 rfl rfl ?_
    refine g_bipush 9 hX 57 dX11_isDigit_7 rfl kc_b_57 ?_
    refine g_icmp_gt 16 12 hX dX11_isDigit_9 (by decide) rfl (fun _ => ?_) (fun _ => ?_)
    · refine g_iconst 17 hX 0 dX11_isDigit_16 rfl kc_i_0 ?_
      exact g_zretL hX hr rfl rfl (Nat.le_refl 0) (Nat.le_refl 0) dX11_isDigit_17
    · refine g_iconst 13 hX 1 dX11_isDigit_12 rfl kc_i_1 ?_
      refine g_goto 17 hX dX11_isDigit_13 (by decide) ?_
      exact g_zretL hX hr rfl rfl (Nat.le_refl 0) (Nat.le_refl 0) dX11_isDigit_17
def F_X9_kindOf (N : Nat) (M : kMem) (x0 : Int32) : Option (Int32) :=
    (F_X11_isLetter N M x0).bind fun r1 =>
    if r1 = 0 then (
      (F_X11_isDigit N M x0).bind fun r2 =>
      if r2 = 0 then (
        if x0 = 32 then (
          some 0) else
        if x0 = 10 then (
          some 0) else
        some 3) else
      some 2) else
    some 1
set_option maxRecDepth 100000 in
set_option maxHeartbeats 4000000 in
theorem k_X9_kindOf (l : Launch) (g : kG) (N : Nat) (M : kMem) (x0 : Int32) : kMet l g yX9_kindOf cX9_kindOf 1 (some .int) 2 0 0 [.int x0] M (fun r : Int32 => (some (.int r), M)) (F_X9_kindOf N M x0) := by
  refine k_of (lv := [(0, .int x0)]) RX9 (by decide) rfl rfl (Nat.le_of_ble_eq_true rfl) ?_
  intro p e s m args below meth c hX hr _
  unfold F_X9_kindOf
  refine g_iload_n 1 0 hX dX9_kindOf_0 rfl rfl ?_
  refine g_callN_ip 4 hX (k_X11_isLetter l g N M x0) lk_X11_isLetter q_565 (by omega) rfl (Nat.le_of_ble_eq_true rfl) (Nat.zero_le _) (Nat.zero_le _) dX9_kindOf_1 rfl (fun r1 => ?_)
  refine g_if_eq 9 7 hX dX9_kindOf_4 (by decide) rfl (fun _ => ?_) (fun _ => ?_)
  · refine g_iload_n 10 0 hX dX9_kindOf_9 rfl rfl ?_
    refine g_callN_ip 13 hX (k_X11_isDigit l g N M x0) lk_X11_isDigit q_568 (by omega) rfl (Nat.le_of_ble_eq_true rfl) (Nat.zero_le _) (Nat.zero_le _) dX9_kindOf_10 rfl (fun r2 => ?_)
    refine g_if_eq 18 16 hX dX9_kindOf_13 (by decide) rfl (fun _ => ?_) (fun _ => ?_)
    · refine g_iload_n 19 0 hX dX9_kindOf_18 rfl rfl ?_
      refine g_bipush 21 hX 32 dX9_kindOf_19 rfl kc_b_32 ?_
      refine g_icmp_eq 30 24 hX dX9_kindOf_21 (by decide) rfl (fun _ => ?_) (fun _ => ?_)
      · refine g_iconst 31 hX 0 dX9_kindOf_30 rfl kc_i_0 ?_
        refine g_goto 35 hX dX9_kindOf_31 (by decide) ?_
        exact g_iret hX hr rfl (Nat.le_refl 0) (Nat.le_refl 0) dX9_kindOf_35
      · refine g_iload_n 25 0 hX dX9_kindOf_24 rfl rfl ?_
        refine g_bipush 27 hX 10 dX9_kindOf_25 rfl kc_b_10 ?_
        refine g_icmp_ne 34 30 hX dX9_kindOf_27 (by decide) rfl (fun _ => ?_) (fun _ => ?_)
        · refine g_iconst 35 hX 3 dX9_kindOf_34 rfl kc_i_3 ?_
          exact g_iret hX hr rfl (Nat.le_refl 0) (Nat.le_refl 0) dX9_kindOf_35
        · refine g_iconst 31 hX 0 dX9_kindOf_30 rfl kc_i_0 ?_
          refine g_goto 35 hX dX9_kindOf_31 (by decide) ?_
          exact g_iret hX hr rfl (Nat.le_refl 0) (Nat.le_refl 0) dX9_kindOf_35
    · refine g_iconst 17 hX 2 dX9_kindOf_16 rfl kc_i_2 ?_
      exact g_iret hX hr rfl (Nat.le_refl 0) (Nat.le_refl 0) dX9_kindOf_17
  · refine g_iconst 8 hX 1 dX9_kindOf_7 rfl kc_i_1 ?_
    exact g_iret hX hr rfl (Nat.le_refl 0) (Nat.le_refl 0) dX9_kindOf_8
def F_X9_lengthen (N : Nat) (M : kMem) (a0 : Nat) (x1 : Int32) : Option (kMem) :=
    kg (kt M a0 9) <|
    if (0 : Int32) < (kI M a0 4) then (
      kg (kt M a0 9) <|
      kg (kt M a0 9) <|
      kg (kin M (kR M a0 3) 13 ((kI M a0 4) - 1)) <| kl (ksI M (kR M a0 3) (kx ((kI M a0 4) - 1)) x1) fun M1 =>
      some M1) else
    some M
set_option maxRecDepth 100000 in
set_option maxHeartbeats 4000000 in
theorem k_X9_lengthen (l : Launch) (g : kG) (N : Nat) (M : kMem) (a0 : Nat) (x1 : Int32) : kMet l g yX9_lengthen cX9_lengthen 2 none 1 0 0 [.ref a0, .int x1] M (fun r : kMem => (none, r)) (F_X9_lengthen N M a0 x1) := by
  refine k_of (lv := [(0, .ref a0), (1, .int x1)]) RX9 (by decide) rfl rfl (Nat.le_of_ble_eq_true rfl) ?_
  intro p e s m args below meth c hX hr _
  unfold F_X9_lengthen
  refine g_aload_n 1 0 hX dX9_lengthen_0 rfl rfl ?_
  refine r_X9_35 4 hX dX9_lengthen_1 rfl ?_
  refine g_if_le 19 7 hX dX9_lengthen_4 (by decide) rfl (fun _ => ?_) (fun _ => ?_)
  · exact g_vret hX hr rfl (Nat.le_refl 0) (Nat.le_refl 0) dX9_lengthen_19
  · refine g_aload_n 8 0 hX dX9_lengthen_7 rfl rfl ?_
    refine r_X9_18 11 hX dX9_lengthen_8 rfl ?_
    refine g_aload_n 12 0 hX dX9_lengthen_11 rfl rfl ?_
    refine r_X9_35 15 hX dX9_lengthen_12 rfl ?_
    refine g_iconst 16 hX 1 dX9_lengthen_15 rfl kc_i_1 ?_
    refine g_isub 17 hX dX9_lengthen_16 rfl ?_
    refine g_iload_n 18 1 hX dX9_lengthen_17 rfl rfl ?_
    refine g_iast 19 hX dX9_lengthen_18 rfl ?_
    refine g_klM (fun M1 hM1 => ?_)
    exact g_vret hX hr rfl (Nat.le_refl 0) (Nat.le_refl 0) dX9_lengthen_19
def F_X9_begin_72 (N : Nat) (k24 : kMem → Nat → Int32 → Int32 → Option (kMem)) (M : kMem) (a0 : Nat) (x2 : Int32) (x3 : Int32) : Option (kMem) :=
    if x3 = 0 then (
      kl (x2 + 1) fun v8 =>
      k24 M a0 x3 v8) else
    kg (kt M a0 9) <| (F_X9_add N M a0 x3 x2 (x2 + 1)).bind fun M9 =>
    kl (x2 + 1) fun v10 =>
    k24 M9 a0 x3 v10
def F_X9_begin_62 (N : Nat) (k24 : kMem → Nat → Int32 → Int32 → Option (kMem)) (M : kMem) (a0 : Nat) (x2 : Int32) (x3 : Int32) : Option (kMem) :=
    kg (kt M a0 9) <| (F_X9_lengthen N M a0 (x2 + 1)).bind fun M11 =>
    kl (x2 + 1) fun v12 =>
    k24 M11 a0 x3 v12
def F_X9_begin_24 (N : Nat) : Nat → kMem → Nat → Int32 → Int32 → Option (kMem)
  | 0, _, _, _, _ => none
  | n + 1, M, a0, x1, x2 =>
    kg (kt M a0 9) <|
    kg (kt M (kR M a0 0) 8) <|
    if x2 < (kI M (kR M a0 0) 1) then (
      kg (kt M a0 9) <|
      kg (kt M (kR M a0 0) 8) <| (F_X8_byteAt N M (kR M a0 0) x2).bind fun r6 =>
      (F_X9_kindOf N M r6).bind fun r7 =>
      if r7 = x1 then (
        if r7 = 1 then (
          F_X9_begin_62 N (fun M a0 x1 x2 => F_X9_begin_24 N n M a0 x1 x2) M a0 x2 r7) else
        if r7 = 2 then (
          F_X9_begin_62 N (fun M a0 x1 x2 => F_X9_begin_24 N n M a0 x1 x2) M a0 x2 r7) else
        F_X9_begin_72 N (fun M a0 x1 x2 => F_X9_begin_24 N n M a0 x1 x2) M a0 x2 r7) else
      F_X9_begin_72 N (fun M a0 x1 x2 => F_X9_begin_24 N n M a0 x1 x2) M a0 x2 r7) else
    kg (kt M a0 9) <|
    kg (kt M (kR M a0 0) 8) <|
    kg (kt M a0 9) <|
    kg (kt M (kR M a0 0) 8) <|
    kg (kt M a0 9) <| (F_X9_add N M a0 4 (kI M (kR M a0 0) 1) (kI M (kR M a0 0) 1)).bind fun M5 =>
    some M5
def F_X9_begin (N : Nat) (M : kMem) (a0 : Nat) : Option (kMem) :=
    kg (kt M a0 9) <| kl (ksI M a0 6 0) fun M1 =>
    kg (kt M1 a0 9) <| kl (ksI M1 a0 7 (-1)) fun M2 =>
    kg (kt M2 a0 9) <| kl (ksI M2 a0 5 0) fun M3 =>
    kg (kt M3 a0 9) <| kl (ksI M3 a0 4 0) fun M4 =>
    F_X9_begin_24 N N M4 a0 0 0
set_option maxRecDepth 100000 in
set_option maxHeartbeats 4000000 in
theorem k_X9_begin_72 {p : Program} {l : Launch} {e : Env} {s : State} {m : MethodId} {args : Array Value} {below : List Frame} {meth : Method} {c : Code} {g : kG} (hX : Cok (p, l, e, { frames := 2 * 3, cells := 0, slots := 0, locals := 60 * 3 }, s, m, args, below, meth, c, cX9_begin, 4, RX9, g, 3)) (hr : meth.sig.returnType = none) (N : Nat) (k24 : kMem → Nat → Int32 → Int32 → Option (kMem)) (h24 : ∀ (M : kMem) (a0 : Nat) (x1 : Int32) (x2 : Int32), GG (p, l, e, { frames := 2 * 3, cells := 0, slots := 0, locals := 60 * 3 }, s, m, args, below, meth, c, cX9_begin, 4, RX9, g, 3) (fun b => MQ below (kQ g ((fun r : kMem => (none, r)) b)) args s 0 0 (kZ g.2.2.1)) 0 0 (k24 M a0 x1 x2) 24 [(0, .ref a0), (1, .int x1), (2, .int x2)] [] M) : ∀ (M : kMem) (a0 : Nat) (x2 : Int32) (x3 : Int32), GG (p, l, e, { frames := 2 * 3, cells := 0, slots := 0, locals := 60 * 3 }, s, m, args, below, meth, c, cX9_begin, 4, RX9, g, 3) (fun b => MQ below (kQ g ((fun r : kMem => (none, r)) b)) args s 0 0 (kZ g.2.2.1)) 0 0 (F_X9_begin_72 N k24 M a0 x2 x3) 72 [(0, .ref a0), (2, .int x2), (3, .int x3)] [] M := by
  intro M a0 x2 x3
  unfold F_X9_begin_72
  refine g_iload_n 73 2 hX dX9_begin_72 rfl rfl ?_
  refine g_if_eq 85 76 hX dX9_begin_73 (by decide) rfl (fun _ => ?_) (fun _ => ?_)
  · refine g_iload_n 86 2 hX dX9_begin_85 rfl rfl ?_
    refine g_istore_n 87 1 [(1, .int x3), (0, .ref a0), (2, .int x2), (3, .int x3)] hX dX9_begin_86 rfl rfl (Nat.le_of_ble_eq_true rfl) rfl ?_
    refine g_kl (fun v8 hv8 => ?_)
    refine g_iinc 90 2 2 v8 [(2, .int v8), (1, .int x3), (0, .ref a0), (3, .int x3)] hX dX9_begin_87 rfl rfl (by rw [hv8, kc_i_1]) (Nat.le_of_ble_eq_true rfl) rfl ?_
    refine g_goto 24 hX dX9_begin_90 (by decide) ?_
    refine g_lv [2, 1, 0] rfl ?_
    exact h24 M a0 x3 v8
  · refine g_aload_n 77 0 hX dX9_begin_76 rfl rfl ?_
    refine g_iload_n 78 2 hX dX9_begin_77 rfl rfl ?_
    refine g_iload_n 79 1 hX dX9_begin_78 rfl rfl ?_
    refine g_iload_n 80 1 hX dX9_begin_79 rfl rfl ?_
    refine g_iconst 81 hX 1 dX9_begin_80 rfl kc_i_1 ?_
    refine g_iadd 82 hX dX9_begin_81 rfl ?_
    refine g_callV_v 85 hX (k_X9_add l g N M a0 x3 x2 (x2 + 1)) lk_X9_add rfl (ci := 9) rfl (Nat.le_of_ble_eq_true rfl) q_575 q_2 (by omega) rfl (Nat.le_of_ble_eq_true rfl) (Nat.zero_le _) (Nat.zero_le _) dX9_begin_82 rfl (fun M9 => ?_)
    refine g_iload_n 86 2 hX dX9_begin_85 rfl rfl ?_
    refine g_istore_n 87 1 [(1, .int x3), (0, .ref a0), (2, .int x2), (3, .int x3)] hX dX9_begin_86 rfl rfl (Nat.le_of_ble_eq_true rfl) rfl ?_
    refine g_kl (fun v10 hv10 => ?_)
    refine g_iinc 90 2 2 v10 [(2, .int v10), (1, .int x3), (0, .ref a0), (3, .int x3)] hX dX9_begin_87 rfl rfl (by rw [hv10, kc_i_1]) (Nat.le_of_ble_eq_true rfl) rfl ?_
    refine g_goto 24 hX dX9_begin_90 (by decide) ?_
    refine g_lv [2, 1, 0] rfl ?_
    exact h24 M9 a0 x3 v10
set_option maxRecDepth 100000 in
set_option maxHeartbeats 4000000 in
theorem k_X9_begin_62 {p : Program} {l : Launch} {e : Env} {s : State} {m : MethodId} {args : Array Value} {below : List Frame} {meth : Method} {c : Code} {g : kG} (hX : Cok (p, l, e, { frames := 2 * 3, cells := 0, slots := 0, locals := 60 * 3 }, s, m, args, below, meth, c, cX9_begin, 4, RX9, g, 3)) (hr : meth.sig.returnType = none) (N : Nat) (k24 : kMem → Nat → Int32 → Int32 → Option (kMem)) (h24 : ∀ (M : kMem) (a0 : Nat) (x1 : Int32) (x2 : Int32), GG (p, l, e, { frames := 2 * 3, cells := 0, slots := 0, locals := 60 * 3 }, s, m, args, below, meth, c, cX9_begin, 4, RX9, g, 3) (fun b => MQ below (kQ g ((fun r : kMem => (none, r)) b)) args s 0 0 (kZ g.2.2.1)) 0 0 (k24 M a0 x1 x2) 24 [(0, .ref a0), (1, .int x1), (2, .int x2)] [] M) : ∀ (M : kMem) (a0 : Nat) (x2 : Int32) (x3 : Int32), GG (p, l, e, { frames := 2 * 3, cells := 0, slots := 0, locals := 60 * 3 }, s, m, args, below, meth, c, cX9_begin, 4, RX9, g, 3) (fun b => MQ below (kQ g ((fun r : kMem => (none, r)) b)) args s 0 0 (kZ g.2.2.1)) 0 0 (F_X9_begin_62 N k24 M a0 x2 x3) 62 [(0, .ref a0), (2, .int x2), (3, .int x3)] [] M := by
  intro M a0 x2 x3
  unfold F_X9_begin_62
  refine g_aload_n 63 0 hX dX9_begin_62 rfl rfl ?_
  refine g_iload_n 64 1 hX dX9_begin_63 rfl rfl ?_
  refine g_iconst 65 hX 1 dX9_begin_64 rfl kc_i_1 ?_
  refine g_iadd 66 hX dX9_begin_65 rfl ?_
  refine g_callV_v 69 hX (k_X9_lengthen l g N M a0 (x2 + 1)) lk_X9_lengthen rfl (ci := 9) rfl (Nat.le_of_ble_eq_true rfl) q_571 q_1 (by omega) rfl (Nat.le_of_ble_eq_true rfl) (Nat.zero_le _) (Nat.zero_le _) dX9_begin_66 rfl (fun M11 => ?_)
  refine g_goto 85 hX dX9_begin_69 (by decide) ?_
  refine g_iload_n 86 2 hX dX9_begin_85 rfl rfl ?_
  refine g_istore_n 87 1 [(1, .int x3), (0, .ref a0), (2, .int x2), (3, .int x3)] hX dX9_begin_86 rfl rfl (Nat.le_of_ble_eq_true rfl) rfl ?_
  refine g_kl (fun v12 hv12 => ?_)
  refine g_iinc 90 2 2 v12 [(2, .int v12), (1, .int x3), (0, .ref a0), (3, .int x3)] hX dX9_begin_87 rfl rfl (by rw [hv12, kc_i_1]) (Nat.le_of_ble_eq_true rfl) rfl ?_
  refine g_goto 24 hX dX9_begin_90 (by decide) ?_
  refine g_lv [2, 1, 0] rfl ?_
  exact h24 M11 a0 x3 v12
set_option maxRecDepth 100000 in
set_option maxHeartbeats 4000000 in
theorem k_X9_begin_24 {p : Program} {l : Launch} {e : Env} {s : State} {m : MethodId} {args : Array Value} {below : List Frame} {meth : Method} {c : Code} {g : kG} (hX : Cok (p, l, e, { frames := 2 * 3, cells := 0, slots := 0, locals := 60 * 3 }, s, m, args, below, meth, c, cX9_begin, 4, RX9, g, 3)) (hr : meth.sig.returnType = none) (N : Nat) : ∀ (n : Nat) (M : kMem) (a0 : Nat) (x1 : Int32) (x2 : Int32), GG (p, l, e, { frames := 2 * 3, cells := 0, slots := 0, locals := 60 * 3 }, s, m, args, below, meth, c, cX9_begin, 4, RX9, g, 3) (fun b => MQ below (kQ g ((fun r : kMem => (none, r)) b)) args s 0 0 (kZ g.2.2.1)) 0 0 (F_X9_begin_24 N n M a0 x1 x2) 24 [(0, .ref a0), (1, .int x1), (2, .int x2)] [] M := by
  intro n
  induction n with
  | zero => intro _ _ _ _; exact g_none
  | succ n ih =>
    intro M a0 x1 x2
    unfold F_X9_begin_24
    refine g_iload_n 25 2 hX dX9_begin_24 rfl rfl ?_
    refine g_aload_n 26 0 hX dX9_begin_25 rfl rfl ?_
    refine r_X9_25 29 hX dX9_begin_26 rfl ?_
    refine r_X9_38 32 hX dX9_begin_29 rfl ?_
    refine g_icmp_ge 93 35 hX dX9_begin_32 (by decide) rfl (fun _ => ?_) (fun _ => ?_)
    · refine g_aload_n 94 0 hX dX9_begin_93 rfl rfl ?_
      refine g_iconst 95 hX 4 dX9_begin_94 rfl kc_i_4 ?_
      refine g_aload_n 96 0 hX dX9_begin_95 rfl rfl ?_
      refine r_X9_25 99 hX dX9_begin_96 rfl ?_
      refine r_X9_38 102 hX dX9_begin_99 rfl ?_
      refine g_aload_n 103 0 hX dX9_begin_102 rfl rfl ?_
      refine r_X9_25 106 hX dX9_begin_103 rfl ?_
      refine r_X9_38 109 hX dX9_begin_106 rfl ?_
      refine g_callV_v 112 hX (k_X9_add l g N M a0 4 (kI M (kR M a0 0) 1) (kI M (kR M a0 0) 1)) lk_X9_add rfl (ci := 9) rfl (Nat.le_of_ble_eq_true rfl) q_575 q_2 (by omega) rfl (Nat.le_of_ble_eq_true rfl) (Nat.zero_le _) (Nat.zero_le _) dX9_begin_109 rfl (fun M5 => ?_)
      exact g_vret hX hr rfl (Nat.le_refl 0) (Nat.le_refl 0) dX9_begin_112
    · refine g_aload_n 36 0 hX dX9_begin_35 rfl rfl ?_
      refine r_X9_25 39 hX dX9_begin_36 rfl ?_
      refine g_iload_n 40 2 hX dX9_begin_39 rfl rfl ?_
      refine g_callV_ip 43 hX (k_X8_byteAt l g N M (kR M a0 0) x2) lk_X8_byteAt rfl (ci := 8) rfl (Nat.le_of_ble_eq_true rfl) q_558 q_560 (by omega) rfl (Nat.le_of_ble_eq_true rfl) (Nat.zero_le _) (Nat.zero_le _) dX9_begin_40 rfl (fun r6 => ?_)
      refine g_callS_ip 46 hX (k_X9_kindOf l g N M r6) lk_X9_kindOf q_562 (by omega) rfl (Nat.le_of_ble_eq_true rfl) (Nat.zero_le _) (Nat.zero_le _) dX9_begin_43 rfl (fun r7 => ?_)
      refine g_istore_n 47 3 [(3, .int r7), (0, .ref a0), (1, .int x1), (2, .int x2)] hX dX9_begin_46 rfl rfl (Nat.le_of_ble_eq_true rfl) rfl ?_
      refine g_iload_n 48 0 hX dX9_begin_47 rfl rfl ?_
      refine g_iload_n 49 2 hX dX9_begin_48 rfl rfl ?_
      refine g_icmp_ne 72 52 hX dX9_begin_49 (by decide) rfl (fun _ => ?_) (fun _ => ?_)
      · refine g_lv [1, 3, 0] rfl ?_
        exact k_X9_begin_72 hX hr N (fun M a0 x1 x2 => F_X9_begin_24 N n M a0 x1 x2) ih M a0 x2 r7
      · refine g_iload_n 53 0 hX dX9_begin_52 rfl rfl ?_
        refine g_iconst 54 hX 1 dX9_begin_53 rfl kc_i_1 ?_
        refine g_icmp_eq 62 57 hX dX9_begin_54 (by decide) rfl (fun _ => ?_) (fun _ => ?_)
        · refine g_lv [1, 3, 0] rfl ?_
          exact k_X9_begin_62 hX hr N (fun M a0 x1 x2 => F_X9_begin_24 N n M a0 x1 x2) ih M a0 x2 r7
        · refine g_iload_n 58 0 hX dX9_begin_57 rfl rfl ?_
          refine g_iconst 59 hX 2 dX9_begin_58 rfl kc_i_2 ?_
          refine g_icmp_ne 72 62 hX dX9_begin_59 (by decide) rfl (fun _ => ?_) (fun _ => ?_)
          · refine g_lv [1, 3, 0] rfl ?_
            exact k_X9_begin_72 hX hr N (fun M a0 x1 x2 => F_X9_begin_24 N n M a0 x1 x2) ih M a0 x2 r7
          · refine g_lv [1, 3, 0] rfl ?_
            exact k_X9_begin_62 hX hr N (fun M a0 x1 x2 => F_X9_begin_24 N n M a0 x1 x2) ih M a0 x2 r7
set_option maxRecDepth 100000 in
set_option maxHeartbeats 4000000 in
theorem k_X9_begin (l : Launch) (g : kG) (N : Nat) (M : kMem) (a0 : Nat) : kMet l g yX9_begin cX9_begin 4 none 3 0 0 [.ref a0] M (fun r : kMem => (none, r)) (F_X9_begin N M a0) := by
  refine k_of (lv := [(0, .ref a0)]) RX9 (by decide) rfl rfl (Nat.le_of_ble_eq_true rfl) ?_
  intro p e s m args below meth c hX hr _
  unfold F_X9_begin
  refine g_aload_n 1 0 hX dX9_begin_0 rfl rfl ?_
  refine g_iconst 2 hX 0 dX9_begin_1 rfl kc_i_0 ?_
  refine p_X9_29 5 hX dX9_begin_2 rfl ?_
  refine g_klM (fun M1 hM1 => ?_)
  refine g_aload_n 6 0 hX dX9_begin_5 rfl rfl ?_
  refine g_iconst 7 hX (-1) dX9_begin_6 rfl kc_i_m1 ?_
  refine p_X9_21 10 hX dX9_begin_7 rfl ?_
  refine g_klM (fun M2 hM2 => ?_)
  refine g_aload_n 11 0 hX dX9_begin_10 rfl rfl ?_
  refine g_iconst 12 hX 0 dX9_begin_11 rfl kc_i_0 ?_
  refine p_X9_32 15 hX dX9_begin_12 rfl ?_
  refine g_klM (fun M3 hM3 => ?_)
  refine g_aload_n 16 0 hX dX9_begin_15 rfl rfl ?_
  refine g_iconst 17 hX 0 dX9_begin_16 rfl kc_i_0 ?_
  refine p_X9_35 20 hX dX9_begin_17 rfl ?_
  refine g_klM (fun M4 hM4 => ?_)
  refine g_iconst 21 hX 0 dX9_begin_20 rfl kc_i_0 ?_
  refine g_istore_n 22 1 [(1, .int 0), (0, .ref a0)] hX dX9_begin_21 rfl rfl (Nat.le_of_ble_eq_true rfl) rfl ?_
  refine g_iconst 23 hX 0 dX9_begin_22 rfl kc_i_0 ?_
  refine g_istore_n 24 2 [(2, .int 0), (1, .int 0), (0, .ref a0)] hX dX9_begin_23 rfl rfl (Nat.le_of_ble_eq_true rfl) rfl ?_
  refine g_lv [2, 1, 0] rfl ?_
  exact k_X9_begin_24 hX hr N N M4 a0 0 0
def F_X9_failed (N : Nat) (M : kMem) (a0 : Nat) : Option (Int32) :=
    kg (kt M a0 9) <|
    if (kI M a0 6) = 0 then (
      some 0) else
    some 1
set_option maxRecDepth 100000 in
set_option maxHeartbeats 4000000 in
theorem k_X9_failed (l : Launch) (g : kG) (N : Nat) (M : kMem) (a0 : Nat) : kMet l g yX9_failed cX9_failed 1 (some .boolean) 1 0 0 [.ref a0] M (fun r : Int32 => (some (.int r), M)) (F_X9_failed N M a0) := by
  refine k_of (lv := [(0, .ref a0)]) RX9 (by decide) rfl rfl (Nat.le_of_ble_eq_true rfl) ?_
  intro p e s m args below meth c hX hr _
  unfold F_X9_failed
  refine g_aload_n 1 0 hX dX9_failed_0 rfl rfl ?_
  refine r_X9_29 4 hX dX9_failed_1 rfl ?_
  refine g_if_eq 11 7 hX dX9_failed_4 (by decide) rfl (fun _ => ?_) (fun _ => ?_)
  · refine g_iconst 12 hX 0 dX9_failed_11 rfl kc_i_0 ?_
    exact g_zretL hX hr rfl rfl (Nat.le_refl 0) (Nat.le_refl 0) dX9_failed_12
  · refine g_iconst 8 hX 1 dX9_failed_7 rfl kc_i_1 ?_
    refine g_goto 12 hX dX9_failed_8 (by decide) ?_
    exact g_zretL hX hr rfl rfl (Nat.le_refl 0) (Nat.le_refl 0) dX9_failed_12
def F_X9_failAt (N : Nat) (M : kMem) (a0 : Nat) (x1 : Int32) (x2 : Int32) : Option (kMem) :=
    kg (kt M a0 9) <|
    if (kI M a0 6) = 0 then (
      if x1 < 0 then (
        some M) else
      kg (kt M a0 9) <|
      if x1 < (kI M a0 4) then (
        kg (kt M a0 9) <| kl (ksI M a0 6 x2) fun M1 =>
        kg (kt M1 a0 9) <|
        kg (kin M1 (kR M1 a0 2) 13 x1) <|
        kg (kt M1 a0 9) <| kl (ksI M1 a0 7 (kI M1 (kR M1 a0 2) (kx x1))) fun M2 =>
        some M2) else
      some M) else
    some M
set_option maxRecDepth 100000 in
set_option maxHeartbeats 4000000 in
theorem k_X9_failAt (l : Launch) (g : kG) (N : Nat) (M : kMem) (a0 : Nat) (x1 : Int32) (x2 : Int32) : kMet l g yX9_failAt cX9_failAt 3 none 1 0 0 [.ref a0, .int x1, .int x2] M (fun r : kMem => (none, r)) (F_X9_failAt N M a0 x1 x2) := by
  refine k_of (lv := [(0, .ref a0), (1, .int x1), (2, .int x2)]) RX9 (by decide) rfl rfl (Nat.le_of_ble_eq_true rfl) ?_
  intro p e s m args below meth c hX hr _
  unfold F_X9_failAt
  refine g_aload_n 1 0 hX dX9_failAt_0 rfl rfl ?_
  refine r_X9_29 4 hX dX9_failAt_1 rfl ?_
  refine g_if_ne 34 7 hX dX9_failAt_4 (by decide) rfl (fun _ => ?_) (fun _ => ?_)
  · exact g_vret hX hr rfl (Nat.le_refl 0) (Nat.le_refl 0) dX9_failAt_34
  · refine g_iload_n 8 1 hX dX9_failAt_7 rfl rfl ?_
    refine g_if_lt 34 11 hX dX9_failAt_8 (by decide) rfl (fun _ => ?_) (fun _ => ?_)
    · exact g_vret hX hr rfl (Nat.le_refl 0) (Nat.le_refl 0) dX9_failAt_34
    · refine g_iload_n 12 1 hX dX9_failAt_11 rfl rfl ?_
      refine g_aload_n 13 0 hX dX9_failAt_12 rfl rfl ?_
      refine r_X9_35 16 hX dX9_failAt_13 rfl ?_
      refine g_icmp_ge 34 19 hX dX9_failAt_16 (by decide) rfl (fun _ => ?_) (fun _ => ?_)
      · exact g_vret hX hr rfl (Nat.le_refl 0) (Nat.le_refl 0) dX9_failAt_34
      · refine g_aload_n 20 0 hX dX9_failAt_19 rfl rfl ?_
        refine g_iload_n 21 2 hX dX9_failAt_20 rfl rfl ?_
        refine p_X9_29 24 hX dX9_failAt_21 rfl ?_
        refine g_klM (fun M1 hM1 => ?_)
        refine g_aload_n 25 0 hX dX9_failAt_24 rfl rfl ?_
        refine g_aload_n 26 0 hX dX9_failAt_25 rfl rfl ?_
        refine r_X9_15 29 hX dX9_failAt_26 rfl ?_
        refine g_iload_n 30 1 hX dX9_failAt_29 rfl rfl ?_
        refine g_iald 31 hX dX9_failAt_30 rfl ?_
        refine p_X9_21 34 hX dX9_failAt_31 rfl ?_
        refine g_klM (fun M2 hM2 => ?_)
        exact g_vret hX hr rfl (Nat.le_refl 0) (Nat.le_refl 0) dX9_failAt_34
def F_X9_refuse (N : Nat) (M : kMem) (a0 : Nat) (x1 : Int32) : Option (kMem) :=
    kg (kt M a0 9) <|
    kg (kt M a0 9) <| (F_X9_failAt N M a0 (kI M a0 5) x1).bind fun M1 =>
    some M1
set_option maxRecDepth 100000 in
set_option maxHeartbeats 4000000 in
theorem k_X9_refuse (l : Launch) (g : kG) (N : Nat) (M : kMem) (a0 : Nat) (x1 : Int32) : kMet l g yX9_refuse cX9_refuse 2 none 2 0 0 [.ref a0, .int x1] M (fun r : kMem => (none, r)) (F_X9_refuse N M a0 x1) := by
  refine k_of (lv := [(0, .ref a0), (1, .int x1)]) RX9 (by decide) rfl rfl (Nat.le_of_ble_eq_true rfl) ?_
  intro p e s m args below meth c hX hr _
  unfold F_X9_refuse
  refine g_aload_n 1 0 hX dX9_refuse_0 rfl rfl ?_
  refine g_aload_n 2 0 hX dX9_refuse_1 rfl rfl ?_
  refine r_X9_32 5 hX dX9_refuse_2 rfl ?_
  refine g_iload_n 6 1 hX dX9_refuse_5 rfl rfl ?_
  refine g_callV_v 9 hX (k_X9_failAt l g N M a0 (kI M a0 5) x1) lk_X9_failAt rfl (ci := 9) rfl (Nat.le_of_ble_eq_true rfl) q_609 q_5 (by omega) rfl (Nat.le_of_ble_eq_true rfl) (Nat.zero_le _) (Nat.zero_le _) dX9_refuse_6 rfl (fun M1 => ?_)
  exact g_vret hX hr rfl (Nat.le_refl 0) (Nat.le_refl 0) dX9_refuse_9
def F_X9_refuseTaken (N : Nat) (M : kMem) (a0 : Nat) (x1 : Int32) : Option (kMem) :=
    kg (kt M a0 9) <|
    kg (kt M a0 9) <| (F_X9_failAt N M a0 ((kI M a0 5) - 1) x1).bind fun M1 =>
    some M1
set_option maxRecDepth 100000 in
set_option maxHeartbeats 4000000 in
theorem k_X9_refuseTaken (l : Launch) (g : kG) (N : Nat) (M : kMem) (a0 : Nat) (x1 : Int32) : kMet l g yX9_refuseTaken cX9_refuseTaken 2 none 2 0 0 [.ref a0, .int x1] M (fun r : kMem => (none, r)) (F_X9_refuseTaken N M a0 x1) := by
  refine k_of (lv := [(0, .ref a0), (1, .int x1)]) RX9 (by decide) rfl rfl (Nat.le_of_ble_eq_true rfl) ?_
  intro p e s m args below meth c hX hr _
  unfold F_X9_refuseTaken
  refine g_aload_n 1 0 hX dX9_refuseTaken_0 rfl rfl ?_
  refine g_aload_n 2 0 hX dX9_refuseTaken_1 rfl rfl ?_
  refine r_X9_32 5 hX dX9_refuseTaken_2 rfl ?_
  refine g_iconst 6 hX 1 dX9_refuseTaken_5 rfl kc_i_1 ?_
  refine g_isub 7 hX dX9_refuseTaken_6 rfl ?_
  refine g_iload_n 8 1 hX dX9_refuseTaken_7 rfl rfl ?_
  refine g_callV_v 11 hX (k_X9_failAt l g N M a0 ((kI M a0 5) - 1) x1) lk_X9_failAt rfl (ci := 9) rfl (Nat.le_of_ble_eq_true rfl) q_609 q_5 (by omega) rfl (Nat.le_of_ble_eq_true rfl) (Nat.zero_le _) (Nat.zero_le _) dX9_refuseTaken_8 rfl (fun M1 => ?_)
  exact g_vret hX hr rfl (Nat.le_refl 0) (Nat.le_refl 0) dX9_refuseTaken_11
def F_X9_at (N : Nat) (M : kMem) (a0 : Nat) (x1 : Int32) : Option (Int32) :=
    kg (kt M a0 9) <|
    if (kI M a0 6) = 0 then (
      kg (kt M a0 9) <|
      kg (kt M a0 9) <|
      if (kI M a0 5) < (kI M a0 4) then (
        kg (kt M a0 9) <|
        kg (kt M a0 9) <|
        kg (kin M (kR M a0 1) 13 (kI M a0 5)) <|
        if (kI M (kR M a0 1) (kx (kI M a0 5))) = x1 then (
          some 1) else
        some 0) else
      some 0) else
    some 0
set_option maxRecDepth 100000 in
set_option maxHeartbeats 4000000 in
theorem k_X9_at (l : Launch) (g : kG) (N : Nat) (M : kMem) (a0 : Nat) (x1 : Int32) : kMet l g yX9_at cX9_at 2 (some .boolean) 1 0 0 [.ref a0, .int x1] M (fun r : Int32 => (some (.int r), M)) (F_X9_at N M a0 x1) := by
  refine k_of (lv := [(0, .ref a0), (1, .int x1)]) RX9 (by decide) rfl rfl (Nat.le_of_ble_eq_true rfl) ?_
  intro p e s m args below meth c hX hr _
  unfold F_X9_at
  refine g_aload_n 1 0 hX dX9_at_0 rfl rfl ?_
  refine r_X9_29 4 hX dX9_at_1 rfl ?_
  refine g_if_ne 35 7 hX dX9_at_4 (by decide) rfl (fun _ => ?_) (fun _ => ?_)
  · refine g_iconst 36 hX 0 dX9_at_35 rfl kc_i_0 ?_
    exact g_zretL hX hr rfl rfl (Nat.le_refl 0) (Nat.le_refl 0) dX9_at_36
  · refine g_aload_n 8 0 hX dX9_at_7 rfl rfl ?_
    refine r_X9_32 11 hX dX9_at_8 rfl ?_
    refine g_aload_n 12 0 hX dX9_at_11 rfl rfl ?_
    refine r_X9_35 15 hX dX9_at_12 rfl ?_
    refine g_icmp_ge 35 18 hX dX9_at_15 (by decide) rfl (fun _ => ?_) (fun _ => ?_)
    · refine g_iconst 36 hX 0 dX9_at_35 rfl kc_i_0 ?_
      exact g_zretL hX hr rfl rfl (Nat.le_refl 0) (Nat.le_refl 0) dX9_at_36
    · refine g_aload_n 19 0 hX dX9_at_18 rfl rfl ?_
      refine r_X9_9 22 hX dX9_at_19 rfl ?_
      refine g_aload_n 23 0 hX dX9_at_22 rfl rfl ?_
      refine r_X9_32 26 hX dX9_at_23 rfl ?_
      refine g_iald 27 hX dX9_at_26 rfl ?_
      refine g_iload_n 28 1 hX dX9_at_27 rfl rfl ?_
      refine g_icmp_ne 35 31 hX dX9_at_28 (by decide) rfl (fun _ => ?_) (fun _ => ?_)
      · refine g_iconst 36 hX 0 dX9_at_35 rfl kc_i_0 ?_
        exact g_zretL hX hr rfl rfl (Nat.le_refl 0) (Nat.le_refl 0) dX9_at_36
      · refine g_iconst 32 hX 1 dX9_at_31 rfl kc_i_1 ?_
        refine g_goto 36 hX dX9_at_32 (by decide) ?_
        exact g_zretL hX hr rfl rfl (Nat.le_refl 0) (Nat.le_refl 0) dX9_at_36
def F_X9_atEnd (N : Nat) (M : kMem) (a0 : Nat) : Option (Int32) :=
    kg (kt M a0 9) <| (F_X9_failed N M a0).bind fun r1 =>
    if r1 = 0 then (
      kg (kt M a0 9) <| (F_X9_at N M a0 4).bind fun r2 =>
      if r2 = 0 then (
        some 0) else
      some 1) else
    some 1
set_option maxRecDepth 100000 in
set_option maxHeartbeats 4000000 in
theorem k_X9_atEnd (l : Launch) (g : kG) (N : Nat) (M : kMem) (a0 : Nat) : kMet l g yX9_atEnd cX9_atEnd 1 (some .boolean) 2 0 0 [.ref a0] M (fun r : Int32 => (some (.int r), M)) (F_X9_atEnd N M a0) := by
  refine k_of (lv := [(0, .ref a0)]) RX9 (by decide) rfl rfl (Nat.le_of_ble_eq_true rfl) ?_
  intro p e s m args below meth c hX hr _
  unfold F_X9_atEnd
  refine g_aload_n 1 0 hX dX9_atEnd_0 rfl rfl ?_
  refine g_callV_ip 4 hX (k_X9_failed l g N M a0) lk_X9_failed rfl (ci := 9) rfl (Nat.le_of_ble_eq_true rfl) q_821 q_649 (by omega) rfl (Nat.le_of_ble_eq_true rfl) (Nat.zero_le _) (Nat.zero_le _) dX9_atEnd_1 rfl (fun r1 => ?_)
  refine g_if_ne 15 7 hX dX9_atEnd_4 (by decide) rfl (fun _ => ?_) (fun _ => ?_)
  · refine g_iconst 16 hX 1 dX9_atEnd_15 rfl kc_i_1 ?_
    refine g_goto 20 hX dX9_atEnd_16 (by decide) ?_
    exact g_zretL hX hr rfl rfl (Nat.le_refl 0) (Nat.le_refl 0) dX9_atEnd_20
  · refine g_aload_n 8 0 hX dX9_atEnd_7 rfl rfl ?_
    refine g_iconst 9 hX 4 dX9_atEnd_8 rfl kc_i_4 ?_
    refine g_callV_ip 12 hX (k_X9_at l g N M a0 4) lk_X9_at rfl (ci := 9) rfl (Nat.le_of_ble_eq_true rfl) q_599 q_3 (by omega) rfl (Nat.le_of_ble_eq_true rfl) (Nat.zero_le _) (Nat.zero_le _) dX9_atEnd_9 rfl (fun r2 => ?_)
    refine g_if_eq 19 15 hX dX9_atEnd_12 (by decide) rfl (fun _ => ?_) (fun _ => ?_)
    · refine g_iconst 20 hX 0 dX9_atEnd_19 rfl kc_i_0 ?_
      exact g_zretL hX hr rfl rfl (Nat.le_refl 0) (Nat.le_refl 0) dX9_atEnd_20
    · refine g_iconst 16 hX 1 dX9_atEnd_15 rfl kc_i_1 ?_
      refine g_goto 20 hX dX9_atEnd_16 (by decide) ?_
      exact g_zretL hX hr rfl rfl (Nat.le_refl 0) (Nat.le_refl 0) dX9_atEnd_20
def F_X9_atSign (N : Nat) (M : kMem) (a0 : Nat) (x1 : Int32) : Option (Int32) :=
    kg (kt M a0 9) <| (F_X9_at N M a0 3).bind fun r1 =>
    if r1 = 0 then (
      some 0) else
    kg (kt M a0 9) <|
    kg (kt M a0 9) <|
    kg (kt M a0 9) <|
    kg (kin M (kR M a0 2) 13 (kI M a0 5)) <|
    kg (kt M (kR M a0 0) 8) <| (F_X8_byteAt N M (kR M a0 0) (kI M (kR M a0 2) (kx (kI M a0 5)))).bind fun r2 =>
    if r2 = x1 then (
      some 1) else
    some 0
set_option maxRecDepth 100000 in
set_option maxHeartbeats 4000000 in
theorem k_X9_atSign (l : Launch) (g : kG) (N : Nat) (M : kMem) (a0 : Nat) (x1 : Int32) : kMet l g yX9_atSign cX9_atSign 2 (some .boolean) 2 0 0 [.ref a0, .int x1] M (fun r : Int32 => (some (.int r), M)) (F_X9_atSign N M a0 x1) := by
  refine k_of (lv := [(0, .ref a0), (1, .int x1)]) RX9 (by decide) rfl rfl (Nat.le_of_ble_eq_true rfl) ?_
  intro p e s m args below meth c hX hr _
  unfold F_X9_atSign
  refine g_aload_n 1 0 hX dX9_atSign_0 rfl rfl ?_
  refine g_iconst 2 hX 3 dX9_atSign_1 rfl kc_i_3 ?_
  refine g_callV_ip 5 hX (k_X9_at l g N M a0 3) lk_X9_at rfl (ci := 9) rfl (Nat.le_of_ble_eq_true rfl) q_599 q_3 (by omega) rfl (Nat.le_of_ble_eq_true rfl) (Nat.zero_le _) (Nat.zero_le _) dX9_atSign_2 rfl (fun r1 => ?_)
  refine g_if_eq 32 8 hX dX9_atSign_5 (by decide) rfl (fun _ => ?_) (fun _ => ?_)
  · refine g_iconst 33 hX 0 dX9_atSign_32 rfl kc_i_0 ?_
    exact g_zretL hX hr rfl rfl (Nat.le_refl 0) (Nat.le_refl 0) dX9_atSign_33
  · refine g_aload_n 9 0 hX dX9_atSign_8 rfl rfl ?_
    refine r_X9_25 12 hX dX9_atSign_9 rfl ?_
    refine g_aload_n 13 0 hX dX9_atSign_12 rfl rfl ?_
    refine r_X9_15 16 hX dX9_atSign_13 rfl ?_
    refine g_aload_n 17 0 hX dX9_atSign_16 rfl rfl ?_
    refine r_X9_32 20 hX dX9_atSign_17 rfl ?_
    refine g_iald 21 hX dX9_atSign_20 rfl ?_
    refine g_callV_ip 24 hX (k_X8_byteAt l g N M (kR M a0 0) (kI M (kR M a0 2) (kx (kI M a0 5)))) lk_X8_byteAt rfl (ci := 8) rfl (Nat.le_of_ble_eq_true rfl) q_558 q_560 (by omega) rfl (Nat.le_of_ble_eq_true rfl) (Nat.zero_le _) (Nat.zero_le _) dX9_atSign_21 rfl (fun r2 => ?_)
    refine g_iload_n 25 1 hX dX9_atSign_24 rfl rfl ?_
    refine g_icmp_ne 32 28 hX dX9_atSign_25 (by decide) rfl (fun _ => ?_) (fun _ => ?_)
    · refine g_iconst 33 hX 0 dX9_atSign_32 rfl kc_i_0 ?_
      exact g_zretL hX hr rfl rfl (Nat.le_refl 0) (Nat.le_refl 0) dX9_atSign_33
    · refine g_iconst 29 hX 1 dX9_atSign_28 rfl kc_i_1 ?_
      refine g_goto 33 hX dX9_atSign_29 (by decide) ?_
      exact g_zretL hX hr rfl rfl (Nat.le_refl 0) (Nat.le_refl 0) dX9_atSign_33
def F_X9_takeIf (N : Nat) (M : kMem) (a0 : Nat) (x1 : Int32) : Option (kMem) :=
    if x1 = 0 then (
      kg (kt M a0 9) <|
      kg (kt M a0 9) <| (F_X9_failAt N M a0 (kI M a0 5) 1).bind fun M2 =>
      some M2) else
    kg (kt M a0 9) <|
    if (kI M a0 6) = 0 then (
      kg (kt M a0 9) <|
      kg (kt M a0 9) <| kl (ksI M a0 5 ((kI M a0 5) + 1)) fun M1 =>
      some M1) else
    some M
set_option maxRecDepth 100000 in
set_option maxHeartbeats 4000000 in
theorem k_X9_takeIf (l : Launch) (g : kG) (N : Nat) (M : kMem) (a0 : Nat) (x1 : Int32) : kMet l g yX9_takeIf cX9_takeIf 2 none 2 0 0 [.ref a0, .int x1] M (fun r : kMem => (none, r)) (F_X9_takeIf N M a0 x1) := by
  refine k_of (lv := [(0, .ref a0), (1, .int x1)]) RX9 (by decide) rfl rfl (Nat.le_of_ble_eq_true rfl) ?_
  intro p e s m args below meth c hX hr _
  unfold F_X9_takeIf
  refine g_iload_n 1 1 hX dX9_takeIf_0 rfl rfl ?_
  refine g_if_ne 16 4 hX dX9_takeIf_1 (by decide) rfl (fun _ => ?_) (fun _ => ?_)
  · refine g_aload_n 17 0 hX dX9_takeIf_16 rfl rfl ?_
    refine r_X9_29 20 hX dX9_takeIf_17 rfl ?_
    refine g_if_ne 33 23 hX dX9_takeIf_20 (by decide) rfl (fun _ => ?_) (fun _ => ?_)
    · exact g_vret hX hr rfl (Nat.le_refl 0) (Nat.le_refl 0) dX9_takeIf_33
    · refine g_aload_n 24 0 hX dX9_takeIf_23 rfl rfl ?_
      refine g_dup 25 hX dX9_takeIf_24 rfl rfl ?_
      refine r_X9_32 28 hX dX9_takeIf_25 rfl ?_
      refine g_iconst 29 hX 1 dX9_takeIf_28 rfl kc_i_1 ?_
      refine g_iadd 30 hX dX9_takeIf_29 rfl ?_
      refine p_X9_32 33 hX dX9_takeIf_30 rfl ?_
      refine g_klM (fun M1 hM1 => ?_)
      exact g_vret hX hr rfl (Nat.le_refl 0) (Nat.le_refl 0) dX9_takeIf_33
  · refine g_aload_n 5 0 hX dX9_takeIf_4 rfl rfl ?_
    refine g_aload_n 6 0 hX dX9_takeIf_5 rfl rfl ?_
    refine r_X9_32 9 hX dX9_takeIf_6 rfl ?_
    refine g_iconst 10 hX 1 dX9_takeIf_9 rfl kc_i_1 ?_
    refine g_callV_v 13 hX (k_X9_failAt l g N M a0 (kI M a0 5) 1) lk_X9_failAt rfl (ci := 9) rfl (Nat.le_of_ble_eq_true rfl) q_609 q_5 (by omega) rfl (Nat.le_of_ble_eq_true rfl) (Nat.zero_le _) (Nat.zero_le _) dX9_takeIf_10 rfl (fun M2 => ?_)
    refine g_goto 33 hX dX9_takeIf_13 (by decide) ?_
    exact g_vret hX hr rfl (Nat.le_refl 0) (Nat.le_refl 0) dX9_takeIf_33
def F_X9_takeAnyWord (N : Nat) (M : kMem) (a0 : Nat) : Option (kMem) :=
    kg (kt M a0 9) <| (F_X9_at N M a0 1).bind fun r1 =>
    kg (kt M a0 9) <| (F_X9_takeIf N M a0 r1).bind fun M2 =>
    some M2
set_option maxRecDepth 100000 in
set_option maxHeartbeats 4000000 in
theorem k_X9_takeAnyWord (l : Launch) (g : kG) (N : Nat) (M : kMem) (a0 : Nat) : kMet l g yX9_takeAnyWord cX9_takeAnyWord 1 none 3 0 0 [.ref a0] M (fun r : kMem => (none, r)) (F_X9_takeAnyWord N M a0) := by
  refine k_of (lv := [(0, .ref a0)]) RX9 (by decide) rfl rfl (Nat.le_of_ble_eq_true rfl) ?_
  intro p e s m args below meth c hX hr _
  unfold F_X9_takeAnyWord
  refine g_aload_n 1 0 hX dX9_takeAnyWord_0 rfl rfl ?_
  refine g_aload_n 2 0 hX dX9_takeAnyWord_1 rfl rfl ?_
  refine g_iconst 3 hX 1 dX9_takeAnyWord_2 rfl kc_i_1 ?_
  refine g_callV_ip 6 hX (k_X9_at l g N M a0 1) lk_X9_at rfl (ci := 9) rfl (Nat.le_of_ble_eq_true rfl) q_599 q_3 (by omega) rfl (Nat.le_of_ble_eq_true rfl) (Nat.zero_le _) (Nat.zero_le _) dX9_takeAnyWord_3 rfl (fun r1 => ?_)
  refine g_callV_v 9 hX (k_X9_takeIf l g N M a0 r1) lk_X9_takeIf rfl (ci := 9) rfl (Nat.le_of_ble_eq_true rfl) q_605 q_4 (by omega) rfl (Nat.le_of_ble_eq_true rfl) (Nat.zero_le _) (Nat.zero_le _) dX9_takeAnyWord_6 rfl (fun M2 => ?_)
  exact g_vret hX hr rfl (Nat.le_refl 0) (Nat.le_refl 0) dX9_takeAnyWord_9
def F_X9_takeSign (N : Nat) (M : kMem) (a0 : Nat) (x1 : Int32) : Option (kMem) :=
    kg (kt M a0 9) <| (F_X9_atSign N M a0 x1).bind fun r1 =>
    kg (kt M a0 9) <| (F_X9_takeIf N M a0 r1).bind fun M2 =>
    some M2
set_option maxRecDepth 100000 in
set_option maxHeartbeats 4000000 in
theorem k_X9_takeSign (l : Launch) (g : kG) (N : Nat) (M : kMem) (a0 : Nat) (x1 : Int32) : kMet l g yX9_takeSign cX9_takeSign 2 none 3 0 0 [.ref a0, .int x1] M (fun r : kMem => (none, r)) (F_X9_takeSign N M a0 x1) := by
  refine k_of (lv := [(0, .ref a0), (1, .int x1)]) RX9 (by decide) rfl rfl (Nat.le_of_ble_eq_true rfl) ?_
  intro p e s m args below meth c hX hr _
  unfold F_X9_takeSign
  refine g_aload_n 1 0 hX dX9_takeSign_0 rfl rfl ?_
  refine g_aload_n 2 0 hX dX9_takeSign_1 rfl rfl ?_
  refine g_iload_n 3 1 hX dX9_takeSign_2 rfl rfl ?_
  refine g_callV_ip 6 hX (k_X9_atSign l g N M a0 x1) lk_X9_atSign rfl (ci := 9) rfl (Nat.le_of_ble_eq_true rfl) q_634 q_636 (by omega) rfl (Nat.le_of_ble_eq_true rfl) (Nat.zero_le _) (Nat.zero_le _) dX9_takeSign_3 rfl (fun r1 => ?_)
  refine g_callV_v 9 hX (k_X9_takeIf l g N M a0 r1) lk_X9_takeIf rfl (ci := 9) rfl (Nat.le_of_ble_eq_true rfl) q_605 q_4 (by omega) rfl (Nat.le_of_ble_eq_true rfl) (Nat.zero_le _) (Nat.zero_le _) dX9_takeSign_6 rfl (fun M2 => ?_)
  exact g_vret hX hr rfl (Nat.le_refl 0) (Nat.le_refl 0) dX9_takeSign_9
def F_X9_takeName (N : Nat) (M : kMem) (a0 : Nat) (a1 : Nat) : Option (kMem) :=
    kg (kt M a0 9) <| (F_X9_at N M a0 1).bind fun r1 =>
    if r1 = 0 then (
      kg (kt M a0 9) <| (F_X9_takeIf N M a0 0).bind fun M2 =>
      some M2) else
    kg (kt M a0 9) <|
    kg (kt M a0 9) <|
    kg (kt M a0 9) <|
    kg (kin M (kR M a0 2) 13 (kI M a0 5)) <|
    kg (kt M a0 9) <|
    kg (kt M a0 9) <|
    kg (kin M (kR M a0 3) 13 (kI M a0 5)) <|
    kg (kt M a1 5) <| (F_X5_read N M a1 (kR M a0 0) (kI M (kR M a0 2) (kx (kI M a0 5))) (kI M (kR M a0 3) (kx (kI M a0 5)))).bind fun r3 =>
    if r3.1 = 0 then (
      kg (kt r3.2 a0 9) <| (F_X9_takeIf N r3.2 a0 0).bind fun M4 =>
      some M4) else
    kg (kt r3.2 a0 9) <| (F_X9_takeIf N r3.2 a0 1).bind fun M5 =>
    some M5
set_option maxRecDepth 100000 in
set_option maxHeartbeats 4000000 in
theorem k_X9_takeName (l : Launch) (g : kG) (N : Nat) (M : kMem) (a0 : Nat) (a1 : Nat) : kMet l g yX9_takeName cX9_takeName 2 none 3 0 0 [.ref a0, .ref a1] M (fun r : kMem => (none, r)) (F_X9_takeName N M a0 a1) := by
  refine k_of (lv := [(0, .ref a0), (1, .ref a1)]) RX9 (by decide) rfl rfl (Nat.le_of_ble_eq_true rfl) ?_
  intro p e s m args below meth c hX hr _
  unfold F_X9_takeName
  refine g_aload_n 1 0 hX dX9_takeName_0 rfl rfl ?_
  refine g_aload_n 2 0 hX dX9_takeName_1 rfl rfl ?_
  refine g_iconst 3 hX 1 dX9_takeName_2 rfl kc_i_1 ?_
  refine g_callV_ip 6 hX (k_X9_at l g N M a0 1) lk_X9_at rfl (ci := 9) rfl (Nat.le_of_ble_eq_true rfl) q_599 q_3 (by omega) rfl (Nat.le_of_ble_eq_true rfl) (Nat.zero_le _) (Nat.zero_le _) dX9_takeName_3 rfl (fun r1 => ?_)
  refine g_if_eq 42 9 hX dX9_takeName_6 (by decide) rfl (fun _ => ?_) (fun _ => ?_)
  · refine g_iconst 43 hX 0 dX9_takeName_42 rfl kc_i_0 ?_
    refine g_callV_v 46 hX (k_X9_takeIf l g N M a0 0) lk_X9_takeIf rfl (ci := 9) rfl (Nat.le_of_ble_eq_true rfl) q_605 q_4 (by omega) rfl (Nat.le_of_ble_eq_true rfl) (Nat.zero_le _) (Nat.zero_le _) dX9_takeName_43 rfl (fun M2 => ?_)
    exact g_vret hX hr rfl (Nat.le_refl 0) (Nat.le_refl 0) dX9_takeName_46
  · refine g_aload_n 10 1 hX dX9_takeName_9 rfl rfl ?_
    refine g_aload_n 11 0 hX dX9_takeName_10 rfl rfl ?_
    refine r_X9_25 14 hX dX9_takeName_11 rfl ?_
    refine g_aload_n 15 0 hX dX9_takeName_14 rfl rfl ?_
    refine r_X9_15 18 hX dX9_takeName_15 rfl ?_
    refine g_aload_n 19 0 hX dX9_takeName_18 rfl rfl ?_
    refine r_X9_32 22 hX dX9_takeName_19 rfl ?_
    refine g_iald 23 hX dX9_takeName_22 rfl ?_
    refine g_aload_n 24 0 hX dX9_takeName_23 rfl rfl ?_
    refine r_X9_18 27 hX dX9_takeName_24 rfl ?_
    refine g_aload_n 28 0 hX dX9_takeName_27 rfl rfl ?_
    refine r_X9_32 31 hX dX9_takeName_28 rfl ?_
    refine g_iald 32 hX dX9_takeName_31 rfl ?_
    refine g_callV_i 35 hX (k_X5_read l g N M a1 (kR M a0 0) (kI M (kR M a0 2) (kx (kI M a0 5))) (kI M (kR M a0 3) (kx (kI M a0 5)))) lk_X5_read rfl (ci := 5) rfl (Nat.le_of_ble_eq_true rfl) q_669 q_671 (by omega) rfl (Nat.le_of_ble_eq_true rfl) (Nat.zero_le _) (Nat.zero_le _) dX9_takeName_32 rfl (fun r3 => ?_)
    refine g_if_eq 42 38 hX dX9_takeName_35 (by decide) rfl (fun _ => ?_) (fun _ => ?_)
    · refine g_iconst 43 hX 0 dX9_takeName_42 rfl kc_i_0 ?_
      refine g_callV_v 46 hX (k_X9_takeIf l g N r3.2 a0 0) lk_X9_takeIf rfl (ci := 9) rfl (Nat.le_of_ble_eq_true rfl) q_605 q_4 (by omega) rfl (Nat.le_of_ble_eq_true rfl) (Nat.zero_le _) (Nat.zero_le _) dX9_takeName_43 rfl (fun M4 => ?_)
      exact g_vret hX hr rfl (Nat.le_refl 0) (Nat.le_refl 0) dX9_takeName_46
    · refine g_iconst 39 hX 1 dX9_takeName_38 rfl kc_i_1 ?_
      refine g_goto 43 hX dX9_takeName_39 (by decide) ?_
      refine g_callV_v 46 hX (k_X9_takeIf l g N r3.2 a0 1) lk_X9_takeIf rfl (ci := 9) rfl (Nat.le_of_ble_eq_true rfl) q_605 q_4 (by omega) rfl (Nat.le_of_ble_eq_true rfl) (Nat.zero_le _) (Nat.zero_le _) dX9_takeName_43 rfl (fun M5 => ?_)
      exact g_vret hX hr rfl (Nat.le_refl 0) (Nat.le_refl 0) dX9_takeName_46
def F_X9_valueHere_12 (N : Nat) (M : kMem) : Nat → Nat → Int32 → Int32 → Option (Int32)
  | 0, _, _, _ => none
  | n + 1, a0, x1, x2 =>
    kg (kt M a0 9) <|
    kg (kt M a0 9) <|
    kg (kin M (kR M a0 3) 13 (kI M a0 5)) <|
    if x2 < (kI M (kR M a0 3) (kx (kI M a0 5))) then (
      kg (kt M a0 9) <|
      kg (kt M (kR M a0 0) 8) <| (F_X8_byteAt N M (kR M a0 0) x2).bind fun r2 =>
      kl (kmin 1000000 (((x1 * 10) + r2) - 48)) fun v3 =>
      kl (x2 + 1) fun v4 =>
      F_X9_valueHere_12 N M n a0 v3 v4) else
    some x1
def F_X9_valueHere (N : Nat) (M : kMem) (a0 : Nat) : Option (Int32) :=
    kg (kt M a0 9) <|
    kg (kt M a0 9) <|
    kg (kin M (kR M a0 2) 13 (kI M a0 5)) <|
    kl (kI M (kR M a0 2) (kx (kI M a0 5))) fun v1 =>
    F_X9_valueHere_12 N M N a0 0 v1
set_option maxRecDepth 100000 in
set_option maxHeartbeats 4000000 in
theorem k_X9_valueHere_12 {p : Program} {l : Launch} {e : Env} {s : State} {m : MethodId} {args : Array Value} {below : List Frame} {meth : Method} {c : Code} {g : kG} (hX : Cok (p, l, e, { frames := 2 * 2, cells := 0, slots := 0, locals := 60 * 2 }, s, m, args, below, meth, c, cX9_valueHere, 3, RX9, g, 2)) (hr : meth.sig.returnType = (some .int)) (N : Nat) (M : kMem) : ∀ (n : Nat) (a0 : Nat) (x1 : Int32) (x2 : Int32), GG (p, l, e, { frames := 2 * 2, cells := 0, slots := 0, locals := 60 * 2 }, s, m, args, below, meth, c, cX9_valueHere, 3, RX9, g, 2) (fun b => MQ below (kQ g ((fun r : Int32 => (some (.int r), M)) b)) args s 0 0 (kZ g.2.2.1)) 0 0 (F_X9_valueHere_12 N M n a0 x1 x2) 12 [(0, .ref a0), (1, .int x1), (2, .int x2)] [] M := by
  intro n
  induction n with
  | zero => intro _ _ _; exact g_none
  | succ n ih =>
    intro a0 x1 x2
    unfold F_X9_valueHere_12
    refine g_iload_n 13 2 hX dX9_valueHere_12 rfl rfl ?_
    refine g_aload_n 14 0 hX dX9_valueHere_13 rfl rfl ?_
    refine r_X9_18 17 hX dX9_valueHere_14 rfl ?_
    refine g_aload_n 18 0 hX dX9_valueHere_17 rfl rfl ?_
    refine r_X9_32 21 hX dX9_valueHere_18 rfl ?_
    refine g_iald 22 hX dX9_valueHere_21 rfl ?_
    refine g_icmp_ge 53 25 hX dX9_valueHere_22 (by decide) rfl (fun _ => ?_) (fun _ => ?_)
    · refine g_iload_n 54 1 hX dX9_valueHere_53 rfl rfl ?_
      exact g_iret hX hr rfl (Nat.le_refl 0) (Nat.le_refl 0) dX9_valueHere_54
    · refine g_ldc 27 hX 1000000 dX9_valueHere_25 rfl q_621 ?_
      refine g_iload_n 28 1 hX dX9_valueHere_27 rfl rfl ?_
      refine g_bipush 30 hX 10 dX9_valueHere_28 rfl kc_b_10 ?_
      refine g_imul 31 hX dX9_valueHere_30 rfl ?_
      refine g_aload_n 32 0 hX dX9_valueHere_31 rfl rfl ?_
      refine r_X9_25 35 hX dX9_valueHere_32 rfl ?_
      refine g_iload_n 36 2 hX dX9_valueHere_35 rfl rfl ?_
      refine g_callV_ip 39 hX (k_X8_byteAt l g N M (kR M a0 0) x2) lk_X8_byteAt rfl (ci := 8) rfl (Nat.le_of_ble_eq_true rfl) q_558 q_560 (by omega) rfl (Nat.le_of_ble_eq_true rfl) (Nat.zero_le _) (Nat.zero_le _) dX9_valueHere_36 rfl (fun r2 => ?_)
      refine g_iadd 40 hX dX9_valueHere_39 rfl ?_
      refine g_bipush 42 hX 48 dX9_valueHere_40 rfl kc_b_48 ?_
      refine g_isub 43 hX dX9_valueHere_42 rfl ?_
      refine g_mmin 46 hX q_622 dX9_valueHere_43 rfl (Nat.le_of_ble_eq_true rfl) (by decide) (Nat.zero_le _) (Nat.zero_le _) ?_
      refine g_klI (fun v3 hv3 => ?_)
      refine g_istore_n 47 1 [(1, .int v3), (0, .ref a0), (2, .int x2)] hX dX9_valueHere_46 rfl rfl (Nat.le_of_ble_eq_true rfl) rfl ?_
      refine g_kl (fun v4 hv4 => ?_)
      refine g_iinc 50 2 2 v4 [(2, .int v4), (1, .int v3), (0, .ref a0)] hX dX9_valueHere_47 rfl rfl (by rw [hv4, kc_i_1]) (Nat.le_of_ble_eq_true rfl) rfl ?_
      refine g_goto 12 hX dX9_valueHere_50 (by decide) ?_
      refine g_lv [2, 1, 0] rfl ?_
      exact ih a0 v3 v4
set_option maxRecDepth 100000 in
set_option maxHeartbeats 4000000 in
theorem k_X9_valueHere (l : Launch) (g : kG) (N : Nat) (M : kMem) (a0 : Nat) : kMet l g yX9_valueHere cX9_valueHere 3 (some .int) 2 0 0 [.ref a0] M (fun r : Int32 => (some (.int r), M)) (F_X9_valueHere N M a0) := by
  refine k_of (lv := [(0, .ref a0)]) RX9 (by decide) rfl rfl (Nat.le_of_ble_eq_true rfl) ?_
  intro p e s m args below meth c hX hr _
  unfold F_X9_valueHere
  refine g_iconst 1 hX 0 dX9_valueHere_0 rfl kc_i_0 ?_
  refine g_istore_n 2 1 [(1, .int 0), (0, .ref a0)] hX dX9_valueHere_1 rfl rfl (Nat.le_of_ble_eq_true rfl) rfl ?_
  refine g_aload_n 3 1 hX dX9_valueHere_2 rfl rfl ?_
  refine r_X9_15 6 hX dX9_valueHere_3 rfl ?_
  refine g_aload_n 7 1 hX dX9_valueHere_6 rfl rfl ?_
  refine r_X9_32 10 hX dX9_valueHere_7 rfl ?_
  refine g_iald 11 hX dX9_valueHere_10 rfl ?_
  refine g_klI (fun v1 hv1 => ?_)
  refine g_istore_n 12 2 [(2, .int v1), (1, .int 0), (0, .ref a0)] hX dX9_valueHere_11 rfl rfl (Nat.le_of_ble_eq_true rfl) rfl ?_
  refine g_lv [2, 1, 0] rfl ?_
  exact k_X9_valueHere_12 hX hr N M N a0 0 v1
def F_X9_takeNumber_41 (N : Nat) (M : kMem) (a0 : Nat) (x3 : Int32) (x4 : Int32) : Option (Int32 × kMem) :=
    kg (kt M a0 9) <| (F_X9_takeIf N M a0 x3).bind fun M2 =>
    kg (kt M2 a0 9) <|
    if (kI M2 a0 6) = 0 then (
      some (x4, M2)) else
    some ((-1), M2)
def F_X9_takeNumber_36 (N : Nat) (M : kMem) (a0 : Nat) (x3 : Int32) (x4 : Int32) : Option (Int32 × kMem) :=
    kg (kt M a0 9) <| (F_X9_refuse N M a0 2).bind fun M3 =>
    F_X9_takeNumber_41 N M3 a0 x3 x4
def F_X9_takeNumber_18 (N : Nat) (M : kMem) (a0 : Nat) (x1 : Int32) (x2 : Int32) (x3 : Int32) (y0 : Int32) : Option (Int32 × kMem) :=
    if x3 = 0 then (
      F_X9_takeNumber_41 N M a0 x3 y0) else
    if y0 < x1 then (
      F_X9_takeNumber_36 N M a0 x3 y0) else
    if x2 < y0 then (
      F_X9_takeNumber_36 N M a0 x3 y0) else
    F_X9_takeNumber_41 N M a0 x3 y0
def F_X9_takeNumber (N : Nat) (M : kMem) (a0 : Nat) (x1 : Int32) (x2 : Int32) : Option (Int32 × kMem) :=
    kg (kt M a0 9) <| (F_X9_at N M a0 2).bind fun r1 =>
    if r1 = 0 then (
      F_X9_takeNumber_18 N M a0 x1 x2 r1 (-1)) else
    kg (kt M a0 9) <| (F_X9_valueHere N M a0).bind fun r4 =>
    F_X9_takeNumber_18 N M a0 x1 x2 r1 r4
set_option maxRecDepth 100000 in
set_option maxHeartbeats 4000000 in
theorem k_X9_takeNumber_41 {p : Program} {l : Launch} {e : Env} {s : State} {m : MethodId} {args : Array Value} {below : List Frame} {meth : Method} {c : Code} {g : kG} (hX : Cok (p, l, e, { frames := 2 * 3, cells := 0, slots := 0, locals := 60 * 3 }, s, m, args, below, meth, c, cX9_takeNumber, 5, RX9, g, 3)) (hr : meth.sig.returnType = (some .int)) (N : Nat) : ∀ (M : kMem) (a0 : Nat) (x3 : Int32) (x4 : Int32), GG (p, l, e, { frames := 2 * 3, cells := 0, slots := 0, locals := 60 * 3 }, s, m, args, below, meth, c, cX9_takeNumber, 5, RX9, g, 3) (fun b => MQ below (kQ g ((fun r : Int32 × kMem => (some (.int r.1), r.2)) b)) args s 0 0 (kZ g.2.2.1)) 0 0 (F_X9_takeNumber_41 N M a0 x3 x4) 41 [(0, .ref a0), (3, .int x3), (4, .int x4)] [] M := by
  intro M a0 x3 x4
  unfold F_X9_takeNumber_41
  refine g_aload_n 42 0 hX dX9_takeNumber_41 rfl rfl ?_
  refine g_iload_n 43 1 hX dX9_takeNumber_42 rfl rfl ?_
  refine g_callV_v 46 hX (k_X9_takeIf l g N M a0 x3) lk_X9_takeIf rfl (ci := 9) rfl (Nat.le_of_ble_eq_true rfl) q_605 q_4 (by omega) rfl (Nat.le_of_ble_eq_true rfl) (Nat.zero_le _) (Nat.zero_le _) dX9_takeNumber_43 rfl (fun M2 => ?_)
  refine g_aload_n 47 0 hX dX9_takeNumber_46 rfl rfl ?_
  refine r_X9_29 50 hX dX9_takeNumber_47 rfl ?_
  refine g_if_ne 58 53 hX dX9_takeNumber_50 (by decide) rfl (fun _ => ?_) (fun _ => ?_)
  · refine g_iconst 59 hX (-1) dX9_takeNumber_58 rfl kc_i_m1 ?_
    exact g_iret hX hr rfl (Nat.le_refl 0) (Nat.le_refl 0) dX9_takeNumber_59
  · refine g_iload 55 2 hX dX9_takeNumber_53 rfl rfl ?_
    refine g_goto 59 hX dX9_takeNumber_55 (by decide) ?_
    exact g_iret hX hr rfl (Nat.le_refl 0) (Nat.le_refl 0) dX9_takeNumber_59
set_option maxRecDepth 100000 in
set_option maxHeartbeats 4000000 in
theorem k_X9_takeNumber_36 {p : Program} {l : Launch} {e : Env} {s : State} {m : MethodId} {args : Array Value} {below : List Frame} {meth : Method} {c : Code} {g : kG} (hX : Cok (p, l, e, { frames := 2 * 3, cells := 0, slots := 0, locals := 60 * 3 }, s, m, args, below, meth, c, cX9_takeNumber, 5, RX9, g, 3)) (hr : meth.sig.returnType = (some .int)) (N : Nat) : ∀ (M : kMem) (a0 : Nat) (x3 : Int32) (x4 : Int32), GG (p, l, e, { frames := 2 * 3, cells := 0, slots := 0, locals := 60 * 3 }, s, m, args, below, meth, c, cX9_takeNumber, 5, RX9, g, 3) (fun b => MQ below (kQ g ((fun r : Int32 × kMem => (some (.int r.1), r.2)) b)) args s 0 0 (kZ g.2.2.1)) 0 0 (F_X9_takeNumber_36 N M a0 x3 x4) 36 [(0, .ref a0), (3, .int x3), (4, .int x4)] [] M := by
  intro M a0 x3 x4
  unfold F_X9_takeNumber_36
  refine g_aload_n 37 0 hX dX9_takeNumber_36 rfl rfl ?_
  refine g_iconst 38 hX 2 dX9_takeNumber_37 rfl kc_i_2 ?_
  refine g_callV_v 41 hX (k_X9_refuse l g N M a0 2) lk_X9_refuse rfl (ci := 9) rfl (Nat.le_of_ble_eq_true rfl) q_625 q_627 (by omega) rfl (Nat.le_of_ble_eq_true rfl) (Nat.zero_le _) (Nat.zero_le _) dX9_takeNumber_38 rfl (fun M3 => ?_)
  exact k_X9_takeNumber_41 hX hr N M3 a0 x3 x4
set_option maxRecDepth 100000 in
set_option maxHeartbeats 4000000 in
theorem k_X9_takeNumber_18 {p : Program} {l : Launch} {e : Env} {s : State} {m : MethodId} {args : Array Value} {below : List Frame} {meth : Method} {c : Code} {g : kG} (hX : Cok (p, l, e, { frames := 2 * 3, cells := 0, slots := 0, locals := 60 * 3 }, s, m, args, below, meth, c, cX9_takeNumber, 5, RX9, g, 3)) (hr : meth.sig.returnType = (some .int)) (N : Nat) : ∀ (M : kMem) (a0 : Nat) (x1 : Int32) (x2 : Int32) (x3 : Int32) (y0 : Int32), GG (p, l, e, { frames := 2 * 3, cells := 0, slots := 0, locals := 60 * 3 }, s, m, args, below, meth, c, cX9_takeNumber, 5, RX9, g, 3) (fun b => MQ below (kQ g ((fun r : Int32 × kMem => (some (.int r.1), r.2)) b)) args s 0 0 (kZ g.2.2.1)) 0 0 (F_X9_takeNumber_18 N M a0 x1 x2 x3 y0) 18 [(0, .ref a0), (1, .int x1), (2, .int x2), (3, .int x3)] [.int y0] M := by
  intro M a0 x1 x2 x3 y0
  unfold F_X9_takeNumber_18
  refine g_istore 20 4 [(4, .int y0), (0, .ref a0), (1, .int x1), (2, .int x2), (3, .int x3)] hX dX9_takeNumber_18 rfl (Nat.le_of_ble_eq_true rfl) rfl ?_
  refine g_iload_n 21 4 hX dX9_takeNumber_20 rfl rfl ?_
  refine g_if_eq 41 24 hX dX9_takeNumber_21 (by decide) rfl (fun _ => ?_) (fun _ => ?_)
  · refine g_lv [1, 4, 0] rfl ?_
    exact k_X9_takeNumber_41 hX hr N M a0 x3 y0
  · refine g_iload 26 0 hX dX9_takeNumber_24 rfl rfl ?_
    refine g_iload_n 27 2 hX dX9_takeNumber_26 rfl rfl ?_
    refine g_icmp_lt 36 30 hX dX9_takeNumber_27 (by decide) rfl (fun _ => ?_) (fun _ => ?_)
    · refine g_lv [1, 4, 0] rfl ?_
      exact k_X9_takeNumber_36 hX hr N M a0 x3 y0
    · refine g_iload 32 0 hX dX9_takeNumber_30 rfl rfl ?_
      refine g_iload_n 33 3 hX dX9_takeNumber_32 rfl rfl ?_
      refine g_icmp_le 41 36 hX dX9_takeNumber_33 (by decide) rfl (fun _ => ?_) (fun _ => ?_)
      · refine g_lv [1, 4, 0] rfl ?_
        exact k_X9_takeNumber_41 hX hr N M a0 x3 y0
      · refine g_lv [1, 4, 0] rfl ?_
        exact k_X9_takeNumber_36 hX hr N M a0 x3 y0
set_option maxRecDepth 100000 in
set_option maxHeartbeats 4000000 in
theorem k_X9_takeNumber (l : Launch) (g : kG) (N : Nat) (M : kMem) (a0 : Nat) (x1 : Int32) (x2 : Int32) : kMet l g yX9_takeNumber cX9_takeNumber 5 (some .int) 3 0 0 [.ref a0, .int x1, .int x2] M (fun r : Int32 × kMem => (some (.int r.1), r.2)) (F_X9_takeNumber N M a0 x1 x2) := by
  refine k_of (lv := [(0, .ref a0), (1, .int x1), (2, .int x2)]) RX9 (by decide) rfl rfl (Nat.le_of_ble_eq_true rfl) ?_
  intro p e s m args below meth c hX hr _
  unfold F_X9_takeNumber
  refine g_aload_n 1 0 hX dX9_takeNumber_0 rfl rfl ?_
  refine g_iconst 2 hX 2 dX9_takeNumber_1 rfl kc_i_2 ?_
  refine g_callV_ip 5 hX (k_X9_at l g N M a0 2) lk_X9_at rfl (ci := 9) rfl (Nat.le_of_ble_eq_true rfl) q_599 q_3 (by omega) rfl (Nat.le_of_ble_eq_true rfl) (Nat.zero_le _) (Nat.zero_le _) dX9_takeNumber_2 rfl (fun r1 => ?_)
  refine g_istore_n 6 3 [(3, .int r1), (0, .ref a0), (1, .int x1), (2, .int x2)] hX dX9_takeNumber_5 rfl rfl (Nat.le_of_ble_eq_true rfl) rfl ?_
  refine g_iload_n 7 0 hX dX9_takeNumber_6 rfl rfl ?_
  refine g_if_eq 17 10 hX dX9_takeNumber_7 (by decide) rfl (fun _ => ?_) (fun _ => ?_)
  · refine g_iconst 18 hX (-1) dX9_takeNumber_17 rfl kc_i_m1 ?_
    refine g_lv [1, 2, 3, 0] rfl ?_
    exact k_X9_takeNumber_18 hX hr N M a0 x1 x2 r1 (-1)
  · refine g_aload_n 11 1 hX dX9_takeNumber_10 rfl rfl ?_
    refine g_callV_ip 14 hX (k_X9_valueHere l g N M a0) lk_X9_valueHere rfl (ci := 9) rfl (Nat.le_of_ble_eq_true rfl) q_617 q_6 (by omega) rfl (Nat.le_of_ble_eq_true rfl) (Nat.zero_le _) (Nat.zero_le _) dX9_takeNumber_11 rfl (fun r4 => ?_)
    refine g_goto 18 hX dX9_takeNumber_14 (by decide) ?_
    refine g_lv [1, 2, 3, 0] rfl ?_
    exact k_X9_takeNumber_18 hX hr N M a0 x1 x2 r1 r4
def F_X9_takeEnd (N : Nat) (M : kMem) (a0 : Nat) : Option (kMem) :=
    kg (kt M a0 9) <| (F_X9_at N M a0 4).bind fun r1 =>
    if r1 = 0 then (
      kg (kt M a0 9) <| (F_X9_refuse N M a0 1).bind fun M2 =>
      some M2) else
    some M
set_option maxRecDepth 100000 in
set_option maxHeartbeats 4000000 in
theorem k_X9_takeEnd (l : Launch) (g : kG) (N : Nat) (M : kMem) (a0 : Nat) : kMet l g yX9_takeEnd cX9_takeEnd 1 none 3 0 0 [.ref a0] M (fun r : kMem => (none, r)) (F_X9_takeEnd N M a0) := by
  refine k_of (lv := [(0, .ref a0)]) RX9 (by decide) rfl rfl (Nat.le_of_ble_eq_true rfl) ?_
  intro p e s m args below meth c hX hr _
  unfold F_X9_takeEnd
  refine g_aload_n 1 0 hX dX9_takeEnd_0 rfl rfl ?_
  refine g_iconst 2 hX 4 dX9_takeEnd_1 rfl kc_i_4 ?_
  refine g_callV_ip 5 hX (k_X9_at l g N M a0 4) lk_X9_at rfl (ci := 9) rfl (Nat.le_of_ble_eq_true rfl) q_599 q_3 (by omega) rfl (Nat.le_of_ble_eq_true rfl) (Nat.zero_le _) (Nat.zero_le _) dX9_takeEnd_2 rfl (fun r1 => ?_)
  refine g_if_ne 13 8 hX dX9_takeEnd_5 (by decide) rfl (fun _ => ?_) (fun _ => ?_)
  · exact g_vret hX hr rfl (Nat.le_refl 0) (Nat.le_refl 0) dX9_takeEnd_13
  · refine g_aload_n 9 0 hX dX9_takeEnd_8 rfl rfl ?_
    refine g_iconst 10 hX 1 dX9_takeEnd_9 rfl kc_i_1 ?_
    refine g_callV_v 13 hX (k_X9_refuse l g N M a0 1) lk_X9_refuse rfl (ci := 9) rfl (Nat.le_of_ble_eq_true rfl) q_625 q_627 (by omega) rfl (Nat.le_of_ble_eq_true rfl) (Nat.zero_le _) (Nat.zero_le _) dX9_takeEnd_10 rfl (fun M2 => ?_)
    exact g_vret hX hr rfl (Nat.le_refl 0) (Nat.le_refl 0) dX9_takeEnd_13
def F_X7_readBoard (N : Nat) (M : kMem) (a0 : Nat) (a1 : Nat) : Option (kMem) :=
    kg (kt M a0 9) <| (F_X9_takeAnyWord N M a0).bind fun M1 =>
    kg (kt M1 a0 9) <| (F_X9_takeNumber N M1 a0 1 6).bind fun r2 =>
    kl r2.1 fun v3 =>
    kg (kt r2.2 a0 9) <| (F_X9_takeNumber N r2.2 a0 1 99).bind fun r4 =>
    kl r4.1 fun v5 =>
    kg (kt r4.2 a0 9) <| (F_X9_takeNumber N r4.2 a0 0 999).bind fun r6 =>
    kl r6.1 fun v7 =>
    kg (kt r6.2 a0 9) <| (F_X9_takeSign N r6.2 a0 59).bind fun M8 =>
    kg (kt M8 a0 9) <| (F_X9_failed N M8 a0).bind fun r9 =>
    if r9 = 0 then (
      kg (kt M8 a1 4) <| (F_X4_addBoard N M8 a1 v3 v5 v7).bind fun M10 =>
      some M10) else
    some M8
set_option maxRecDepth 100000 in
set_option maxHeartbeats 4000000 in
theorem k_X7_readBoard (l : Launch) (g : kG) (N : Nat) (M : kMem) (a0 : Nat) (a1 : Nat) : kMet l g yX7_readBoard cX7_readBoard 5 none 4 0 0 [.ref a0, .ref a1] M (fun r : kMem => (none, r)) (F_X7_readBoard N M a0 a1) := by
  refine k_of (lv := [(0, .ref a0), (1, .ref a1)]) RX7 (by decide) rfl rfl (Nat.le_of_ble_eq_true rfl) ?_
  intro p e s m args below meth c hX hr _
  unfold F_X7_readBoard
  refine g_aload_n 1 0 hX dX7_readBoard_0 rfl rfl ?_
  refine g_callV_v 4 hX (k_X9_takeAnyWord l g N M a0) lk_X9_takeAnyWord rfl (ci := 9) rfl (Nat.le_of_ble_eq_true rfl) q_643 q_645 (by omega) rfl (Nat.le_of_ble_eq_true rfl) (Nat.zero_le _) (Nat.zero_le _) dX7_readBoard_1 rfl (fun M1 => ?_)
  refine g_aload_n 5 0 hX dX7_readBoard_4 rfl rfl ?_
  refine g_iconst 6 hX 1 dX7_readBoard_5 rfl kc_i_1 ?_
  refine g_bipush 8 hX 6 dX7_readBoard_6 rfl kc_b_6 ?_
  refine g_callV_i 11 hX (k_X9_takeNumber l g N M1 a0 1 6) lk_X9_takeNumber rfl (ci := 9) rfl (Nat.le_of_ble_eq_true rfl) q_613 q_615 (by omega) rfl (Nat.le_of_ble_eq_true rfl) (Nat.zero_le _) (Nat.zero_le _) dX7_readBoard_8 rfl (fun r2 => ?_)
  refine g_klI (fun v3 hv3 => ?_)
  refine g_istore_n 12 2 [(2, .int v3), (0, .ref a0), (1, .ref a1)] hX dX7_readBoard_11 rfl rfl (Nat.le_of_ble_eq_true rfl) rfl ?_
  refine g_aload_n 13 1 hX dX7_readBoard_12 rfl rfl ?_
  refine g_iconst 14 hX 1 dX7_readBoard_13 rfl kc_i_1 ?_
  refine g_bipush 16 hX 99 dX7_readBoard_14 rfl kc_b_99 ?_
  refine g_callV_i 19 hX (k_X9_takeNumber l g N r2.2 a0 1 99) lk_X9_takeNumber rfl (ci := 9) rfl (Nat.le_of_ble_eq_true rfl) q_613 q_615 (by omega) rfl (Nat.le_of_ble_eq_true rfl) (Nat.zero_le _) (Nat.zero_le _) dX7_readBoard_16 rfl (fun r4 => ?_)
  refine g_klI (fun v5 hv5 => ?_)
  refine g_istore_n 20 3 [(3, .int v5), (2, .int v3), (0, .ref a0), (1, .ref a1)] hX dX7_readBoard_19 rfl rfl (Nat.le_of_ble_eq_true rfl) rfl ?_
  refine g_aload_n 21 2 hX dX7_readBoard_20 rfl rfl ?_
  refine g_iconst 22 hX 0 dX7_readBoard_21 rfl kc_i_0 ?_
  refine g_sipush 25 hX 999 dX7_readBoard_22 rfl kc_s_999 ?_
  refine g_callV_i 28 hX (k_X9_takeNumber l g N r4.2 a0 0 999) lk_X9_takeNumber rfl (ci := 9) rfl (Nat.le_of_ble_eq_true rfl) q_613 q_615 (by omega) rfl (Nat.le_of_ble_eq_true rfl) (Nat.zero_le _) (Nat.zero_le _) dX7_readBoard_25 rfl (fun r6 => ?_)
  refine g_klI (fun v7 hv7 => ?_)
  refine g_istore 30 4 [(4, .int v7), (3, .int v5), (2, .int v3), (0, .ref a0), (1, .ref a1)] hX dX7_readBoard_28 rfl (Nat.le_of_ble_eq_true rfl) rfl ?_
  refine g_aload_n 31 3 hX dX7_readBoard_30 rfl rfl ?_
  refine g_bipush 33 hX 59 dX7_readBoard_31 rfl kc_b_59 ?_
  refine g_callV_v 36 hX (k_X9_takeSign l g N r6.2 a0 59) lk_X9_takeSign rfl (ci := 9) rfl (Nat.le_of_ble_eq_true rfl) q_630 q_632 (by omega) rfl (Nat.le_of_ble_eq_true rfl) (Nat.zero_le _) (Nat.zero_le _) dX7_readBoard_33 rfl (fun M8 => ?_)
  refine g_aload_n 37 3 hX dX7_readBoard_36 rfl rfl ?_
  refine g_callV_ip 40 hX (k_X9_failed l g N M8 a0) lk_X9_failed rfl (ci := 9) rfl (Nat.le_of_ble_eq_true rfl) q_647 q_649 (by omega) rfl (Nat.le_of_ble_eq_true rfl) (Nat.zero_le _) (Nat.zero_le _) dX7_readBoard_37 rfl (fun r9 => ?_)
  refine g_if_ne 51 43 hX dX7_readBoard_40 (by decide) rfl (fun _ => ?_) (fun _ => ?_)
  · exact g_vret hX hr rfl (Nat.le_refl 0) (Nat.le_refl 0) dX7_readBoard_51
  · refine g_aload_n 44 4 hX dX7_readBoard_43 rfl rfl ?_
    refine g_iload_n 45 2 hX dX7_readBoard_44 rfl rfl ?_
    refine g_iload_n 46 1 hX dX7_readBoard_45 rfl rfl ?_
    refine g_iload 48 0 hX dX7_readBoard_46 rfl rfl ?_
    refine g_callV_v 51 hX (k_X4_addBoard l g N M8 a1 v3 v5 v7) lk_X4_addBoard rfl (ci := 4) rfl (Nat.le_of_ble_eq_true rfl) q_651 q_653 (by omega) rfl (Nat.le_of_ble_eq_true rfl) (Nat.zero_le _) (Nat.zero_le _) dX7_readBoard_48 rfl (fun M10 => ?_)
    exact g_vret hX hr rfl (Nat.le_refl 0) (Nat.le_refl 0) dX7_readBoard_51
def F_X7_readTrader_28 (N : Nat) (M : kMem) (a0 : Nat) (a1 : Nat) (a2 : Nat) : Option (kMem) :=
    kg (kt M a1 9) <| (F_X9_takeNumber N M a1 1 99).bind fun r4 =>
    kl r4.1 fun v5 =>
    kg (kt r4.2 a1 9) <| (F_X9_takeNumber N r4.2 a1 0 9999).bind fun r6 =>
    kl r6.1 fun v7 =>
    kg (kt r6.2 a2 4) <|
    kg (kt r6.2 a1 9) <| (F_X9_takeNumber N r6.2 a1 0 (kI r6.2 a2 5)).bind fun r8 =>
    kl r8.1 fun v9 =>
    kg (kt r8.2 a1 9) <| (F_X9_takeSign N r8.2 a1 59).bind fun M10 =>
    kg (kt M10 a1 9) <| (F_X9_failed N M10 a1).bind fun r11 =>
    if r11 = 0 then (
      kg (kt M10 a0 7) <|
      kg (kt M10 a2 4) <| (F_X4_admit N M10 a2 (kR M10 a0 0) v5 v7 v9).bind fun r12 =>
      some r12.2) else
    some M10
def F_X7_readTrader (N : Nat) (M : kMem) (a0 : Nat) (a1 : Nat) (a2 : Nat) : Option (kMem) :=
    kg (kt M a1 9) <| (F_X9_takeAnyWord N M a1).bind fun M1 =>
    kg (kt M1 a0 7) <|
    kg (kt M1 a1 9) <| (F_X9_takeName N M1 a1 (kR M1 a0 0)).bind fun M2 =>
    kg (kt M2 a0 7) <|
    kg (kt M2 a2 4) <| (F_X4_traderNamed N M2 a2 (kR M2 a0 0)).bind fun r3 =>
    if r3 = 0 then (
      F_X7_readTrader_28 N M2 a0 a1 a2) else
    kg (kt M2 a1 9) <| (F_X9_refuseTaken N M2 a1 3).bind fun M13 =>
    F_X7_readTrader_28 N M13 a0 a1 a2
set_option maxRecDepth 100000 in
set_option maxHeartbeats 4000000 in
theorem k_X7_readTrader_28 {p : Program} {l : Launch} {e : Env} {s : State} {m : MethodId} {args : Array Value} {below : List Frame} {meth : Method} {c : Code} {g : kG} (hX : Cok (p, l, e, { frames := 2 * 4, cells := 0, slots := 0, locals := 60 * 4 }, s, m, args, below, meth, c, cX7_readTrader, 6, RX7, g, 4)) (hr : meth.sig.returnType = none) (N : Nat) : ∀ (M : kMem) (a0 : Nat) (a1 : Nat) (a2 : Nat), GG (p, l, e, { frames := 2 * 4, cells := 0, slots := 0, locals := 60 * 4 }, s, m, args, below, meth, c, cX7_readTrader, 6, RX7, g, 4) (fun b => MQ below (kQ g ((fun r : kMem => (none, r)) b)) args s 0 0 (kZ g.2.2.1)) 0 0 (F_X7_readTrader_28 N M a0 a1 a2) 28 [(0, .ref a0), (1, .ref a1), (2, .ref a2)] [] M := by
  intro M a0 a1 a2
  unfold F_X7_readTrader_28
  refine g_aload_n 29 1 hX dX7_readTrader_28 rfl rfl ?_
  refine g_iconst 30 hX 1 dX7_readTrader_29 rfl kc_i_1 ?_
  refine g_bipush 32 hX 99 dX7_readTrader_30 rfl kc_b_99 ?_
  refine g_callV_i 35 hX (k_X9_takeNumber l g N M a1 1 99) lk_X9_takeNumber rfl (ci := 9) rfl (Nat.le_of_ble_eq_true rfl) q_613 q_615 (by omega) rfl (Nat.le_of_ble_eq_true rfl) (Nat.zero_le _) (Nat.zero_le _) dX7_readTrader_32 rfl (fun r4 => ?_)
  refine g_klI (fun v5 hv5 => ?_)
  refine g_istore_n 36 3 [(3, .int v5), (0, .ref a0), (1, .ref a1), (2, .ref a2)] hX dX7_readTrader_35 rfl rfl (Nat.le_of_ble_eq_true rfl) rfl ?_
  refine g_aload_n 37 2 hX dX7_readTrader_36 rfl rfl ?_
  refine g_iconst 38 hX 0 dX7_readTrader_37 rfl kc_i_0 ?_
  refine g_sipush 41 hX 9999 dX7_readTrader_38 rfl kc_s_9999 ?_
  refine g_callV_i 44 hX (k_X9_takeNumber l g N r4.2 a1 0 9999) lk_X9_takeNumber rfl (ci := 9) rfl (Nat.le_of_ble_eq_true rfl) q_613 q_615 (by omega) rfl (Nat.le_of_ble_eq_true rfl) (Nat.zero_le _) (Nat.zero_le _) dX7_readTrader_41 rfl (fun r6 => ?_)
  refine g_klI (fun v7 hv7 => ?_)
  refine g_istore 46 4 [(4, .int v7), (3, .int v5), (0, .ref a0), (1, .ref a1), (2, .ref a2)] hX dX7_readTrader_44 rfl (Nat.le_of_ble_eq_true rfl) rfl ?_
  refine g_aload_n 47 3 hX dX7_readTrader_46 rfl rfl ?_
  refine g_iconst 48 hX 0 dX7_readTrader_47 rfl kc_i_0 ?_
  refine g_aload_n 49 4 hX dX7_readTrader_48 rfl rfl ?_
  refine r_X7_75 52 hX dX7_readTrader_49 rfl ?_
  refine g_callV_i 55 hX (k_X9_takeNumber l g N r6.2 a1 0 (kI r6.2 a2 5)) lk_X9_takeNumber rfl (ci := 9) rfl (Nat.le_of_ble_eq_true rfl) q_613 q_615 (by omega) rfl (Nat.le_of_ble_eq_true rfl) (Nat.zero_le _) (Nat.zero_le _) dX7_readTrader_52 rfl (fun r8 => ?_)
  refine g_klI (fun v9 hv9 => ?_)
  refine g_istore 57 5 [(5, .int v9), (4, .int v7), (3, .int v5), (0, .ref a0), (1, .ref a1), (2, .ref a2)] hX dX7_readTrader_55 rfl (Nat.le_of_ble_eq_true rfl) rfl ?_
  refine g_aload_n 58 4 hX dX7_readTrader_57 rfl rfl ?_
  refine g_bipush 60 hX 59 dX7_readTrader_58 rfl kc_b_59 ?_
  refine g_callV_v 63 hX (k_X9_takeSign l g N r8.2 a1 59) lk_X9_takeSign rfl (ci := 9) rfl (Nat.le_of_ble_eq_true rfl) q_630 q_632 (by omega) rfl (Nat.le_of_ble_eq_true rfl) (Nat.zero_le _) (Nat.zero_le _) dX7_readTrader_60 rfl (fun M10 => ?_)
  refine g_aload_n 64 4 hX dX7_readTrader_63 rfl rfl ?_
  refine g_callV_ip 67 hX (k_X9_failed l g N M10 a1) lk_X9_failed rfl (ci := 9) rfl (Nat.le_of_ble_eq_true rfl) q_647 q_649 (by omega) rfl (Nat.le_of_ble_eq_true rfl) (Nat.zero_le _) (Nat.zero_le _) dX7_readTrader_64 rfl (fun r11 => ?_)
  refine g_if_ne 84 70 hX dX7_readTrader_67 (by decide) rfl (fun _ => ?_) (fun _ => ?_)
  · exact g_vret hX hr rfl (Nat.le_refl 0) (Nat.le_refl 0) dX7_readTrader_84
  · refine g_aload_n 71 5 hX dX7_readTrader_70 rfl rfl ?_
    refine g_aload_n 72 3 hX dX7_readTrader_71 rfl rfl ?_
    refine r_X7_12 75 hX dX7_readTrader_72 rfl ?_
    refine g_iload_n 76 2 hX dX7_readTrader_75 rfl rfl ?_
    refine g_iload 78 1 hX dX7_readTrader_76 rfl rfl ?_
    refine g_iload 80 0 hX dX7_readTrader_78 rfl rfl ?_
    refine g_callV_i 83 hX (k_X4_admit l g N M10 a2 (kR M10 a0 0) v5 v7 v9) lk_X4_admit rfl (ci := 4) rfl (Nat.le_of_ble_eq_true rfl) q_691 q_693 (by omega) rfl (Nat.le_of_ble_eq_true rfl) (Nat.zero_le _) (Nat.zero_le _) dX7_readTrader_80 rfl (fun r12 => ?_)
    refine g_pop 84 hX dX7_readTrader_83 rfl rfl ?_
    exact g_vret hX hr rfl (Nat.le_refl 0) (Nat.le_refl 0) dX7_readTrader_84
set_option maxRecDepth 100000 in
set_option maxHeartbeats 4000000 in
theorem k_X7_readTrader (l : Launch) (g : kG) (N : Nat) (M : kMem) (a0 : Nat) (a1 : Nat) (a2 : Nat) : kMet l g yX7_readTrader cX7_readTrader 6 none 4 0 0 [.ref a0, .ref a1, .ref a2] M (fun r : kMem => (none, r)) (F_X7_readTrader N M a0 a1 a2) := by
  refine k_of (lv := [(0, .ref a0), (1, .ref a1), (2, .ref a2)]) RX7 (by decide) rfl rfl (Nat.le_of_ble_eq_true rfl) ?_
  intro p e s m args below meth c hX hr _
  unfold F_X7_readTrader
  refine g_aload_n 1 1 hX dX7_readTrader_0 rfl rfl ?_
  refine g_callV_v 4 hX (k_X9_takeAnyWord l g N M a1) lk_X9_takeAnyWord rfl (ci := 9) rfl (Nat.le_of_ble_eq_true rfl) q_643 q_645 (by omega) rfl (Nat.le_of_ble_eq_true rfl) (Nat.zero_le _) (Nat.zero_le _) dX7_readTrader_1 rfl (fun M1 => ?_)
  refine g_aload_n 5 1 hX dX7_readTrader_4 rfl rfl ?_
  refine g_aload_n 6 0 hX dX7_readTrader_5 rfl rfl ?_
  refine r_X7_12 9 hX dX7_readTrader_6 rfl ?_
  refine g_callV_v 12 hX (k_X9_takeName l g N M1 a1 (kR M1 a0 0)) lk_X9_takeName rfl (ci := 9) rfl (Nat.le_of_ble_eq_true rfl) q_665 q_667 (by omega) rfl (Nat.le_of_ble_eq_true rfl) (Nat.zero_le _) (Nat.zero_le _) dX7_readTrader_9 rfl (fun M2 => ?_)
  refine g_aload_n 13 2 hX dX7_readTrader_12 rfl rfl ?_
  refine g_aload_n 14 0 hX dX7_readTrader_13 rfl rfl ?_
  refine r_X7_12 17 hX dX7_readTrader_14 rfl ?_
  refine g_callV_rp 20 hX (k_X4_traderNamed l g N M2 a2 (kR M2 a0 0)) lk_X4_traderNamed rfl (ci := 4) rfl (Nat.le_of_ble_eq_true rfl) q_675 q_677 (by omega) rfl (Nat.le_of_ble_eq_true rfl) (Nat.zero_le _) (Nat.zero_le _) dX7_readTrader_17 rfl (fun r3 => ?_)
  refine g_ifnull 28 23 hX dX7_readTrader_20 (by decide) rfl (fun _ => ?_) (fun _ => ?_)
  · exact k_X7_readTrader_28 hX hr N M2 a0 a1 a2
  · refine g_aload_n 24 1 hX dX7_readTrader_23 rfl rfl ?_
    refine g_iconst 25 hX 3 dX7_readTrader_24 rfl kc_i_3 ?_
    refine g_callV_v 28 hX (k_X9_refuseTaken l g N M2 a1 3) lk_X9_refuseTaken rfl (ci := 9) rfl (Nat.le_of_ble_eq_true rfl) q_687 q_689 (by omega) rfl (Nat.le_of_ble_eq_true rfl) (Nat.zero_le _) (Nat.zero_le _) dX7_readTrader_25 rfl (fun M13 => ?_)
    exact k_X7_readTrader_28 hX hr N M13 a0 a1 a2
def F_X1_readTwoNames (N : Nat) (M : kMem) (a0 : Nat) (a1 : Nat) : Option (kMem) :=
    kg (kt M a0 1) <|
    kg (kt M a1 9) <| (F_X9_takeName N M a1 (kR M a0 1)).bind fun M1 =>
    kg (kt M1 a0 1) <|
    kg (kt M1 a1 9) <| (F_X9_takeName N M1 a1 (kR M1 a0 2)).bind fun M2 =>
    kg (kt M2 a0 1) <|
    kg (kt M2 a0 1) <|
    kg (kt M2 (kR M2 a0 1) 5) <| (F_X5_matches N M2 (kR M2 a0 1) (kR M2 a0 2)).bind fun r3 =>
    if r3 = 0 then (
      some M2) else
    kg (kt M2 a1 9) <| (F_X9_refuseTaken N M2 a1 3).bind fun M4 =>
    some M4
set_option maxRecDepth 100000 in
set_option maxHeartbeats 4000000 in
theorem k_X1_readTwoNames (l : Launch) (g : kG) (N : Nat) (M : kMem) (a0 : Nat) (a1 : Nat) : kMet l g yX1_readTwoNames cX1_readTwoNames 2 none 4 0 0 [.ref a0, .ref a1] M (fun r : kMem => (none, r)) (F_X1_readTwoNames N M a0 a1) := by
  refine k_of (lv := [(0, .ref a0), (1, .ref a1)]) RX1 (by decide) rfl rfl (Nat.le_of_ble_eq_true rfl) ?_
  intro p e s m args below meth c hX hr _
  unfold F_X1_readTwoNames
  refine g_aload_n 1 1 hX dX1_readTwoNames_0 rfl rfl ?_
  refine g_aload_n 2 0 hX dX1_readTwoNames_1 rfl rfl ?_
  refine r_X1_12 5 hX dX1_readTwoNames_2 rfl ?_
  refine g_callV_v 8 hX (k_X9_takeName l g N M a1 (kR M a0 1)) lk_X9_takeName rfl (ci := 9) rfl (Nat.le_of_ble_eq_true rfl) q_854 q_667 (by omega) rfl (Nat.le_of_ble_eq_true rfl) (Nat.zero_le _) (Nat.zero_le _) dX1_readTwoNames_5 rfl (fun M1 => ?_)
  refine g_aload_n 9 1 hX dX1_readTwoNames_8 rfl rfl ?_
  refine g_aload_n 10 0 hX dX1_readTwoNames_9 rfl rfl ?_
  refine r_X1_18 13 hX dX1_readTwoNames_10 rfl ?_
  refine g_callV_v 16 hX (k_X9_takeName l g N M1 a1 (kR M1 a0 2)) lk_X9_takeName rfl (ci := 9) rfl (Nat.le_of_ble_eq_true rfl) q_854 q_667 (by omega) rfl (Nat.le_of_ble_eq_true rfl) (Nat.zero_le _) (Nat.zero_le _) dX1_readTwoNames_13 rfl (fun M2 => ?_)
  refine g_aload_n 17 0 hX dX1_readTwoNames_16 rfl rfl ?_
  refine r_X1_12 20 hX dX1_readTwoNames_17 rfl ?_
  refine g_aload_n 21 0 hX dX1_readTwoNames_20 rfl rfl ?_
  refine r_X1_18 24 hX dX1_readTwoNames_21 rfl ?_
  refine g_callV_ip 27 hX (k_X5_matches l g N M2 (kR M2 a0 1) (kR M2 a0 2)) lk_X5_matches rfl (ci := 5) rfl (Nat.le_of_ble_eq_true rfl) q_861 q_681 (by omega) rfl (Nat.le_of_ble_eq_true rfl) (Nat.zero_le _) (Nat.zero_le _) dX1_readTwoNames_24 rfl (fun r3 => ?_)
  refine g_if_eq 35 30 hX dX1_readTwoNames_27 (by decide) rfl (fun _ => ?_) (fun _ => ?_)
  · exact g_vret hX hr rfl (Nat.le_refl 0) (Nat.le_refl 0) dX1_readTwoNames_35
  · refine g_aload_n 31 1 hX dX1_readTwoNames_30 rfl rfl ?_
    refine g_iconst 32 hX 3 dX1_readTwoNames_31 rfl kc_i_3 ?_
    refine g_callV_v 35 hX (k_X9_refuseTaken l g N M2 a1 3) lk_X9_refuseTaken rfl (ci := 9) rfl (Nat.le_of_ble_eq_true rfl) q_862 q_689 (by omega) rfl (Nat.le_of_ble_eq_true rfl) (Nat.zero_le _) (Nat.zero_le _) dX1_readTwoNames_32 rfl (fun M4 => ?_)
    exact g_vret hX hr rfl (Nat.le_refl 0) (Nat.le_refl 0) dX1_readTwoNames_35
def F_X1_buyOn (N : Nat) (M : kMem) (a0 : Nat) (a1 : Nat) (a2 : Nat) : Option (Int32 × kMem) :=
    kg (kt M a0 1) <|
    kg (kt M a1 4) <| (F_X4_boardNumbered N M a1 (kI M a0 3)).bind fun r1 =>
    if a2 = 0 then (
      some (0, M)) else
    if r1 = 0 then (
      some (0, M)) else
    kg (kt M a0 1) <|
    kg (kt M r1 0) <| (F_X0_hasSeat N M r1 (kI M a0 5)).bind fun r2 =>
    if r2 = 0 then (
      some (0, M)) else
    kg (kt M a0 1) <|
    kg (kt M a1 4) <| (F_X4_whyNotSeat N M a1 a2 r1 (kI M a0 5)).bind fun r3 =>
    if r3 = 0 then (
      kg (kt M a0 1) <|
      kg (kt M a1 4) <| (F_X4_sellSeat N M a1 a2 r1 (kI M a0 5)).bind fun r4 =>
      some (1, r4.2)) else
    some (0, M)
set_option maxRecDepth 100000 in
set_option maxHeartbeats 4000000 in
theorem k_X1_buyOn (l : Launch) (g : kG) (N : Nat) (M : kMem) (a0 : Nat) (a1 : Nat) (a2 : Nat) : kMet l g yX1_buyOn cX1_buyOn 4 (some .boolean) 5 0 0 [.ref a0, .ref a1, .ref a2] M (fun r : Int32 × kMem => (some (.int r.1), r.2)) (F_X1_buyOn N M a0 a1 a2) := by
  refine k_of (lv := [(0, .ref a0), (1, .ref a1), (2, .ref a2)]) RX1 (by decide) rfl rfl (Nat.le_of_ble_eq_true rfl) ?_
  intro p e s m args below meth c hX hr _
  unfold F_X1_buyOn
  refine g_aload_n 1 1 hX dX1_buyOn_0 rfl rfl ?_
  refine g_aload_n 2 0 hX dX1_buyOn_1 rfl rfl ?_
  refine r_X1_55 5 hX dX1_buyOn_2 rfl ?_
  refine g_callV_rp 8 hX (k_X4_boardNumbered l g N M a1 (kI M a0 3)) lk_X4_boardNumbered rfl (ci := 4) rfl (Nat.le_of_ble_eq_true rfl) q_901 q_713 (by omega) rfl (Nat.le_of_ble_eq_true rfl) (Nat.zero_le _) (Nat.zero_le _) dX1_buyOn_5 rfl (fun r1 => ?_)
  refine g_astore_n 9 3 [(3, .ref r1), (0, .ref a0), (1, .ref a1), (2, .ref a2)] hX dX1_buyOn_8 rfl rfl (Nat.le_of_ble_eq_true rfl) rfl ?_
  refine g_aload_n 10 3 hX dX1_buyOn_9 rfl rfl ?_
  refine g_ifnull 41 13 hX dX1_buyOn_10 (by decide) rfl (fun _ => ?_) (fun _ => ?_)
  · refine g_iconst 42 hX 0 dX1_buyOn_41 rfl kc_i_0 ?_
    exact g_zretL hX hr rfl rfl (Nat.le_refl 0) (Nat.le_refl 0) dX1_buyOn_42
  · refine g_aload_n 14 0 hX dX1_buyOn_13 rfl rfl ?_
    refine g_ifnull 41 17 hX dX1_buyOn_14 (by decide) rfl (fun _ => ?_) (fun _ => ?_)
    · refine g_iconst 42 hX 0 dX1_buyOn_41 rfl kc_i_0 ?_
      exact g_zretL hX hr rfl rfl (Nat.le_refl 0) (Nat.le_refl 0) dX1_buyOn_42
    · refine g_aload_n 18 0 hX dX1_buyOn_17 rfl rfl ?_
      refine g_aload_n 19 1 hX dX1_buyOn_18 rfl rfl ?_
      refine r_X1_65 22 hX dX1_buyOn_19 rfl ?_
      refine g_callV_ip 25 hX (k_X0_hasSeat l g N M r1 (kI M a0 5)) lk_X0_hasSeat rfl (ci := 0) rfl (Nat.le_of_ble_eq_true rfl) q_902 q_727 (by omega) rfl (Nat.le_of_ble_eq_true rfl) (Nat.zero_le _) (Nat.zero_le _) dX1_buyOn_22 rfl (fun r2 => ?_)
      refine g_if_eq 41 28 hX dX1_buyOn_25 (by decide) rfl (fun _ => ?_) (fun _ => ?_)
      · refine g_iconst 42 hX 0 dX1_buyOn_41 rfl kc_i_0 ?_
        exact g_zretL hX hr rfl rfl (Nat.le_refl 0) (Nat.le_refl 0) dX1_buyOn_42
      · refine g_aload_n 29 2 hX dX1_buyOn_28 rfl rfl ?_
        refine g_aload_n 30 3 hX dX1_buyOn_29 rfl rfl ?_
        refine g_aload_n 31 0 hX dX1_buyOn_30 rfl rfl ?_
        refine g_aload_n 32 1 hX dX1_buyOn_31 rfl rfl ?_
        refine r_X1_65 35 hX dX1_buyOn_32 rfl ?_
        refine g_callV_ip 38 hX (k_X4_whyNotSeat l g N M a1 a2 r1 (kI M a0 5)) lk_X4_whyNotSeat rfl (ci := 4) rfl (Nat.le_of_ble_eq_true rfl) q_903 q_905 (by omega) rfl (Nat.le_of_ble_eq_true rfl) (Nat.zero_le _) (Nat.zero_le _) dX1_buyOn_35 rfl (fun r3 => ?_)
        refine g_if_eq 43 41 hX dX1_buyOn_38 (by decide) rfl (fun _ => ?_) (fun _ => ?_)
        · refine g_aload_n 44 2 hX dX1_buyOn_43 rfl rfl ?_
          refine g_aload_n 45 3 hX dX1_buyOn_44 rfl rfl ?_
          refine g_aload_n 46 0 hX dX1_buyOn_45 rfl rfl ?_
          refine g_aload_n 47 1 hX dX1_buyOn_46 rfl rfl ?_
          refine r_X1_65 50 hX dX1_buyOn_47 rfl ?_
          refine g_callV_i 53 hX (k_X4_sellSeat l g N M a1 a2 r1 (kI M a0 5)) lk_X4_sellSeat rfl (ci := 4) rfl (Nat.le_of_ble_eq_true rfl) q_941 q_943 (by omega) rfl (Nat.le_of_ble_eq_true rfl) (Nat.zero_le _) (Nat.zero_le _) dX1_buyOn_50 rfl (fun r4 => ?_)
          refine g_pop 54 hX dX1_buyOn_53 rfl rfl ?_
          refine g_iconst 55 hX 1 dX1_buyOn_54 rfl kc_i_1 ?_
          exact g_zretL hX hr rfl rfl (Nat.le_refl 0) (Nat.le_refl 0) dX1_buyOn_55
        · refine g_iconst 42 hX 0 dX1_buyOn_41 rfl kc_i_0 ?_
          exact g_zretL hX hr rfl rfl (Nat.le_refl 0) (Nat.le_refl 0) dX1_buyOn_42
def F_X1_joinOn (N : Nat) (M : kMem) (a0 : Nat) (a1 : Nat) : Option (Int32 × kMem) :=
    kg (kt M a0 1) <|
    kg (kt M a1 4) <| (F_X4_canAdmit N M a1 (kR M a0 1)).bind fun r1 =>
    if r1 = 0 then (
      some (0, M)) else
    kg (kt M a0 1) <|
    kg (kt M a0 1) <|
    kg (kt M a0 1) <|
    kg (kt M a1 4) <| (F_X4_admit N M a1 (kR M a0 1) (kI M a0 3) (kI M a0 4) 0).bind fun r2 =>
    some (1, r2.2)
set_option maxRecDepth 100000 in
set_option maxHeartbeats 4000000 in
theorem k_X1_joinOn (l : Launch) (g : kG) (N : Nat) (M : kMem) (a0 : Nat) (a1 : Nat) : kMet l g yX1_joinOn cX1_joinOn 2 (some .boolean) 5 0 0 [.ref a0, .ref a1] M (fun r : Int32 × kMem => (some (.int r.1), r.2)) (F_X1_joinOn N M a0 a1) := by
  refine k_of (lv := [(0, .ref a0), (1, .ref a1)]) RX1 (by decide) rfl rfl (Nat.le_of_ble_eq_true rfl) ?_
  intro p e s m args below meth c hX hr _
  unfold F_X1_joinOn
  refine g_aload_n 1 1 hX dX1_joinOn_0 rfl rfl ?_
  refine g_aload_n 2 0 hX dX1_joinOn_1 rfl rfl ?_
  refine r_X1_12 5 hX dX1_joinOn_2 rfl ?_
  refine g_callV_ip 8 hX (k_X4_canAdmit l g N M a1 (kR M a0 1)) lk_X4_canAdmit rfl (ci := 4) rfl (Nat.le_of_ble_eq_true rfl) q_890 q_892 (by omega) rfl (Nat.le_of_ble_eq_true rfl) (Nat.zero_le _) (Nat.zero_le _) dX1_joinOn_5 rfl (fun r1 => ?_)
  refine g_if_ne 13 11 hX dX1_joinOn_8 (by decide) rfl (fun _ => ?_) (fun _ => ?_)
  · refine g_aload_n 14 1 hX dX1_joinOn_13 rfl rfl ?_
    refine g_aload_n 15 0 hX dX1_joinOn_14 rfl rfl ?_
    refine r_X1_12 18 hX dX1_joinOn_15 rfl ?_
    refine g_aload_n 19 0 hX dX1_joinOn_18 rfl rfl ?_
    refine r_X1_55 22 hX dX1_joinOn_19 rfl ?_
    refine g_aload_n 23 0 hX dX1_joinOn_22 rfl rfl ?_
    refine r_X1_58 26 hX dX1_joinOn_23 rfl ?_
    refine g_iconst 27 hX 0 dX1_joinOn_26 rfl kc_i_0 ?_
    refine g_callV_i 30 hX (k_X4_admit l g N M a1 (kR M a0 1) (kI M a0 3) (kI M a0 4) 0) lk_X4_admit rfl (ci := 4) rfl (Nat.le_of_ble_eq_true rfl) q_895 q_693 (by omega) rfl (Nat.le_of_ble_eq_true rfl) (Nat.zero_le _) (Nat.zero_le _) dX1_joinOn_27 rfl (fun r2 => ?_)
    refine g_pop 31 hX dX1_joinOn_30 rfl rfl ?_
    refine g_iconst 32 hX 1 dX1_joinOn_31 rfl kc_i_1 ?_
    exact g_zretL hX hr rfl rfl (Nat.le_refl 0) (Nat.le_refl 0) dX1_joinOn_32
  · refine g_iconst 12 hX 0 dX1_joinOn_11 rfl kc_i_0 ?_
    exact g_zretL hX hr rfl rfl (Nat.le_refl 0) (Nat.le_refl 0) dX1_joinOn_12
def F_X1_leaveOn (N : Nat) (M : kMem) (a0 : Nat) (a1 : Nat) : Option (Int32 × kMem) :=
    if a1 = 0 then (
      some (0, M)) else
    kg (kt M a1 10) <| (F_X10_isSeated N M a1).bind fun r1 =>
    if r1 = 0 then (
      some (0, M)) else
    kg (kt M a0 4) <| (F_X4_unseat N M a0 a1).bind fun M2 =>
    some (1, M2)
set_option maxRecDepth 100000 in
set_option maxHeartbeats 4000000 in
theorem k_X1_leaveOn (l : Launch) (g : kG) (N : Nat) (M : kMem) (a0 : Nat) (a1 : Nat) : kMet l g yX1_leaveOn cX1_leaveOn 2 (some .boolean) 3 0 0 [.ref a0, .ref a1] M (fun r : Int32 × kMem => (some (.int r.1), r.2)) (F_X1_leaveOn N M a0 a1) := by
  refine k_of (lv := [(0, .ref a0), (1, .ref a1)]) RX1 (by decide) rfl rfl (Nat.le_of_ble_eq_true rfl) ?_
  intro p e s m args below meth c hX hr _
  unfold F_X1_leaveOn
  refine g_aload_n 1 1 hX dX1_leaveOn_0 rfl rfl ?_
  refine g_ifnull 11 4 hX dX1_leaveOn_1 (by decide) rfl (fun _ => ?_) (fun _ => ?_)
  · refine g_iconst 12 hX 0 dX1_leaveOn_11 rfl kc_i_0 ?_
    exact g_zretL hX hr rfl rfl (Nat.le_refl 0) (Nat.le_refl 0) dX1_leaveOn_12
  · refine g_aload_n 5 1 hX dX1_leaveOn_4 rfl rfl ?_
    refine g_callV_ip 8 hX (k_X10_isSeated l g N M a1) lk_X10_isSeated rfl (ci := 10) rfl (Nat.le_of_ble_eq_true rfl) q_954 q_709 (by omega) rfl (Nat.le_of_ble_eq_true rfl) (Nat.zero_le _) (Nat.zero_le _) dX1_leaveOn_5 rfl (fun r1 => ?_)
    refine g_if_ne 13 11 hX dX1_leaveOn_8 (by decide) rfl (fun _ => ?_) (fun _ => ?_)
    · refine g_aload_n 14 0 hX dX1_leaveOn_13 rfl rfl ?_
      refine g_aload_n 15 1 hX dX1_leaveOn_14 rfl rfl ?_
      refine g_callV_v 18 hX (k_X4_unseat l g N M a0 a1) lk_X4_unseat rfl (ci := 4) rfl (Nat.le_of_ble_eq_true rfl) q_955 q_947 (by omega) rfl (Nat.le_of_ble_eq_true rfl) (Nat.zero_le _) (Nat.zero_le _) dX1_leaveOn_15 rfl (fun M2 => ?_)
      refine g_iconst 19 hX 1 dX1_leaveOn_18 rfl kc_i_1 ?_
      exact g_zretL hX hr rfl rfl (Nat.le_refl 0) (Nat.le_refl 0) dX1_leaveOn_19
    · refine g_iconst 12 hX 0 dX1_leaveOn_11 rfl kc_i_0 ?_
      exact g_zretL hX hr rfl rfl (Nat.le_refl 0) (Nat.le_refl 0) dX1_leaveOn_12
def F_X1_sellOn (N : Nat) (M : kMem) (a0 : Nat) (a1 : Nat) (a2 : Nat) (a3 : Nat) : Option (Int32 × kMem) :=
    if a2 = 0 then (
      some (0, M)) else
    if a3 = 0 then (
      some (0, M)) else
    kg (kt M a0 1) <|
    kg (kt M a1 4) <| (F_X4_whyNotSale N M a1 a2 a3 (kI M a0 3)).bind fun r1 =>
    if r1 = 0 then (
      kg (kt M a0 1) <|
      kg (kt M a1 4) <| (F_X4_moveWeight N M a1 a2 a3 (kI M a0 3)).bind fun r2 =>
      some (1, r2.2)) else
    some (0, M)
set_option maxRecDepth 100000 in
set_option maxHeartbeats 4000000 in
theorem k_X1_sellOn (l : Launch) (g : kG) (N : Nat) (M : kMem) (a0 : Nat) (a1 : Nat) (a2 : Nat) (a3 : Nat) : kMet l g yX1_sellOn cX1_sellOn 4 (some .boolean) 5 0 0 [.ref a0, .ref a1, .ref a2, .ref a3] M (fun r : Int32 × kMem => (some (.int r.1), r.2)) (F_X1_sellOn N M a0 a1 a2 a3) := by
  refine k_of (lv := [(0, .ref a0), (1, .ref a1), (2, .ref a2), (3, .ref a3)]) RX1 (by decide) rfl rfl (Nat.le_of_ble_eq_true rfl) ?_
  intro p e s m args below meth c hX hr _
  unfold F_X1_sellOn
  refine g_aload_n 1 2 hX dX1_sellOn_0 rfl rfl ?_
  refine g_ifnull 21 4 hX dX1_sellOn_1 (by decide) rfl (fun _ => ?_) (fun _ => ?_)
  · refine g_iconst 22 hX 0 dX1_sellOn_21 rfl kc_i_0 ?_
    exact g_zretL hX hr rfl rfl (Nat.le_refl 0) (Nat.le_refl 0) dX1_sellOn_22
  · refine g_aload_n 5 3 hX dX1_sellOn_4 rfl rfl ?_
    refine g_ifnull 21 8 hX dX1_sellOn_5 (by decide) rfl (fun _ => ?_) (fun _ => ?_)
    · refine g_iconst 22 hX 0 dX1_sellOn_21 rfl kc_i_0 ?_
      exact g_zretL hX hr rfl rfl (Nat.le_refl 0) (Nat.le_refl 0) dX1_sellOn_22
    · refine g_aload_n 9 1 hX dX1_sellOn_8 rfl rfl ?_
      refine g_aload_n 10 2 hX dX1_sellOn_9 rfl rfl ?_
      refine g_aload_n 11 3 hX dX1_sellOn_10 rfl rfl ?_
      refine g_aload_n 12 0 hX dX1_sellOn_11 rfl rfl ?_
      refine r_X1_55 15 hX dX1_sellOn_12 rfl ?_
      refine g_callV_ip 18 hX (k_X4_whyNotSale l g N M a1 a2 a3 (kI M a0 3)) lk_X4_whyNotSale rfl (ci := 4) rfl (Nat.le_of_ble_eq_true rfl) q_960 q_962 (by omega) rfl (Nat.le_of_ble_eq_true rfl) (Nat.zero_le _) (Nat.zero_le _) dX1_sellOn_15 rfl (fun r1 => ?_)
      refine g_if_eq 23 21 hX dX1_sellOn_18 (by decide) rfl (fun _ => ?_) (fun _ => ?_)
      · refine g_aload_n 24 1 hX dX1_sellOn_23 rfl rfl ?_
        refine g_aload_n 25 2 hX dX1_sellOn_24 rfl rfl ?_
        refine g_aload_n 26 3 hX dX1_sellOn_25 rfl rfl ?_
        refine g_aload_n 27 0 hX dX1_sellOn_26 rfl rfl ?_
        refine r_X1_55 30 hX dX1_sellOn_27 rfl ?_
        refine g_callV_i 33 hX (k_X4_moveWeight l g N M a1 a2 a3 (kI M a0 3)) lk_X4_moveWeight rfl (ci := 4) rfl (Nat.le_of_ble_eq_true rfl) q_973 q_975 (by omega) rfl (Nat.le_of_ble_eq_true rfl) (Nat.zero_le _) (Nat.zero_le _) dX1_sellOn_30 rfl (fun r2 => ?_)
        refine g_pop 34 hX dX1_sellOn_33 rfl rfl ?_
        refine g_iconst 35 hX 1 dX1_sellOn_34 rfl kc_i_1 ?_
        exact g_zretL hX hr rfl rfl (Nat.le_refl 0) (Nat.le_refl 0) dX1_sellOn_35
      · refine g_iconst 22 hX 0 dX1_sellOn_21 rfl kc_i_0 ?_
        exact g_zretL hX hr rfl rfl (Nat.le_refl 0) (Nat.le_refl 0) dX1_sellOn_22
def F_X1_swapOn (N : Nat) (M : kMem) (a0 : Nat) (a1 : Nat) (a2 : Nat) : Option (Int32 × kMem) :=
    if a1 = 0 then (
      some (0, M)) else
    if a2 = 0 then (
      some (0, M)) else
    kg (kt M a0 4) <| (F_X4_whyNotSwap N M a0 a1 a2).bind fun r1 =>
    if r1 = 0 then (
      kg (kt M a0 4) <| (F_X4_exchangeSeats N M a0 a1 a2).bind fun r2 =>
      some (1, r2.2)) else
    some (0, M)
set_option maxRecDepth 100000 in
set_option maxHeartbeats 4000000 in
theorem k_X1_swapOn (l : Launch) (g : kG) (N : Nat) (M : kMem) (a0 : Nat) (a1 : Nat) (a2 : Nat) : kMet l g yX1_swapOn cX1_swapOn 3 (some .boolean) 4 0 0 [.ref a0, .ref a1, .ref a2] M (fun r : Int32 × kMem => (some (.int r.1), r.2)) (F_X1_swapOn N M a0 a1 a2) := by
  refine k_of (lv := [(0, .ref a0), (1, .ref a1), (2, .ref a2)]) RX1 (by decide) rfl rfl (Nat.le_of_ble_eq_true rfl) ?_
  intro p e s m args below meth c hX hr _
  unfold F_X1_swapOn
  refine g_aload_n 1 1 hX dX1_swapOn_0 rfl rfl ?_
  refine g_ifnull 17 4 hX dX1_swapOn_1 (by decide) rfl (fun _ => ?_) (fun _ => ?_)
  · refine g_iconst 18 hX 0 dX1_swapOn_17 rfl kc_i_0 ?_
    exact g_zretL hX hr rfl rfl (Nat.le_refl 0) (Nat.le_refl 0) dX1_swapOn_18
  · refine g_aload_n 5 2 hX dX1_swapOn_4 rfl rfl ?_
    refine g_ifnull 17 8 hX dX1_swapOn_5 (by decide) rfl (fun _ => ?_) (fun _ => ?_)
    · refine g_iconst 18 hX 0 dX1_swapOn_17 rfl kc_i_0 ?_
      exact g_zretL hX hr rfl rfl (Nat.le_refl 0) (Nat.le_refl 0) dX1_swapOn_18
    · refine g_aload_n 9 0 hX dX1_swapOn_8 rfl rfl ?_
      refine g_aload_n 10 1 hX dX1_swapOn_9 rfl rfl ?_
      refine g_aload_n 11 2 hX dX1_swapOn_10 rfl rfl ?_
      refine g_callV_ip 14 hX (k_X4_whyNotSwap l g N M a0 a1 a2) lk_X4_whyNotSwap rfl (ci := 4) rfl (Nat.le_of_ble_eq_true rfl) q_980 q_982 (by omega) rfl (Nat.le_of_ble_eq_true rfl) (Nat.zero_le _) (Nat.zero_le _) dX1_swapOn_11 rfl (fun r1 => ?_)
      refine g_if_eq 19 17 hX dX1_swapOn_14 (by decide) rfl (fun _ => ?_) (fun _ => ?_)
      · refine g_aload_n 20 0 hX dX1_swapOn_19 rfl rfl ?_
        refine g_aload_n 21 1 hX dX1_swapOn_20 rfl rfl ?_
        refine g_aload_n 22 2 hX dX1_swapOn_21 rfl rfl ?_
        refine g_callV_i 25 hX (k_X4_exchangeSeats l g N M a0 a1 a2) lk_X4_exchangeSeats rfl (ci := 4) rfl (Nat.le_of_ble_eq_true rfl) q_988 q_990 (by omega) rfl (Nat.le_of_ble_eq_true rfl) (Nat.zero_le _) (Nat.zero_le _) dX1_swapOn_22 rfl (fun r2 => ?_)
        refine g_pop 26 hX dX1_swapOn_25 rfl rfl ?_
        refine g_iconst 27 hX 1 dX1_swapOn_26 rfl kc_i_1 ?_
        exact g_zretL hX hr rfl rfl (Nat.le_refl 0) (Nat.le_refl 0) dX1_swapOn_27
      · refine g_iconst 18 hX 0 dX1_swapOn_17 rfl kc_i_0 ?_
        exact g_zretL hX hr rfl rfl (Nat.le_refl 0) (Nat.le_refl 0) dX1_swapOn_18
def F_X6_commandAt (N : Nat) (M : kMem) (a0 : Nat) (x1 : Int32) : Option (Nat) :=
    kg (kt M a0 6) <|
    if x1 < 0 then (
      kg (kin M (kR M a0 0) 19 0) <|
      some (kR M (kR M a0 0) (kx 0))) else
    kg (kt M a0 6) <|
    kg (kt M (kR M a0 0) 19) <|
    if x1 < (Int32.ofNat (kn M (kR M a0 0))) then (
      kg (kin M (kR M a0 0) 19 x1) <|
      some (kR M (kR M a0 0) (kx x1))) else
    kg (kin M (kR M a0 0) 19 0) <|
    some (kR M (kR M a0 0) (kx 0))
set_option maxRecDepth 100000 in
set_option maxHeartbeats 4000000 in
theorem k_X6_commandAt (l : Launch) (g : kG) (N : Nat) (M : kMem) (a0 : Nat) (x1 : Int32) : kMet l g yX6_commandAt cX6_commandAt 2 (some (.object "SeesawMarket$Command")) 1 0 0 [.ref a0, .int x1] M (fun r : Nat => (some (.ref r), M)) (F_X6_commandAt N M a0 x1) := by
  refine k_of (lv := [(0, .ref a0), (1, .int x1)]) RX6 (by decide) rfl rfl (Nat.le_of_ble_eq_true rfl) ?_
  intro p e s m args below meth c hX hr _
  unfold F_X6_commandAt
  refine g_aload_n 1 0 hX dX6_commandAt_0 rfl rfl ?_
  refine r_X6_11 4 hX dX6_commandAt_1 rfl ?_
  refine g_iload_n 5 1 hX dX6_commandAt_4 rfl rfl ?_
  refine g_if_lt 21 8 hX dX6_commandAt_5 (by decide) rfl (fun _ => ?_) (fun _ => ?_)
  · refine g_iconst 22 hX 0 dX6_commandAt_21 rfl kc_i_0 ?_
    refine g_aald 19 6 23 hX RX1 (Nat.le_of_ble_eq_true rfl) rfl dX6_commandAt_22 rfl ?_
    exact g_aret hX hr (Or.inl ⟨_, rfl⟩) rfl (Nat.le_refl 0) (Nat.le_refl 0) dX6_commandAt_23
  · refine g_iload_n 9 1 hX dX6_commandAt_8 rfl rfl ?_
    refine g_aload_n 10 0 hX dX6_commandAt_9 rfl rfl ?_
    refine r_X6_11 13 hX dX6_commandAt_10 rfl ?_
    refine g_alenR 19 6 14 hX RX1 (Nat.le_of_ble_eq_true rfl) rfl dX6_commandAt_13 rfl ?_
    refine g_icmp_ge 21 17 hX dX6_commandAt_14 (by decide) rfl (fun _ => ?_) (fun _ => ?_)
    · refine g_iconst 22 hX 0 dX6_commandAt_21 rfl kc_i_0 ?_
      refine g_aald 19 6 23 hX RX1 (Nat.le_of_ble_eq_true rfl) rfl dX6_commandAt_22 rfl ?_
      exact g_aret hX hr (Or.inl ⟨_, rfl⟩) rfl (Nat.le_refl 0) (Nat.le_refl 0) dX6_commandAt_23
    · refine g_iload_n 18 1 hX dX6_commandAt_17 rfl rfl ?_
      refine g_goto 22 hX dX6_commandAt_18 (by decide) ?_
      refine g_aald 19 6 23 hX RX1 (Nat.le_of_ble_eq_true rfl) rfl dX6_commandAt_22 rfl ?_
      exact g_aret hX hr (Or.inl ⟨_, rfl⟩) rfl (Nat.le_refl 0) (Nat.le_refl 0) dX6_commandAt_23
def F_X6_stepAt (N : Nat) (M : kMem) (a0 : Nat) (x1 : Int32) : Option (Nat) :=
    if x1 < 0 then (
      kg (kt M a0 6) <| (F_X6_commandAt N M a0 0).bind fun r1 =>
      some r1) else
    kg (kt M a0 6) <|
    kg (kt M (kR M a0 4) 13) <|
    if x1 < (Int32.ofNat (kn M (kR M a0 4))) then (
      kg (kt M a0 6) <|
      kg (kin M (kR M a0 4) 13 x1) <|
      kg (kt M a0 6) <| (F_X6_commandAt N M a0 (kI M (kR M a0 4) (kx x1))).bind fun r3 =>
      some r3) else
    kg (kt M a0 6) <| (F_X6_commandAt N M a0 0).bind fun r2 =>
    some r2
set_option maxRecDepth 100000 in
set_option maxHeartbeats 4000000 in
theorem k_X6_stepAt (l : Launch) (g : kG) (N : Nat) (M : kMem) (a0 : Nat) (x1 : Int32) : kMet l g yX6_stepAt cX6_stepAt 2 (some (.object "SeesawMarket$Command")) 2 0 0 [.ref a0, .int x1] M (fun r : Nat => (some (.ref r), M)) (F_X6_stepAt N M a0 x1) := by
  refine k_of (lv := [(0, .ref a0), (1, .int x1)]) RX6 (by decide) rfl rfl (Nat.le_of_ble_eq_true rfl) ?_
  intro p e s m args below meth c hX hr _
  unfold F_X6_stepAt
  refine g_aload_n 1 0 hX dX6_stepAt_0 rfl rfl ?_
  refine g_iload_n 2 1 hX dX6_stepAt_1 rfl rfl ?_
  refine g_if_lt 23 5 hX dX6_stepAt_2 (by decide) rfl (fun _ => ?_) (fun _ => ?_)
  · refine g_iconst 24 hX 0 dX6_stepAt_23 rfl kc_i_0 ?_
    refine g_callV_rp 27 hX (k_X6_commandAt l g N M a0 0) lk_X6_commandAt rfl (ci := 6) rfl (Nat.le_of_ble_eq_true rfl) q_828 q_10 (by omega) rfl (Nat.le_of_ble_eq_true rfl) (Nat.zero_le _) (Nat.zero_le _) dX6_stepAt_24 rfl (fun r1 => ?_)
    exact g_aret hX hr (Or.inl ⟨_, rfl⟩) rfl (Nat.le_refl 0) (Nat.le_refl 0) dX6_stepAt_27
  · refine g_iload_n 6 1 hX dX6_stepAt_5 rfl rfl ?_
    refine g_aload_n 7 0 hX dX6_stepAt_6 rfl rfl ?_
    refine r_X6_21 10 hX dX6_stepAt_7 rfl ?_
    refine g_alen13 11 hX dX6_stepAt_10 rfl ?_
    refine g_icmp_ge 23 14 hX dX6_stepAt_11 (by decide) rfl (fun _ => ?_) (fun _ => ?_)
    · refine g_iconst 24 hX 0 dX6_stepAt_23 rfl kc_i_0 ?_
      refine g_callV_rp 27 hX (k_X6_commandAt l g N M a0 0) lk_X6_commandAt rfl (ci := 6) rfl (Nat.le_of_ble_eq_true rfl) q_828 q_10 (by omega) rfl (Nat.le_of_ble_eq_true rfl) (Nat.zero_le _) (Nat.zero_le _) dX6_stepAt_24 rfl (fun r2 => ?_)
      exact g_aret hX hr (Or.inl ⟨_, rfl⟩) rfl (Nat.le_refl 0) (Nat.le_refl 0) dX6_stepAt_27
    · refine g_aload_n 15 0 hX dX6_stepAt_14 rfl rfl ?_
      refine r_X6_21 18 hX dX6_stepAt_15 rfl ?_
      refine g_iload_n 19 1 hX dX6_stepAt_18 rfl rfl ?_
      refine g_iald 20 hX dX6_stepAt_19 rfl ?_
      refine g_goto 24 hX dX6_stepAt_20 (by decide) ?_
      refine g_callV_rp 27 hX (k_X6_commandAt l g N M a0 (kI M (kR M a0 4) (kx x1))) lk_X6_commandAt rfl (ci := 6) rfl (Nat.le_of_ble_eq_true rfl) q_828 q_10 (by omega) rfl (Nat.le_of_ble_eq_true rfl) (Nat.zero_le _) (Nat.zero_le _) dX6_stepAt_24 rfl (fun r3 => ?_)
      exact g_aret hX hr (Or.inl ⟨_, rfl⟩) rfl (Nat.le_refl 0) (Nat.le_refl 0) dX6_stepAt_27
def F_X6_openBracket (N : Nat) (M : kMem) (a0 : Nat) (a1 : Nat) : Option (kMem) :=
    kg (kt M a0 6) <|
    kg (kt M a0 6) <|
    kg (kt M (kR M a0 2) 13) <|
    if (kI M a0 3) < (Int32.ofNat (kn M (kR M a0 2))) then (
      kg (kt M a1 9) <| (F_X9_takeSign N M a1 40).bind fun M1 =>
      kg (kt M1 a0 6) <|
      kg (kt M1 a0 6) <|
      kg (kt M1 a0 6) <|
      kg (kin M1 (kR M1 a0 2) 13 (kI M1 a0 3)) <| kl (ksI M1 (kR M1 a0 2) (kx (kI M1 a0 3)) ((kI M1 a0 1) - 1)) fun M2 =>
      kg (kt M2 a0 6) <|
      kg (kt M2 a0 6) <| kl (ksI M2 a0 3 ((kI M2 a0 3) + 1)) fun M3 =>
      some M3) else
    kg (kt M a1 9) <| (F_X9_atSign N M a1 40).bind fun r4 =>
    if r4 = 0 then (
      kg (kt M a1 9) <| (F_X9_refuse N M a1 1).bind fun M5 =>
      some M5) else
    kg (kt M a1 9) <| (F_X9_refuse N M a1 5).bind fun M6 =>
    some M6
set_option maxRecDepth 100000 in
set_option maxHeartbeats 4000000 in
theorem k_X6_openBracket (l : Launch) (g : kG) (N : Nat) (M : kMem) (a0 : Nat) (a1 : Nat) : kMet l g yX6_openBracket cX6_openBracket 2 none 4 0 0 [.ref a0, .ref a1] M (fun r : kMem => (none, r)) (F_X6_openBracket N M a0 a1) := by
  refine k_of (lv := [(0, .ref a0), (1, .ref a1)]) RX6 (by decide) rfl rfl (Nat.le_of_ble_eq_true rfl) ?_
  intro p e s m args below meth c hX hr _
  unfold F_X6_openBracket
  refine g_aload_n 1 0 hX dX6_openBracket_0 rfl rfl ?_
  refine r_X6_33 4 hX dX6_openBracket_1 rfl ?_
  refine g_aload_n 5 0 hX dX6_openBracket_4 rfl rfl ?_
  refine r_X6_17 8 hX dX6_openBracket_5 rfl ?_
  refine g_alen13 9 hX dX6_openBracket_8 rfl ?_
  refine g_icmp_lt 31 12 hX dX6_openBracket_9 (by decide) rfl (fun _ => ?_) (fun _ => ?_)
  · refine g_aload_n 32 1 hX dX6_openBracket_31 rfl rfl ?_
    refine g_bipush 34 hX 40 dX6_openBracket_32 rfl kc_b_40 ?_
    refine g_callV_v 37 hX (k_X9_takeSign l g N M a1 40) lk_X9_takeSign rfl (ci := 9) rfl (Nat.le_of_ble_eq_true rfl) q_827 q_632 (by omega) rfl (Nat.le_of_ble_eq_true rfl) (Nat.zero_le _) (Nat.zero_le _) dX6_openBracket_34 rfl (fun M1 => ?_)
    refine g_aload_n 38 0 hX dX6_openBracket_37 rfl rfl ?_
    refine r_X6_17 41 hX dX6_openBracket_38 rfl ?_
    refine g_aload_n 42 0 hX dX6_openBracket_41 rfl rfl ?_
    refine r_X6_33 45 hX dX6_openBracket_42 rfl ?_
    refine g_aload_n 46 0 hX dX6_openBracket_45 rfl rfl ?_
    refine r_X6_29 49 hX dX6_openBracket_46 rfl ?_
    refine g_iconst 50 hX 1 dX6_openBracket_49 rfl kc_i_1 ?_
    refine g_isub 51 hX dX6_openBracket_50 rfl ?_
    refine g_iast 52 hX dX6_openBracket_51 rfl ?_
    refine g_klM (fun M2 hM2 => ?_)
    refine g_aload_n 53 0 hX dX6_openBracket_52 rfl rfl ?_
    refine g_dup 54 hX dX6_openBracket_53 rfl rfl ?_
    refine r_X6_33 57 hX dX6_openBracket_54 rfl ?_
    refine g_iconst 58 hX 1 dX6_openBracket_57 rfl kc_i_1 ?_
    refine g_iadd 59 hX dX6_openBracket_58 rfl ?_
    refine p_X6_33 62 hX dX6_openBracket_59 rfl ?_
    refine g_klM (fun M3 hM3 => ?_)
    exact g_vret hX hr rfl (Nat.le_refl 0) (Nat.le_refl 0) dX6_openBracket_62
  · refine g_aload_n 13 1 hX dX6_openBracket_12 rfl rfl ?_
    refine g_aload_n 14 1 hX dX6_openBracket_13 rfl rfl ?_
    refine g_bipush 16 hX 40 dX6_openBracket_14 rfl kc_b_40 ?_
    refine g_callV_ip 19 hX (k_X9_atSign l g N M a1 40) lk_X9_atSign rfl (ci := 9) rfl (Nat.le_of_ble_eq_true rfl) q_822 q_636 (by omega) rfl (Nat.le_of_ble_eq_true rfl) (Nat.zero_le _) (Nat.zero_le _) dX6_openBracket_16 rfl (fun r4 => ?_)
    refine g_if_eq 26 22 hX dX6_openBracket_19 (by decide) rfl (fun _ => ?_) (fun _ => ?_)
    · refine g_iconst 27 hX 1 dX6_openBracket_26 rfl kc_i_1 ?_
      refine g_callV_v 30 hX (k_X9_refuse l g N M a1 1) lk_X9_refuse rfl (ci := 9) rfl (Nat.le_of_ble_eq_true rfl) q_848 q_627 (by omega) rfl (Nat.le_of_ble_eq_true rfl) (Nat.zero_le _) (Nat.zero_le _) dX6_openBracket_27 rfl (fun M5 => ?_)
      exact g_vret hX hr rfl (Nat.le_refl 0) (Nat.le_refl 0) dX6_openBracket_30
    · refine g_iconst 23 hX 5 dX6_openBracket_22 rfl kc_i_5 ?_
      refine g_goto 27 hX dX6_openBracket_23 (by decide) ?_
      refine g_callV_v 30 hX (k_X9_refuse l g N M a1 5) lk_X9_refuse rfl (ci := 9) rfl (Nat.le_of_ble_eq_true rfl) q_848 q_627 (by omega) rfl (Nat.le_of_ble_eq_true rfl) (Nat.zero_le _) (Nat.zero_le _) dX6_openBracket_27 rfl (fun M6 => ?_)
      exact g_vret hX hr rfl (Nat.le_refl 0) (Nat.le_refl 0) dX6_openBracket_30
def F_X6_closeBracket (N : Nat) (M : kMem) (a0 : Nat) (a1 : Nat) : Option (kMem) :=
    kg (kt M a1 9) <| (F_X9_takeSign N M a1 41).bind fun M1 =>
    kg (kt M1 a1 9) <| (F_X9_takeSign N M1 a1 59).bind fun M2 =>
    kg (kt M2 a0 6) <|
    if (0 : Int32) < (kI M2 a0 3) then (
      kg (kt M2 a0 6) <|
      kg (kt M2 a0 6) <|
      kg (kt M2 (kR M2 a0 2) 13) <|
      if (Int32.ofNat (kn M2 (kR M2 a0 2))) < (kI M2 a0 3) then (
        some M2) else
      kg (kt M2 a0 6) <|
      kg (kt M2 a0 6) <| kl (ksI M2 a0 3 ((kI M2 a0 3) - 1)) fun M3 =>
      kg (kt M3 a0 6) <|
      kg (kt M3 a0 6) <|
      kg (kin M3 (kR M3 a0 2) 13 (kI M3 a0 3)) <|
      kg (kt M3 a0 6) <| (F_X6_commandAt N M3 a0 (kI M3 (kR M3 a0 2) (kx (kI M3 a0 3)))).bind fun r4 =>
      kg (kt M3 a0 6) <|
      kg (kt M3 r4 1) <| kl (ksI M3 r4 6 (kI M3 a0 1)) fun M5 =>
      some M5) else
    some M2
set_option maxRecDepth 100000 in
set_option maxHeartbeats 4000000 in
theorem k_X6_closeBracket (l : Launch) (g : kG) (N : Nat) (M : kMem) (a0 : Nat) (a1 : Nat) : kMet l g yX6_closeBracket cX6_closeBracket 2 none 4 0 0 [.ref a0, .ref a1] M (fun r : kMem => (none, r)) (F_X6_closeBracket N M a0 a1) := by
  refine k_of (lv := [(0, .ref a0), (1, .ref a1)]) RX6 (by decide) rfl rfl (Nat.le_of_ble_eq_true rfl) ?_
  intro p e s m args below meth c hX hr _
  unfold F_X6_closeBracket
  refine g_aload_n 1 1 hX dX6_closeBracket_0 rfl rfl ?_
  refine g_bipush 3 hX 41 dX6_closeBracket_1 rfl kc_b_41 ?_
  refine g_callV_v 6 hX (k_X9_takeSign l g N M a1 41) lk_X9_takeSign rfl (ci := 9) rfl (Nat.le_of_ble_eq_true rfl) q_827 q_632 (by omega) rfl (Nat.le_of_ble_eq_true rfl) (Nat.zero_le _) (Nat.zero_le _) dX6_closeBracket_3 rfl (fun M1 => ?_)
  refine g_aload_n 7 1 hX dX6_closeBracket_6 rfl rfl ?_
  refine g_bipush 9 hX 59 dX6_closeBracket_7 rfl kc_b_59 ?_
  refine g_callV_v 12 hX (k_X9_takeSign l g N M1 a1 59) lk_X9_takeSign rfl (ci := 9) rfl (Nat.le_of_ble_eq_true rfl) q_827 q_632 (by omega) rfl (Nat.le_of_ble_eq_true rfl) (Nat.zero_le _) (Nat.zero_le _) dX6_closeBracket_9 rfl (fun M2 => ?_)
  refine g_aload_n 13 0 hX dX6_closeBracket_12 rfl rfl ?_
  refine r_X6_33 16 hX dX6_closeBracket_13 rfl ?_
  refine g_if_le 61 19 hX dX6_closeBracket_16 (by decide) rfl (fun _ => ?_) (fun _ => ?_)
  · exact g_vret hX hr rfl (Nat.le_refl 0) (Nat.le_refl 0) dX6_closeBracket_61
  · refine g_aload_n 20 0 hX dX6_closeBracket_19 rfl rfl ?_
    refine r_X6_33 23 hX dX6_closeBracket_20 rfl ?_
    refine g_aload_n 24 0 hX dX6_closeBracket_23 rfl rfl ?_
    refine r_X6_17 27 hX dX6_closeBracket_24 rfl ?_
    refine g_alen13 28 hX dX6_closeBracket_27 rfl ?_
    refine g_icmp_gt 61 31 hX dX6_closeBracket_28 (by decide) rfl (fun _ => ?_) (fun _ => ?_)
    · exact g_vret hX hr rfl (Nat.le_refl 0) (Nat.le_refl 0) dX6_closeBracket_61
    · refine g_aload_n 32 0 hX dX6_closeBracket_31 rfl rfl ?_
      refine g_dup 33 hX dX6_closeBracket_32 rfl rfl ?_
      refine r_X6_33 36 hX dX6_closeBracket_33 rfl ?_
      refine g_iconst 37 hX 1 dX6_closeBracket_36 rfl kc_i_1 ?_
      refine g_isub 38 hX dX6_closeBracket_37 rfl ?_
      refine p_X6_33 41 hX dX6_closeBracket_38 rfl ?_
      refine g_klM (fun M3 hM3 => ?_)
      refine g_aload_n 42 0 hX dX6_closeBracket_41 rfl rfl ?_
      refine g_aload_n 43 0 hX dX6_closeBracket_42 rfl rfl ?_
      refine r_X6_17 46 hX dX6_closeBracket_43 rfl ?_
      refine g_aload_n 47 0 hX dX6_closeBracket_46 rfl rfl ?_
      refine r_X6_33 50 hX dX6_closeBracket_47 rfl ?_
      refine g_iald 51 hX dX6_closeBracket_50 rfl ?_
      refine g_callV_rp 54 hX (k_X6_commandAt l g N M3 a0 (kI M3 (kR M3 a0 2) (kx (kI M3 a0 3)))) lk_X6_commandAt rfl (ci := 6) rfl (Nat.le_of_ble_eq_true rfl) q_828 q_10 (by omega) rfl (Nat.le_of_ble_eq_true rfl) (Nat.zero_le _) (Nat.zero_le _) dX6_closeBracket_51 rfl (fun r4 => ?_)
      refine g_aload_n 55 0 hX dX6_closeBracket_54 rfl rfl ?_
      refine r_X6_29 58 hX dX6_closeBracket_55 rfl ?_
      refine p_X6_87 61 hX dX6_closeBracket_58 rfl ?_
      refine g_klM (fun M5 hM5 => ?_)
      exact g_vret hX hr rfl (Nat.le_refl 0) (Nat.le_refl 0) dX6_closeBracket_61
def F_X6_unroll_79 (N : Nat) (kf : kMem → Nat → Int32 → Int32 → Int32 → Option (kMem)) (k6 : kMem → Nat → Int32 → Int32 → Int32 → Int32 → Option (kMem)) : Nat → kMem → Nat → Int32 → Int32 → Int32 → Nat → Int32 → Option (kMem)
  | 0, _, _, _, _, _, _, _ => none
  | n + 1, M, a0, x2, x3, x5, a6, x7 =>
    kg (kt M a6 1) <|
    if x7 < (kI M a6 3) then (
      if x3 < 2 then (
        kg (kt M a6 1) <|
        kg (kt M a0 6) <| (kf M a0 (x5 + 1) (kI M a6 6) (x3 + 1)).bind fun M6 =>
        kl (x7 + 1) fun v7 =>
        F_X6_unroll_79 N kf k6 n M6 a0 x2 x3 x5 a6 v7) else
      kg (kt M a6 1) <|
      kl (kI M a6 6) fun v4 =>
      kl (x5 + 1) fun v5 =>
      k6 M a0 x2 x3 v4 v5) else
    kg (kt M a6 1) <|
    kl (kI M a6 6) fun v2 =>
    kl (x5 + 1) fun v3 =>
    k6 M a0 x2 x3 v2 v3
def F_X6_unroll_6 (N : Nat) (kf : kMem → Nat → Int32 → Int32 → Int32 → Option (kMem)) : Nat → kMem → Nat → Int32 → Int32 → Int32 → Int32 → Option (kMem)
  | 0, _, _, _, _, _, _ => none
  | n + 1, M, a0, x2, x3, x4, x5 =>
    if x5 < x2 then (
      kg (kt M a0 6) <|
      kg (kt M a0 6) <|
      kg (kt M (kR M a0 4) 13) <|
      if (kI M a0 5) < (Int32.ofNat (kn M (kR M a0 4))) then (
        if x5 < x4 then (
          kl (x5 + 1) fun v11 =>
          F_X6_unroll_6 N kf n M a0 x2 x3 x4 v11) else
        kg (kt M a0 6) <| (F_X6_commandAt N M a0 x5).bind fun r1 =>
        kg (kt M r1 1) <|
        if (kI M r1 0) = 8 then (
          F_X6_unroll_79 N kf (fun M a0 x2 x3 x4 x5 => F_X6_unroll_6 N kf n M a0 x2 x3 x4 x5) N M a0 x2 x3 x5 r1 0) else
        kg (kt M a0 6) <|
        kg (kt M a0 6) <|
        kg (kin M (kR M a0 4) 13 (kI M a0 5)) <| kl (ksI M (kR M a0 4) (kx (kI M a0 5)) x5) fun M8 =>
        kg (kt M8 a0 6) <|
        kg (kt M8 a0 6) <| kl (ksI M8 a0 5 ((kI M8 a0 5) + 1)) fun M9 =>
        kl (x5 + 1) fun v10 =>
        F_X6_unroll_6 N kf n M9 a0 x2 x3 x4 v10) else
      some M) else
    some M
def F_X6_unroll (N : Nat) : Nat → kMem → Nat → Int32 → Int32 → Int32 → Option (kMem)
  | 0, _, _, _, _, _ => none
  | D + 1, M, a0, x1, x2, x3 =>
    kl (F_X6_unroll N D) fun kf =>
    F_X6_unroll_6 N kf N M a0 x2 x3 x1 x1
set_option maxRecDepth 100000 in
set_option maxHeartbeats 4000000 in
theorem k_X6_unroll_79 {dd : Nat} {p : Program} {l : Launch} {e : Env} {s : State} {m : MethodId} {args : Array Value} {below : List Frame} {meth : Method} {c : Code} {g : kG} (hX : Cok (p, l, e, { frames := 2 * (2 + dd + 1), cells := 0, slots := 0, locals := 60 * (2 + dd + 1) }, s, m, args, below, meth, c, cX6_unroll, 8, RX6, g, (2 + dd + 1))) (hr : meth.sig.returnType = none) (N : Nat) (kf : kMem → Nat → Int32 → Int32 → Int32 → Option (kMem)) (hrec : ∀ (M : kMem) (a0 : Nat) (x1 : Int32) (x2 : Int32) (x3 : Int32), kMet l g yX6_unroll cX6_unroll 8 none (2 + dd) 0 0 [.ref a0, .int x1, .int x2, .int x3] M (fun r : kMem => (none, r)) (kf M a0 x1 x2 x3)) (k6 : kMem → Nat → Int32 → Int32 → Int32 → Int32 → Option (kMem)) (h6 : ∀ (M : kMem) (a0 : Nat) (x2 : Int32) (x3 : Int32) (x4 : Int32) (x5 : Int32), GG (p, l, e, { frames := 2 * (2 + dd + 1), cells := 0, slots := 0, locals := 60 * (2 + dd + 1) }, s, m, args, below, meth, c, cX6_unroll, 8, RX6, g, (2 + dd + 1)) (fun b => MQ below (kQ g ((fun r : kMem => (none, r)) b)) args s 0 0 (kZ g.2.2.1)) 0 0 (k6 M a0 x2 x3 x4 x5) 6 [(0, .ref a0), (2, .int x2), (3, .int x3), (4, .int x4), (5, .int x5)] [] M) : ∀ (n : Nat) (M : kMem) (a0 : Nat) (x2 : Int32) (x3 : Int32) (x5 : Int32) (a6 : Nat) (x7 : Int32), GG (p, l, e, { frames := 2 * (2 + dd + 1), cells := 0, slots := 0, locals := 60 * (2 + dd + 1) }, s, m, args, below, meth, c, cX6_unroll, 8, RX6, g, (2 + dd + 1)) (fun b => MQ below (kQ g ((fun r : kMem => (none, r)) b)) args s 0 0 (kZ g.2.2.1)) 0 0 (F_X6_unroll_79 N kf k6 n M a0 x2 x3 x5 a6 x7) 79 [(0, .ref a0), (2, .int x2), (3, .int x3), (5, .int x5), (6, .ref a6), (7, .int x7)] [] M := by
  intro n
  induction n with
  | zero => intro _ _ _ _ _ _ _; exact g_none
  | succ n ih =>
    intro M a0 x2 x3 x5 a6 x7
    unfold F_X6_unroll_79
    refine g_iload 81 5 hX dX6_unroll_79 rfl rfl ?_
    refine g_aload 83 4 hX dX6_unroll_81 rfl rfl ?_
    refine r_X6_90 86 hX dX6_unroll_83 rfl ?_
    refine g_icmp_ge 116 89 hX dX6_unroll_86 (by decide) rfl (fun _ => ?_) (fun _ => ?_)
    · refine g_aload 118 4 hX dX6_unroll_116 rfl rfl ?_
      refine r_X6_87 121 hX dX6_unroll_118 rfl ?_
      refine g_klI (fun v2 hv2 => ?_)
      refine g_istore 123 4 [(4, .int v2), (0, .ref a0), (2, .int x2), (3, .int x3), (5, .int x5), (6, .ref a6), (7, .int x7)] hX dX6_unroll_121 rfl (Nat.le_of_ble_eq_true rfl) rfl ?_
      refine g_kl (fun v3 hv3 => ?_)
      refine g_iinc 126 5 4 v3 [(5, .int v3), (4, .int v2), (0, .ref a0), (2, .int x2), (3, .int x3), (6, .ref a6), (7, .int x7)] hX dX6_unroll_123 rfl rfl (by rw [hv3, kc_i_1]) (Nat.le_of_ble_eq_true rfl) rfl ?_
      refine g_goto 6 hX dX6_unroll_126 (by decide) ?_
      refine g_lv [2, 3, 4, 1, 0] rfl ?_
      exact h6 M a0 x2 x3 v2 v3
    · refine g_iload_n 90 2 hX dX6_unroll_89 rfl rfl ?_
      refine g_iconst 91 hX 2 dX6_unroll_90 rfl kc_i_2 ?_
      refine g_icmp_ge 116 94 hX dX6_unroll_91 (by decide) rfl (fun _ => ?_) (fun _ => ?_)
      · refine g_aload 118 4 hX dX6_unroll_116 rfl rfl ?_
        refine r_X6_87 121 hX dX6_unroll_118 rfl ?_
        refine g_klI (fun v4 hv4 => ?_)
        refine g_istore 123 4 [(4, .int v4), (0, .ref a0), (2, .int x2), (3, .int x3), (5, .int x5), (6, .ref a6), (7, .int x7)] hX dX6_unroll_121 rfl (Nat.le_of_ble_eq_true rfl) rfl ?_
        refine g_kl (fun v5 hv5 => ?_)
        refine g_iinc 126 5 4 v5 [(5, .int v5), (4, .int v4), (0, .ref a0), (2, .int x2), (3, .int x3), (6, .ref a6), (7, .int x7)] hX dX6_unroll_123 rfl rfl (by rw [hv5, kc_i_1]) (Nat.le_of_ble_eq_true rfl) rfl ?_
        refine g_goto 6 hX dX6_unroll_126 (by decide) ?_
        refine g_lv [2, 3, 4, 1, 0] rfl ?_
        exact h6 M a0 x2 x3 v4 v5
      · refine g_aload_n 95 0 hX dX6_unroll_94 rfl rfl ?_
        refine g_iload 97 3 hX dX6_unroll_95 rfl rfl ?_
        refine g_iconst 98 hX 1 dX6_unroll_97 rfl kc_i_1 ?_
        refine g_iadd 99 hX dX6_unroll_98 rfl ?_
        refine g_aload 101 4 hX dX6_unroll_99 rfl rfl ?_
        refine r_X6_87 104 hX dX6_unroll_101 rfl ?_
        refine g_iload_n 105 2 hX dX6_unroll_104 rfl rfl ?_
        refine g_iconst 106 hX 1 dX6_unroll_105 rfl kc_i_1 ?_
        refine g_iadd 107 hX dX6_unroll_106 rfl ?_
        refine g_callV_v 110 hX (hrec M a0 (x5 + 1) (kI M a6 6) (x3 + 1)) lk_X6_unroll rfl (ci := 6) rfl (Nat.le_of_ble_eq_true rfl) q_868 q_14 (Nat.le_refl _) rfl (Nat.le_of_ble_eq_true rfl) (Nat.zero_le _) (Nat.zero_le _) dX6_unroll_107 rfl (fun M6 => ?_)
        refine g_kl (fun v7 hv7 => ?_)
        refine g_iinc 113 7 5 v7 [(7, .int v7), (0, .ref a0), (2, .int x2), (3, .int x3), (5, .int x5), (6, .ref a6)] hX dX6_unroll_110 rfl rfl (by rw [hv7, kc_i_1]) (Nat.le_of_ble_eq_true rfl) rfl ?_
        refine g_goto 79 hX dX6_unroll_113 (by decide) ?_
        refine g_lv [1, 2, 3, 4, 5, 0] rfl ?_
        exact ih M6 a0 x2 x3 x5 a6 v7
set_option maxRecDepth 100000 in
set_option maxHeartbeats 4000000 in
theorem k_X6_unroll_6 {dd : Nat} {p : Program} {l : Launch} {e : Env} {s : State} {m : MethodId} {args : Array Value} {below : List Frame} {meth : Method} {c : Code} {g : kG} (hX : Cok (p, l, e, { frames := 2 * (2 + dd + 1), cells := 0, slots := 0, locals := 60 * (2 + dd + 1) }, s, m, args, below, meth, c, cX6_unroll, 8, RX6, g, (2 + dd + 1))) (hr : meth.sig.returnType = none) (N : Nat) (kf : kMem → Nat → Int32 → Int32 → Int32 → Option (kMem)) (hrec : ∀ (M : kMem) (a0 : Nat) (x1 : Int32) (x2 : Int32) (x3 : Int32), kMet l g yX6_unroll cX6_unroll 8 none (2 + dd) 0 0 [.ref a0, .int x1, .int x2, .int x3] M (fun r : kMem => (none, r)) (kf M a0 x1 x2 x3)) : ∀ (n : Nat) (M : kMem) (a0 : Nat) (x2 : Int32) (x3 : Int32) (x4 : Int32) (x5 : Int32), GG (p, l, e, { frames := 2 * (2 + dd + 1), cells := 0, slots := 0, locals := 60 * (2 + dd + 1) }, s, m, args, below, meth, c, cX6_unroll, 8, RX6, g, (2 + dd + 1)) (fun b => MQ below (kQ g ((fun r : kMem => (none, r)) b)) args s 0 0 (kZ g.2.2.1)) 0 0 (F_X6_unroll_6 N kf n M a0 x2 x3 x4 x5) 6 [(0, .ref a0), (2, .int x2), (3, .int x3), (4, .int x4), (5, .int x5)] [] M := by
  intro n
  induction n with
  | zero => intro _ _ _ _ _ _; exact g_none
  | succ n ih =>
    intro M a0 x2 x3 x4 x5
    unfold F_X6_unroll_6
    refine g_iload 8 4 hX dX6_unroll_6 rfl rfl ?_
    refine g_iload_n 9 1 hX dX6_unroll_8 rfl rfl ?_
    refine g_icmp_ge 129 12 hX dX6_unroll_9 (by decide) rfl (fun _ => ?_) (fun _ => ?_)
    · exact g_vret hX hr rfl (Nat.le_refl 0) (Nat.le_refl 0) dX6_unroll_129
    · refine g_aload_n 13 0 hX dX6_unroll_12 rfl rfl ?_
      refine r_X6_36 16 hX dX6_unroll_13 rfl ?_
      refine g_aload_n 17 0 hX dX6_unroll_16 rfl rfl ?_
      refine r_X6_21 20 hX dX6_unroll_17 rfl ?_
      refine g_alen13 21 hX dX6_unroll_20 rfl ?_
      refine g_icmp_ge 129 24 hX dX6_unroll_21 (by decide) rfl (fun _ => ?_) (fun _ => ?_)
      · exact g_vret hX hr rfl (Nat.le_refl 0) (Nat.le_refl 0) dX6_unroll_129
      · refine g_iload 26 4 hX dX6_unroll_24 rfl rfl ?_
        refine g_iload 28 3 hX dX6_unroll_26 rfl rfl ?_
        refine g_icmp_ge 34 31 hX dX6_unroll_28 (by decide) rfl (fun _ => ?_) (fun _ => ?_)
        · refine g_aload_n 35 0 hX dX6_unroll_34 rfl rfl ?_
          refine g_iload 37 4 hX dX6_unroll_35 rfl rfl ?_
          refine g_callV_rp 40 hX (k_X6_commandAt l g N M a0 x5) lk_X6_commandAt rfl (ci := 6) rfl (Nat.le_of_ble_eq_true rfl) q_828 q_10 (by omega) rfl (Nat.le_of_ble_eq_true rfl) (Nat.zero_le _) (Nat.zero_le _) dX6_unroll_37 rfl (fun r1 => ?_)
          refine g_astore 42 6 [(6, .ref r1), (0, .ref a0), (2, .int x2), (3, .int x3), (4, .int x4), (5, .int x5)] hX dX6_unroll_40 rfl (Nat.le_of_ble_eq_true rfl) rfl ?_
          refine g_aload 44 0 hX dX6_unroll_42 rfl rfl ?_
          refine r_X6_71 47 hX dX6_unroll_44 rfl ?_
          refine g_bipush 49 hX 8 dX6_unroll_47 rfl kc_b_8 ?_
          refine g_icmp_eq 76 52 hX dX6_unroll_49 (by decide) rfl (fun _ => ?_) (fun _ => ?_)
          · refine g_iconst 77 hX 0 dX6_unroll_76 rfl kc_i_0 ?_
            refine g_istore 79 7 [(7, .int 0), (6, .ref r1), (0, .ref a0), (2, .int x2), (3, .int x3), (4, .int x4), (5, .int x5)] hX dX6_unroll_77 rfl (Nat.le_of_ble_eq_true rfl) rfl ?_
            refine g_lv [2, 3, 4, 6, 1, 0] rfl ?_
            exact k_X6_unroll_79 hX hr N kf hrec (fun M a0 x2 x3 x4 x5 => F_X6_unroll_6 N kf n M a0 x2 x3 x4 x5) ih N M a0 x2 x3 x5 r1 0
          · refine g_aload_n 53 1 hX dX6_unroll_52 rfl rfl ?_
            refine r_X6_21 56 hX dX6_unroll_53 rfl ?_
            refine g_aload_n 57 1 hX dX6_unroll_56 rfl rfl ?_
            refine r_X6_36 60 hX dX6_unroll_57 rfl ?_
            refine g_iload 62 5 hX dX6_unroll_60 rfl rfl ?_
            refine g_iast 63 hX dX6_unroll_62 rfl ?_
            refine g_klM (fun M8 hM8 => ?_)
            refine g_aload_n 64 1 hX dX6_unroll_63 rfl rfl ?_
            refine g_dup 65 hX dX6_unroll_64 rfl rfl ?_
            refine r_X6_36 68 hX dX6_unroll_65 rfl ?_
            refine g_iconst 69 hX 1 dX6_unroll_68 rfl kc_i_1 ?_
            refine g_iadd 70 hX dX6_unroll_69 rfl ?_
            refine p_X6_36 73 hX dX6_unroll_70 rfl ?_
            refine g_klM (fun M9 hM9 => ?_)
            refine g_goto 123 hX dX6_unroll_73 (by decide) ?_
            refine g_kl (fun v10 hv10 => ?_)
            refine g_iinc 126 5 5 v10 [(5, .int v10), (6, .ref r1), (0, .ref a0), (2, .int x2), (3, .int x3), (4, .int x4)] hX dX6_unroll_123 rfl rfl (by rw [hv10, kc_i_1]) (Nat.le_of_ble_eq_true rfl) rfl ?_
            refine g_goto 6 hX dX6_unroll_126 (by decide) ?_
            refine g_lv [2, 3, 4, 5, 0] rfl ?_
            exact ih M9 a0 x2 x3 x4 v10
        · refine g_goto 123 hX dX6_unroll_31 (by decide) ?_
          refine g_kl (fun v11 hv11 => ?_)
          refine g_iinc 126 5 4 v11 [(5, .int v11), (0, .ref a0), (2, .int x2), (3, .int x3), (4, .int x4)] hX dX6_unroll_123 rfl rfl (by rw [hv11, kc_i_1]) (Nat.le_of_ble_eq_true rfl) rfl ?_
          refine g_goto 6 hX dX6_unroll_126 (by decide) ?_
          refine g_lv [1, 2, 3, 4, 0] rfl ?_
          exact ih M a0 x2 x3 x4 v11
set_option maxRecDepth 100000 in
set_option maxHeartbeats 4000000 in
theorem k_X6_unroll (l : Launch) (g : kG) (N : Nat) : ∀ (D : Nat) (M : kMem) (a0 : Nat) (x1 : Int32) (x2 : Int32) (x3 : Int32), kMet l g yX6_unroll cX6_unroll 8 none (2 + D) 0 0 [.ref a0, .int x1, .int x2, .int x3] M (fun r : kMem => (none, r)) (F_X6_unroll N D M a0 x1 x2 x3) := by
  intro D
  induction D with
  | zero => intro M a0 x1 x2 x3 b hb; cases hb
  | succ dd ih =>
    intro M a0 x1 x2 x3
    refine k_of (lv := [(0, .ref a0), (1, .int x1), (2, .int x2), (3, .int x3)]) RX6 (by decide) rfl rfl (Nat.le_of_ble_eq_true rfl) ?_
    intro p e s m args below meth c hX hr _
    show GG _ _ _ _ (F_X6_unroll N (dd + 1) M a0 x1 x2 x3) _ _ _ _
    unfold F_X6_unroll
    refine g_kl (fun kf hkf => ?_)
    have hrec : ∀ (M : kMem) (a0 : Nat) (x1 : Int32) (x2 : Int32) (x3 : Int32), kMet l g yX6_unroll cX6_unroll 8 none (2 + dd) 0 0 [.ref a0, .int x1, .int x2, .int x3] M (fun r : kMem => (none, r)) (kf M a0 x1 x2 x3) := by rw [hkf]; exact ih
    refine g_iload_n 1 1 hX dX6_unroll_0 rfl rfl ?_
    refine g_istore 3 4 [(4, .int x1), (0, .ref a0), (1, .int x1), (2, .int x2), (3, .int x3)] hX dX6_unroll_1 rfl (Nat.le_of_ble_eq_true rfl) rfl ?_
    refine g_iload_n 4 2 hX dX6_unroll_3 rfl rfl ?_
    refine g_istore 6 5 [(5, .int x1), (4, .int x1), (0, .ref a0), (1, .int x1), (2, .int x2), (3, .int x3)] hX dX6_unroll_4 rfl (Nat.le_of_ble_eq_true rfl) rfl ?_
    refine g_lv [2, 4, 5, 1, 0] rfl ?_
    exact k_X6_unroll_6 hX hr N kf hrec N M a0 x2 x3 x1 x1
def F_X11_errorCode (N : Nat) (M : kMem) (a0 : Nat) : Option (Int32) :=
    kg (kt M a0 11) <|
    kg (kt M (kR M a0 2) 9) <|
    some (kI M (kR M a0 2) 6)
set_option maxRecDepth 100000 in
set_option maxHeartbeats 4000000 in
theorem k_X11_errorCode (l : Launch) (g : kG) (N : Nat) (M : kMem) (a0 : Nat) : kMet l g yX11_errorCode cX11_errorCode 1 (some .int) 1 0 0 [.ref a0] M (fun r : Int32 => (some (.int r), M)) (F_X11_errorCode N M a0) := by
  refine k_of (lv := [(0, .ref a0)]) RX11 (by decide) rfl rfl (Nat.le_of_ble_eq_true rfl) ?_
  intro p e s m args below meth c hX hr _
  unfold F_X11_errorCode
  refine g_aload_n 1 0 hX dX11_errorCode_0 rfl rfl ?_
  refine r_X11_24 4 hX dX11_errorCode_1 rfl ?_
  refine r_X11_109 7 hX dX11_errorCode_4 rfl ?_
  exact g_iret hX hr rfl (Nat.le_refl 0) (Nat.le_refl 0) dX11_errorCode_7
def F_X11_errorPosition (N : Nat) (M : kMem) (a0 : Nat) : Option (Int32) :=
    kg (kt M a0 11) <|
    kg (kt M (kR M a0 2) 9) <|
    some (kI M (kR M a0 2) 7)
set_option maxRecDepth 100000 in
set_option maxHeartbeats 4000000 in
theorem k_X11_errorPosition (l : Launch) (g : kG) (N : Nat) (M : kMem) (a0 : Nat) : kMet l g yX11_errorPosition cX11_errorPosition 1 (some .int) 1 0 0 [.ref a0] M (fun r : Int32 => (some (.int r), M)) (F_X11_errorPosition N M a0) := by
  refine k_of (lv := [(0, .ref a0)]) RX11 (by decide) rfl rfl (Nat.le_of_ble_eq_true rfl) ?_
  intro p e s m args below meth c hX hr _
  unfold F_X11_errorPosition
  refine g_aload_n 1 0 hX dX11_errorPosition_0 rfl rfl ?_
  refine r_X11_24 4 hX dX11_errorPosition_1 rfl ?_
  refine r_X11_140 7 hX dX11_errorPosition_4 rfl ?_
  exact g_iret hX hr rfl (Nat.le_refl 0) (Nat.le_refl 0) dX11_errorPosition_7
def F_X11_day (N : Nat) (M : kMem) (a0 : Nat) : Option (Int32) :=
    kg (kt M a0 11) <|
    kg (kt M (kR M a0 6) 4) <|
    some (kI M (kR M a0 6) 0)
set_option maxRecDepth 100000 in
set_option maxHeartbeats 4000000 in
theorem k_X11_day (l : Launch) (g : kG) (N : Nat) (M : kMem) (a0 : Nat) : kMet l g yX11_day cX11_day 1 (some .int) 1 0 0 [.ref a0] M (fun r : Int32 => (some (.int r), M)) (F_X11_day N M a0) := by
  refine k_of (lv := [(0, .ref a0)]) RX11 (by decide) rfl rfl (Nat.le_of_ble_eq_true rfl) ?_
  intro p e s m args below meth c hX hr _
  unfold F_X11_day
  refine g_aload_n 1 0 hX dX11_day_0 rfl rfl ?_
  refine r_X11_52 4 hX dX11_day_1 rfl ?_
  refine r_X11_143 7 hX dX11_day_4 rfl ?_
  exact g_iret hX hr rfl (Nat.le_refl 0) (Nat.le_refl 0) dX11_day_7
def F_X11_bank (N : Nat) (M : kMem) (a0 : Nat) : Option (Int32) :=
    kg (kt M a0 11) <|
    kg (kt M (kR M a0 6) 4) <|
    some (kI M (kR M a0 6) 1)
set_option maxRecDepth 100000 in
set_option maxHeartbeats 4000000 in
theorem k_X11_bank (l : Launch) (g : kG) (N : Nat) (M : kMem) (a0 : Nat) : kMet l g yX11_bank cX11_bank 1 (some .int) 1 0 0 [.ref a0] M (fun r : Int32 => (some (.int r), M)) (F_X11_bank N M a0) := by
  refine k_of (lv := [(0, .ref a0)]) RX11 (by decide) rfl rfl (Nat.le_of_ble_eq_true rfl) ?_
  intro p e s m args below meth c hX hr _
  unfold F_X11_bank
  refine g_aload_n 1 0 hX dX11_bank_0 rfl rfl ?_
  refine r_X11_52 4 hX dX11_bank_1 rfl ?_
  refine r_X11_146 7 hX dX11_bank_4 rfl ?_
  exact g_iret hX hr rfl (Nat.le_refl 0) (Nat.le_refl 0) dX11_bank_7
def F_X11_wage (N : Nat) (M : kMem) (a0 : Nat) : Option (Int32) :=
    kg (kt M a0 11) <|
    kg (kt M (kR M a0 6) 4) <|
    some (kI M (kR M a0 6) 2)
set_option maxRecDepth 100000 in
set_option maxHeartbeats 4000000 in
theorem k_X11_wage (l : Launch) (g : kG) (N : Nat) (M : kMem) (a0 : Nat) : kMet l g yX11_wage cX11_wage 1 (some .int) 1 0 0 [.ref a0] M (fun r : Int32 => (some (.int r), M)) (F_X11_wage N M a0) := by
  refine k_of (lv := [(0, .ref a0)]) RX11 (by decide) rfl rfl (Nat.le_of_ble_eq_true rfl) ?_
  intro p e s m args below meth c hX hr _
  unfold F_X11_wage
  refine g_aload_n 1 0 hX dX11_wage_0 rfl rfl ?_
  refine r_X11_52 4 hX dX11_wage_1 rfl ?_
  refine r_X11_149 7 hX dX11_wage_4 rfl ?_
  exact g_iret hX hr rfl (Nat.le_refl 0) (Nat.le_refl 0) dX11_wage_7
def F_X11_basePrice (N : Nat) (M : kMem) (a0 : Nat) : Option (Int32) :=
    kg (kt M a0 11) <|
    kg (kt M (kR M a0 6) 4) <|
    some (kI M (kR M a0 6) 3)
set_option maxRecDepth 100000 in
set_option maxHeartbeats 4000000 in
theorem k_X11_basePrice (l : Launch) (g : kG) (N : Nat) (M : kMem) (a0 : Nat) : kMet l g yX11_basePrice cX11_basePrice 1 (some .int) 1 0 0 [.ref a0] M (fun r : Int32 => (some (.int r), M)) (F_X11_basePrice N M a0) := by
  refine k_of (lv := [(0, .ref a0)]) RX11 (by decide) rfl rfl (Nat.le_of_ble_eq_true rfl) ?_
  intro p e s m args below meth c hX hr _
  unfold F_X11_basePrice
  refine g_aload_n 1 0 hX dX11_basePrice_0 rfl rfl ?_
  refine r_X11_52 4 hX dX11_basePrice_1 rfl ?_
  refine r_X11_152 7 hX dX11_basePrice_4 rfl ?_
  exact g_iret hX hr rfl (Nat.le_refl 0) (Nat.le_refl 0) dX11_basePrice_7
def F_X11_retirementAge (N : Nat) (M : kMem) (a0 : Nat) : Option (Int32) :=
    kg (kt M a0 11) <|
    kg (kt M (kR M a0 6) 4) <|
    some (kI M (kR M a0 6) 5)
set_option maxRecDepth 100000 in
set_option maxHeartbeats 4000000 in
theorem k_X11_retirementAge (l : Launch) (g : kG) (N : Nat) (M : kMem) (a0 : Nat) : kMet l g yX11_retirementAge cX11_retirementAge 1 (some .int) 1 0 0 [.ref a0] M (fun r : Int32 => (some (.int r), M)) (F_X11_retirementAge N M a0) := by
  refine k_of (lv := [(0, .ref a0)]) RX11 (by decide) rfl rfl (Nat.le_of_ble_eq_true rfl) ?_
  intro p e s m args below meth c hX hr _
  unfold F_X11_retirementAge
  refine g_aload_n 1 0 hX dX11_retirementAge_0 rfl rfl ?_
  refine r_X11_52 4 hX dX11_retirementAge_1 rfl ?_
  refine r_X11_155 7 hX dX11_retirementAge_4 rfl ?_
  exact g_iret hX hr rfl (Nat.le_refl 0) (Nat.le_refl 0) dX11_retirementAge_7
def F_X11_boardCount (N : Nat) (M : kMem) (a0 : Nat) : Option (Int32) :=
    kg (kt M a0 11) <|
    kg (kt M (kR M a0 6) 4) <|
    some (kI M (kR M a0 6) 11)
set_option maxRecDepth 100000 in
set_option maxHeartbeats 4000000 in
theorem k_X11_boardCount (l : Launch) (g : kG) (N : Nat) (M : kMem) (a0 : Nat) : kMet l g yX11_boardCount cX11_boardCount 1 (some .int) 1 0 0 [.ref a0] M (fun r : Int32 => (some (.int r), M)) (F_X11_boardCount N M a0) := by
  refine k_of (lv := [(0, .ref a0)]) RX11 (by decide) rfl rfl (Nat.le_of_ble_eq_true rfl) ?_
  intro p e s m args below meth c hX hr _
  unfold F_X11_boardCount
  refine g_aload_n 1 0 hX dX11_boardCount_0 rfl rfl ?_
  refine r_X11_52 4 hX dX11_boardCount_1 rfl ?_
  refine r_X11_158 7 hX dX11_boardCount_4 rfl ?_
  exact g_iret hX hr rfl (Nat.le_refl 0) (Nat.le_refl 0) dX11_boardCount_7
def F_X11_traderCount (N : Nat) (M : kMem) (a0 : Nat) : Option (Int32) :=
    kg (kt M a0 11) <|
    kg (kt M (kR M a0 6) 4) <|
    some (kI M (kR M a0 6) 12)
set_option maxRecDepth 100000 in
set_option maxHeartbeats 4000000 in
theorem k_X11_traderCount (l : Launch) (g : kG) (N : Nat) (M : kMem) (a0 : Nat) : kMet l g yX11_traderCount cX11_traderCount 1 (some .int) 1 0 0 [.ref a0] M (fun r : Int32 => (some (.int r), M)) (F_X11_traderCount N M a0) := by
  refine k_of (lv := [(0, .ref a0)]) RX11 (by decide) rfl rfl (Nat.le_of_ble_eq_true rfl) ?_
  intro p e s m args below meth c hX hr _
  unfold F_X11_traderCount
  refine g_aload_n 1 0 hX dX11_traderCount_0 rfl rfl ?_
  refine r_X11_52 4 hX dX11_traderCount_1 rfl ?_
  refine r_X11_197 7 hX dX11_traderCount_4 rfl ?_
  exact g_iret hX hr rfl (Nat.le_refl 0) (Nat.le_refl 0) dX11_traderCount_7
def F_X11_findTrader (N : Nat) (M : kMem) (a0 : Nat) : Option (Int32 × kMem) :=
    kg (kt M a0 11) <|
    kg (kt M a0 11) <|
    kg (kt M a0 11) <|
    kg (kt M (kR M a0 0) 8) <|
    kg (kt M (kR M a0 5) 5) <| (F_X5_read N M (kR M a0 5) (kR M a0 0) 0 (kI M (kR M a0 0) 1)).bind fun r1 =>
    if r1.1 = 0 then (
      some ((-1), r1.2)) else
    kg (kt r1.2 a0 11) <|
    kg (kt r1.2 a0 11) <|
    kg (kt r1.2 (kR r1.2 a0 6) 4) <| (F_X4_traderNamed N r1.2 (kR r1.2 a0 6) (kR r1.2 a0 5)).bind fun r2 =>
    if r2 = 0 then (
      some ((-1), r1.2)) else
    kg (kt r1.2 r2 10) <|
    some (kI r1.2 r2 0, r1.2)
set_option maxRecDepth 100000 in
set_option maxHeartbeats 4000000 in
theorem k_X11_findTrader (l : Launch) (g : kG) (N : Nat) (M : kMem) (a0 : Nat) : kMet l g yX11_findTrader cX11_findTrader 2 (some .int) 4 0 0 [.ref a0] M (fun r : Int32 × kMem => (some (.int r.1), r.2)) (F_X11_findTrader N M a0) := by
  refine k_of (lv := [(0, .ref a0)]) RX11 (by decide) rfl rfl (Nat.le_of_ble_eq_true rfl) ?_
  intro p e s m args below meth c hX hr _
  unfold F_X11_findTrader
  refine g_aload_n 1 0 hX dX11_findTrader_0 rfl rfl ?_
  refine r_X11_45 4 hX dX11_findTrader_1 rfl ?_
  refine g_aload_n 5 0 hX dX11_findTrader_4 rfl rfl ?_
  refine r_X11_10 8 hX dX11_findTrader_5 rfl ?_
  refine g_iconst 9 hX 0 dX11_findTrader_8 rfl kc_i_0 ?_
  refine g_aload_n 10 0 hX dX11_findTrader_9 rfl rfl ?_
  refine r_X11_10 13 hX dX11_findTrader_10 rfl ?_
  refine r_X11_91 16 hX dX11_findTrader_13 rfl ?_
  refine g_callV_i 19 hX (k_X5_read l g N M (kR M a0 5) (kR M a0 0) 0 (kI M (kR M a0 0) 1)) lk_X5_read rfl (ci := 5) rfl (Nat.le_of_ble_eq_true rfl) q_1079 q_671 (by omega) rfl (Nat.le_of_ble_eq_true rfl) (Nat.zero_le _) (Nat.zero_le _) dX11_findTrader_16 rfl (fun r1 => ?_)
  refine g_if_ne 24 22 hX dX11_findTrader_19 (by decide) rfl (fun _ => ?_) (fun _ => ?_)
  · refine g_aload_n 25 0 hX dX11_findTrader_24 rfl rfl ?_
    refine r_X11_52 28 hX dX11_findTrader_25 rfl ?_
    refine g_aload_n 29 0 hX dX11_findTrader_28 rfl rfl ?_
    refine r_X11_45 32 hX dX11_findTrader_29 rfl ?_
    refine g_callV_rp 35 hX (k_X4_traderNamed l g N r1.2 (kR r1.2 a0 6) (kR r1.2 a0 5)) lk_X4_traderNamed rfl (ci := 4) rfl (Nat.le_of_ble_eq_true rfl) q_1080 q_677 (by omega) rfl (Nat.le_of_ble_eq_true rfl) (Nat.zero_le _) (Nat.zero_le _) dX11_findTrader_32 rfl (fun r2 => ?_)
    refine g_astore_n 36 1 [(1, .ref r2), (0, .ref a0)] hX dX11_findTrader_35 rfl rfl (Nat.le_of_ble_eq_true rfl) rfl ?_
    refine g_aload_n 37 0 hX dX11_findTrader_36 rfl rfl ?_
    refine g_ifnonnull 44 40 hX dX11_findTrader_37 (by decide) rfl (fun _ => ?_) (fun _ => ?_)
    · refine g_aload_n 45 0 hX dX11_findTrader_44 rfl rfl ?_
      refine r_X11_207 48 hX dX11_findTrader_45 rfl ?_
      exact g_iret hX hr rfl (Nat.le_refl 0) (Nat.le_refl 0) dX11_findTrader_48
    · refine g_iconst 41 hX (-1) dX11_findTrader_40 rfl kc_i_m1 ?_
      refine g_goto 48 hX dX11_findTrader_41 (by decide) ?_
      exact g_iret hX hr rfl (Nat.le_refl 0) (Nat.le_refl 0) dX11_findTrader_48
  · refine g_iconst 23 hX (-1) dX11_findTrader_22 rfl kc_i_m1 ?_
    exact g_iret hX hr rfl (Nat.le_refl 0) (Nat.le_refl 0) dX11_findTrader_23
def F_X11_richestAt (N : Nat) (M : kMem) (a0 : Nat) (x1 : Int32) : Option (Int32) :=
    kg (kt M a0 11) <|
    kg (kt M (kR M a0 6) 4) <| (F_X4_traderWithRank N M (kR M a0 6) x1).bind fun r1 =>
    some r1
set_option maxRecDepth 100000 in
set_option maxHeartbeats 4000000 in
theorem k_X11_richestAt (l : Launch) (g : kG) (N : Nat) (M : kMem) (a0 : Nat) (x1 : Int32) : kMet l g yX11_richestAt cX11_richestAt 2 (some .int) 3 0 0 [.ref a0, .int x1] M (fun r : Int32 => (some (.int r), M)) (F_X11_richestAt N M a0 x1) := by
  refine k_of (lv := [(0, .ref a0), (1, .int x1)]) RX11 (by decide) rfl rfl (Nat.le_of_ble_eq_true rfl) ?_
  intro p e s m args below meth c hX hr _
  unfold F_X11_richestAt
  refine g_aload_n 1 0 hX dX11_richestAt_0 rfl rfl ?_
  refine r_X11_52 4 hX dX11_richestAt_1 rfl ?_
  refine g_iload_n 5 1 hX dX11_richestAt_4 rfl rfl ?_
  refine g_callV_ip 8 hX (k_X4_traderWithRank l g N M (kR M a0 6) x1) lk_X4_traderWithRank rfl (ci := 4) rfl (Nat.le_of_ble_eq_true rfl) q_1085 q_1087 (by omega) rfl (Nat.le_of_ble_eq_true rfl) (Nat.zero_le _) (Nat.zero_le _) dX11_richestAt_5 rfl (fun r1 => ?_)
  exact g_iret hX hr rfl (Nat.le_refl 0) (Nat.le_refl 0) dX11_richestAt_8
def F_X11_seatsSold (N : Nat) (M : kMem) (a0 : Nat) : Option (Int32) :=
    kg (kt M a0 11) <|
    kg (kt M (kR M a0 6) 4) <|
    some (kI M (kR M a0 6) 8)
set_option maxRecDepth 100000 in
set_option maxHeartbeats 4000000 in
theorem k_X11_seatsSold (l : Launch) (g : kG) (N : Nat) (M : kMem) (a0 : Nat) : kMet l g yX11_seatsSold cX11_seatsSold 1 (some .int) 1 0 0 [.ref a0] M (fun r : Int32 => (some (.int r), M)) (F_X11_seatsSold N M a0) := by
  refine k_of (lv := [(0, .ref a0)]) RX11 (by decide) rfl rfl (Nat.le_of_ble_eq_true rfl) ?_
  intro p e s m args below meth c hX hr _
  unfold F_X11_seatsSold
  refine g_aload_n 1 0 hX dX11_seatsSold_0 rfl rfl ?_
  refine r_X11_52 4 hX dX11_seatsSold_1 rfl ?_
  refine r_X11_275 7 hX dX11_seatsSold_4 rfl ?_
  exact g_iret hX hr rfl (Nat.le_refl 0) (Nat.le_refl 0) dX11_seatsSold_7
def F_X11_weightSold (N : Nat) (M : kMem) (a0 : Nat) : Option (Int32) :=
    kg (kt M a0 11) <|
    kg (kt M (kR M a0 6) 4) <|
    some (kI M (kR M a0 6) 9)
set_option maxRecDepth 100000 in
set_option maxHeartbeats 4000000 in
theorem k_X11_weightSold (l : Launch) (g : kG) (N : Nat) (M : kMem) (a0 : Nat) : kMet l g yX11_weightSold cX11_weightSold 1 (some .int) 1 0 0 [.ref a0] M (fun r : Int32 => (some (.int r), M)) (F_X11_weightSold N M a0) := by
  refine k_of (lv := [(0, .ref a0)]) RX11 (by decide) rfl rfl (Nat.le_of_ble_eq_true rfl) ?_
  intro p e s m args below meth c hX hr _
  unfold F_X11_weightSold
  refine g_aload_n 1 0 hX dX11_weightSold_0 rfl rfl ?_
  refine r_X11_52 4 hX dX11_weightSold_1 rfl ?_
  refine r_X11_278 7 hX dX11_weightSold_4 rfl ?_
  exact g_iret hX hr rfl (Nat.le_refl 0) (Nat.le_refl 0) dX11_weightSold_7
def F_X11_fallCount (N : Nat) (M : kMem) (a0 : Nat) : Option (Int32) :=
    kg (kt M a0 11) <|
    kg (kt M (kR M a0 6) 4) <|
    some (kI M (kR M a0 6) 10)
set_option maxRecDepth 100000 in
set_option maxHeartbeats 4000000 in
theorem k_X11_fallCount (l : Launch) (g : kG) (N : Nat) (M : kMem) (a0 : Nat) : kMet l g yX11_fallCount cX11_fallCount 1 (some .int) 1 0 0 [.ref a0] M (fun r : Int32 => (some (.int r), M)) (F_X11_fallCount N M a0) := by
  refine k_of (lv := [(0, .ref a0)]) RX11 (by decide) rfl rfl (Nat.le_of_ble_eq_true rfl) ?_
  intro p e s m args below meth c hX hr _
  unfold F_X11_fallCount
  refine g_aload_n 1 0 hX dX11_fallCount_0 rfl rfl ?_
  refine r_X11_52 4 hX dX11_fallCount_1 rfl ?_
  refine r_X11_281 7 hX dX11_fallCount_4 rfl ?_
  exact g_iret hX hr rfl (Nat.le_refl 0) (Nat.le_refl 0) dX11_fallCount_7
def F_X11_averagePurse (N : Nat) (M : kMem) (a0 : Nat) : Option (UInt64) :=
    kg (kt M a0 11) <|
    kg (kt M (kR M a0 6) 4) <| (F_X4_presentTraders N M (kR M a0 6)).bind fun r1 =>
    if r1 = 0 then (
      some FP.dconst0) else
    kg (kt M a0 11) <|
    kg (kt M (kR M a0 6) 4) <| (F_X4_coinsInPurses N M (kR M a0 6)).bind fun r2 =>
    kg (decide (FP.ddiv (FP.i2d r2) (FP.i2d r1) &&& 0x7fffffffffffffff ≤ 0x7ff0000000000000)) <|
    some (FP.ddiv (FP.i2d r2) (FP.i2d r1))
set_option maxRecDepth 100000 in
set_option maxHeartbeats 4000000 in
theorem k_X11_averagePurse (l : Launch) (g : kG) (N : Nat) (M : kMem) (a0 : Nat) : kMet l g yX11_averagePurse cX11_averagePurse 2 (some .double) 2 0 0 [.ref a0] M (fun r : UInt64 => (some (.double r), M)) (F_X11_averagePurse N M a0) := by
  refine k_of (lv := [(0, .ref a0)]) RX11 (by decide) rfl rfl (Nat.le_of_ble_eq_true rfl) ?_
  intro p e s m args below meth c hX hr _
  unfold F_X11_averagePurse
  refine g_aload_n 1 0 hX dX11_averagePurse_0 rfl rfl ?_
  refine r_X11_52 4 hX dX11_averagePurse_1 rfl ?_
  refine g_callV_ip 7 hX (k_X4_presentTraders l g N M (kR M a0 6)) lk_X4_presentTraders rfl (ci := 4) rfl (Nat.le_of_ble_eq_true rfl) q_1109 q_1111 (by omega) rfl (Nat.le_of_ble_eq_true rfl) (Nat.zero_le _) (Nat.zero_le _) dX11_averagePurse_4 rfl (fun r1 => ?_)
  refine g_istore_n 8 1 [(1, .int r1), (0, .ref a0)] hX dX11_averagePurse_7 rfl rfl (Nat.le_of_ble_eq_true rfl) rfl ?_
  refine g_iload_n 9 0 hX dX11_averagePurse_8 rfl rfl ?_
  refine g_if_ne 16 12 hX dX11_averagePurse_9 (by decide) rfl (fun _ => ?_) (fun _ => ?_)
  · refine g_aload_n 17 1 hX dX11_averagePurse_16 rfl rfl ?_
    refine r_X11_52 20 hX dX11_averagePurse_17 rfl ?_
    refine g_callV_ip 23 hX (k_X4_coinsInPurses l g N M (kR M a0 6)) lk_X4_coinsInPurses rfl (ci := 4) rfl (Nat.le_of_ble_eq_true rfl) q_1113 q_1115 (by omega) rfl (Nat.le_of_ble_eq_true rfl) (Nat.zero_le _) (Nat.zero_le _) dX11_averagePurse_20 rfl (fun r2 => ?_)
    refine g_i2d 24 hX dX11_averagePurse_23 rfl ?_
    refine g_iload_n 25 0 hX dX11_averagePurse_24 rfl rfl ?_
    refine g_i2d 26 hX dX11_averagePurse_25 rfl ?_
    refine g_ddiv 27 hX dX11_averagePurse_26 rfl ?_
    exact g_dret hX hr rfl (Nat.le_refl 0) (Nat.le_refl 0) dX11_averagePurse_27
  · refine g_dconst0 13 hX dX11_averagePurse_12 rfl ?_
    refine g_goto 27 hX dX11_averagePurse_13 (by decide) ?_
    exact g_dret hX hr rfl (Nat.le_refl 0) (Nat.le_refl 0) dX11_averagePurse_27
def F_X11_occupancy (N : Nat) (M : kMem) (a0 : Nat) : Option (UInt32) :=
    kg (kt M a0 11) <|
    kg (kt M (kR M a0 6) 4) <| (F_X4_seatCount N M (kR M a0 6)).bind fun r1 =>
    if r1 = 0 then (
      some FP.fconst0) else
    kg (kt M a0 11) <|
    kg (kt M (kR M a0 6) 4) <| (F_X4_seatedTraders N M (kR M a0 6)).bind fun r2 =>
    kg (decide (FP.fdiv (FP.i2f r2) (FP.i2f r1) &&& 0x7fffffff ≤ 0x7f800000)) <|
    some (FP.fdiv (FP.i2f r2) (FP.i2f r1))
set_option maxRecDepth 100000 in
set_option maxHeartbeats 4000000 in
theorem k_X11_occupancy (l : Launch) (g : kG) (N : Nat) (M : kMem) (a0 : Nat) : kMet l g yX11_occupancy cX11_occupancy 2 (some .float) 3 0 0 [.ref a0] M (fun r : UInt32 => (some (.float r), M)) (F_X11_occupancy N M a0) := by
  refine k_of (lv := [(0, .ref a0)]) RX11 (by decide) rfl rfl (Nat.le_of_ble_eq_true rfl) ?_
  intro p e s m args below meth c hX hr _
  unfold F_X11_occupancy
  refine g_aload_n 1 0 hX dX11_occupancy_0 rfl rfl ?_
  refine r_X11_52 4 hX dX11_occupancy_1 rfl ?_
  refine g_callV_ip 7 hX (k_X4_seatCount l g N M (kR M a0 6)) lk_X4_seatCount rfl (ci := 4) rfl (Nat.le_of_ble_eq_true rfl) q_1121 q_1123 (by omega) rfl (Nat.le_of_ble_eq_true rfl) (Nat.zero_le _) (Nat.zero_le _) dX11_occupancy_4 rfl (fun r1 => ?_)
  refine g_istore_n 8 1 [(1, .int r1), (0, .ref a0)] hX dX11_occupancy_7 rfl rfl (Nat.le_of_ble_eq_true rfl) rfl ?_
  refine g_iload_n 9 0 hX dX11_occupancy_8 rfl rfl ?_
  refine g_if_ne 16 12 hX dX11_occupancy_9 (by decide) rfl (fun _ => ?_) (fun _ => ?_)
  · refine g_aload_n 17 1 hX dX11_occupancy_16 rfl rfl ?_
    refine r_X11_52 20 hX dX11_occupancy_17 rfl ?_
    refine g_callV_ip 23 hX (k_X4_seatedTraders l g N M (kR M a0 6)) lk_X4_seatedTraders rfl (ci := 4) rfl (Nat.le_of_ble_eq_true rfl) q_1125 q_1127 (by omega) rfl (Nat.le_of_ble_eq_true rfl) (Nat.zero_le _) (Nat.zero_le _) dX11_occupancy_20 rfl (fun r2 => ?_)
    refine g_i2f 24 hX dX11_occupancy_23 rfl ?_
    refine g_iload_n 25 0 hX dX11_occupancy_24 rfl rfl ?_
    refine g_i2f 26 hX dX11_occupancy_25 rfl ?_
    refine g_fdiv 27 hX dX11_occupancy_26 rfl ?_
    exact g_fret hX hr rfl (Nat.le_refl 0) (Nat.le_refl 0) dX11_occupancy_27
  · refine g_fconst0 13 hX dX11_occupancy_12 rfl ?_
    refine g_goto 27 hX dX11_occupancy_13 (by decide) ?_
    exact g_fret hX hr rfl (Nat.le_refl 0) (Nat.le_refl 0) dX11_occupancy_27
def F_X11_contradictions (N : Nat) (M : kMem) (a0 : Nat) : Option (Int32) :=
    kg (kt M a0 11) <|
    kg (kt M (kR M a0 6) 4) <| (F_X4_countContradictions N M (kR M a0 6)).bind fun r1 =>
    some r1
set_option maxRecDepth 100000 in
set_option maxHeartbeats 4000000 in
theorem k_X11_contradictions (l : Launch) (g : kG) (N : Nat) (M : kMem) (a0 : Nat) : kMet l g yX11_contradictions cX11_contradictions 1 (some .int) 5 0 0 [.ref a0] M (fun r : Int32 => (some (.int r), M)) (F_X11_contradictions N M a0) := by
  refine k_of (lv := [(0, .ref a0)]) RX11 (by decide) rfl rfl (Nat.le_of_ble_eq_true rfl) ?_
  intro p e s m args below meth c hX hr _
  unfold F_X11_contradictions
  refine g_aload_n 1 0 hX dX11_contradictions_0 rfl rfl ?_
  refine r_X11_52 4 hX dX11_contradictions_1 rfl ?_
  refine g_callV_ip 7 hX (k_X4_countContradictions l g N M (kR M a0 6)) lk_X4_countContradictions rfl (ci := 4) rfl (Nat.le_of_ble_eq_true rfl) q_1133 q_1135 (by omega) rfl (Nat.le_of_ble_eq_true rfl) (Nat.zero_le _) (Nat.zero_le _) dX11_contradictions_4 rfl (fun r1 => ?_)
  exact g_iret hX hr rfl (Nat.le_refl 0) (Nat.le_refl 0) dX11_contradictions_7
def F_X11_eventKind (N : Nat) (M : kMem) (a0 : Nat) (x1 : Int32) : Option (Int32) :=
    kg (kt M a0 11) <|
    kg (kt M (kR M a0 6) 4) <|
    kg (kt M (kR M (kR M a0 6) 15) 2) <| (F_X2_kindAt N M (kR M (kR M a0 6) 15) x1).bind fun r1 =>
    some r1
set_option maxRecDepth 100000 in
set_option maxHeartbeats 4000000 in
theorem k_X11_eventKind (l : Launch) (g : kG) (N : Nat) (M : kMem) (a0 : Nat) (x1 : Int32) : kMet l g yX11_eventKind cX11_eventKind 2 (some .int) 3 0 0 [.ref a0, .int x1] M (fun r : Int32 => (some (.int r), M)) (F_X11_eventKind N M a0 x1) := by
  refine k_of (lv := [(0, .ref a0), (1, .int x1)]) RX11 (by decide) rfl rfl (Nat.le_of_ble_eq_true rfl) ?_
  intro p e s m args below meth c hX hr _
  unfold F_X11_eventKind
  refine g_aload_n 1 0 hX dX11_eventKind_0 rfl rfl ?_
  refine r_X11_52 4 hX dX11_eventKind_1 rfl ?_
  refine r_X11_300 7 hX dX11_eventKind_4 rfl ?_
  refine g_iload_n 8 1 hX dX11_eventKind_7 rfl rfl ?_
  refine g_callV_ip 11 hX (k_X2_kindAt l g N M (kR M (kR M a0 6) 15) x1) lk_X2_kindAt rfl (ci := 2) rfl (Nat.le_of_ble_eq_true rfl) q_1154 q_1156 (by omega) rfl (Nat.le_of_ble_eq_true rfl) (Nat.zero_le _) (Nat.zero_le _) dX11_eventKind_8 rfl (fun r1 => ?_)
  exact g_iret hX hr rfl (Nat.le_refl 0) (Nat.le_refl 0) dX11_eventKind_11
def F_X11_eventTrader (N : Nat) (M : kMem) (a0 : Nat) (x1 : Int32) : Option (Int32) :=
    kg (kt M a0 11) <|
    kg (kt M (kR M a0 6) 4) <|
    kg (kt M (kR M (kR M a0 6) 15) 2) <| (F_X2_traderAt N M (kR M (kR M a0 6) 15) x1).bind fun r1 =>
    some r1
set_option maxRecDepth 100000 in
set_option maxHeartbeats 4000000 in
theorem k_X11_eventTrader (l : Launch) (g : kG) (N : Nat) (M : kMem) (a0 : Nat) (x1 : Int32) : kMet l g yX11_eventTrader cX11_eventTrader 2 (some .int) 3 0 0 [.ref a0, .int x1] M (fun r : Int32 => (some (.int r), M)) (F_X11_eventTrader N M a0 x1) := by
  refine k_of (lv := [(0, .ref a0), (1, .int x1)]) RX11 (by decide) rfl rfl (Nat.le_of_ble_eq_true rfl) ?_
  intro p e s m args below meth c hX hr _
  unfold F_X11_eventTrader
  refine g_aload_n 1 0 hX dX11_eventTrader_0 rfl rfl ?_
  refine r_X11_52 4 hX dX11_eventTrader_1 rfl ?_
  refine r_X11_300 7 hX dX11_eventTrader_4 rfl ?_
  refine g_iload_n 8 1 hX dX11_eventTrader_7 rfl rfl ?_
  refine g_callV_ip 11 hX (k_X2_traderAt l g N M (kR M (kR M a0 6) 15) x1) lk_X2_traderAt rfl (ci := 2) rfl (Nat.le_of_ble_eq_true rfl) q_1166 q_1168 (by omega) rfl (Nat.le_of_ble_eq_true rfl) (Nat.zero_le _) (Nat.zero_le _) dX11_eventTrader_8 rfl (fun r1 => ?_)
  exact g_iret hX hr rfl (Nat.le_refl 0) (Nat.le_refl 0) dX11_eventTrader_11
def F_X11_eventDay (N : Nat) (M : kMem) (a0 : Nat) (x1 : Int32) : Option (Int32) :=
    kg (kt M a0 11) <|
    kg (kt M (kR M a0 6) 4) <|
    kg (kt M (kR M (kR M a0 6) 15) 2) <| (F_X2_dayAt N M (kR M (kR M a0 6) 15) x1).bind fun r1 =>
    some r1
set_option maxRecDepth 100000 in
set_option maxHeartbeats 4000000 in
theorem k_X11_eventDay (l : Launch) (g : kG) (N : Nat) (M : kMem) (a0 : Nat) (x1 : Int32) : kMet l g yX11_eventDay cX11_eventDay 2 (some .int) 3 0 0 [.ref a0, .int x1] M (fun r : Int32 => (some (.int r), M)) (F_X11_eventDay N M a0 x1) := by
  refine k_of (lv := [(0, .ref a0), (1, .int x1)]) RX11 (by decide) rfl rfl (Nat.le_of_ble_eq_true rfl) ?_
  intro p e s m args below meth c hX hr _
  unfold F_X11_eventDay
  refine g_aload_n 1 0 hX dX11_eventDay_0 rfl rfl ?_
  refine r_X11_52 4 hX dX11_eventDay_1 rfl ?_
  refine r_X11_300 7 hX dX11_eventDay_4 rfl ?_
  refine g_iload_n 8 1 hX dX11_eventDay_7 rfl rfl ?_
  refine g_callV_ip 11 hX (k_X2_dayAt l g N M (kR M (kR M a0 6) 15) x1) lk_X2_dayAt rfl (ci := 2) rfl (Nat.le_of_ble_eq_true rfl) q_1174 q_1176 (by omega) rfl (Nat.le_of_ble_eq_true rfl) (Nat.zero_le _) (Nat.zero_le _) dX11_eventDay_8 rfl (fun r1 => ?_)
  exact g_iret hX hr rfl (Nat.le_refl 0) (Nat.le_refl 0) dX11_eventDay_11
def F_X11_outputByte (N : Nat) (M : kMem) (a0 : Nat) (x1 : Int32) : Option (Int32) :=
    kg (kt M a0 11) <|
    kg (kt M (kR M a0 1) 8) <| (F_X8_byteAt N M (kR M a0 1) x1).bind fun r1 =>
    some r1
set_option maxRecDepth 100000 in
set_option maxHeartbeats 4000000 in
theorem k_X11_outputByte (l : Launch) (g : kG) (N : Nat) (M : kMem) (a0 : Nat) (x1 : Int32) : kMet l g yX11_outputByte cX11_outputByte 2 (some .int) 2 0 0 [.ref a0, .int x1] M (fun r : Int32 => (some (.int r), M)) (F_X11_outputByte N M a0 x1) := by
  refine k_of (lv := [(0, .ref a0), (1, .int x1)]) RX11 (by decide) rfl rfl (Nat.le_of_ble_eq_true rfl) ?_
  intro p e s m args below meth c hX hr _
  unfold F_X11_outputByte
  refine g_aload_n 1 0 hX dX11_outputByte_0 rfl rfl ?_
  refine r_X11_16 4 hX dX11_outputByte_1 rfl ?_
  refine g_iload_n 5 1 hX dX11_outputByte_4 rfl rfl ?_
  refine g_callV_ip 8 hX (k_X8_byteAt l g N M (kR M a0 1) x1) lk_X8_byteAt rfl (ci := 8) rfl (Nat.le_of_ble_eq_true rfl) q_1182 q_560 (by omega) rfl (Nat.le_of_ble_eq_true rfl) (Nat.zero_le _) (Nat.zero_le _) dX11_outputByte_5 rfl (fun r1 => ?_)
  exact g_iret hX hr rfl (Nat.le_refl 0) (Nat.le_refl 0) dX11_outputByte_8
def F_X11_undoCount (N : Nat) (M : kMem) (a0 : Nat) : Option (Int32) :=
    kg (kt M a0 11) <|
    kg (kt M (kR M a0 8) 3) <|
    some (kI M (kR M a0 8) 2)
set_option maxRecDepth 100000 in
set_option maxHeartbeats 4000000 in
theorem k_X11_undoCount (l : Launch) (g : kG) (N : Nat) (M : kMem) (a0 : Nat) : kMet l g yX11_undoCount cX11_undoCount 1 (some .int) 1 0 0 [.ref a0] M (fun r : Int32 => (some (.int r), M)) (F_X11_undoCount N M a0) := by
  refine k_of (lv := [(0, .ref a0)]) RX11 (by decide) rfl rfl (Nat.le_of_ble_eq_true rfl) ?_
  intro p e s m args below meth c hX hr _
  unfold F_X11_undoCount
  refine g_aload_n 1 0 hX dX11_undoCount_0 rfl rfl ?_
  refine r_X11_62 4 hX dX11_undoCount_1 rfl ?_
  refine r_X11_368 7 hX dX11_undoCount_4 rfl ?_
  exact g_iret hX hr rfl (Nat.le_refl 0) (Nat.le_refl 0) dX11_undoCount_7
def F_X11_writePlace (N : Nat) (M : kMem) (a0 : Nat) (a1 : Nat) (x2 : Int32) : Option (kMem) :=
    kg (kt M a0 11) <|
    kg (kt M a1 0) <| (F_X0_ownerAt N M a1 x2).bind fun r1 =>
    kg (kt M (kR M a0 6) 4) <| (F_X4_traderNumbered N M (kR M a0 6) r1).bind fun r2 =>
    if x2 = 0 then (
      kg (kt M a0 11) <|
      kg (kt M (kR M a0 1) 8) <| (F_X8_add N M (kR M a0 1) 94).bind fun M5 =>
      some M5) else
    if r2 = 0 then (
      kg (kt M a0 11) <|
      kg (kt M (kR M a0 1) 8) <| (F_X8_add N M (kR M a0 1) 46).bind fun M4 =>
      some M4) else
    kg (kt M a0 11) <|
    kg (kt M r2 10) <|
    kg (kt M (kR M a0 1) 8) <| (F_X8_addName N M (kR M a0 1) (kR M r2 1)).bind fun M3 =>
    some M3
set_option maxRecDepth 100000 in
set_option maxHeartbeats 4000000 in
theorem k_X11_writePlace (l : Launch) (g : kG) (N : Nat) (M : kMem) (a0 : Nat) (a1 : Nat) (x2 : Int32) : kMet l g yX11_writePlace cX11_writePlace 4 none 3 0 0 [.ref a0, .ref a1, .int x2] M (fun r : kMem => (none, r)) (F_X11_writePlace N M a0 a1 x2) := by
  refine k_of (lv := [(0, .ref a0), (1, .ref a1), (2, .int x2)]) RX11 (by decide) rfl rfl (Nat.le_of_ble_eq_true rfl) ?_
  intro p e s m args below meth c hX hr _
  unfold F_X11_writePlace
  refine g_aload_n 1 0 hX dX11_writePlace_0 rfl rfl ?_
  refine r_X11_52 4 hX dX11_writePlace_1 rfl ?_
  refine g_aload_n 5 1 hX dX11_writePlace_4 rfl rfl ?_
  refine g_iload_n 6 2 hX dX11_writePlace_5 rfl rfl ?_
  refine g_callV_ip 9 hX (k_X0_ownerAt l g N M a1 x2) lk_X0_ownerAt rfl (ci := 0) rfl (Nat.le_of_ble_eq_true rfl) q_1368 q_731 (by omega) rfl (Nat.le_of_ble_eq_true rfl) (Nat.zero_le _) (Nat.zero_le _) dX11_writePlace_6 rfl (fun r1 => ?_)
  refine g_callV_rp 12 hX (k_X4_traderNumbered l g N M (kR M a0 6) r1) lk_X4_traderNumbered rfl (ci := 4) rfl (Nat.le_of_ble_eq_true rfl) q_1407 q_1037 (by omega) rfl (Nat.le_of_ble_eq_true rfl) (Nat.zero_le _) (Nat.zero_le _) dX11_writePlace_9 rfl (fun r2 => ?_)
  refine g_astore_n 13 3 [(3, .ref r2), (0, .ref a0), (1, .ref a1), (2, .int x2)] hX dX11_writePlace_12 rfl rfl (Nat.le_of_ble_eq_true rfl) rfl ?_
  refine g_iload_n 14 3 hX dX11_writePlace_13 rfl rfl ?_
  refine g_if_ne 29 17 hX dX11_writePlace_14 (by decide) rfl (fun _ => ?_) (fun _ => ?_)
  · refine g_aload_n 30 0 hX dX11_writePlace_29 rfl rfl ?_
    refine g_ifnonnull 45 33 hX dX11_writePlace_30 (by decide) rfl (fun _ => ?_) (fun _ => ?_)
    · refine g_aload_n 46 1 hX dX11_writePlace_45 rfl rfl ?_
      refine r_X11_16 49 hX dX11_writePlace_46 rfl ?_
      refine g_aload_n 50 0 hX dX11_writePlace_49 rfl rfl ?_
      refine r_X11_216 53 hX dX11_writePlace_50 rfl ?_
      refine g_callV_v 56 hX (k_X8_addName l g N M (kR M a0 1) (kR M r2 1)) lk_X8_addName rfl (ci := 8) rfl (Nat.le_of_ble_eq_true rfl) q_1621 q_1623 (by omega) rfl (Nat.le_of_ble_eq_true rfl) (Nat.zero_le _) (Nat.zero_le _) dX11_writePlace_53 rfl (fun M3 => ?_)
      exact g_vret hX hr rfl (Nat.le_refl 0) (Nat.le_refl 0) dX11_writePlace_56
    · refine g_aload_n 34 1 hX dX11_writePlace_33 rfl rfl ?_
      refine r_X11_16 37 hX dX11_writePlace_34 rfl ?_
      refine g_bipush 39 hX 46 dX11_writePlace_37 rfl kc_b_46 ?_
      refine g_callV_v 42 hX (k_X8_add l g N M (kR M a0 1) 46) lk_X8_add rfl (ci := 8) rfl (Nat.le_of_ble_eq_true rfl) q_1616 q_546 (by omega) rfl (Nat.le_of_ble_eq_true rfl) (Nat.zero_le _) (Nat.zero_le _) dX11_writePlace_39 rfl (fun M4 => ?_)
      refine g_goto 56 hX dX11_writePlace_42 (by decide) ?_
      exact g_vret hX hr rfl (Nat.le_refl 0) (Nat.le_refl 0) dX11_writePlace_56
  · refine g_aload_n 18 1 hX dX11_writePlace_17 rfl rfl ?_
    refine r_X11_16 21 hX dX11_writePlace_18 rfl ?_
    refine g_bipush 23 hX 94 dX11_writePlace_21 rfl kc_b_94 ?_
    refine g_callV_v 26 hX (k_X8_add l g N M (kR M a0 1) 94) lk_X8_add rfl (ci := 8) rfl (Nat.le_of_ble_eq_true rfl) q_1616 q_546 (by omega) rfl (Nat.le_of_ble_eq_true rfl) (Nat.zero_le _) (Nat.zero_le _) dX11_writePlace_23 rfl (fun M5 => ?_)
    refine g_goto 56 hX dX11_writePlace_26 (by decide) ?_
    exact g_vret hX hr rfl (Nat.le_refl 0) (Nat.le_refl 0) dX11_writePlace_56
def F_X11_bytesIn_5 (N : Nat) (M : kMem) : Nat → Int32 → Int32 → Int32 → Option (Int32)
  | 0, _, _, _ => none
  | n + 1, x0, x1, x2 =>
    if x2 < 0 then (
      some x1) else
    if (((x0.toUInt32 >>> (x2.toUInt32 &&& Int32.toUInt32 31)).toInt32) &&& 255) = 0 then (
      kl (x2 + (-8)) fun v1 =>
      F_X11_bytesIn_5 N M n x0 x1 v1) else
    kl (x1 + 1) fun v2 =>
    kl (x2 + (-8)) fun v3 =>
    F_X11_bytesIn_5 N M n x0 v2 v3
def F_X11_bytesIn (N : Nat) (M : kMem) (x0 : Int32) : Option (Int32) :=
    F_X11_bytesIn_5 N M N x0 0 24
set_option maxRecDepth 100000 in
set_option maxHeartbeats 4000000 in
theorem k_X11_bytesIn_5 {p : Program} {l : Launch} {e : Env} {s : State} {m : MethodId} {args : Array Value} {below : List Frame} {meth : Method} {c : Code} {g : kG} (hX : Cok (p, l, e, { frames := 2 * 1, cells := 0, slots := 0, locals := 60 * 1 }, s, m, args, below, meth, c, cX11_bytesIn, 3, RX11, g, 1)) (hr : meth.sig.returnType = (some .int)) (N : Nat) (M : kMem) : ∀ (n : Nat) (x0 : Int32) (x1 : Int32) (x2 : Int32), GG (p, l, e, { frames := 2 * 1, cells := 0, slots := 0, locals := 60 * 1 }, s, m, args, below, meth, c, cX11_bytesIn, 3, RX11, g, 1) (fun b => MQ below (kQ g ((fun r : Int32 => (some (.int r), M)) b)) args s 0 0 (kZ g.2.2.1)) 0 0 (F_X11_bytesIn_5 N M n x0 x1 x2) 5 [(0, .int x0), (1, .int x1), (2, .int x2)] [] M := by
  intro n
  induction n with
  | zero => intro _ _ _; exact g_none
  | succ n ih =>
    intro x0 x1 x2
    unfold F_X11_bytesIn_5
    refine g_iload_n 6 2 hX dX11_bytesIn_5 rfl rfl ?_
    refine g_if_lt 28 9 hX dX11_bytesIn_6 (by decide) rfl (fun _ => ?_) (fun _ => ?_)
    · refine g_iload_n 29 1 hX dX11_bytesIn_28 rfl rfl ?_
      exact g_iret hX hr rfl (Nat.le_refl 0) (Nat.le_refl 0) dX11_bytesIn_29
    · refine g_iload_n 10 0 hX dX11_bytesIn_9 rfl rfl ?_
      refine g_iload_n 11 2 hX dX11_bytesIn_10 rfl rfl ?_
      refine g_iushr 12 hX ((x0.toUInt32 >>> (x2.toUInt32 &&& Int32.toUInt32 31)).toInt32) dX11_bytesIn_11 rfl rfl ?_
      refine g_sipush 15 hX 255 dX11_bytesIn_12 rfl kc_s_255 ?_
      refine g_iand 16 hX dX11_bytesIn_15 rfl ?_
      refine g_if_eq 22 19 hX dX11_bytesIn_16 (by decide) rfl (fun _ => ?_) (fun _ => ?_)
      · refine g_kl (fun v1 hv1 => ?_)
        refine g_iinc 25 2 2 v1 [(2, .int v1), (0, .int x0), (1, .int x1)] hX dX11_bytesIn_22 rfl rfl (by rw [hv1, kc_i_m8]) (Nat.le_of_ble_eq_true rfl) rfl ?_
        refine g_goto 5 hX dX11_bytesIn_25 (by decide) ?_
        refine g_lv [1, 2, 0] rfl ?_
        exact ih x0 x1 v1
      · refine g_kl (fun v2 hv2 => ?_)
        refine g_iinc 22 1 1 v2 [(1, .int v2), (0, .int x0), (2, .int x2)] hX dX11_bytesIn_19 rfl rfl (by rw [hv2, kc_i_1]) (Nat.le_of_ble_eq_true rfl) rfl ?_
        refine g_kl (fun v3 hv3 => ?_)
        refine g_iinc 25 2 2 v3 [(2, .int v3), (1, .int v2), (0, .int x0)] hX dX11_bytesIn_22 rfl rfl (by rw [hv3, kc_i_m8]) (Nat.le_of_ble_eq_true rfl) rfl ?_
        refine g_goto 5 hX dX11_bytesIn_25 (by decide) ?_
        refine g_lv [2, 1, 0] rfl ?_
        exact ih x0 v2 v3
set_option maxRecDepth 100000 in
set_option maxHeartbeats 4000000 in
theorem k_X11_bytesIn (l : Launch) (g : kG) (N : Nat) (M : kMem) (x0 : Int32) : kMet l g yX11_bytesIn cX11_bytesIn 3 (some .int) 1 0 0 [.int x0] M (fun r : Int32 => (some (.int r), M)) (F_X11_bytesIn N M x0) := by
  refine k_of (lv := [(0, .int x0)]) RX11 (by decide) rfl rfl (Nat.le_of_ble_eq_true rfl) ?_
  intro p e s m args below meth c hX hr _
  unfold F_X11_bytesIn
  refine g_iconst 1 hX 0 dX11_bytesIn_0 rfl kc_i_0 ?_
  refine g_istore_n 2 1 [(1, .int 0), (0, .int x0)] hX dX11_bytesIn_1 rfl rfl (Nat.le_of_ble_eq_true rfl) rfl ?_
  refine g_bipush 4 hX 24 dX11_bytesIn_2 rfl kc_b_24 ?_
  refine g_istore_n 5 2 [(2, .int 24), (1, .int 0), (0, .int x0)] hX dX11_bytesIn_4 rfl rfl (Nat.le_of_ble_eq_true rfl) rfl ?_
  refine g_lv [2, 1, 0] rfl ?_
  exact k_X11_bytesIn_5 hX hr N M N x0 0 24
