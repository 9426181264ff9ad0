def F_X12_thrown (N : Nat) (M : kMem) (a0 : Nat) : Option (Int32) :=
    kg (kt M a0 12) <|
    some (kI M a0 6)
set_option maxRecDepth 100000 in
set_option maxHeartbeats 4000000 in
theorem k_X12_thrown (l : Launch) (g : kG) (N : Nat) (M : kMem) (a0 : Nat) : kMet l g yX12_thrown cX12_thrown 1 (some .int) 1 0 0 [.ref a0] M (fun r : Int32 => (some (.int r), M)) (F_X12_thrown N M a0) := by
  refine k_of (lv := [(0, .ref a0)]) RX12 (by decide) rfl rfl (Nat.le_of_ble_eq_true rfl) ?_
  intro p e s m args below meth c hX hr _
  unfold F_X12_thrown
  refine g_aload_n 1 0 hX dX12_thrown_0 rfl rfl ?_
  refine r_X12_63 4 hX dX12_thrown_1 rfl ?_
  exact g_iret hX hr rfl (Nat.le_refl 0) (Nat.le_refl 0) dX12_thrown_4
def F_X12_in (N : Nat) (M : kMem) (x0 : Int64) (x2 : Int64) (x4 : Int64) : Option (Int32) :=
    if (lg_cmp x0 x2) < 0 then (
      some 0) else
    if (0 : Int32) < (lg_cmp x0 x4) then (
      some 0) else
    some 1
set_option maxRecDepth 100000 in
set_option maxHeartbeats 4000000 in
theorem k_X12_in (l : Launch) (g : kG) (N : Nat) (M : kMem) (x0 : Int64) (x2 : Int64) (x4 : Int64) : kMet l g yX12_in cX12_in 6 (some .boolean) 1 0 0 [.long x0, .long x2, .long x4] M (fun r : Int32 => (some (.int r), M)) (F_X12_in N M x0 x2 x4) := by
  refine k_of (lv := [(0, .long x0), (2, .long x2), (4, .long x4)]) RX12 (by decide) rfl rfl (Nat.le_of_ble_eq_true rfl) ?_
  intro p e s m args below meth c hX hr _
  unfold F_X12_in
  refine g_lload_n 1 0 hX dX12_in_0 rfl rfl ?_
  refine g_lload_n 2 1 hX dX12_in_1 rfl rfl ?_
  refine g_lcmp 3 hX dX12_in_2 rfl ?_
  refine g_if_lt 17 6 hX dX12_in_3 (by decide) rfl (fun _ => ?_) (fun _ => ?_)
  · refine g_iconst 18 hX 0 dX12_in_17 rfl kc_i_0 ?_
    exact g_zretL hX hr rfl rfl (Nat.le_refl 0) (Nat.le_refl 0) dX12_in_18
  · refine g_lload_n 7 0 hX dX12_in_6 rfl rfl ?_
    refine g_lload 9 2 hX dX12_in_7 rfl rfl ?_
    refine g_lcmp 10 hX dX12_in_9 rfl ?_
    refine g_if_gt 17 13 hX dX12_in_10 (by decide) rfl (fun _ => ?_) (fun _ => ?_)
    · refine g_iconst 18 hX 0 dX12_in_17 rfl kc_i_0 ?_
      exact g_zretL hX hr rfl rfl (Nat.le_refl 0) (Nat.le_refl 0) dX12_in_18
    · refine g_iconst 14 hX 1 dX12_in_13 rfl kc_i_1 ?_
      refine g_goto 18 hX dX12_in_14 (by decide) ?_
      exact g_zretL hX hr rfl rfl (Nat.le_refl 0) (Nat.le_refl 0) dX12_in_18
def F_X12_flag (N : Nat) (M : kMem) (x0 : Int32) : Option (Int32) :=
    if x0 = 0 then (
      some 0) else
    some 1
set_option maxRecDepth 100000 in
set_option maxHeartbeats 4000000 in
theorem k_X12_flag (l : Launch) (g : kG) (N : Nat) (M : kMem) (x0 : Int32) : kMet l g yX12_flag cX12_flag 1 (some .int) 1 0 0 [.int x0] M (fun r : Int32 => (some (.int r), M)) (F_X12_flag N M x0) := by
  refine k_of (lv := [(0, .int x0)]) RX12 (by decide) rfl rfl (Nat.le_of_ble_eq_true rfl) ?_
  intro p e s m args below meth c hX hr _
  unfold F_X12_flag
  refine g_iload_n 1 0 hX dX12_flag_0 rfl rfl ?_
  refine g_if_eq 8 4 hX dX12_flag_1 (by decide) rfl (fun _ => ?_) (fun _ => ?_)
  · refine g_iconst 9 hX 0 dX12_flag_8 rfl kc_i_0 ?_
    exact g_iret hX hr rfl (Nat.le_refl 0) (Nat.le_refl 0) dX12_flag_9
  · refine g_iconst 5 hX 1 dX12_flag_4 rfl kc_i_1 ?_
    refine g_goto 9 hX dX12_flag_5 (by decide) ?_
    exact g_iret hX hr rfl (Nat.le_refl 0) (Nat.le_refl 0) dX12_flag_9
def F_X12_bare (N : Nat) (M : kMem) (x0 : Int32) : Option (Int32) :=
    if x0 < 0 then (
      some (-x0)) else
    some x0
set_option maxRecDepth 100000 in
set_option maxHeartbeats 4000000 in
theorem k_X12_bare (l : Launch) (g : kG) (N : Nat) (M : kMem) (x0 : Int32) : kMet l g yX12_bare cX12_bare 1 (some .int) 1 0 0 [.int x0] M (fun r : Int32 => (some (.int r), M)) (F_X12_bare N M x0) := by
  refine k_of (lv := [(0, .int x0)]) RX12 (by decide) rfl rfl (Nat.le_of_ble_eq_true rfl) ?_
  intro p e s m args below meth c hX hr _
  unfold F_X12_bare
  refine g_iload_n 1 0 hX dX12_bare_0 rfl rfl ?_
  refine g_if_ge 9 4 hX dX12_bare_1 (by decide) rfl (fun _ => ?_) (fun _ => ?_)
  · refine g_iload_n 10 0 hX dX12_bare_9 rfl rfl ?_
    exact g_iret hX hr rfl (Nat.le_refl 0) (Nat.le_refl 0) dX12_bare_10
  · refine g_iload_n 5 0 hX dX12_bare_4 rfl rfl ?_
    refine g_ineg 6 hX dX12_bare_5 rfl ?_
    refine g_goto 10 hX dX12_bare_6 (by decide) ?_
    exact g_iret hX hr rfl (Nat.le_refl 0) (Nat.le_refl 0) dX12_bare_10
def F_X12_lesser (N : Nat) (M : kMem) (x0 : Int32) (x1 : Int32) : Option (Int32) :=
    if x0 < x1 then (
      some x0) else
    some x1
set_option maxRecDepth 100000 in
set_option maxHeartbeats 4000000 in
theorem k_X12_lesser (l : Launch) (g : kG) (N : Nat) (M : kMem) (x0 : Int32) (x1 : Int32) : kMet l g yX12_lesser cX12_lesser 2 (some .int) 1 0 0 [.int x0, .int x1] M (fun r : Int32 => (some (.int r), M)) (F_X12_lesser N M x0 x1) := by
  refine k_of (lv := [(0, .int x0), (1, .int x1)]) RX12 (by decide) rfl rfl (Nat.le_of_ble_eq_true rfl) ?_
  intro p e s m args below meth c hX hr _
  unfold F_X12_lesser
  refine g_iload_n 1 0 hX dX12_lesser_0 rfl rfl ?_
  refine g_iload_n 2 1 hX dX12_lesser_1 rfl rfl ?_
  refine g_icmp_ge 9 5 hX dX12_lesser_2 (by decide) rfl (fun _ => ?_) (fun _ => ?_)
  · refine g_iload_n 10 1 hX dX12_lesser_9 rfl rfl ?_
    exact g_iret hX hr rfl (Nat.le_refl 0) (Nat.le_refl 0) dX12_lesser_10
  · refine g_iload_n 6 0 hX dX12_lesser_5 rfl rfl ?_
    refine g_goto 10 hX dX12_lesser_6 (by decide) ?_
    exact g_iret hX hr rfl (Nat.le_refl 0) (Nat.le_refl 0) dX12_lesser_10
def F_X12_greater (N : Nat) (M : kMem) (x0 : Int32) (x1 : Int32) : Option (Int32) :=
    if x1 < x0 then (
      some x0) else
    some x1
set_option maxRecDepth 100000 in
set_option maxHeartbeats 4000000 in
theorem k_X12_greater (l : Launch) (g : kG) (N : Nat) (M : kMem) (x0 : Int32) (x1 : Int32) : kMet l g yX12_greater cX12_greater 2 (some .int) 1 0 0 [.int x0, .int x1] M (fun r : Int32 => (some (.int r), M)) (F_X12_greater N M x0 x1) := by
  refine k_of (lv := [(0, .int x0), (1, .int x1)]) RX12 (by decide) rfl rfl (Nat.le_of_ble_eq_true rfl) ?_
  intro p e s m args below meth c hX hr _
  unfold F_X12_greater
  refine g_iload_n 1 0 hX dX12_greater_0 rfl rfl ?_
  refine g_iload_n 2 1 hX dX12_greater_1 rfl rfl ?_
  refine g_icmp_le 9 5 hX dX12_greater_2 (by decide) rfl (fun _ => ?_) (fun _ => ?_)
  · refine g_iload_n 10 1 hX dX12_greater_9 rfl rfl ?_
    exact g_iret hX hr rfl (Nat.le_refl 0) (Nat.le_refl 0) dX12_greater_10
  · refine g_iload_n 6 0 hX dX12_greater_5 rfl rfl ?_
    refine g_goto 10 hX dX12_greater_6 (by decide) ?_
    exact g_iret hX hr rfl (Nat.le_refl 0) (Nat.le_refl 0) dX12_greater_10
def F_X12_stops (N : Nat) (M : kMem) (a0 : Nat) (x1 : Int32) (x2 : Int32) : Option (Int32 × kMem) :=
    kg (kt M a0 12) <|
    if (kI M a0 6) = 0 then (
      if x1 = 0 then (
        kg (kt M a0 12) <|
        if (kI M a0 6) = 0 then (
          some (0, M)) else
        some (1, M)) else
      kg (kt M a0 12) <| kl (ksI M a0 6 x2) fun M1 =>
      kg (kt M1 a0 12) <|
      if (kI M1 a0 6) = 0 then (
        some (0, M1)) else
      some (1, M1)) else
    kg (kt M a0 12) <|
    if (kI M a0 6) = 0 then (
      some (0, M)) else
    some (1, M)
set_option maxRecDepth 100000 in
set_option maxHeartbeats 4000000 in
theorem k_X12_stops (l : Launch) (g : kG) (N : Nat) (M : kMem) (a0 : Nat) (x1 : Int32) (x2 : Int32) : kMet l g yX12_stops cX12_stops 3 (some .boolean) 1 0 0 [.ref a0, .int x1, .int x2] M (fun r : Int32 × kMem => (some (.int r.1), r.2)) (F_X12_stops N M a0 x1 x2) := by
  refine k_of (lv := [(0, .ref a0), (1, .int x1), (2, .int x2)]) RX12 (by decide) rfl rfl (Nat.le_of_ble_eq_true rfl) ?_
  intro p e s m args below meth c hX hr _
  unfold F_X12_stops
  refine g_aload_n 1 0 hX dX12_stops_0 rfl rfl ?_
  refine r_X12_63 4 hX dX12_stops_1 rfl ?_
  refine g_if_ne 16 7 hX dX12_stops_4 (by decide) rfl (fun _ => ?_) (fun _ => ?_)
  · refine g_aload_n 17 0 hX dX12_stops_16 rfl rfl ?_
    refine r_X12_63 20 hX dX12_stops_17 rfl ?_
    refine g_if_eq 27 23 hX dX12_stops_20 (by decide) rfl (fun _ => ?_) (fun _ => ?_)
    · refine g_iconst 28 hX 0 dX12_stops_27 rfl kc_i_0 ?_
      exact g_zretL hX hr rfl rfl (Nat.le_refl 0) (Nat.le_refl 0) dX12_stops_28
    · refine g_iconst 24 hX 1 dX12_stops_23 rfl kc_i_1 ?_
      refine g_goto 28 hX dX12_stops_24 (by decide) ?_
      exact g_zretL hX hr rfl rfl (Nat.le_refl 0) (Nat.le_refl 0) dX12_stops_28
  · refine g_iload_n 8 1 hX dX12_stops_7 rfl rfl ?_
    refine g_if_eq 16 11 hX dX12_stops_8 (by decide) rfl (fun _ => ?_) (fun _ => ?_)
    · refine g_aload_n 17 0 hX dX12_stops_16 rfl rfl ?_
      refine r_X12_63 20 hX dX12_stops_17 rfl ?_
      refine g_if_eq 27 23 hX dX12_stops_20 (by decide) rfl (fun _ => ?_) (fun _ => ?_)
      · refine g_iconst 28 hX 0 dX12_stops_27 rfl kc_i_0 ?_
        exact g_zretL hX hr rfl rfl (Nat.le_refl 0) (Nat.le_refl 0) dX12_stops_28
      · refine g_iconst 24 hX 1 dX12_stops_23 rfl kc_i_1 ?_
        refine g_goto 28 hX dX12_stops_24 (by decide) ?_
        exact g_zretL hX hr rfl rfl (Nat.le_refl 0) (Nat.le_refl 0) dX12_stops_28
    · refine g_aload_n 12 0 hX dX12_stops_11 rfl rfl ?_
      refine g_iload_n 13 2 hX dX12_stops_12 rfl rfl ?_
      refine p_X12_63 16 hX dX12_stops_13 rfl ?_
      refine g_klM (fun M1 hM1 => ?_)
      refine g_aload_n 17 0 hX dX12_stops_16 rfl rfl ?_
      refine r_X12_63 20 hX dX12_stops_17 rfl ?_
      refine g_if_eq 27 23 hX dX12_stops_20 (by decide) rfl (fun _ => ?_) (fun _ => ?_)
      · refine g_iconst 28 hX 0 dX12_stops_27 rfl kc_i_0 ?_
        exact g_zretL hX hr rfl rfl (Nat.le_refl 0) (Nat.le_refl 0) dX12_stops_28
      · refine g_iconst 24 hX 1 dX12_stops_23 rfl kc_i_1 ?_
        refine g_goto 28 hX dX12_stops_24 (by decide) ?_
        exact g_zretL hX hr rfl rfl (Nat.le_refl 0) (Nat.le_refl 0) dX12_stops_28
def F_X12_copies_3 (N : Nat) : Nat → kMem → Nat → Int32 → Nat → Int32 → Int32 → Option (kMem)
  | 0, _, _, _, _, _, _ => none
  | n + 1, M, a0, x1, a2, x3, x4 =>
    if x4 < 293 then (
      kg (kin M a0 13 (x1 + x4)) <|
      kg (kin M a2 13 (x3 + x4)) <| kl (ksI M a2 (kx (x3 + x4)) (kI M a0 (kx (x1 + x4)))) fun M1 =>
      kl (x4 + 1) fun v2 =>
      F_X12_copies_3 N n M1 a0 x1 a2 x3 v2) else
    some M
def F_X12_copies (N : Nat) (M : kMem) (a0 : Nat) (x1 : Int32) (a2 : Nat) (x3 : Int32) : Option (kMem) :=
    F_X12_copies_3 N N M a0 x1 a2 x3 0
set_option maxRecDepth 100000 in
set_option maxHeartbeats 4000000 in
theorem k_X12_copies_3 {p : Program} {l : Launch} {e : Env} {s : State} {m : MethodId} {args : Array Value} {below : List Frame} {meth : Method} {c : Code} {g : kG} (hX : Cok (p, l, e, { frames := 2 * 1, cells := 0, slots := 0, locals := 60 * 1 }, s, m, args, below, meth, c, cX12_copies, 5, RX12, g, 1)) (hr : meth.sig.returnType = none) (N : Nat) : ∀ (n : Nat) (M : kMem) (a0 : Nat) (x1 : Int32) (a2 : Nat) (x3 : Int32) (x4 : Int32), GG (p, l, e, { frames := 2 * 1, cells := 0, slots := 0, locals := 60 * 1 }, s, m, args, below, meth, c, cX12_copies, 5, RX12, g, 1) (fun b => MQ below (kQ g ((fun r : kMem => (none, r)) b)) args s 0 0 (kZ g.2.2.1)) 0 0 (F_X12_copies_3 N n M a0 x1 a2 x3 x4) 3 [(0, .ref a0), (1, .int x1), (2, .ref a2), (3, .int x3), (4, .int x4)] [] M := by
  intro n
  induction n with
  | zero => intro _ _ _ _ _ _; exact g_none
  | succ n ih =>
    intro M a0 x1 a2 x3 x4
    unfold F_X12_copies_3
    refine g_iload 5 4 hX dX12_copies_3 rfl rfl ?_
    refine g_sipush 8 hX 293 dX12_copies_5 rfl kc_s_293 ?_
    refine g_icmp_ge 29 11 hX dX12_copies_8 (by decide) rfl (fun _ => ?_) (fun _ => ?_)
    · exact g_vret hX hr rfl (Nat.le_refl 0) (Nat.le_refl 0) dX12_copies_29
    · refine g_aload_n 12 2 hX dX12_copies_11 rfl rfl ?_
      refine g_iload_n 13 3 hX dX12_copies_12 rfl rfl ?_
      refine g_iload 15 4 hX dX12_copies_13 rfl rfl ?_
      refine g_iadd 16 hX dX12_copies_15 rfl ?_
      refine g_aload_n 17 0 hX dX12_copies_16 rfl rfl ?_
      refine g_iload_n 18 1 hX dX12_copies_17 rfl rfl ?_
      refine g_iload 20 4 hX dX12_copies_18 rfl rfl ?_
      refine g_iadd 21 hX dX12_copies_20 rfl ?_
      refine g_iald 22 hX dX12_copies_21 rfl ?_
      refine g_iast 23 hX dX12_copies_22 rfl ?_
      refine g_klM (fun M1 hM1 => ?_)
      refine g_kl (fun v2 hv2 => ?_)
      refine g_iinc 26 4 4 v2 [(4, .int v2), (0, .ref a0), (1, .int x1), (2, .ref a2), (3, .int x3)] hX dX12_copies_23 rfl rfl (by rw [hv2, kc_i_1]) (Nat.le_of_ble_eq_true rfl) rfl ?_
      refine g_goto 3 hX dX12_copies_26 (by decide) ?_
      refine g_lv [1, 2, 3, 4, 0] rfl ?_
      exact ih M1 a0 x1 a2 x3 v2
set_option maxRecDepth 100000 in
set_option maxHeartbeats 4000000 in
theorem k_X12_copies (l : Launch) (g : kG) (N : Nat) (M : kMem) (a0 : Nat) (x1 : Int32) (a2 : Nat) (x3 : Int32) : kMet l g yX12_copies cX12_copies 5 none 1 0 0 [.ref a0, .int x1, .ref a2, .int x3] M (fun r : kMem => (none, r)) (F_X12_copies N M a0 x1 a2 x3) := by
  refine k_of (lv := [(0, .ref a0), (1, .int x1), (2, .ref a2), (3, .int x3)]) RX12 (by decide) rfl rfl (Nat.le_of_ble_eq_true rfl) ?_
  intro p e s m args below meth c hX hr _
  unfold F_X12_copies
  refine g_iconst 1 hX 0 dX12_copies_0 rfl kc_i_0 ?_
  refine g_istore 3 4 [(4, .int 0), (0, .ref a0), (1, .int x1), (2, .ref a2), (3, .int x3)] hX dX12_copies_1 rfl (Nat.le_of_ble_eq_true rfl) rfl ?_
  refine g_lv [1, 2, 3, 4, 0] rfl ?_
  exact k_X12_copies_3 hX hr N N M a0 x1 a2 x3 0
def F_X12_atBoard (N : Nat) (M : kMem) (x0 : Int32) (x1 : Int32) : Option (Int32) :=
    some ((14 + (15 * x0)) + x1)
set_option maxRecDepth 100000 in
set_option maxHeartbeats 4000000 in
theorem k_X12_atBoard (l : Launch) (g : kG) (N : Nat) (M : kMem) (x0 : Int32) (x1 : Int32) : kMet l g yX12_atBoard cX12_atBoard 2 (some .int) 1 0 0 [.int x0, .int x1] M (fun r : Int32 => (some (.int r), M)) (F_X12_atBoard N M x0 x1) := by
  refine k_of (lv := [(0, .int x0), (1, .int x1)]) RX12 (by decide) rfl rfl (Nat.le_of_ble_eq_true rfl) ?_
  intro p e s m args below meth c hX hr _
  unfold F_X12_atBoard
  refine g_bipush 2 hX 14 dX12_atBoard_0 rfl kc_b_14 ?_
  refine g_bipush 4 hX 15 dX12_atBoard_2 rfl kc_b_15 ?_
  refine g_iload_n 5 0 hX dX12_atBoard_4 rfl rfl ?_
  refine g_imul 6 hX dX12_atBoard_5 rfl ?_
  refine g_iadd 7 hX dX12_atBoard_6 rfl ?_
  refine g_iload_n 8 1 hX dX12_atBoard_7 rfl rfl ?_
  refine g_iadd 9 hX dX12_atBoard_8 rfl ?_
  exact g_iret hX hr rfl (Nat.le_refl 0) (Nat.le_refl 0) dX12_atBoard_9
def F_X12_atTrader (N : Nat) (M : kMem) (x0 : Int32) (x1 : Int32) : Option (Int32) :=
    some ((89 + (7 * x0)) + x1)
set_option maxRecDepth 100000 in
set_option maxHeartbeats 4000000 in
theorem k_X12_atTrader (l : Launch) (g : kG) (N : Nat) (M : kMem) (x0 : Int32) (x1 : Int32) : kMet l g yX12_atTrader cX12_atTrader 2 (some .int) 1 0 0 [.int x0, .int x1] M (fun r : Int32 => (some (.int r), M)) (F_X12_atTrader N M x0 x1) := by
  refine k_of (lv := [(0, .int x0), (1, .int x1)]) RX12 (by decide) rfl rfl (Nat.le_of_ble_eq_true rfl) ?_
  intro p e s m args below meth c hX hr _
  unfold F_X12_atTrader
  refine g_bipush 2 hX 89 dX12_atTrader_0 rfl kc_b_89 ?_
  refine g_bipush 4 hX 7 dX12_atTrader_2 rfl kc_b_7 ?_
  refine g_iload_n 5 0 hX dX12_atTrader_4 rfl rfl ?_
  refine g_imul 6 hX dX12_atTrader_5 rfl ?_
  refine g_iadd 7 hX dX12_atTrader_6 rfl ?_
  refine g_iload_n 8 1 hX dX12_atTrader_7 rfl rfl ?_
  refine g_iadd 9 hX dX12_atTrader_8 rfl ?_
  exact g_iret hX hr rfl (Nat.le_refl 0) (Nat.le_refl 0) dX12_atTrader_9
def F_X12_atSeat (N : Nat) (M : kMem) (x0 : Int32) (x1 : Int32) : Option (Int32) :=
    if x1 < 0 then (
      (F_X12_atBoard N M x0 ((3 + x1) + 6)).bind fun r2 =>
      some r2) else
    (F_X12_atBoard N M x0 ((3 + x1) + 5)).bind fun r1 =>
    some r1
set_option maxRecDepth 100000 in
set_option maxHeartbeats 4000000 in
theorem k_X12_atSeat (l : Launch) (g : kG) (N : Nat) (M : kMem) (x0 : Int32) (x1 : Int32) : kMet l g yX12_atSeat cX12_atSeat 2 (some .int) 2 0 0 [.int x0, .int x1] M (fun r : Int32 => (some (.int r), M)) (F_X12_atSeat N M x0 x1) := by
  refine k_of (lv := [(0, .int x0), (1, .int x1)]) RX12 (by decide) rfl rfl (Nat.le_of_ble_eq_true rfl) ?_
  intro p e s m args below meth c hX hr _
  unfold F_X12_atSeat
  refine g_iload_n 1 0 hX dX12_atSeat_0 rfl rfl ?_
  refine g_iconst 2 hX 3 dX12_atSeat_1 rfl kc_i_3 ?_
  refine g_iload_n 3 1 hX dX12_atSeat_2 rfl rfl ?_
  refine g_iadd 4 hX dX12_atSeat_3 rfl ?_
  refine g_iload_n 5 1 hX dX12_atSeat_4 rfl rfl ?_
  refine g_if_ge 13 8 hX dX12_atSeat_5 (by decide) rfl (fun _ => ?_) (fun _ => ?_)
  · refine g_iconst 14 hX 5 dX12_atSeat_13 rfl kc_i_5 ?_
    refine g_iadd 15 hX dX12_atSeat_14 rfl ?_
    refine g_callS_ip 18 hX (k_X12_atBoard l g N M x0 ((3 + x1) + 5)) lk_X12_atBoard q_1668 (by omega) rfl (Nat.le_of_ble_eq_true rfl) (Nat.zero_le _) (Nat.zero_le _) dX12_atSeat_15 rfl (fun r1 => ?_)
    exact g_iret hX hr rfl (Nat.le_refl 0) (Nat.le_refl 0) dX12_atSeat_18
  · refine g_bipush 10 hX 6 dX12_atSeat_8 rfl kc_b_6 ?_
    refine g_goto 14 hX dX12_atSeat_10 (by decide) ?_
    refine g_iadd 15 hX dX12_atSeat_14 rfl ?_
    refine g_callS_ip 18 hX (k_X12_atBoard l g N M x0 ((3 + x1) + 6)) lk_X12_atBoard q_1668 (by omega) rfl (Nat.le_of_ble_eq_true rfl) (Nat.zero_le _) (Nat.zero_le _) dX12_atSeat_15 rfl (fun r2 => ?_)
    exact g_iret hX hr rfl (Nat.le_refl 0) (Nat.le_refl 0) dX12_atSeat_18
def F_X12_ofBoard (N : Nat) (M : kMem) (a0 : Nat) (x1 : Int32) (x2 : Int32) : Option (Int32) :=
    kg (kt M a0 12) <|
    (F_X12_atBoard N M x1 x2).bind fun r1 =>
    kg (kin M (kR M a0 0) 13 r1) <|
    some (kI M (kR M a0 0) (kx r1))
set_option maxRecDepth 100000 in
set_option maxHeartbeats 4000000 in
theorem k_X12_ofBoard (l : Launch) (g : kG) (N : Nat) (M : kMem) (a0 : Nat) (x1 : Int32) (x2 : Int32) : kMet l g yX12_ofBoard cX12_ofBoard 3 (some .int) 2 0 0 [.ref a0, .int x1, .int x2] M (fun r : Int32 => (some (.int r), M)) (F_X12_ofBoard N M a0 x1 x2) := by
  refine k_of (lv := [(0, .ref a0), (1, .int x1), (2, .int x2)]) RX12 (by decide) rfl rfl (Nat.le_of_ble_eq_true rfl) ?_
  intro p e s m args below meth c hX hr _
  unfold F_X12_ofBoard
  refine g_aload_n 1 0 hX dX12_ofBoard_0 rfl rfl ?_
  refine r_X12_7 4 hX dX12_ofBoard_1 rfl ?_
  refine g_iload_n 5 1 hX dX12_ofBoard_4 rfl rfl ?_
  refine g_iload_n 6 2 hX dX12_ofBoard_5 rfl rfl ?_
  refine g_callS_ip 9 hX (k_X12_atBoard l g N M x1 x2) lk_X12_atBoard q_1668 (by omega) rfl (Nat.le_of_ble_eq_true rfl) (Nat.zero_le _) (Nat.zero_le _) dX12_ofBoard_6 rfl (fun r1 => ?_)
  refine g_iald 10 hX dX12_ofBoard_9 rfl ?_
  exact g_iret hX hr rfl (Nat.le_refl 0) (Nat.le_refl 0) dX12_ofBoard_10
def F_X12_has (N : Nat) (M : kMem) (a0 : Nat) (x1 : Int32) (x2 : Int32) : Option (Int32) :=
    kg (kt M a0 12) <|
    (F_X12_atTrader N M x1 x2).bind fun r1 =>
    kg (kin M (kR M a0 0) 13 r1) <|
    some (kI M (kR M a0 0) (kx r1))
set_option maxRecDepth 100000 in
set_option maxHeartbeats 4000000 in
theorem k_X12_has (l : Launch) (g : kG) (N : Nat) (M : kMem) (a0 : Nat) (x1 : Int32) (x2 : Int32) : kMet l g yX12_has cX12_has 3 (some .int) 2 0 0 [.ref a0, .int x1, .int x2] M (fun r : Int32 => (some (.int r), M)) (F_X12_has N M a0 x1 x2) := by
  refine k_of (lv := [(0, .ref a0), (1, .int x1), (2, .int x2)]) RX12 (by decide) rfl rfl (Nat.le_of_ble_eq_true rfl) ?_
  intro p e s m args below meth c hX hr _
  unfold F_X12_has
  refine g_aload_n 1 0 hX dX12_has_0 rfl rfl ?_
  refine r_X12_7 4 hX dX12_has_1 rfl ?_
  refine g_iload_n 5 1 hX dX12_has_4 rfl rfl ?_
  refine g_iload_n 6 2 hX dX12_has_5 rfl rfl ?_
  refine g_callS_ip 9 hX (k_X12_atTrader l g N M x1 x2) lk_X12_atTrader q_1675 (by omega) rfl (Nat.le_of_ble_eq_true rfl) (Nat.zero_le _) (Nat.zero_le _) dX12_has_6 rfl (fun r1 => ?_)
  refine g_iald 10 hX dX12_has_9 rfl ?_
  exact g_iret hX hr rfl (Nat.le_refl 0) (Nat.le_refl 0) dX12_has_10
def F_X12_onSeat (N : Nat) (M : kMem) (a0 : Nat) (x1 : Int32) (x2 : Int32) : Option (Int32) :=
    kg (kt M a0 12) <|
    (F_X12_atSeat N M x1 x2).bind fun r1 =>
    kg (kin M (kR M a0 0) 13 r1) <|
    some ((kI M (kR M a0 0) (kx r1)) - 1)
set_option maxRecDepth 100000 in
set_option maxHeartbeats 4000000 in
theorem k_X12_onSeat (l : Launch) (g : kG) (N : Nat) (M : kMem) (a0 : Nat) (x1 : Int32) (x2 : Int32) : kMet l g yX12_onSeat cX12_onSeat 3 (some .int) 3 0 0 [.ref a0, .int x1, .int x2] M (fun r : Int32 => (some (.int r), M)) (F_X12_onSeat N M a0 x1 x2) := by
  refine k_of (lv := [(0, .ref a0), (1, .int x1), (2, .int x2)]) RX12 (by decide) rfl rfl (Nat.le_of_ble_eq_true rfl) ?_
  intro p e s m args below meth c hX hr _
  unfold F_X12_onSeat
  refine g_aload_n 1 0 hX dX12_onSeat_0 rfl rfl ?_
  refine r_X12_7 4 hX dX12_onSeat_1 rfl ?_
  refine g_iload_n 5 1 hX dX12_onSeat_4 rfl rfl ?_
  refine g_iload_n 6 2 hX dX12_onSeat_5 rfl rfl ?_
  refine g_callS_ip 9 hX (k_X12_atSeat l g N M x1 x2) lk_X12_atSeat q_1682 (by omega) rfl (Nat.le_of_ble_eq_true rfl) (Nat.zero_le _) (Nat.zero_le _) dX12_onSeat_6 rfl (fun r1 => ?_)
  refine g_iald 10 hX dX12_onSeat_9 rfl ?_
  refine g_iconst 11 hX 1 dX12_onSeat_10 rfl kc_i_1 ?_
  refine g_isub 12 hX dX12_onSeat_11 rfl ?_
  exact g_iret hX hr rfl (Nat.le_refl 0) (Nat.le_refl 0) dX12_onSeat_12
def F_X12_isSeated (N : Nat) (M : kMem) (a0 : Nat) (x1 : Int32) : Option (Int32) :=
    kg (kt M a0 12) <| (F_X12_has N M a0 x1 5).bind fun r1 =>
    if r1 = (-1) then (
      some 0) else
    some 1
set_option maxRecDepth 100000 in
set_option maxHeartbeats 4000000 in
theorem k_X12_isSeated (l : Launch) (g : kG) (N : Nat) (M : kMem) (a0 : Nat) (x1 : Int32) : kMet l g yX12_isSeated cX12_isSeated 2 (some .boolean) 3 0 0 [.ref a0, .int x1] M (fun r : Int32 => (some (.int r), M)) (F_X12_isSeated N M a0 x1) := by
  refine k_of (lv := [(0, .ref a0), (1, .int x1)]) RX12 (by decide) rfl rfl (Nat.le_of_ble_eq_true rfl) ?_
  intro p e s m args below meth c hX hr _
  unfold F_X12_isSeated
  refine g_aload_n 1 0 hX dX12_isSeated_0 rfl rfl ?_
  refine g_iload_n 2 1 hX dX12_isSeated_1 rfl rfl ?_
  refine g_iconst 3 hX 5 dX12_isSeated_2 rfl kc_i_5 ?_
  refine g_callV_ip 6 hX (k_X12_has l g N M a0 x1 5) lk_X12_has rfl (ci := 12) rfl (Nat.le_of_ble_eq_true rfl) q_1689 q_42 (by omega) rfl (Nat.le_of_ble_eq_true rfl) (Nat.zero_le _) (Nat.zero_le _) dX12_isSeated_3 rfl (fun r1 => ?_)
  refine g_iconst 7 hX (-1) dX12_isSeated_6 rfl kc_i_m1 ?_
  refine g_icmp_eq 14 10 hX dX12_isSeated_7 (by decide) rfl (fun _ => ?_) (fun _ => ?_)
  · refine g_iconst 15 hX 0 dX12_isSeated_14 rfl kc_i_0 ?_
    exact g_zretL hX hr rfl rfl (Nat.le_refl 0) (Nat.le_refl 0) dX12_isSeated_15
  · refine g_iconst 11 hX 1 dX12_isSeated_10 rfl kc_i_1 ?_
    refine g_goto 15 hX dX12_isSeated_11 (by decide) ?_
    exact g_zretL hX hr rfl rfl (Nat.le_refl 0) (Nat.le_refl 0) dX12_isSeated_15
def F_X12_builds (N : Nat) (M : kMem) (a0 : Nat) (x1 : Int32) (x2 : Int32) (x3 : Int32) : Option (kMem) :=
    kg (kt M a0 12) <|
    kg (kin M (kR M a0 0) 13 7) <|
    kl (kI M (kR M a0 0) (kx 7)) fun v1 =>
    kg (kt M a0 12) <|
    kg (kin M (kR M a0 0) 13 7) <|
    kg (kin M (kR M a0 0) 13 7) <| kl (ksI M (kR M a0 0) (kx 7) ((kI M (kR M a0 0) (kx 7)) + 1)) fun M2 =>
    kg (kt M2 a0 12) <|
    (F_X12_atBoard N M2 v1 0).bind fun r3 =>
    kg (kin M2 (kR M2 a0 0) 13 r3) <| kl (ksI M2 (kR M2 a0 0) (kx r3) x1) fun M4 =>
    kg (kt M4 a0 12) <|
    (F_X12_atBoard N M4 v1 1).bind fun r5 =>
    kg (kin M4 (kR M4 a0 0) 13 r5) <| kl (ksI M4 (kR M4 a0 0) (kx r5) x2) fun M6 =>
    kg (kt M6 a0 12) <|
    (F_X12_atBoard N M6 v1 2).bind fun r7 =>
    kg (kin M6 (kR M6 a0 0) 13 r7) <| kl (ksI M6 (kR M6 a0 0) (kx r7) x3) fun M8 =>
    some M8
set_option maxRecDepth 100000 in
set_option maxHeartbeats 4000000 in
theorem k_X12_builds (l : Launch) (g : kG) (N : Nat) (M : kMem) (a0 : Nat) (x1 : Int32) (x2 : Int32) (x3 : Int32) : kMet l g yX12_builds cX12_builds 5 none 2 0 0 [.ref a0, .int x1, .int x2, .int x3] M (fun r : kMem => (none, r)) (F_X12_builds N M a0 x1 x2 x3) := by
  refine k_of (lv := [(0, .ref a0), (1, .int x1), (2, .int x2), (3, .int x3)]) RX12 (by decide) rfl rfl (Nat.le_of_ble_eq_true rfl) ?_
  intro p e s m args below meth c hX hr _
  unfold F_X12_builds
  refine g_aload_n 1 0 hX dX12_builds_0 rfl rfl ?_
  refine r_X12_7 4 hX dX12_builds_1 rfl ?_
  refine g_bipush 6 hX 7 dX12_builds_4 rfl kc_b_7 ?_
  refine g_iald 7 hX dX12_builds_6 rfl ?_
  refine g_klI (fun v1 hv1 => ?_)
  refine g_istore 9 4 [(4, .int v1), (0, .ref a0), (1, .int x1), (2, .int x2), (3, .int x3)] hX dX12_builds_7 rfl (Nat.le_of_ble_eq_true rfl) rfl ?_
  refine g_aload_n 10 1 hX dX12_builds_9 rfl rfl ?_
  refine r_X12_7 13 hX dX12_builds_10 rfl ?_
  refine g_bipush 15 hX 7 dX12_builds_13 rfl kc_b_7 ?_
  refine g_dup2 16 hX dX12_builds_15 rfl rfl rfl ?_
  refine g_iald 17 hX dX12_builds_16 rfl ?_
  refine g_iconst 18 hX 1 dX12_builds_17 rfl kc_i_1 ?_
  refine g_iadd 19 hX dX12_builds_18 rfl ?_
  refine g_iast 20 hX dX12_builds_19 rfl ?_
  refine g_klM (fun M2 hM2 => ?_)
  refine g_aload_n 21 1 hX dX12_builds_20 rfl rfl ?_
  refine r_X12_7 24 hX dX12_builds_21 rfl ?_
  refine g_iload 26 0 hX dX12_builds_24 rfl rfl ?_
  refine g_iconst 27 hX 0 dX12_builds_26 rfl kc_i_0 ?_
  refine g_callS_ip 30 hX (k_X12_atBoard l g N M2 v1 0) lk_X12_atBoard q_1668 (by omega) rfl (Nat.le_of_ble_eq_true rfl) (Nat.zero_le _) (Nat.zero_le _) dX12_builds_27 rfl (fun r3 => ?_)
  refine g_iload_n 31 2 hX dX12_builds_30 rfl rfl ?_
  refine g_iast 32 hX dX12_builds_31 rfl ?_
  refine g_klM (fun M4 hM4 => ?_)
  refine g_aload_n 33 1 hX dX12_builds_32 rfl rfl ?_
  refine r_X12_7 36 hX dX12_builds_33 rfl ?_
  refine g_iload 38 0 hX dX12_builds_36 rfl rfl ?_
  refine g_iconst 39 hX 1 dX12_builds_38 rfl kc_i_1 ?_
  refine g_callS_ip 42 hX (k_X12_atBoard l g N M4 v1 1) lk_X12_atBoard q_1668 (by omega) rfl (Nat.le_of_ble_eq_true rfl) (Nat.zero_le _) (Nat.zero_le _) dX12_builds_39 rfl (fun r5 => ?_)
  refine g_iload_n 43 3 hX dX12_builds_42 rfl rfl ?_
  refine g_iast 44 hX dX12_builds_43 rfl ?_
  refine g_klM (fun M6 hM6 => ?_)
  refine g_aload_n 45 1 hX dX12_builds_44 rfl rfl ?_
  refine r_X12_7 48 hX dX12_builds_45 rfl ?_
  refine g_iload 50 0 hX dX12_builds_48 rfl rfl ?_
  refine g_iconst 51 hX 2 dX12_builds_50 rfl kc_i_2 ?_
  refine g_callS_ip 54 hX (k_X12_atBoard l g N M6 v1 2) lk_X12_atBoard q_1668 (by omega) rfl (Nat.le_of_ble_eq_true rfl) (Nat.zero_le _) (Nat.zero_le _) dX12_builds_51 rfl (fun r7 => ?_)
  refine g_iload_n 55 4 hX dX12_builds_54 rfl rfl ?_
  refine g_iast 56 hX dX12_builds_55 rfl ?_
  refine g_klM (fun M8 hM8 => ?_)
  exact g_vret hX hr rfl (Nat.le_refl 0) (Nat.le_refl 0) dX12_builds_56
def F_X12_appears (N : Nat) (M : kMem) (a0 : Nat) (x1 : Int32) (x2 : Int32) (x3 : Int32) (x4 : Int32) : Option (kMem) :=
    kg (kt M a0 12) <|
    kg (kin M (kR M a0 0) 13 8) <|
    kl (kI M (kR M a0 0) (kx 8)) fun v1 =>
    kg (kt M a0 12) <|
    kg (kin M (kR M a0 0) 13 8) <|
    kg (kin M (kR M a0 0) 13 8) <| kl (ksI M (kR M a0 0) (kx 8) ((kI M (kR M a0 0) (kx 8)) + 1)) fun M2 =>
    kg (kt M2 a0 12) <|
    (F_X12_atTrader N M2 v1 0).bind fun r3 =>
    kg (kin M2 (kR M2 a0 0) 13 r3) <| kl (ksI M2 (kR M2 a0 0) (kx r3) x1) fun M4 =>
    kg (kt M4 a0 12) <|
    (F_X12_atTrader N M4 v1 1).bind fun r5 =>
    kg (kin M4 (kR M4 a0 0) 13 r5) <| kl (ksI M4 (kR M4 a0 0) (kx r5) x2) fun M6 =>
    kg (kt M6 a0 12) <|
    (F_X12_atTrader N M6 v1 2).bind fun r7 =>
    kg (kin M6 (kR M6 a0 0) 13 r7) <| kl (ksI M6 (kR M6 a0 0) (kx r7) x3) fun M8 =>
    kg (kt M8 a0 12) <|
    (F_X12_atTrader N M8 v1 3).bind fun r9 =>
    kg (kin M8 (kR M8 a0 0) 13 r9) <| kl (ksI M8 (kR M8 a0 0) (kx r9) x4) fun M10 =>
    kg (kt M10 a0 12) <|
    (F_X12_atTrader N M10 v1 4).bind fun r11 =>
    kg (kin M10 (kR M10 a0 0) 13 r11) <| kl (ksI M10 (kR M10 a0 0) (kx r11) 1) fun M12 =>
    kg (kt M12 a0 12) <|
    (F_X12_atTrader N M12 v1 5).bind fun r13 =>
    kg (kin M12 (kR M12 a0 0) 13 r13) <| kl (ksI M12 (kR M12 a0 0) (kx r13) (-1)) fun M14 =>
    kg (kt M14 a0 12) <|
    (F_X12_atTrader N M14 v1 6).bind fun r15 =>
    kg (kin M14 (kR M14 a0 0) 13 r15) <| kl (ksI M14 (kR M14 a0 0) (kx r15) 0) fun M16 =>
    some M16
set_option maxRecDepth 100000 in
set_option maxHeartbeats 4000000 in
theorem k_X12_appears (l : Launch) (g : kG) (N : Nat) (M : kMem) (a0 : Nat) (x1 : Int32) (x2 : Int32) (x3 : Int32) (x4 : Int32) : kMet l g yX12_appears cX12_appears 6 none 2 0 0 [.ref a0, .int x1, .int x2, .int x3, .int x4] M (fun r : kMem => (none, r)) (F_X12_appears N M a0 x1 x2 x3 x4) := by
  refine k_of (lv := [(0, .ref a0), (1, .int x1), (2, .int x2), (3, .int x3), (4, .int x4)]) RX12 (by decide) rfl rfl (Nat.le_of_ble_eq_true rfl) ?_
  intro p e s m args below meth c hX hr _
  unfold F_X12_appears
  refine g_aload_n 1 0 hX dX12_appears_0 rfl rfl ?_
  refine r_X12_7 4 hX dX12_appears_1 rfl ?_
  refine g_bipush 6 hX 8 dX12_appears_4 rfl kc_b_8 ?_
  refine g_iald 7 hX dX12_appears_6 rfl ?_
  refine g_klI (fun v1 hv1 => ?_)
  refine g_istore 9 5 [(5, .int v1), (0, .ref a0), (1, .int x1), (2, .int x2), (3, .int x3), (4, .int x4)] hX dX12_appears_7 rfl (Nat.le_of_ble_eq_true rfl) rfl ?_
  refine g_aload_n 10 1 hX dX12_appears_9 rfl rfl ?_
  refine r_X12_7 13 hX dX12_appears_10 rfl ?_
  refine g_bipush 15 hX 8 dX12_appears_13 rfl kc_b_8 ?_
  refine g_dup2 16 hX dX12_appears_15 rfl rfl rfl ?_
  refine g_iald 17 hX dX12_appears_16 rfl ?_
  refine g_iconst 18 hX 1 dX12_appears_17 rfl kc_i_1 ?_
  refine g_iadd 19 hX dX12_appears_18 rfl ?_
  refine g_iast 20 hX dX12_appears_19 rfl ?_
  refine g_klM (fun M2 hM2 => ?_)
  refine g_aload_n 21 1 hX dX12_appears_20 rfl rfl ?_
  refine r_X12_7 24 hX dX12_appears_21 rfl ?_
  refine g_iload 26 0 hX dX12_appears_24 rfl rfl ?_
  refine g_iconst 27 hX 0 dX12_appears_26 rfl kc_i_0 ?_
  refine g_callS_ip 30 hX (k_X12_atTrader l g N M2 v1 0) lk_X12_atTrader q_1675 (by omega) rfl (Nat.le_of_ble_eq_true rfl) (Nat.zero_le _) (Nat.zero_le _) dX12_appears_27 rfl (fun r3 => ?_)
  refine g_iload_n 31 2 hX dX12_appears_30 rfl rfl ?_
  refine g_iast 32 hX dX12_appears_31 rfl ?_
  refine g_klM (fun M4 hM4 => ?_)
  refine g_aload_n 33 1 hX dX12_appears_32 rfl rfl ?_
  refine r_X12_7 36 hX dX12_appears_33 rfl ?_
  refine g_iload 38 0 hX dX12_appears_36 rfl rfl ?_
  refine g_iconst 39 hX 1 dX12_appears_38 rfl kc_i_1 ?_
  refine g_callS_ip 42 hX (k_X12_atTrader l g N M4 v1 1) lk_X12_atTrader q_1675 (by omega) rfl (Nat.le_of_ble_eq_true rfl) (Nat.zero_le _) (Nat.zero_le _) dX12_appears_39 rfl (fun r5 => ?_)
  refine g_iload_n 43 3 hX dX12_appears_42 rfl rfl ?_
  refine g_iast 44 hX dX12_appears_43 rfl ?_
  refine g_klM (fun M6 hM6 => ?_)
  refine g_aload_n 45 1 hX dX12_appears_44 rfl rfl ?_
  refine r_X12_7 48 hX dX12_appears_45 rfl ?_
  refine g_iload 50 0 hX dX12_appears_48 rfl rfl ?_
  refine g_iconst 51 hX 2 dX12_appears_50 rfl kc_i_2 ?_
  refine g_callS_ip 54 hX (k_X12_atTrader l g N M6 v1 2) lk_X12_atTrader q_1675 (by omega) rfl (Nat.le_of_ble_eq_true rfl) (Nat.zero_le _) (Nat.zero_le _) dX12_appears_51 rfl (fun r7 => ?_)
  refine g_iload_n 55 4 hX dX12_appears_54 rfl rfl ?_
  refine g_iast 56 hX dX12_appears_55 rfl ?_
  refine g_klM (fun M8 hM8 => ?_)
  refine g_aload_n 57 1 hX dX12_appears_56 rfl rfl ?_
  refine r_X12_7 60 hX dX12_appears_57 rfl ?_
  refine g_iload 62 0 hX dX12_appears_60 rfl rfl ?_
  refine g_iconst 63 hX 3 dX12_appears_62 rfl kc_i_3 ?_
  refine g_callS_ip 66 hX (k_X12_atTrader l g N M8 v1 3) lk_X12_atTrader q_1675 (by omega) rfl (Nat.le_of_ble_eq_true rfl) (Nat.zero_le _) (Nat.zero_le _) dX12_appears_63 rfl (fun r9 => ?_)
  refine g_iload 68 5 hX dX12_appears_66 rfl rfl ?_
  refine g_iast 69 hX dX12_appears_68 rfl ?_
  refine g_klM (fun M10 hM10 => ?_)
  refine g_aload_n 70 1 hX dX12_appears_69 rfl rfl ?_
  refine r_X12_7 73 hX dX12_appears_70 rfl ?_
  refine g_iload 75 0 hX dX12_appears_73 rfl rfl ?_
  refine g_iconst 76 hX 4 dX12_appears_75 rfl kc_i_4 ?_
  refine g_callS_ip 79 hX (k_X12_atTrader l g N M10 v1 4) lk_X12_atTrader q_1675 (by omega) rfl (Nat.le_of_ble_eq_true rfl) (Nat.zero_le _) (Nat.zero_le _) dX12_appears_76 rfl (fun r11 => ?_)
  refine g_iconst 80 hX 1 dX12_appears_79 rfl kc_i_1 ?_
  refine g_iast 81 hX dX12_appears_80 rfl ?_
  refine g_klM (fun M12 hM12 => ?_)
  refine g_aload_n 82 1 hX dX12_appears_81 rfl rfl ?_
  refine r_X12_7 85 hX dX12_appears_82 rfl ?_
  refine g_iload 87 0 hX dX12_appears_85 rfl rfl ?_
  refine g_iconst 88 hX 5 dX12_appears_87 rfl kc_i_5 ?_
  refine g_callS_ip 91 hX (k_X12_atTrader l g N M12 v1 5) lk_X12_atTrader q_1675 (by omega) rfl (Nat.le_of_ble_eq_true rfl) (Nat.zero_le _) (Nat.zero_le _) dX12_appears_88 rfl (fun r13 => ?_)
  refine g_iconst 92 hX (-1) dX12_appears_91 rfl kc_i_m1 ?_
  refine g_iast 93 hX dX12_appears_92 rfl ?_
  refine g_klM (fun M14 hM14 => ?_)
  refine g_aload_n 94 1 hX dX12_appears_93 rfl rfl ?_
  refine r_X12_7 97 hX dX12_appears_94 rfl ?_
  refine g_iload 99 0 hX dX12_appears_97 rfl rfl ?_
  refine g_bipush 101 hX 6 dX12_appears_99 rfl kc_b_6 ?_
  refine g_callS_ip 104 hX (k_X12_atTrader l g N M14 v1 6) lk_X12_atTrader q_1675 (by omega) rfl (Nat.le_of_ble_eq_true rfl) (Nat.zero_le _) (Nat.zero_le _) dX12_appears_101 rfl (fun r15 => ?_)
  refine g_iconst 105 hX 0 dX12_appears_104 rfl kc_i_0 ?_
  refine g_iast 106 hX dX12_appears_105 rfl ?_
  refine g_klM (fun M16 hM16 => ?_)
  exact g_vret hX hr rfl (Nat.le_refl 0) (Nat.le_refl 0) dX12_appears_106
def F_X12_sits (N : Nat) (M : kMem) (a0 : Nat) (x1 : Int32) (x2 : Int32) (x3 : Int32) : Option (kMem) :=
    kg (kt M a0 12) <|
    (F_X12_atSeat N M x2 x3).bind fun r1 =>
    kg (kin M (kR M a0 0) 13 r1) <| kl (ksI M (kR M a0 0) (kx r1) (x1 + 1)) fun M2 =>
    kg (kt M2 a0 12) <|
    (F_X12_atTrader N M2 x1 5).bind fun r3 =>
    kg (kin M2 (kR M2 a0 0) 13 r3) <| kl (ksI M2 (kR M2 a0 0) (kx r3) x2) fun M4 =>
    kg (kt M4 a0 12) <|
    (F_X12_atTrader N M4 x1 6).bind fun r5 =>
    kg (kin M4 (kR M4 a0 0) 13 r5) <| kl (ksI M4 (kR M4 a0 0) (kx r5) x3) fun M6 =>
    some M6
set_option maxRecDepth 100000 in
set_option maxHeartbeats 4000000 in
theorem k_X12_sits (l : Launch) (g : kG) (N : Nat) (M : kMem) (a0 : Nat) (x1 : Int32) (x2 : Int32) (x3 : Int32) : kMet l g yX12_sits cX12_sits 4 none 3 0 0 [.ref a0, .int x1, .int x2, .int x3] M (fun r : kMem => (none, r)) (F_X12_sits N M a0 x1 x2 x3) := by
  refine k_of (lv := [(0, .ref a0), (1, .int x1), (2, .int x2), (3, .int x3)]) RX12 (by decide) rfl rfl (Nat.le_of_ble_eq_true rfl) ?_
  intro p e s m args below meth c hX hr _
  unfold F_X12_sits
  refine g_aload_n 1 0 hX dX12_sits_0 rfl rfl ?_
  refine r_X12_7 4 hX dX12_sits_1 rfl ?_
  refine g_iload_n 5 2 hX dX12_sits_4 rfl rfl ?_
  refine g_iload_n 6 3 hX dX12_sits_5 rfl rfl ?_
  refine g_callS_ip 9 hX (k_X12_atSeat l g N M x2 x3) lk_X12_atSeat q_1682 (by omega) rfl (Nat.le_of_ble_eq_true rfl) (Nat.zero_le _) (Nat.zero_le _) dX12_sits_6 rfl (fun r1 => ?_)
  refine g_iload_n 10 1 hX dX12_sits_9 rfl rfl ?_
  refine g_iconst 11 hX 1 dX12_sits_10 rfl kc_i_1 ?_
  refine g_iadd 12 hX dX12_sits_11 rfl ?_
  refine g_iast 13 hX dX12_sits_12 rfl ?_
  refine g_klM (fun M2 hM2 => ?_)
  refine g_aload_n 14 0 hX dX12_sits_13 rfl rfl ?_
  refine r_X12_7 17 hX dX12_sits_14 rfl ?_
  refine g_iload_n 18 1 hX dX12_sits_17 rfl rfl ?_
  refine g_iconst 19 hX 5 dX12_sits_18 rfl kc_i_5 ?_
  refine g_callS_ip 22 hX (k_X12_atTrader l g N M2 x1 5) lk_X12_atTrader q_1675 (by omega) rfl (Nat.le_of_ble_eq_true rfl) (Nat.zero_le _) (Nat.zero_le _) dX12_sits_19 rfl (fun r3 => ?_)
  refine g_iload_n 23 2 hX dX12_sits_22 rfl rfl ?_
  refine g_iast 24 hX dX12_sits_23 rfl ?_
  refine g_klM (fun M4 hM4 => ?_)
  refine g_aload_n 25 0 hX dX12_sits_24 rfl rfl ?_
  refine r_X12_7 28 hX dX12_sits_25 rfl ?_
  refine g_iload_n 29 1 hX dX12_sits_28 rfl rfl ?_
  refine g_bipush 31 hX 6 dX12_sits_29 rfl kc_b_6 ?_
  refine g_callS_ip 34 hX (k_X12_atTrader l g N M4 x1 6) lk_X12_atTrader q_1675 (by omega) rfl (Nat.le_of_ble_eq_true rfl) (Nat.zero_le _) (Nat.zero_le _) dX12_sits_31 rfl (fun r5 => ?_)
  refine g_iload_n 35 3 hX dX12_sits_34 rfl rfl ?_
  refine g_iast 36 hX dX12_sits_35 rfl ?_
  refine g_klM (fun M6 hM6 => ?_)
  exact g_vret hX hr rfl (Nat.le_refl 0) (Nat.le_refl 0) dX12_sits_36
def F_X12_rises (N : Nat) (M : kMem) (a0 : Nat) (x1 : Int32) : Option (kMem) :=
    kg (kt M a0 12) <| (F_X12_isSeated N M a0 x1).bind fun r1 =>
    if r1 = 0 then (
      some M) else
    kg (kt M a0 12) <|
    kg (kt M a0 12) <| (F_X12_has N M a0 x1 5).bind fun r2 =>
    kg (kt M a0 12) <| (F_X12_has N M a0 x1 6).bind fun r3 =>
    (F_X12_atSeat N M r2 r3).bind fun r4 =>
    kg (kin M (kR M a0 0) 13 r4) <| kl (ksI M (kR M a0 0) (kx r4) 0) fun M5 =>
    kg (kt M5 a0 12) <|
    (F_X12_atTrader N M5 x1 5).bind fun r6 =>
    kg (kin M5 (kR M5 a0 0) 13 r6) <| kl (ksI M5 (kR M5 a0 0) (kx r6) (-1)) fun M7 =>
    kg (kt M7 a0 12) <|
    (F_X12_atTrader N M7 x1 6).bind fun r8 =>
    kg (kin M7 (kR M7 a0 0) 13 r8) <| kl (ksI M7 (kR M7 a0 0) (kx r8) 0) fun M9 =>
    some M9
set_option maxRecDepth 100000 in
set_option maxHeartbeats 4000000 in
theorem k_X12_rises (l : Launch) (g : kG) (N : Nat) (M : kMem) (a0 : Nat) (x1 : Int32) : kMet l g yX12_rises cX12_rises 2 none 4 0 0 [.ref a0, .int x1] M (fun r : kMem => (none, r)) (F_X12_rises N M a0 x1) := by
  refine k_of (lv := [(0, .ref a0), (1, .int x1)]) RX12 (by decide) rfl rfl (Nat.le_of_ble_eq_true rfl) ?_
  intro p e s m args below meth c hX hr _
  unfold F_X12_rises
  refine g_aload_n 1 0 hX dX12_rises_0 rfl rfl ?_
  refine g_iload_n 2 1 hX dX12_rises_1 rfl rfl ?_
  refine g_callV_ip 5 hX (k_X12_isSeated l g N M a0 x1) lk_X12_isSeated rfl (ci := 12) rfl (Nat.le_of_ble_eq_true rfl) q_1911 q_64 (by omega) rfl (Nat.le_of_ble_eq_true rfl) (Nat.zero_le _) (Nat.zero_le _) dX12_rises_2 rfl (fun r1 => ?_)
  refine g_if_ne 9 8 hX dX12_rises_5 (by decide) rfl (fun _ => ?_) (fun _ => ?_)
  · refine g_aload_n 10 0 hX dX12_rises_9 rfl rfl ?_
    refine r_X12_7 13 hX dX12_rises_10 rfl ?_
    refine g_aload_n 14 0 hX dX12_rises_13 rfl rfl ?_
    refine g_iload_n 15 1 hX dX12_rises_14 rfl rfl ?_
    refine g_iconst 16 hX 5 dX12_rises_15 rfl kc_i_5 ?_
    refine g_callV_ip 19 hX (k_X12_has l g N M a0 x1 5) lk_X12_has rfl (ci := 12) rfl (Nat.le_of_ble_eq_true rfl) q_1689 q_42 (by omega) rfl (Nat.le_of_ble_eq_true rfl) (Nat.zero_le _) (Nat.zero_le _) dX12_rises_16 rfl (fun r2 => ?_)
    refine g_aload_n 20 0 hX dX12_rises_19 rfl rfl ?_
    refine g_iload_n 21 1 hX dX12_rises_20 rfl rfl ?_
    refine g_bipush 23 hX 6 dX12_rises_21 rfl kc_b_6 ?_
    refine g_callV_ip 26 hX (k_X12_has l g N M a0 x1 6) lk_X12_has rfl (ci := 12) rfl (Nat.le_of_ble_eq_true rfl) q_1689 q_42 (by omega) rfl (Nat.le_of_ble_eq_true rfl) (Nat.zero_le _) (Nat.zero_le _) dX12_rises_23 rfl (fun r3 => ?_)
    refine g_callS_ip 29 hX (k_X12_atSeat l g N M r2 r3) lk_X12_atSeat q_1682 (by omega) rfl (Nat.le_of_ble_eq_true rfl) (Nat.zero_le _) (Nat.zero_le _) dX12_rises_26 rfl (fun r4 => ?_)
    refine g_iconst 30 hX 0 dX12_rises_29 rfl kc_i_0 ?_
    refine g_iast 31 hX dX12_rises_30 rfl ?_
    refine g_klM (fun M5 hM5 => ?_)
    refine g_aload_n 32 0 hX dX12_rises_31 rfl rfl ?_
    refine r_X12_7 35 hX dX12_rises_32 rfl ?_
    refine g_iload_n 36 1 hX dX12_rises_35 rfl rfl ?_
    refine g_iconst 37 hX 5 dX12_rises_36 rfl kc_i_5 ?_
    refine g_callS_ip 40 hX (k_X12_atTrader l g N M5 x1 5) lk_X12_atTrader q_1675 (by omega) rfl (Nat.le_of_ble_eq_true rfl) (Nat.zero_le _) (Nat.zero_le _) dX12_rises_37 rfl (fun r6 => ?_)
    refine g_iconst 41 hX (-1) dX12_rises_40 rfl kc_i_m1 ?_
    refine g_iast 42 hX dX12_rises_41 rfl ?_
    refine g_klM (fun M7 hM7 => ?_)
    refine g_aload_n 43 0 hX dX12_rises_42 rfl rfl ?_
    refine r_X12_7 46 hX dX12_rises_43 rfl ?_
    refine g_iload_n 47 1 hX dX12_rises_46 rfl rfl ?_
    refine g_bipush 49 hX 6 dX12_rises_47 rfl kc_b_6 ?_
    refine g_callS_ip 52 hX (k_X12_atTrader l g N M7 x1 6) lk_X12_atTrader q_1675 (by omega) rfl (Nat.le_of_ble_eq_true rfl) (Nat.zero_le _) (Nat.zero_le _) dX12_rises_49 rfl (fun r8 => ?_)
    refine g_iconst 53 hX 0 dX12_rises_52 rfl kc_i_0 ?_
    refine g_iast 54 hX dX12_rises_53 rfl ?_
    refine g_klM (fun M9 hM9 => ?_)
    exact g_vret hX hr rfl (Nat.le_refl 0) (Nat.le_refl 0) dX12_rises_54
  · exact g_vret hX hr rfl (Nat.le_refl 0) (Nat.le_refl 0) dX12_rises_8
def F_X12_allCoins_9 (N : Nat) (M : kMem) : Nat → Nat → Int32 → Int32 → Option (Int32)
  | 0, _, _, _ => none
  | n + 1, a0, x1, x2 =>
    kg (kt M a0 12) <|
    kg (kin M (kR M a0 0) 13 8) <|
    if x2 < (kI M (kR M a0 0) (kx 8)) then (
      kg (kt M a0 12) <| (F_X12_has N M a0 x2 2).bind fun r2 =>
      kl (x1 + r2) fun v3 =>
      kl (x2 + 1) fun v4 =>
      F_X12_allCoins_9 N M n a0 v3 v4) else
    some x1
def F_X12_allCoins (N : Nat) (M : kMem) (a0 : Nat) : Option (Int32) :=
    kg (kt M a0 12) <|
    kg (kin M (kR M a0 0) 13 5) <|
    kl (kI M (kR M a0 0) (kx 5)) fun v1 =>
    F_X12_allCoins_9 N M N a0 v1 0
set_option maxRecDepth 100000 in
set_option maxHeartbeats 4000000 in
theorem k_X12_allCoins_9 {p : Program} {l : Launch} {e : Env} {s : State} {m : MethodId} {args : Array Value} {below : List Frame} {meth : Method} {c : Code} {g : kG} (hX : Cok (p, l, e, { frames := 2 * 3, cells := 0, slots := 0, locals := 60 * 3 }, s, m, args, below, meth, c, cX12_allCoins, 3, RX12, g, 3)) (hr : meth.sig.returnType = (some .int)) (N : Nat) (M : kMem) : ∀ (n : Nat) (a0 : Nat) (x1 : Int32) (x2 : Int32), GG (p, l, e, { frames := 2 * 3, cells := 0, slots := 0, locals := 60 * 3 }, s, m, args, below, meth, c, cX12_allCoins, 3, RX12, g, 3) (fun b => MQ below (kQ g ((fun r : Int32 => (some (.int r), M)) b)) args s 0 0 (kZ g.2.2.1)) 0 0 (F_X12_allCoins_9 N M n a0 x1 x2) 9 [(0, .ref a0), (1, .int x1), (2, .int x2)] [] M := by
  intro n
  induction n with
  | zero => intro _ _ _; exact g_none
  | succ n ih =>
    intro a0 x1 x2
    unfold F_X12_allCoins_9
    refine g_iload_n 10 2 hX dX12_allCoins_9 rfl rfl ?_
    refine g_aload_n 11 0 hX dX12_allCoins_10 rfl rfl ?_
    refine r_X12_7 14 hX dX12_allCoins_11 rfl ?_
    refine g_bipush 16 hX 8 dX12_allCoins_14 rfl kc_b_8 ?_
    refine g_iald 17 hX dX12_allCoins_16 rfl ?_
    refine g_icmp_ge 35 20 hX dX12_allCoins_17 (by decide) rfl (fun _ => ?_) (fun _ => ?_)
    · refine g_iload_n 36 1 hX dX12_allCoins_35 rfl rfl ?_
      exact g_iret hX hr rfl (Nat.le_refl 0) (Nat.le_refl 0) dX12_allCoins_36
    · refine g_iload_n 21 1 hX dX12_allCoins_20 rfl rfl ?_
      refine g_aload_n 22 0 hX dX12_allCoins_21 rfl rfl ?_
      refine g_iload_n 23 2 hX dX12_allCoins_22 rfl rfl ?_
      refine g_iconst 24 hX 2 dX12_allCoins_23 rfl kc_i_2 ?_
      refine g_callV_ip 27 hX (k_X12_has l g N M a0 x2 2) lk_X12_has rfl (ci := 12) rfl (Nat.le_of_ble_eq_true rfl) q_1689 q_42 (by omega) rfl (Nat.le_of_ble_eq_true rfl) (Nat.zero_le _) (Nat.zero_le _) dX12_allCoins_24 rfl (fun r2 => ?_)
      refine g_iadd 28 hX dX12_allCoins_27 rfl ?_
      refine g_klI (fun v3 hv3 => ?_)
      refine g_istore_n 29 1 [(1, .int v3), (0, .ref a0), (2, .int x2)] hX dX12_allCoins_28 rfl rfl (Nat.le_of_ble_eq_true rfl) rfl ?_
      refine g_kl (fun v4 hv4 => ?_)
      refine g_iinc 32 2 2 v4 [(2, .int v4), (1, .int v3), (0, .ref a0)] hX dX12_allCoins_29 rfl rfl (by rw [hv4, kc_i_1]) (Nat.le_of_ble_eq_true rfl) rfl ?_
      refine g_goto 9 hX dX12_allCoins_32 (by decide) ?_
      refine g_lv [2, 1, 0] rfl ?_
      exact ih a0 v3 v4
set_option maxRecDepth 100000 in
set_option maxHeartbeats 4000000 in
theorem k_X12_allCoins (l : Launch) (g : kG) (N : Nat) (M : kMem) (a0 : Nat) : kMet l g yX12_allCoins cX12_allCoins 3 (some .int) 3 0 0 [.ref a0] M (fun r : Int32 => (some (.int r), M)) (F_X12_allCoins N M a0) := by
  refine k_of (lv := [(0, .ref a0)]) RX12 (by decide) rfl rfl (Nat.le_of_ble_eq_true rfl) ?_
  intro p e s m args below meth c hX hr _
  unfold F_X12_allCoins
  refine g_aload_n 1 0 hX dX12_allCoins_0 rfl rfl ?_
  refine r_X12_7 4 hX dX12_allCoins_1 rfl ?_
  refine g_iconst 5 hX 5 dX12_allCoins_4 rfl kc_i_5 ?_
  refine g_iald 6 hX dX12_allCoins_5 rfl ?_
  refine g_klI (fun v1 hv1 => ?_)
  refine g_istore_n 7 1 [(1, .int v1), (0, .ref a0)] hX dX12_allCoins_6 rfl rfl (Nat.le_of_ble_eq_true rfl) rfl ?_
  refine g_iconst 8 hX 0 dX12_allCoins_7 rfl kc_i_0 ?_
  refine g_istore_n 9 2 [(2, .int 0), (1, .int v1), (0, .ref a0)] hX dX12_allCoins_8 rfl rfl (Nat.le_of_ble_eq_true rfl) rfl ?_
  refine g_lv [2, 1, 0] rfl ?_
  exact k_X12_allCoins_9 hX hr N M N a0 v1 0
def F_X12_traderNamed_2 (N : Nat) (M : kMem) : Nat → Nat → Int32 → Int32 → Option (Int32)
  | 0, _, _, _ => none
  | n + 1, a0, x1, x2 =>
    kg (kt M a0 12) <|
    kg (kin M (kR M a0 0) 13 8) <|
    if x2 < (kI M (kR M a0 0) (kx 8)) then (
      kg (kt M a0 12) <| (F_X12_has N M a0 x2 0).bind fun r1 =>
      if r1 = x1 then (
        some x2) else
      kl (x2 + 1) fun v2 =>
      F_X12_traderNamed_2 N M n a0 x1 v2) else
    some (-1)
def F_X12_traderNamed (N : Nat) (M : kMem) (a0 : Nat) (x1 : Int32) : Option (Int32) :=
    F_X12_traderNamed_2 N M N a0 x1 0
set_option maxRecDepth 100000 in
set_option maxHeartbeats 4000000 in
theorem k_X12_traderNamed_2 {p : Program} {l : Launch} {e : Env} {s : State} {m : MethodId} {args : Array Value} {below : List Frame} {meth : Method} {c : Code} {g : kG} (hX : Cok (p, l, e, { frames := 2 * 3, cells := 0, slots := 0, locals := 60 * 3 }, s, m, args, below, meth, c, cX12_traderNamed, 3, RX12, g, 3)) (hr : meth.sig.returnType = (some .int)) (N : Nat) (M : kMem) : ∀ (n : Nat) (a0 : Nat) (x1 : Int32) (x2 : Int32), GG (p, l, e, { frames := 2 * 3, cells := 0, slots := 0, locals := 60 * 3 }, s, m, args, below, meth, c, cX12_traderNamed, 3, RX12, g, 3) (fun b => MQ below (kQ g ((fun r : Int32 => (some (.int r), M)) b)) args s 0 0 (kZ g.2.2.1)) 0 0 (F_X12_traderNamed_2 N M n a0 x1 x2) 2 [(0, .ref a0), (1, .int x1), (2, .int x2)] [] M := by
  intro n
  induction n with
  | zero => intro _ _ _; exact g_none
  | succ n ih =>
    intro a0 x1 x2
    unfold F_X12_traderNamed_2
    refine g_iload_n 3 2 hX dX12_traderNamed_2 rfl rfl ?_
    refine g_aload_n 4 0 hX dX12_traderNamed_3 rfl rfl ?_
    refine r_X12_7 7 hX dX12_traderNamed_4 rfl ?_
    refine g_bipush 9 hX 8 dX12_traderNamed_7 rfl kc_b_8 ?_
    refine g_iald 10 hX dX12_traderNamed_9 rfl ?_
    refine g_icmp_ge 31 13 hX dX12_traderNamed_10 (by decide) rfl (fun _ => ?_) (fun _ => ?_)
    · refine g_iconst 32 hX (-1) dX12_traderNamed_31 rfl kc_i_m1 ?_
      exact g_iret hX hr rfl (Nat.le_refl 0) (Nat.le_refl 0) dX12_traderNamed_32
    · refine g_aload_n 14 0 hX dX12_traderNamed_13 rfl rfl ?_
      refine g_iload_n 15 2 hX dX12_traderNamed_14 rfl rfl ?_
      refine g_iconst 16 hX 0 dX12_traderNamed_15 rfl kc_i_0 ?_
      refine g_callV_ip 19 hX (k_X12_has l g N M a0 x2 0) lk_X12_has rfl (ci := 12) rfl (Nat.le_of_ble_eq_true rfl) q_1689 q_42 (by omega) rfl (Nat.le_of_ble_eq_true rfl) (Nat.zero_le _) (Nat.zero_le _) dX12_traderNamed_16 rfl (fun r1 => ?_)
      refine g_iload_n 20 1 hX dX12_traderNamed_19 rfl rfl ?_
      refine g_icmp_ne 25 23 hX dX12_traderNamed_20 (by decide) rfl (fun _ => ?_) (fun _ => ?_)
      · refine g_kl (fun v2 hv2 => ?_)
        refine g_iinc 28 2 2 v2 [(2, .int v2), (0, .ref a0), (1, .int x1)] hX dX12_traderNamed_25 rfl rfl (by rw [hv2, kc_i_1]) (Nat.le_of_ble_eq_true rfl) rfl ?_
        refine g_goto 2 hX dX12_traderNamed_28 (by decide) ?_
        refine g_lv [1, 2, 0] rfl ?_
        exact ih a0 x1 v2
      · refine g_iload_n 24 2 hX dX12_traderNamed_23 rfl rfl ?_
        exact g_iret hX hr rfl (Nat.le_refl 0) (Nat.le_refl 0) dX12_traderNamed_24
set_option maxRecDepth 100000 in
set_option maxHeartbeats 4000000 in
theorem k_X12_traderNamed (l : Launch) (g : kG) (N : Nat) (M : kMem) (a0 : Nat) (x1 : Int32) : kMet l g yX12_traderNamed cX12_traderNamed 3 (some .int) 3 0 0 [.ref a0, .int x1] M (fun r : Int32 => (some (.int r), M)) (F_X12_traderNamed N M a0 x1) := by
  refine k_of (lv := [(0, .ref a0), (1, .int x1)]) RX12 (by decide) rfl rfl (Nat.le_of_ble_eq_true rfl) ?_
  intro p e s m args below meth c hX hr _
  unfold F_X12_traderNamed
  refine g_iconst 1 hX 0 dX12_traderNamed_0 rfl kc_i_0 ?_
  refine g_istore_n 2 2 [(2, .int 0), (0, .ref a0), (1, .int x1)] hX dX12_traderNamed_1 rfl rfl (Nat.le_of_ble_eq_true rfl) rfl ?_
  refine g_lv [1, 2, 0] rfl ?_
  exact k_X12_traderNamed_2 hX hr N M N a0 x1 0
def F_X12_isPosition (N : Nat) (M : kMem) (a0 : Nat) (x1 : Int32) (x2 : Int32) : Option (Int32) :=
    if x2 = 0 then (
      some 0) else
    kg (kt M a0 12) <| (F_X12_ofBoard N M a0 x1 0).bind fun r1 =>
    kg (kt M a0 12) <| (F_X12_ofBoard N M a0 x1 0).bind fun r2 =>
    (F_X12_in N M x2.toInt64 ((-r1).toInt64) r2.toInt64).bind fun r3 =>
    if r3 = 0 then (
      some 0) else
    some 1
set_option maxRecDepth 100000 in
set_option maxHeartbeats 4000000 in
theorem k_X12_isPosition (l : Launch) (g : kG) (N : Nat) (M : kMem) (a0 : Nat) (x1 : Int32) (x2 : Int32) : kMet l g yX12_isPosition cX12_isPosition 3 (some .boolean) 3 0 0 [.ref a0, .int x1, .int x2] M (fun r : Int32 => (some (.int r), M)) (F_X12_isPosition N M a0 x1 x2) := by
  refine k_of (lv := [(0, .ref a0), (1, .int x1), (2, .int x2)]) RX12 (by decide) rfl rfl (Nat.le_of_ble_eq_true rfl) ?_
  intro p e s m args below meth c hX hr _
  unfold F_X12_isPosition
  refine g_iload_n 1 2 hX dX12_isPosition_0 rfl rfl ?_
  refine g_if_eq 31 4 hX dX12_isPosition_1 (by decide) rfl (fun _ => ?_) (fun _ => ?_)
  · refine g_iconst 32 hX 0 dX12_isPosition_31 rfl kc_i_0 ?_
    exact g_zretL hX hr rfl rfl (Nat.le_refl 0) (Nat.le_refl 0) dX12_isPosition_32
  · refine g_iload_n 5 2 hX dX12_isPosition_4 rfl rfl ?_
    refine g_i2l 6 hX dX12_isPosition_5 rfl ?_
    refine g_aload_n 7 0 hX dX12_isPosition_6 rfl rfl ?_
    refine g_iload_n 8 1 hX dX12_isPosition_7 rfl rfl ?_
    refine g_iconst 9 hX 0 dX12_isPosition_8 rfl kc_i_0 ?_
    refine g_callV_ip 12 hX (k_X12_ofBoard l g N M a0 x1 0) lk_X12_ofBoard rfl (ci := 12) rfl (Nat.le_of_ble_eq_true rfl) q_1921 q_66 (by omega) rfl (Nat.le_of_ble_eq_true rfl) (Nat.zero_le _) (Nat.zero_le _) dX12_isPosition_9 rfl (fun r1 => ?_)
    refine g_ineg 13 hX dX12_isPosition_12 rfl ?_
    refine g_i2l 14 hX dX12_isPosition_13 rfl ?_
    refine g_aload_n 15 0 hX dX12_isPosition_14 rfl rfl ?_
    refine g_iload_n 16 1 hX dX12_isPosition_15 rfl rfl ?_
    refine g_iconst 17 hX 0 dX12_isPosition_16 rfl kc_i_0 ?_
    refine g_callV_ip 20 hX (k_X12_ofBoard l g N M a0 x1 0) lk_X12_ofBoard rfl (ci := 12) rfl (Nat.le_of_ble_eq_true rfl) q_1921 q_66 (by omega) rfl (Nat.le_of_ble_eq_true rfl) (Nat.zero_le _) (Nat.zero_le _) dX12_isPosition_17 rfl (fun r2 => ?_)
    refine g_i2l 21 hX dX12_isPosition_20 rfl ?_
    refine g_callS_ip 24 hX (k_X12_in l g N M x2.toInt64 ((-r1).toInt64) r2.toInt64) lk_X12_in q_1808 (by omega) rfl (Nat.le_of_ble_eq_true rfl) (Nat.zero_le _) (Nat.zero_le _) dX12_isPosition_21 rfl (fun r3 => ?_)
    refine g_if_eq 31 27 hX dX12_isPosition_24 (by decide) rfl (fun _ => ?_) (fun _ => ?_)
    · refine g_iconst 32 hX 0 dX12_isPosition_31 rfl kc_i_0 ?_
      exact g_zretL hX hr rfl rfl (Nat.le_refl 0) (Nat.le_refl 0) dX12_isPosition_32
    · refine g_iconst 28 hX 1 dX12_isPosition_27 rfl kc_i_1 ?_
      refine g_goto 32 hX dX12_isPosition_28 (by decide) ?_
      exact g_zretL hX hr rfl rfl (Nat.le_refl 0) (Nat.le_refl 0) dX12_isPosition_32
def F_X12_torqueOf_10 (N : Nat) (M : kMem) : Nat → Nat → Int32 → Int32 → Int32 → Option (Int32)
  | 0, _, _, _, _ => none
  | n + 1, a0, x1, x2, x3 =>
    kg (kt M a0 12) <| (F_X12_ofBoard N M a0 x1 0).bind fun r3 =>
    if r3 < x3 then (
      some x2) else
    if x3 = 0 then (
      kl (x3 + 1) fun v4 =>
      F_X12_torqueOf_10 N M n a0 x1 x2 v4) else
    kg (kt M a0 12) <| (F_X12_onSeat N M a0 x1 x3).bind fun r5 =>
    if r5 = (-1) then (
      kl (x3 + 1) fun v6 =>
      F_X12_torqueOf_10 N M n a0 x1 x2 v6) else
    kg (kt M a0 12) <| (F_X12_onSeat N M a0 x1 x3).bind fun r7 =>
    kg (kt M a0 12) <| (F_X12_has N M a0 r7 1).bind fun r8 =>
    kl (x2 + (x3 * r8)) fun v9 =>
    kl (x3 + 1) fun v10 =>
    F_X12_torqueOf_10 N M n a0 x1 v9 v10
def F_X12_torqueOf (N : Nat) (M : kMem) (a0 : Nat) (x1 : Int32) : Option (Int32) :=
    kg (kt M a0 12) <| (F_X12_ofBoard N M a0 x1 0).bind fun r1 =>
    kl (-r1) fun v2 =>
    F_X12_torqueOf_10 N M N a0 x1 0 v2
set_option maxRecDepth 100000 in
set_option maxHeartbeats 4000000 in
theorem k_X12_torqueOf_10 {p : Program} {l : Launch} {e : Env} {s : State} {m : MethodId} {args : Array Value} {below : List Frame} {meth : Method} {c : Code} {g : kG} (hX : Cok (p, l, e, { frames := 2 * 4, cells := 0, slots := 0, locals := 60 * 4 }, s, m, args, below, meth, c, cX12_torqueOf, 4, RX12, g, 4)) (hr : meth.sig.returnType = (some .int)) (N : Nat) (M : kMem) : ∀ (n : Nat) (a0 : Nat) (x1 : Int32) (x2 : Int32) (x3 : Int32), GG (p, l, e, { frames := 2 * 4, cells := 0, slots := 0, locals := 60 * 4 }, s, m, args, below, meth, c, cX12_torqueOf, 4, RX12, g, 4) (fun b => MQ below (kQ g ((fun r : Int32 => (some (.int r), M)) b)) args s 0 0 (kZ g.2.2.1)) 0 0 (F_X12_torqueOf_10 N M n a0 x1 x2 x3) 10 [(0, .ref a0), (1, .int x1), (2, .int x2), (3, .int x3)] [] M := by
  intro n
  induction n with
  | zero => intro _ _ _ _; exact g_none
  | succ n ih =>
    intro a0 x1 x2 x3
    unfold F_X12_torqueOf_10
    refine g_iload_n 11 3 hX dX12_torqueOf_10 rfl rfl ?_
    refine g_aload_n 12 0 hX dX12_torqueOf_11 rfl rfl ?_
    refine g_iload_n 13 1 hX dX12_torqueOf_12 rfl rfl ?_
    refine g_iconst 14 hX 0 dX12_torqueOf_13 rfl kc_i_0 ?_
    refine g_callV_ip 17 hX (k_X12_ofBoard l g N M a0 x1 0) lk_X12_ofBoard rfl (ci := 12) rfl (Nat.le_of_ble_eq_true rfl) q_1921 q_66 (by omega) rfl (Nat.le_of_ble_eq_true rfl) (Nat.zero_le _) (Nat.zero_le _) dX12_torqueOf_14 rfl (fun r3 => ?_)
    refine g_icmp_gt 56 20 hX dX12_torqueOf_17 (by decide) rfl (fun _ => ?_) (fun _ => ?_)
    · refine g_iload_n 57 2 hX dX12_torqueOf_56 rfl rfl ?_
      exact g_iret hX hr rfl (Nat.le_refl 0) (Nat.le_refl 0) dX12_torqueOf_57
    · refine g_iload_n 21 3 hX dX12_torqueOf_20 rfl rfl ?_
      refine g_if_eq 50 24 hX dX12_torqueOf_21 (by decide) rfl (fun _ => ?_) (fun _ => ?_)
      · refine g_kl (fun v4 hv4 => ?_)
        refine g_iinc 53 3 3 v4 [(3, .int v4), (0, .ref a0), (1, .int x1), (2, .int x2)] hX dX12_torqueOf_50 rfl rfl (by rw [hv4, kc_i_1]) (Nat.le_of_ble_eq_true rfl) rfl ?_
        refine g_goto 10 hX dX12_torqueOf_53 (by decide) ?_
        refine g_lv [1, 2, 3, 0] rfl ?_
        exact ih a0 x1 x2 v4
      · refine g_aload_n 25 0 hX dX12_torqueOf_24 rfl rfl ?_
        refine g_iload_n 26 1 hX dX12_torqueOf_25 rfl rfl ?_
        refine g_iload_n 27 3 hX dX12_torqueOf_26 rfl rfl ?_
        refine g_callV_ip 30 hX (k_X12_onSeat l g N M a0 x1 x3) lk_X12_onSeat rfl (ci := 12) rfl (Nat.le_of_ble_eq_true rfl) q_1925 q_67 (by omega) rfl (Nat.le_of_ble_eq_true rfl) (Nat.zero_le _) (Nat.zero_le _) dX12_torqueOf_27 rfl (fun r5 => ?_)
        refine g_iconst 31 hX (-1) dX12_torqueOf_30 rfl kc_i_m1 ?_
        refine g_icmp_eq 50 34 hX dX12_torqueOf_31 (by decide) rfl (fun _ => ?_) (fun _ => ?_)
        · refine g_kl (fun v6 hv6 => ?_)
          refine g_iinc 53 3 3 v6 [(3, .int v6), (0, .ref a0), (1, .int x1), (2, .int x2)] hX dX12_torqueOf_50 rfl rfl (by rw [hv6, kc_i_1]) (Nat.le_of_ble_eq_true rfl) rfl ?_
          refine g_goto 10 hX dX12_torqueOf_53 (by decide) ?_
          refine g_lv [1, 2, 3, 0] rfl ?_
          exact ih a0 x1 x2 v6
        · refine g_iload_n 35 2 hX dX12_torqueOf_34 rfl rfl ?_
          refine g_iload_n 36 3 hX dX12_torqueOf_35 rfl rfl ?_
          refine g_aload_n 37 0 hX dX12_torqueOf_36 rfl rfl ?_
          refine g_aload_n 38 0 hX dX12_torqueOf_37 rfl rfl ?_
          refine g_iload_n 39 1 hX dX12_torqueOf_38 rfl rfl ?_
          refine g_iload_n 40 3 hX dX12_torqueOf_39 rfl rfl ?_
          refine g_callV_ip 43 hX (k_X12_onSeat l g N M a0 x1 x3) lk_X12_onSeat rfl (ci := 12) rfl (Nat.le_of_ble_eq_true rfl) q_1925 q_67 (by omega) rfl (Nat.le_of_ble_eq_true rfl) (Nat.zero_le _) (Nat.zero_le _) dX12_torqueOf_40 rfl (fun r7 => ?_)
          refine g_iconst 44 hX 1 dX12_torqueOf_43 rfl kc_i_1 ?_
          refine g_callV_ip 47 hX (k_X12_has l g N M a0 r7 1) lk_X12_has rfl (ci := 12) rfl (Nat.le_of_ble_eq_true rfl) q_1689 q_42 (by omega) rfl (Nat.le_of_ble_eq_true rfl) (Nat.zero_le _) (Nat.zero_le _) dX12_torqueOf_44 rfl (fun r8 => ?_)
          refine g_imul 48 hX dX12_torqueOf_47 rfl ?_
          refine g_iadd 49 hX dX12_torqueOf_48 rfl ?_
          refine g_klI (fun v9 hv9 => ?_)
          refine g_istore_n 50 2 [(2, .int v9), (0, .ref a0), (1, .int x1), (3, .int x3)] hX dX12_torqueOf_49 rfl rfl (Nat.le_of_ble_eq_true rfl) rfl ?_
          refine g_kl (fun v10 hv10 => ?_)
          refine g_iinc 53 3 3 v10 [(3, .int v10), (2, .int v9), (0, .ref a0), (1, .int x1)] hX dX12_torqueOf_50 rfl rfl (by rw [hv10, kc_i_1]) (Nat.le_of_ble_eq_true rfl) rfl ?_
          refine g_goto 10 hX dX12_torqueOf_53 (by decide) ?_
          refine g_lv [2, 3, 1, 0] rfl ?_
          exact ih a0 x1 v9 v10
set_option maxRecDepth 100000 in
set_option maxHeartbeats 4000000 in
theorem k_X12_torqueOf (l : Launch) (g : kG) (N : Nat) (M : kMem) (a0 : Nat) (x1 : Int32) : kMet l g yX12_torqueOf cX12_torqueOf 4 (some .int) 4 0 0 [.ref a0, .int x1] M (fun r : Int32 => (some (.int r), M)) (F_X12_torqueOf N M a0 x1) := by
  refine k_of (lv := [(0, .ref a0), (1, .int x1)]) RX12 (by decide) rfl rfl (Nat.le_of_ble_eq_true rfl) ?_
  intro p e s m args below meth c hX hr _
  unfold F_X12_torqueOf
  refine g_iconst 1 hX 0 dX12_torqueOf_0 rfl kc_i_0 ?_
  refine g_istore_n 2 2 [(2, .int 0), (0, .ref a0), (1, .int x1)] hX dX12_torqueOf_1 rfl rfl (Nat.le_of_ble_eq_true rfl) rfl ?_
  refine g_aload_n 3 1 hX dX12_torqueOf_2 rfl rfl ?_
  refine g_iload_n 4 2 hX dX12_torqueOf_3 rfl rfl ?_
  refine g_iconst 5 hX 0 dX12_torqueOf_4 rfl kc_i_0 ?_
  refine g_callV_ip 8 hX (k_X12_ofBoard l g N M a0 x1 0) lk_X12_ofBoard rfl (ci := 12) rfl (Nat.le_of_ble_eq_true rfl) q_1921 q_66 (by omega) rfl (Nat.le_of_ble_eq_true rfl) (Nat.zero_le _) (Nat.zero_le _) dX12_torqueOf_5 rfl (fun r1 => ?_)
  refine g_ineg 9 hX dX12_torqueOf_8 rfl ?_
  refine g_klI (fun v2 hv2 => ?_)
  refine g_istore_n 10 3 [(3, .int v2), (2, .int 0), (0, .ref a0), (1, .int x1)] hX dX12_torqueOf_9 rfl rfl (Nat.le_of_ble_eq_true rfl) rfl ?_
  refine g_lv [2, 3, 1, 0] rfl ?_
  exact k_X12_torqueOf_10 hX hr N M N a0 x1 0 v2
def F_X12_tiltBy (N : Nat) (M : kMem) (a0 : Nat) (x1 : Int32) (x2 : Int32) : Option (Int32) :=
    kg (kt M a0 12) <| (F_X12_ofBoard N M a0 x1 1).bind fun r1 =>
    kg (!(r1 == 0)) <|
    (F_X12_lesser N M 9 (x2 / r1)).bind fun r2 =>
    (F_X12_greater N M (-9) r2).bind fun r3 =>
    some r3
set_option maxRecDepth 100000 in
set_option maxHeartbeats 4000000 in
theorem k_X12_tiltBy (l : Launch) (g : kG) (N : Nat) (M : kMem) (a0 : Nat) (x1 : Int32) (x2 : Int32) : kMet l g yX12_tiltBy cX12_tiltBy 3 (some .int) 3 0 0 [.ref a0, .int x1, .int x2] M (fun r : Int32 => (some (.int r), M)) (F_X12_tiltBy N M a0 x1 x2) := by
  refine k_of (lv := [(0, .ref a0), (1, .int x1), (2, .int x2)]) RX12 (by decide) rfl rfl (Nat.le_of_ble_eq_true rfl) ?_
  intro p e s m args below meth c hX hr _
  unfold F_X12_tiltBy
  refine g_bipush 2 hX (-9) dX12_tiltBy_0 rfl kc_b_m9 ?_
  refine g_bipush 4 hX 9 dX12_tiltBy_2 rfl kc_b_9 ?_
  refine g_iload_n 5 2 hX dX12_tiltBy_4 rfl rfl ?_
  refine g_aload_n 6 0 hX dX12_tiltBy_5 rfl rfl ?_
  refine g_iload_n 7 1 hX dX12_tiltBy_6 rfl rfl ?_
  refine g_iconst 8 hX 1 dX12_tiltBy_7 rfl kc_i_1 ?_
  refine g_callV_ip 11 hX (k_X12_ofBoard l g N M a0 x1 1) lk_X12_ofBoard rfl (ci := 12) rfl (Nat.le_of_ble_eq_true rfl) q_1921 q_66 (by omega) rfl (Nat.le_of_ble_eq_true rfl) (Nat.zero_le _) (Nat.zero_le _) dX12_tiltBy_8 rfl (fun r1 => ?_)
  refine g_idiv 12 hX dX12_tiltBy_11 rfl ?_
  refine g_callS_ip 15 hX (k_X12_lesser l g N M 9 (x2 / r1)) lk_X12_lesser q_1903 (by omega) rfl (Nat.le_of_ble_eq_true rfl) (Nat.zero_le _) (Nat.zero_le _) dX12_tiltBy_12 rfl (fun r2 => ?_)
  refine g_callS_ip 18 hX (k_X12_greater l g N M (-9) r2) lk_X12_greater q_2023 (by omega) rfl (Nat.le_of_ble_eq_true rfl) (Nat.zero_le _) (Nat.zero_le _) dX12_tiltBy_15 rfl (fun r3 => ?_)
  exact g_iret hX hr rfl (Nat.le_refl 0) (Nat.le_refl 0) dX12_tiltBy_18
def F_X12_height (N : Nat) (M : kMem) (a0 : Nat) (x1 : Int32) (x2 : Int32) : Option (Int32) :=
    kg (kt M a0 12) <| (F_X12_torqueOf N M a0 x1).bind fun r1 =>
    kg (kt M a0 12) <| (F_X12_tiltBy N M a0 x1 r1).bind fun r2 =>
    some ((-x2) * r2)
set_option maxRecDepth 100000 in
set_option maxHeartbeats 4000000 in
theorem k_X12_height (l : Launch) (g : kG) (N : Nat) (M : kMem) (a0 : Nat) (x1 : Int32) (x2 : Int32) : kMet l g yX12_height cX12_height 3 (some .int) 5 0 0 [.ref a0, .int x1, .int x2] M (fun r : Int32 => (some (.int r), M)) (F_X12_height N M a0 x1 x2) := by
  refine k_of (lv := [(0, .ref a0), (1, .int x1), (2, .int x2)]) RX12 (by decide) rfl rfl (Nat.le_of_ble_eq_true rfl) ?_
  intro p e s m args below meth c hX hr _
  unfold F_X12_height
  refine g_iload_n 1 2 hX dX12_height_0 rfl rfl ?_
  refine g_ineg 2 hX dX12_height_1 rfl ?_
  refine g_aload_n 3 0 hX dX12_height_2 rfl rfl ?_
  refine g_iload_n 4 1 hX dX12_height_3 rfl rfl ?_
  refine g_aload_n 5 0 hX dX12_height_4 rfl rfl ?_
  refine g_iload_n 6 1 hX dX12_height_5 rfl rfl ?_
  refine g_callV_ip 9 hX (k_X12_torqueOf l g N M a0 x1) lk_X12_torqueOf rfl (ci := 12) rfl (Nat.le_of_ble_eq_true rfl) q_2015 q_85 (by omega) rfl (Nat.le_of_ble_eq_true rfl) (Nat.zero_le _) (Nat.zero_le _) dX12_height_6 rfl (fun r1 => ?_)
  refine g_callV_ip 12 hX (k_X12_tiltBy l g N M a0 x1 r1) lk_X12_tiltBy rfl (ci := 12) rfl (Nat.le_of_ble_eq_true rfl) q_2019 q_86 (by omega) rfl (Nat.le_of_ble_eq_true rfl) (Nat.zero_le _) (Nat.zero_le _) dX12_height_9 rfl (fun r2 => ?_)
  refine g_imul 13 hX dX12_height_12 rfl ?_
  exact g_iret hX hr rfl (Nat.le_refl 0) (Nat.le_refl 0) dX12_height_13
def F_X12_ownHeight (N : Nat) (M : kMem) (a0 : Nat) (x1 : Int32) : Option (Int32) :=
    kg (kt M a0 12) <| (F_X12_has N M a0 x1 5).bind fun r1 =>
    kg (kt M a0 12) <| (F_X12_has N M a0 x1 6).bind fun r2 =>
    kg (kt M a0 12) <| (F_X12_height N M a0 r1 r2).bind fun r3 =>
    some r3
set_option maxRecDepth 100000 in
set_option maxHeartbeats 4000000 in
theorem k_X12_ownHeight (l : Launch) (g : kG) (N : Nat) (M : kMem) (a0 : Nat) (x1 : Int32) : kMet l g yX12_ownHeight cX12_ownHeight 2 (some .int) 6 0 0 [.ref a0, .int x1] M (fun r : Int32 => (some (.int r), M)) (F_X12_ownHeight N M a0 x1) := by
  refine k_of (lv := [(0, .ref a0), (1, .int x1)]) RX12 (by decide) rfl rfl (Nat.le_of_ble_eq_true rfl) ?_
  intro p e s m args below meth c hX hr _
  unfold F_X12_ownHeight
  refine g_aload_n 1 0 hX dX12_ownHeight_0 rfl rfl ?_
  refine g_aload_n 2 0 hX dX12_ownHeight_1 rfl rfl ?_
  refine g_iload_n 3 1 hX dX12_ownHeight_2 rfl rfl ?_
  refine g_iconst 4 hX 5 dX12_ownHeight_3 rfl kc_i_5 ?_
  refine g_callV_ip 7 hX (k_X12_has l g N M a0 x1 5) lk_X12_has rfl (ci := 12) rfl (Nat.le_of_ble_eq_true rfl) q_1689 q_42 (by omega) rfl (Nat.le_of_ble_eq_true rfl) (Nat.zero_le _) (Nat.zero_le _) dX12_ownHeight_4 rfl (fun r1 => ?_)
  refine g_aload_n 8 0 hX dX12_ownHeight_7 rfl rfl ?_
  refine g_iload_n 9 1 hX dX12_ownHeight_8 rfl rfl ?_
  refine g_bipush 11 hX 6 dX12_ownHeight_9 rfl kc_b_6 ?_
  refine g_callV_ip 14 hX (k_X12_has l g N M a0 x1 6) lk_X12_has rfl (ci := 12) rfl (Nat.le_of_ble_eq_true rfl) q_1689 q_42 (by omega) rfl (Nat.le_of_ble_eq_true rfl) (Nat.zero_le _) (Nat.zero_le _) dX12_ownHeight_11 rfl (fun r2 => ?_)
  refine g_callV_ip 17 hX (k_X12_height l g N M a0 r1 r2) lk_X12_height rfl (ci := 12) rfl (Nat.le_of_ble_eq_true rfl) q_2011 q_84 (by omega) rfl (Nat.le_of_ble_eq_true rfl) (Nat.zero_le _) (Nat.zero_le _) dX12_ownHeight_14 rfl (fun r3 => ?_)
  exact g_iret hX hr rfl (Nat.le_refl 0) (Nat.le_refl 0) dX12_ownHeight_17
def F_X12_price (N : Nat) (M : kMem) (a0 : Nat) (x1 : Int32) (x2 : Int32) : Option (Int32) :=
    kg (kt M a0 12) <|
    kg (kin M (kR M a0 0) 13 1) <|
    (F_X12_bare N M x2).bind fun r1 =>
    kg (kt M a0 12) <| (F_X12_height N M a0 x1 x2).bind fun r2 =>
    (F_X12_greater N M 0 r2).bind fun r3 =>
    some (((kI M (kR M a0 0) (kx 1)) + r1) + r3)
set_option maxRecDepth 100000 in
set_option maxHeartbeats 4000000 in
theorem k_X12_price (l : Launch) (g : kG) (N : Nat) (M : kMem) (a0 : Nat) (x1 : Int32) (x2 : Int32) : kMet l g yX12_price cX12_price 3 (some .int) 6 0 0 [.ref a0, .int x1, .int x2] M (fun r : Int32 => (some (.int r), M)) (F_X12_price N M a0 x1 x2) := by
  refine k_of (lv := [(0, .ref a0), (1, .int x1), (2, .int x2)]) RX12 (by decide) rfl rfl (Nat.le_of_ble_eq_true rfl) ?_
  intro p e s m args below meth c hX hr _
  unfold F_X12_price
  refine g_aload_n 1 0 hX dX12_price_0 rfl rfl ?_
  refine r_X12_7 4 hX dX12_price_1 rfl ?_
  refine g_iconst 5 hX 1 dX12_price_4 rfl kc_i_1 ?_
  refine g_iald 6 hX dX12_price_5 rfl ?_
  refine g_iload_n 7 2 hX dX12_price_6 rfl rfl ?_
  refine g_callS_ip 10 hX (k_X12_bare l g N M x2) lk_X12_bare q_2008 (by omega) rfl (Nat.le_of_ble_eq_true rfl) (Nat.zero_le _) (Nat.zero_le _) dX12_price_7 rfl (fun r1 => ?_)
  refine g_iadd 11 hX dX12_price_10 rfl ?_
  refine g_iconst 12 hX 0 dX12_price_11 rfl kc_i_0 ?_
  refine g_aload_n 13 0 hX dX12_price_12 rfl rfl ?_
  refine g_iload_n 14 1 hX dX12_price_13 rfl rfl ?_
  refine g_iload_n 15 2 hX dX12_price_14 rfl rfl ?_
  refine g_callV_ip 18 hX (k_X12_height l g N M a0 x1 x2) lk_X12_height rfl (ci := 12) rfl (Nat.le_of_ble_eq_true rfl) q_2011 q_84 (by omega) rfl (Nat.le_of_ble_eq_true rfl) (Nat.zero_le _) (Nat.zero_le _) dX12_price_15 rfl (fun r2 => ?_)
  refine g_callS_ip 21 hX (k_X12_greater l g N M 0 r2) lk_X12_greater q_2023 (by omega) rfl (Nat.le_of_ble_eq_true rfl) (Nat.zero_le _) (Nat.zero_le _) dX12_price_18 rfl (fun r3 => ?_)
  refine g_iadd 22 hX dX12_price_21 rfl ?_
  exact g_iret hX hr rfl (Nat.le_refl 0) (Nat.le_refl 0) dX12_price_22
def F_X12_unitPrice (N : Nat) (M : kMem) (a0 : Nat) (x1 : Int32) (x2 : Int32) : Option (Int32) :=
    kg (kt M a0 12) <|
    kg (kin M (kR M a0 0) 13 2) <|
    kg (kt M a0 12) <| (F_X12_ownHeight N M a0 x2).bind fun r1 =>
    kg (kt M a0 12) <| (F_X12_ownHeight N M a0 x1).bind fun r2 =>
    (F_X12_greater N M 1 (((kI M (kR M a0 0) (kx 2)) + r1) - r2)).bind fun r3 =>
    some r3
set_option maxRecDepth 100000 in
set_option maxHeartbeats 4000000 in
theorem k_X12_unitPrice (l : Launch) (g : kG) (N : Nat) (M : kMem) (a0 : Nat) (x1 : Int32) (x2 : Int32) : kMet l g yX12_unitPrice cX12_unitPrice 3 (some .int) 7 0 0 [.ref a0, .int x1, .int x2] M (fun r : Int32 => (some (.int r), M)) (F_X12_unitPrice N M a0 x1 x2) := by
  refine k_of (lv := [(0, .ref a0), (1, .int x1), (2, .int x2)]) RX12 (by decide) rfl rfl (Nat.le_of_ble_eq_true rfl) ?_
  intro p e s m args below meth c hX hr _
  unfold F_X12_unitPrice
  refine g_iconst 1 hX 1 dX12_unitPrice_0 rfl kc_i_1 ?_
  refine g_aload_n 2 0 hX dX12_unitPrice_1 rfl rfl ?_
  refine r_X12_7 5 hX dX12_unitPrice_2 rfl ?_
  refine g_iconst 6 hX 2 dX12_unitPrice_5 rfl kc_i_2 ?_
  refine g_iald 7 hX dX12_unitPrice_6 rfl ?_
  refine g_aload_n 8 0 hX dX12_unitPrice_7 rfl rfl ?_
  refine g_iload_n 9 2 hX dX12_unitPrice_8 rfl rfl ?_
  refine g_callV_ip 12 hX (k_X12_ownHeight l g N M a0 x2) lk_X12_ownHeight rfl (ci := 12) rfl (Nat.le_of_ble_eq_true rfl) q_2070 q_98 (by omega) rfl (Nat.le_of_ble_eq_true rfl) (Nat.zero_le _) (Nat.zero_le _) dX12_unitPrice_9 rfl (fun r1 => ?_)
  refine g_iadd 13 hX dX12_unitPrice_12 rfl ?_
  refine g_aload_n 14 0 hX dX12_unitPrice_13 rfl rfl ?_
  refine g_iload_n 15 1 hX dX12_unitPrice_14 rfl rfl ?_
  refine g_callV_ip 18 hX (k_X12_ownHeight l g N M a0 x1) lk_X12_ownHeight rfl (ci := 12) rfl (Nat.le_of_ble_eq_true rfl) q_2070 q_98 (by omega) rfl (Nat.le_of_ble_eq_true rfl) (Nat.zero_le _) (Nat.zero_le _) dX12_unitPrice_15 rfl (fun r2 => ?_)
  refine g_isub 19 hX dX12_unitPrice_18 rfl ?_
  refine g_callS_ip 22 hX (k_X12_greater l g N M 1 (((kI M (kR M a0 0) (kx 2)) + r1) - r2)) lk_X12_greater q_2023 (by omega) rfl (Nat.le_of_ble_eq_true rfl) (Nat.zero_le _) (Nat.zero_le _) dX12_unitPrice_19 rfl (fun r3 => ?_)
  exact g_iret hX hr rfl (Nat.le_refl 0) (Nat.le_refl 0) dX12_unitPrice_22
def F_X12_isTooMuch (N : Nat) (M : kMem) (a0 : Nat) (x1 : Int32) (x2 : Int32) : Option (Int32) :=
    (F_X12_bare N M x2).bind fun r1 =>
    kg (kt M a0 12) <| (F_X12_ofBoard N M a0 x1 2).bind fun r2 =>
    if r2 < r1 then (
      some 1) else
    some 0
set_option maxRecDepth 100000 in
set_option maxHeartbeats 4000000 in
theorem k_X12_isTooMuch (l : Launch) (g : kG) (N : Nat) (M : kMem) (a0 : Nat) (x1 : Int32) (x2 : Int32) : kMet l g yX12_isTooMuch cX12_isTooMuch 3 (some .boolean) 3 0 0 [.ref a0, .int x1, .int x2] M (fun r : Int32 => (some (.int r), M)) (F_X12_isTooMuch N M a0 x1 x2) := by
  refine k_of (lv := [(0, .ref a0), (1, .int x1), (2, .int x2)]) RX12 (by decide) rfl rfl (Nat.le_of_ble_eq_true rfl) ?_
  intro p e s m args below meth c hX hr _
  unfold F_X12_isTooMuch
  refine g_iload_n 1 2 hX dX12_isTooMuch_0 rfl rfl ?_
  refine g_callS_ip 4 hX (k_X12_bare l g N M x2) lk_X12_bare q_2008 (by omega) rfl (Nat.le_of_ble_eq_true rfl) (Nat.zero_le _) (Nat.zero_le _) dX12_isTooMuch_1 rfl (fun r1 => ?_)
  refine g_aload_n 5 0 hX dX12_isTooMuch_4 rfl rfl ?_
  refine g_iload_n 6 1 hX dX12_isTooMuch_5 rfl rfl ?_
  refine g_iconst 7 hX 2 dX12_isTooMuch_6 rfl kc_i_2 ?_
  refine g_callV_ip 10 hX (k_X12_ofBoard l g N M a0 x1 2) lk_X12_ofBoard rfl (ci := 12) rfl (Nat.le_of_ble_eq_true rfl) q_1921 q_66 (by omega) rfl (Nat.le_of_ble_eq_true rfl) (Nat.zero_le _) (Nat.zero_le _) dX12_isTooMuch_7 rfl (fun r2 => ?_)
  refine g_icmp_le 17 13 hX dX12_isTooMuch_10 (by decide) rfl (fun _ => ?_) (fun _ => ?_)
  · refine g_iconst 18 hX 0 dX12_isTooMuch_17 rfl kc_i_0 ?_
    exact g_zretL hX hr rfl rfl (Nat.le_refl 0) (Nat.le_refl 0) dX12_isTooMuch_18
  · refine g_iconst 14 hX 1 dX12_isTooMuch_13 rfl kc_i_1 ?_
    refine g_goto 18 hX dX12_isTooMuch_14 (by decide) ?_
    exact g_zretL hX hr rfl rfl (Nat.le_refl 0) (Nat.le_refl 0) dX12_isTooMuch_18
def F_X12_torqueWith (N : Nat) (M : kMem) (a0 : Nat) (x1 : Int32) (x2 : Int32) (x3 : Int32) : Option (Int32) :=
    kg (kt M a0 12) <| (F_X12_torqueOf N M a0 x2).bind fun r1 =>
    kg (kt M a0 12) <| (F_X12_has N M a0 x1 1).bind fun r2 =>
    kl (r1 + (x3 * r2)) fun v3 =>
    kg (kt M a0 12) <| (F_X12_has N M a0 x1 5).bind fun r4 =>
    if r4 = x2 then (
      kg (kt M a0 12) <| (F_X12_has N M a0 x1 6).bind fun r5 =>
      kg (kt M a0 12) <| (F_X12_has N M a0 x1 1).bind fun r6 =>
      some (v3 - (r5 * r6))) else
    some v3
set_option maxRecDepth 100000 in
set_option maxHeartbeats 4000000 in
theorem k_X12_torqueWith (l : Launch) (g : kG) (N : Nat) (M : kMem) (a0 : Nat) (x1 : Int32) (x2 : Int32) (x3 : Int32) : kMet l g yX12_torqueWith cX12_torqueWith 5 (some .int) 5 0 0 [.ref a0, .int x1, .int x2, .int x3] M (fun r : Int32 => (some (.int r), M)) (F_X12_torqueWith N M a0 x1 x2 x3) := by
  refine k_of (lv := [(0, .ref a0), (1, .int x1), (2, .int x2), (3, .int x3)]) RX12 (by decide) rfl rfl (Nat.le_of_ble_eq_true rfl) ?_
  intro p e s m args below meth c hX hr _
  unfold F_X12_torqueWith
  refine g_aload_n 1 0 hX dX12_torqueWith_0 rfl rfl ?_
  refine g_iload_n 2 2 hX dX12_torqueWith_1 rfl rfl ?_
  refine g_callV_ip 5 hX (k_X12_torqueOf l g N M a0 x2) lk_X12_torqueOf rfl (ci := 12) rfl (Nat.le_of_ble_eq_true rfl) q_2015 q_85 (by omega) rfl (Nat.le_of_ble_eq_true rfl) (Nat.zero_le _) (Nat.zero_le _) dX12_torqueWith_2 rfl (fun r1 => ?_)
  refine g_iload_n 6 3 hX dX12_torqueWith_5 rfl rfl ?_
  refine g_aload_n 7 0 hX dX12_torqueWith_6 rfl rfl ?_
  refine g_iload_n 8 1 hX dX12_torqueWith_7 rfl rfl ?_
  refine g_iconst 9 hX 1 dX12_torqueWith_8 rfl kc_i_1 ?_
  refine g_callV_ip 12 hX (k_X12_has l g N M a0 x1 1) lk_X12_has rfl (ci := 12) rfl (Nat.le_of_ble_eq_true rfl) q_1689 q_42 (by omega) rfl (Nat.le_of_ble_eq_true rfl) (Nat.zero_le _) (Nat.zero_le _) dX12_torqueWith_9 rfl (fun r2 => ?_)
  refine g_imul 13 hX dX12_torqueWith_12 rfl ?_
  refine g_iadd 14 hX dX12_torqueWith_13 rfl ?_
  refine g_klI (fun v3 hv3 => ?_)
  refine g_istore 16 4 [(4, .int v3), (0, .ref a0), (1, .int x1), (2, .int x2), (3, .int x3)] hX dX12_torqueWith_14 rfl (Nat.le_of_ble_eq_true rfl) rfl ?_
  refine g_aload_n 17 1 hX dX12_torqueWith_16 rfl rfl ?_
  refine g_iload_n 18 2 hX dX12_torqueWith_17 rfl rfl ?_
  refine g_iconst 19 hX 5 dX12_torqueWith_18 rfl kc_i_5 ?_
  refine g_callV_ip 22 hX (k_X12_has l g N M a0 x1 5) lk_X12_has rfl (ci := 12) rfl (Nat.le_of_ble_eq_true rfl) q_1689 q_42 (by omega) rfl (Nat.le_of_ble_eq_true rfl) (Nat.zero_le _) (Nat.zero_le _) dX12_torqueWith_19 rfl (fun r4 => ?_)
  refine g_iload_n 23 3 hX dX12_torqueWith_22 rfl rfl ?_
  refine g_icmp_ne 46 26 hX dX12_torqueWith_23 (by decide) rfl (fun _ => ?_) (fun _ => ?_)
  · refine g_iload 48 0 hX dX12_torqueWith_46 rfl rfl ?_
    exact g_iret hX hr rfl (Nat.le_refl 0) (Nat.le_refl 0) dX12_torqueWith_48
  · refine g_iload 28 0 hX dX12_torqueWith_26 rfl rfl ?_
    refine g_aload_n 29 1 hX dX12_torqueWith_28 rfl rfl ?_
    refine g_iload_n 30 2 hX dX12_torqueWith_29 rfl rfl ?_
    refine g_bipush 32 hX 6 dX12_torqueWith_30 rfl kc_b_6 ?_
    refine g_callV_ip 35 hX (k_X12_has l g N M a0 x1 6) lk_X12_has rfl (ci := 12) rfl (Nat.le_of_ble_eq_true rfl) q_1689 q_42 (by omega) rfl (Nat.le_of_ble_eq_true rfl) (Nat.zero_le _) (Nat.zero_le _) dX12_torqueWith_32 rfl (fun r5 => ?_)
    refine g_aload_n 36 1 hX dX12_torqueWith_35 rfl rfl ?_
    refine g_iload_n 37 2 hX dX12_torqueWith_36 rfl rfl ?_
    refine g_iconst 38 hX 1 dX12_torqueWith_37 rfl kc_i_1 ?_
    refine g_callV_ip 41 hX (k_X12_has l g N M a0 x1 1) lk_X12_has rfl (ci := 12) rfl (Nat.le_of_ble_eq_true rfl) q_1689 q_42 (by omega) rfl (Nat.le_of_ble_eq_true rfl) (Nat.zero_le _) (Nat.zero_le _) dX12_torqueWith_38 rfl (fun r6 => ?_)
    refine g_imul 42 hX dX12_torqueWith_41 rfl ?_
    refine g_isub 43 hX dX12_torqueWith_42 rfl ?_
    refine g_goto 48 hX dX12_torqueWith_43 (by decide) ?_
    exact g_iret hX hr rfl (Nat.le_refl 0) (Nat.le_refl 0) dX12_torqueWith_48
def F_X12_moves (N : Nat) (M : kMem) (a0 : Nat) (x1 : Int32) (x2 : Int32) (x3 : Int32) : Option (kMem) :=
    kg (kt M a0 12) <|
    kg (kin M (kR M a0 0) 13 x1) <|
    (F_X12_lesser N M x3 (kI M (kR M a0 0) (kx x1))).bind fun r1 =>
    kg (kt M a0 12) <|
    kg (kin M (kR M a0 0) 13 x1) <|
    kg (kin M (kR M a0 0) 13 x1) <| kl (ksI M (kR M a0 0) (kx x1) ((kI M (kR M a0 0) (kx x1)) - r1)) fun M2 =>
    kg (kt M2 a0 12) <|
    kg (kin M2 (kR M2 a0 0) 13 x2) <|
    kg (kin M2 (kR M2 a0 0) 13 x2) <| kl (ksI M2 (kR M2 a0 0) (kx x2) ((kI M2 (kR M2 a0 0) (kx x2)) + r1)) fun M3 =>
    some M3
set_option maxRecDepth 100000 in
set_option maxHeartbeats 4000000 in
theorem k_X12_moves (l : Launch) (g : kG) (N : Nat) (M : kMem) (a0 : Nat) (x1 : Int32) (x2 : Int32) (x3 : Int32) : kMet l g yX12_moves cX12_moves 5 none 2 0 0 [.ref a0, .int x1, .int x2, .int x3] M (fun r : kMem => (none, r)) (F_X12_moves N M a0 x1 x2 x3) := by
  refine k_of (lv := [(0, .ref a0), (1, .int x1), (2, .int x2), (3, .int x3)]) RX12 (by decide) rfl rfl (Nat.le_of_ble_eq_true rfl) ?_
  intro p e s m args below meth c hX hr _
  unfold F_X12_moves
  refine g_iload_n 1 3 hX dX12_moves_0 rfl rfl ?_
  refine g_aload_n 2 0 hX dX12_moves_1 rfl rfl ?_
  refine r_X12_7 5 hX dX12_moves_2 rfl ?_
  refine g_iload_n 6 1 hX dX12_moves_5 rfl rfl ?_
  refine g_iald 7 hX dX12_moves_6 rfl ?_
  refine g_callS_ip 10 hX (k_X12_lesser l g N M x3 (kI M (kR M a0 0) (kx x1))) lk_X12_lesser q_1903 (by omega) rfl (Nat.le_of_ble_eq_true rfl) (Nat.zero_le _) (Nat.zero_le _) dX12_moves_7 rfl (fun r1 => ?_)
  refine g_istore 12 4 [(4, .int r1), (0, .ref a0), (1, .int x1), (2, .int x2), (3, .int x3)] hX dX12_moves_10 rfl (Nat.le_of_ble_eq_true rfl) rfl ?_
  refine g_aload_n 13 1 hX dX12_moves_12 rfl rfl ?_
  refine r_X12_7 16 hX dX12_moves_13 rfl ?_
  refine g_iload_n 17 2 hX dX12_moves_16 rfl rfl ?_
  refine g_dup2 18 hX dX12_moves_17 rfl rfl rfl ?_
  refine g_iald 19 hX dX12_moves_18 rfl ?_
  refine g_iload 21 0 hX dX12_moves_19 rfl rfl ?_
  refine g_isub 22 hX dX12_moves_21 rfl ?_
  refine g_iast 23 hX dX12_moves_22 rfl ?_
  refine g_klM (fun M2 hM2 => ?_)
  refine g_aload_n 24 1 hX dX12_moves_23 rfl rfl ?_
  refine r_X12_7 27 hX dX12_moves_24 rfl ?_
  refine g_iload_n 28 3 hX dX12_moves_27 rfl rfl ?_
  refine g_dup2 29 hX dX12_moves_28 rfl rfl rfl ?_
  refine g_iald 30 hX dX12_moves_29 rfl ?_
  refine g_iload 32 0 hX dX12_moves_30 rfl rfl ?_
  refine g_iadd 33 hX dX12_moves_32 rfl ?_
  refine g_iast 34 hX dX12_moves_33 rfl ?_
  refine g_klM (fun M3 hM3 => ?_)
  exact g_vret hX hr rfl (Nat.le_refl 0) (Nat.le_refl 0) dX12_moves_34
def F_X12_earns_2 (N : Nat) : Nat → kMem → Nat → Int32 → Option (kMem)
  | 0, _, _, _ => none
  | n + 1, M, a0, x1 =>
    kg (kt M a0 12) <|
    kg (kin M (kR M a0 0) 13 8) <|
    if x1 < (kI M (kR M a0 0) (kx 8)) then (
      kg (kt M a0 12) <| (F_X12_isSeated N M a0 x1).bind fun r1 =>
      if r1 = 0 then (
        kl (x1 + 1) fun v10 =>
        F_X12_earns_2 N n M a0 v10) else
      kg (kt M a0 12) <|
      kg (kin M (kR M a0 0) 13 0) <|
      kg (kt M a0 12) <| (F_X12_ownHeight N M a0 x1).bind fun r2 =>
      kl ((kI M (kR M a0 0) (kx 0)) + r2) fun v3 =>
      if (0 : Int32) < v3 then (
        (F_X12_atTrader N M x1 2).bind fun r7 =>
        kg (kt M a0 12) <| (F_X12_moves N M a0 5 r7 v3).bind fun M8 =>
        kl (x1 + 1) fun v9 =>
        F_X12_earns_2 N n M8 a0 v9) else
      (F_X12_atTrader N M x1 2).bind fun r4 =>
      kg (kt M a0 12) <| (F_X12_moves N M a0 r4 5 (-v3)).bind fun M5 =>
      kl (x1 + 1) fun v6 =>
      F_X12_earns_2 N n M5 a0 v6) else
    some M
def F_X12_earns (N : Nat) (M : kMem) (a0 : Nat) : Option (kMem) :=
    F_X12_earns_2 N N M a0 0
set_option maxRecDepth 100000 in
set_option maxHeartbeats 4000000 in
theorem k_X12_earns_2 {p : Program} {l : Launch} {e : Env} {s : State} {m : MethodId} {args : Array Value} {below : List Frame} {meth : Method} {c : Code} {g : kG} (hX : Cok (p, l, e, { frames := 2 * 7, cells := 0, slots := 0, locals := 60 * 7 }, s, m, args, below, meth, c, cX12_earns, 3, RX12, g, 7)) (hr : meth.sig.returnType = none) (N : Nat) : ∀ (n : Nat) (M : kMem) (a0 : Nat) (x1 : Int32), GG (p, l, e, { frames := 2 * 7, cells := 0, slots := 0, locals := 60 * 7 }, s, m, args, below, meth, c, cX12_earns, 3, RX12, g, 7) (fun b => MQ below (kQ g ((fun r : kMem => (none, r)) b)) args s 0 0 (kZ g.2.2.1)) 0 0 (F_X12_earns_2 N n M a0 x1) 2 [(0, .ref a0), (1, .int x1)] [] M := by
  intro n
  induction n with
  | zero => intro _ _ _; exact g_none
  | succ n ih =>
    intro M a0 x1
    unfold F_X12_earns_2
    refine g_iload_n 3 1 hX dX12_earns_2 rfl rfl ?_
    refine g_aload_n 4 0 hX dX12_earns_3 rfl rfl ?_
    refine r_X12_7 7 hX dX12_earns_4 rfl ?_
    refine g_bipush 9 hX 8 dX12_earns_7 rfl kc_b_8 ?_
    refine g_iald 10 hX dX12_earns_9 rfl ?_
    refine g_icmp_ge 73 13 hX dX12_earns_10 (by decide) rfl (fun _ => ?_) (fun _ => ?_)
    · exact g_vret hX hr rfl (Nat.le_refl 0) (Nat.le_refl 0) dX12_earns_73
    · refine g_aload_n 14 0 hX dX12_earns_13 rfl rfl ?_
      refine g_iload_n 15 1 hX dX12_earns_14 rfl rfl ?_
      refine g_callV_ip 18 hX (k_X12_isSeated l g N M a0 x1) lk_X12_isSeated rfl (ci := 12) rfl (Nat.le_of_ble_eq_true rfl) q_1911 q_64 (by omega) rfl (Nat.le_of_ble_eq_true rfl) (Nat.zero_le _) (Nat.zero_le _) dX12_earns_15 rfl (fun r1 => ?_)
      refine g_if_ne 24 21 hX dX12_earns_18 (by decide) rfl (fun _ => ?_) (fun _ => ?_)
      · refine g_aload_n 25 0 hX dX12_earns_24 rfl rfl ?_
        refine r_X12_7 28 hX dX12_earns_25 rfl ?_
        refine g_iconst 29 hX 0 dX12_earns_28 rfl kc_i_0 ?_
        refine g_iald 30 hX dX12_earns_29 rfl ?_
        refine g_aload_n 31 0 hX dX12_earns_30 rfl rfl ?_
        refine g_iload_n 32 1 hX dX12_earns_31 rfl rfl ?_
        refine g_callV_ip 35 hX (k_X12_ownHeight l g N M a0 x1) lk_X12_ownHeight rfl (ci := 12) rfl (Nat.le_of_ble_eq_true rfl) q_2070 q_98 (by omega) rfl (Nat.le_of_ble_eq_true rfl) (Nat.zero_le _) (Nat.zero_le _) dX12_earns_32 rfl (fun r2 => ?_)
        refine g_iadd 36 hX dX12_earns_35 rfl ?_
        refine g_klI (fun v3 hv3 => ?_)
        refine g_istore_n 37 2 [(2, .int v3), (0, .ref a0), (1, .int x1)] hX dX12_earns_36 rfl rfl (Nat.le_of_ble_eq_true rfl) rfl ?_
        refine g_iload_n 38 0 hX dX12_earns_37 rfl rfl ?_
        refine g_if_le 55 41 hX dX12_earns_38 (by decide) rfl (fun _ => ?_) (fun _ => ?_)
        · refine g_aload_n 56 1 hX dX12_earns_55 rfl rfl ?_
          refine g_iload_n 57 2 hX dX12_earns_56 rfl rfl ?_
          refine g_iconst 58 hX 2 dX12_earns_57 rfl kc_i_2 ?_
          refine g_callS_ip 61 hX (k_X12_atTrader l g N M x1 2) lk_X12_atTrader q_1675 (by omega) rfl (Nat.le_of_ble_eq_true rfl) (Nat.zero_le _) (Nat.zero_le _) dX12_earns_58 rfl (fun r4 => ?_)
          refine g_iconst 62 hX 5 dX12_earns_61 rfl kc_i_5 ?_
          refine g_iload_n 63 0 hX dX12_earns_62 rfl rfl ?_
          refine g_ineg 64 hX dX12_earns_63 rfl ?_
          refine g_callV_v 67 hX (k_X12_moves l g N M a0 r4 5 (-v3)) lk_X12_moves rfl (ci := 12) rfl (Nat.le_of_ble_eq_true rfl) q_2038 q_90 (by omega) rfl (Nat.le_of_ble_eq_true rfl) (Nat.zero_le _) (Nat.zero_le _) dX12_earns_64 rfl (fun M5 => ?_)
          refine g_kl (fun v6 hv6 => ?_)
          refine g_iinc 70 1 2 v6 [(1, .int v6), (2, .int v3), (0, .ref a0)] hX dX12_earns_67 rfl rfl (by rw [hv6, kc_i_1]) (Nat.le_of_ble_eq_true rfl) rfl ?_
          refine g_goto 2 hX dX12_earns_70 (by decide) ?_
          refine g_lv [2, 0] rfl ?_
          exact ih M5 a0 v6
        · refine g_aload_n 42 1 hX dX12_earns_41 rfl rfl ?_
          refine g_iconst 43 hX 5 dX12_earns_42 rfl kc_i_5 ?_
          refine g_iload_n 44 2 hX dX12_earns_43 rfl rfl ?_
          refine g_iconst 45 hX 2 dX12_earns_44 rfl kc_i_2 ?_
          refine g_callS_ip 48 hX (k_X12_atTrader l g N M x1 2) lk_X12_atTrader q_1675 (by omega) rfl (Nat.le_of_ble_eq_true rfl) (Nat.zero_le _) (Nat.zero_le _) dX12_earns_45 rfl (fun r7 => ?_)
          refine g_iload_n 49 0 hX dX12_earns_48 rfl rfl ?_
          refine g_callV_v 52 hX (k_X12_moves l g N M a0 5 r7 v3) lk_X12_moves rfl (ci := 12) rfl (Nat.le_of_ble_eq_true rfl) q_2038 q_90 (by omega) rfl (Nat.le_of_ble_eq_true rfl) (Nat.zero_le _) (Nat.zero_le _) dX12_earns_49 rfl (fun M8 => ?_)
          refine g_goto 67 hX dX12_earns_52 (by decide) ?_
          refine g_kl (fun v9 hv9 => ?_)
          refine g_iinc 70 1 2 v9 [(1, .int v9), (2, .int v3), (0, .ref a0)] hX dX12_earns_67 rfl rfl (by rw [hv9, kc_i_1]) (Nat.le_of_ble_eq_true rfl) rfl ?_
          refine g_goto 2 hX dX12_earns_70 (by decide) ?_
          refine g_lv [2, 0] rfl ?_
          exact ih M8 a0 v9
      · refine g_goto 67 hX dX12_earns_21 (by decide) ?_
        refine g_kl (fun v10 hv10 => ?_)
        refine g_iinc 70 1 1 v10 [(1, .int v10), (0, .ref a0)] hX dX12_earns_67 rfl rfl (by rw [hv10, kc_i_1]) (Nat.le_of_ble_eq_true rfl) rfl ?_
        refine g_goto 2 hX dX12_earns_70 (by decide) ?_
        refine g_lv [1, 0] rfl ?_
        exact ih M a0 v10
set_option maxRecDepth 100000 in
set_option maxHeartbeats 4000000 in
theorem k_X12_earns (l : Launch) (g : kG) (N : Nat) (M : kMem) (a0 : Nat) : kMet l g yX12_earns cX12_earns 3 none 7 0 0 [.ref a0] M (fun r : kMem => (none, r)) (F_X12_earns N M a0) := by
  refine k_of (lv := [(0, .ref a0)]) RX12 (by decide) rfl rfl (Nat.le_of_ble_eq_true rfl) ?_
  intro p e s m args below meth c hX hr _
  unfold F_X12_earns
  refine g_iconst 1 hX 0 dX12_earns_0 rfl kc_i_0 ?_
  refine g_istore_n 2 1 [(1, .int 0), (0, .ref a0)] hX dX12_earns_1 rfl rfl (Nat.le_of_ble_eq_true rfl) rfl ?_
  refine g_lv [1, 0] rfl ?_
  exact k_X12_earns_2 hX hr N N M a0 0
def F_X12_records_3 (N : Nat) : Nat → kMem → Nat → Int32 → Int32 → Int32 → Option (kMem)
  | 0, _, _, _, _, _ => none
  | n + 1, M, a0, x1, x2, x3 =>
    if x3 < 0 then (
      kg (kt M a0 12) <|
      kg (kin M (kR M a0 0) 13 257) <| kl (ksI M (kR M a0 0) (kx 257) x1) fun M1 =>
      kg (kt M1 a0 12) <|
      kg (kin M1 (kR M1 a0 0) 13 258) <| kl (ksI M1 (kR M1 a0 0) (kx 258) x2) fun M2 =>
      kg (kt M2 a0 12) <|
      kg (kt M2 a0 12) <|
      kg (kin M2 (kR M2 a0 0) 13 6) <|
      kg (kin M2 (kR M2 a0 0) 13 259) <| kl (ksI M2 (kR M2 a0 0) (kx 259) (kI M2 (kR M2 a0 0) (kx 6))) fun M3 =>
      kg (kt M3 a0 12) <|
      kg (kt M3 a0 12) <|
      kg (kin M3 (kR M3 a0 0) 13 13) <|
      (F_X12_lesser N M3 12 ((kI M3 (kR M3 a0 0) (kx 13)) + 1)).bind fun r4 =>
      kg (kin M3 (kR M3 a0 0) 13 13) <| kl (ksI M3 (kR M3 a0 0) (kx 13) r4) fun M5 =>
      some M5) else
    kg (kt M a0 12) <|
    kg (kt M a0 12) <|
    kg (kin M (kR M a0 0) 13 (257 + x3)) <|
    kg (kin M (kR M a0 0) 13 ((257 + x3) + 3)) <| kl (ksI M (kR M a0 0) (kx ((257 + x3) + 3)) (kI M (kR M a0 0) (kx (257 + x3)))) fun M6 =>
    kl (x3 + (-1)) fun v7 =>
    F_X12_records_3 N n M6 a0 x1 x2 v7
def F_X12_records (N : Nat) (M : kMem) (a0 : Nat) (x1 : Int32) (x2 : Int32) : Option (kMem) :=
    F_X12_records_3 N N M a0 x1 x2 32
set_option maxRecDepth 100000 in
set_option maxHeartbeats 4000000 in
theorem k_X12_records_3 {p : Program} {l : Launch} {e : Env} {s : State} {m : MethodId} {args : Array Value} {below : List Frame} {meth : Method} {c : Code} {g : kG} (hX : Cok (p, l, e, { frames := 2 * 2, cells := 0, slots := 0, locals := 60 * 2 }, s, m, args, below, meth, c, cX12_records, 4, RX12, g, 2)) (hr : meth.sig.returnType = none) (N : Nat) : ∀ (n : Nat) (M : kMem) (a0 : Nat) (x1 : Int32) (x2 : Int32) (x3 : Int32), GG (p, l, e, { frames := 2 * 2, cells := 0, slots := 0, locals := 60 * 2 }, s, m, args, below, meth, c, cX12_records, 4, RX12, g, 2) (fun b => MQ below (kQ g ((fun r : kMem => (none, r)) b)) args s 0 0 (kZ g.2.2.1)) 0 0 (F_X12_records_3 N n M a0 x1 x2 x3) 3 [(0, .ref a0), (1, .int x1), (2, .int x2), (3, .int x3)] [] M := by
  intro n
  induction n with
  | zero => intro _ _ _ _ _; exact g_none
  | succ n ih =>
    intro M a0 x1 x2 x3
    unfold F_X12_records_3
    refine g_iload_n 4 3 hX dX12_records_3 rfl rfl ?_
    refine g_if_lt 35 7 hX dX12_records_4 (by decide) rfl (fun _ => ?_) (fun _ => ?_)
    · refine g_aload_n 36 0 hX dX12_records_35 rfl rfl ?_
      refine r_X12_7 39 hX dX12_records_36 rfl ?_
      refine g_sipush 42 hX 257 dX12_records_39 rfl kc_s_257 ?_
      refine g_iload_n 43 1 hX dX12_records_42 rfl rfl ?_
      refine g_iast 44 hX dX12_records_43 rfl ?_
      refine g_klM (fun M1 hM1 => ?_)
      refine g_aload_n 45 0 hX dX12_records_44 rfl rfl ?_
      refine r_X12_7 48 hX dX12_records_45 rfl ?_
      refine g_sipush 51 hX 258 dX12_records_48 rfl kc_s_258 ?_
      refine g_iload_n 52 2 hX dX12_records_51 rfl rfl ?_
      refine g_iast 53 hX dX12_records_52 rfl ?_
      refine g_klM (fun M2 hM2 => ?_)
      refine g_aload_n 54 0 hX dX12_records_53 rfl rfl ?_
      refine r_X12_7 57 hX dX12_records_54 rfl ?_
      refine g_sipush 60 hX 259 dX12_records_57 rfl kc_s_259 ?_
      refine g_aload_n 61 0 hX dX12_records_60 rfl rfl ?_
      refine r_X12_7 64 hX dX12_records_61 rfl ?_
      refine g_bipush 66 hX 6 dX12_records_64 rfl kc_b_6 ?_
      refine g_iald 67 hX dX12_records_66 rfl ?_
      refine g_iast 68 hX dX12_records_67 rfl ?_
      refine g_klM (fun M3 hM3 => ?_)
      refine g_aload_n 69 0 hX dX12_records_68 rfl rfl ?_
      refine r_X12_7 72 hX dX12_records_69 rfl ?_
      refine g_bipush 74 hX 13 dX12_records_72 rfl kc_b_13 ?_
      refine g_bipush 76 hX 12 dX12_records_74 rfl kc_b_12 ?_
      refine g_aload_n 77 0 hX dX12_records_76 rfl rfl ?_
      refine r_X12_7 80 hX dX12_records_77 rfl ?_
      refine g_bipush 82 hX 13 dX12_records_80 rfl kc_b_13 ?_
      refine g_iald 83 hX dX12_records_82 rfl ?_
      refine g_iconst 84 hX 1 dX12_records_83 rfl kc_i_1 ?_
      refine g_iadd 85 hX dX12_records_84 rfl ?_
      refine g_callS_ip 88 hX (k_X12_lesser l g N M3 12 ((kI M3 (kR M3 a0 0) (kx 13)) + 1)) lk_X12_lesser q_1903 (by omega) rfl (Nat.le_of_ble_eq_true rfl) (Nat.zero_le _) (Nat.zero_le _) dX12_records_85 rfl (fun r4 => ?_)
      refine g_iast 89 hX dX12_records_88 rfl ?_
      refine g_klM (fun M5 hM5 => ?_)
      exact g_vret hX hr rfl (Nat.le_refl 0) (Nat.le_refl 0) dX12_records_89
    · refine g_aload_n 8 0 hX dX12_records_7 rfl rfl ?_
      refine r_X12_7 11 hX dX12_records_8 rfl ?_
      refine g_sipush 14 hX 257 dX12_records_11 rfl kc_s_257 ?_
      refine g_iload_n 15 3 hX dX12_records_14 rfl rfl ?_
      refine g_iadd 16 hX dX12_records_15 rfl ?_
      refine g_iconst 17 hX 3 dX12_records_16 rfl kc_i_3 ?_
      refine g_iadd 18 hX dX12_records_17 rfl ?_
      refine g_aload_n 19 0 hX dX12_records_18 rfl rfl ?_
      refine r_X12_7 22 hX dX12_records_19 rfl ?_
      refine g_sipush 25 hX 257 dX12_records_22 rfl kc_s_257 ?_
      refine g_iload_n 26 3 hX dX12_records_25 rfl rfl ?_
      refine g_iadd 27 hX dX12_records_26 rfl ?_
      refine g_iald 28 hX dX12_records_27 rfl ?_
      refine g_iast 29 hX dX12_records_28 rfl ?_
      refine g_klM (fun M6 hM6 => ?_)
      refine g_kl (fun v7 hv7 => ?_)
      refine g_iinc 32 3 3 v7 [(3, .int v7), (0, .ref a0), (1, .int x1), (2, .int x2)] hX dX12_records_29 rfl rfl (by rw [hv7, kc_i_m1]) (Nat.le_of_ble_eq_true rfl) rfl ?_
      refine g_goto 3 hX dX12_records_32 (by decide) ?_
      refine g_lv [1, 2, 3, 0] rfl ?_
      exact ih M6 a0 x1 x2 v7
set_option maxRecDepth 100000 in
set_option maxHeartbeats 4000000 in
theorem k_X12_records (l : Launch) (g : kG) (N : Nat) (M : kMem) (a0 : Nat) (x1 : Int32) (x2 : Int32) : kMet l g yX12_records cX12_records 4 none 2 0 0 [.ref a0, .int x1, .int x2] M (fun r : kMem => (none, r)) (F_X12_records N M a0 x1 x2) := by
  refine k_of (lv := [(0, .ref a0), (1, .int x1), (2, .int x2)]) RX12 (by decide) rfl rfl (Nat.le_of_ble_eq_true rfl) ?_
  intro p e s m args below meth c hX hr _
  unfold F_X12_records
  refine g_bipush 2 hX 32 dX12_records_0 rfl kc_b_32 ?_
  refine g_istore_n 3 3 [(3, .int 32), (0, .ref a0), (1, .int x1), (2, .int x2)] hX dX12_records_2 rfl rfl (Nat.le_of_ble_eq_true rfl) rfl ?_
  refine g_lv [1, 2, 3, 0] rfl ?_
  exact k_X12_records_3 hX hr N N M a0 x1 x2 32
def F_X12_ages_2 (N : Nat) : Nat → kMem → Nat → Int32 → Option (kMem)
  | 0, _, _, _ => none
  | n + 1, M, a0, x1 =>
    kg (kt M a0 12) <|
    kg (kin M (kR M a0 0) 13 8) <|
    if x1 < (kI M (kR M a0 0) (kx 8)) then (
      kg (kt M a0 12) <| (F_X12_has N M a0 x1 4).bind fun r1 =>
      if r1 = 0 then (
        kl (x1 + 1) fun v14 =>
        F_X12_ages_2 N n M a0 v14) else
      kg (kt M a0 12) <|
      (F_X12_atTrader N M x1 3).bind fun r2 =>
      kg (kin M (kR M a0 0) 13 r2) <|
      kg (kin M (kR M a0 0) 13 r2) <| kl (ksI M (kR M a0 0) (kx r2) ((kI M (kR M a0 0) (kx r2)) + 1)) fun M3 =>
      kg (kt M3 a0 12) <| (F_X12_has N M3 a0 x1 3).bind fun r4 =>
      kg (kt M3 a0 12) <|
      kg (kin M3 (kR M3 a0 0) 13 3) <|
      if (kI M3 (kR M3 a0 0) (kx 3)) < r4 then (
        kg (kt M3 a0 12) <| (F_X12_rises N M3 a0 x1).bind fun M6 =>
        (F_X12_atTrader N M6 x1 2).bind fun r7 =>
        kg (kt M6 a0 12) <| (F_X12_has N M6 a0 x1 2).bind fun r8 =>
        kg (kt M6 a0 12) <| (F_X12_moves N M6 a0 r7 5 r8).bind fun M9 =>
        kg (kt M9 a0 12) <|
        (F_X12_atTrader N M9 x1 4).bind fun r10 =>
        kg (kin M9 (kR M9 a0 0) 13 r10) <| kl (ksI M9 (kR M9 a0 0) (kx r10) 0) fun M11 =>
        kg (kt M11 a0 12) <| (F_X12_records N M11 a0 2 x1).bind fun M12 =>
        kl (x1 + 1) fun v13 =>
        F_X12_ages_2 N n M12 a0 v13) else
      kl (x1 + 1) fun v5 =>
      F_X12_ages_2 N n M3 a0 v5) else
    some M
def F_X12_ages (N : Nat) (M : kMem) (a0 : Nat) : Option (kMem) :=
    F_X12_ages_2 N N M a0 0
set_option maxRecDepth 100000 in
set_option maxHeartbeats 4000000 in
theorem k_X12_ages_2 {p : Program} {l : Launch} {e : Env} {s : State} {m : MethodId} {args : Array Value} {below : List Frame} {meth : Method} {c : Code} {g : kG} (hX : Cok (p, l, e, { frames := 2 * 5, cells := 0, slots := 0, locals := 60 * 5 }, s, m, args, below, meth, c, cX12_ages, 2, RX12, g, 5)) (hr : meth.sig.returnType = none) (N : Nat) : ∀ (n : Nat) (M : kMem) (a0 : Nat) (x1 : Int32), GG (p, l, e, { frames := 2 * 5, cells := 0, slots := 0, locals := 60 * 5 }, s, m, args, below, meth, c, cX12_ages, 2, RX12, g, 5) (fun b => MQ below (kQ g ((fun r : kMem => (none, r)) b)) args s 0 0 (kZ g.2.2.1)) 0 0 (F_X12_ages_2 N n M a0 x1) 2 [(0, .ref a0), (1, .int x1)] [] M := by
  intro n
  induction n with
  | zero => intro _ _ _; exact g_none
  | succ n ih =>
    intro M a0 x1
    unfold F_X12_ages_2
    refine g_iload_n 3 1 hX dX12_ages_2 rfl rfl ?_
    refine g_aload_n 4 0 hX dX12_ages_3 rfl rfl ?_
    refine r_X12_7 7 hX dX12_ages_4 rfl ?_
    refine g_bipush 9 hX 8 dX12_ages_7 rfl kc_b_8 ?_
    refine g_iald 10 hX dX12_ages_9 rfl ?_
    refine g_icmp_ge 98 13 hX dX12_ages_10 (by decide) rfl (fun _ => ?_) (fun _ => ?_)
    · exact g_vret hX hr rfl (Nat.le_refl 0) (Nat.le_refl 0) dX12_ages_98
    · refine g_aload_n 14 0 hX dX12_ages_13 rfl rfl ?_
      refine g_iload_n 15 1 hX dX12_ages_14 rfl rfl ?_
      refine g_iconst 16 hX 4 dX12_ages_15 rfl kc_i_4 ?_
      refine g_callV_ip 19 hX (k_X12_has l g N M a0 x1 4) lk_X12_has rfl (ci := 12) rfl (Nat.le_of_ble_eq_true rfl) q_1689 q_42 (by omega) rfl (Nat.le_of_ble_eq_true rfl) (Nat.zero_le _) (Nat.zero_le _) dX12_ages_16 rfl (fun r1 => ?_)
      refine g_if_ne 25 22 hX dX12_ages_19 (by decide) rfl (fun _ => ?_) (fun _ => ?_)
      · refine g_aload_n 26 0 hX dX12_ages_25 rfl rfl ?_
        refine r_X12_7 29 hX dX12_ages_26 rfl ?_
        refine g_iload_n 30 1 hX dX12_ages_29 rfl rfl ?_
        refine g_iconst 31 hX 3 dX12_ages_30 rfl kc_i_3 ?_
        refine g_callS_ip 34 hX (k_X12_atTrader l g N M x1 3) lk_X12_atTrader q_1675 (by omega) rfl (Nat.le_of_ble_eq_true rfl) (Nat.zero_le _) (Nat.zero_le _) dX12_ages_31 rfl (fun r2 => ?_)
        refine g_dup2 35 hX dX12_ages_34 rfl rfl rfl ?_
        refine g_iald 36 hX dX12_ages_35 rfl ?_
        refine g_iconst 37 hX 1 dX12_ages_36 rfl kc_i_1 ?_
        refine g_iadd 38 hX dX12_ages_37 rfl ?_
        refine g_iast 39 hX dX12_ages_38 rfl ?_
        refine g_klM (fun M3 hM3 => ?_)
        refine g_aload_n 40 0 hX dX12_ages_39 rfl rfl ?_
        refine g_iload_n 41 1 hX dX12_ages_40 rfl rfl ?_
        refine g_iconst 42 hX 3 dX12_ages_41 rfl kc_i_3 ?_
        refine g_callV_ip 45 hX (k_X12_has l g N M3 a0 x1 3) lk_X12_has rfl (ci := 12) rfl (Nat.le_of_ble_eq_true rfl) q_1689 q_42 (by omega) rfl (Nat.le_of_ble_eq_true rfl) (Nat.zero_le _) (Nat.zero_le _) dX12_ages_42 rfl (fun r4 => ?_)
        refine g_aload_n 46 0 hX dX12_ages_45 rfl rfl ?_
        refine r_X12_7 49 hX dX12_ages_46 rfl ?_
        refine g_iconst 50 hX 3 dX12_ages_49 rfl kc_i_3 ?_
        refine g_iald 51 hX dX12_ages_50 rfl ?_
        refine g_icmp_le 92 54 hX dX12_ages_51 (by decide) rfl (fun _ => ?_) (fun _ => ?_)
        · refine g_kl (fun v5 hv5 => ?_)
          refine g_iinc 95 1 1 v5 [(1, .int v5), (0, .ref a0)] hX dX12_ages_92 rfl rfl (by rw [hv5, kc_i_1]) (Nat.le_of_ble_eq_true rfl) rfl ?_
          refine g_goto 2 hX dX12_ages_95 (by decide) ?_
          refine g_lv [1, 0] rfl ?_
          exact ih M3 a0 v5
        · refine g_aload_n 55 0 hX dX12_ages_54 rfl rfl ?_
          refine g_iload_n 56 1 hX dX12_ages_55 rfl rfl ?_
          refine g_callV_v 59 hX (k_X12_rises l g N M3 a0 x1) lk_X12_rises rfl (ci := 12) rfl (Nat.le_of_ble_eq_true rfl) q_2042 q_91 (by omega) rfl (Nat.le_of_ble_eq_true rfl) (Nat.zero_le _) (Nat.zero_le _) dX12_ages_56 rfl (fun M6 => ?_)
          refine g_aload_n 60 0 hX dX12_ages_59 rfl rfl ?_
          refine g_iload_n 61 1 hX dX12_ages_60 rfl rfl ?_
          refine g_iconst 62 hX 2 dX12_ages_61 rfl kc_i_2 ?_
          refine g_callS_ip 65 hX (k_X12_atTrader l g N M6 x1 2) lk_X12_atTrader q_1675 (by omega) rfl (Nat.le_of_ble_eq_true rfl) (Nat.zero_le _) (Nat.zero_le _) dX12_ages_62 rfl (fun r7 => ?_)
          refine g_iconst 66 hX 5 dX12_ages_65 rfl kc_i_5 ?_
          refine g_aload_n 67 0 hX dX12_ages_66 rfl rfl ?_
          refine g_iload_n 68 1 hX dX12_ages_67 rfl rfl ?_
          refine g_iconst 69 hX 2 dX12_ages_68 rfl kc_i_2 ?_
          refine g_callV_ip 72 hX (k_X12_has l g N M6 a0 x1 2) lk_X12_has rfl (ci := 12) rfl (Nat.le_of_ble_eq_true rfl) q_1689 q_42 (by omega) rfl (Nat.le_of_ble_eq_true rfl) (Nat.zero_le _) (Nat.zero_le _) dX12_ages_69 rfl (fun r8 => ?_)
          refine g_callV_v 75 hX (k_X12_moves l g N M6 a0 r7 5 r8) lk_X12_moves rfl (ci := 12) rfl (Nat.le_of_ble_eq_true rfl) q_2038 q_90 (by omega) rfl (Nat.le_of_ble_eq_true rfl) (Nat.zero_le _) (Nat.zero_le _) dX12_ages_72 rfl (fun M9 => ?_)
          refine g_aload_n 76 0 hX dX12_ages_75 rfl rfl ?_
          refine r_X12_7 79 hX dX12_ages_76 rfl ?_
          refine g_iload_n 80 1 hX dX12_ages_79 rfl rfl ?_
          refine g_iconst 81 hX 4 dX12_ages_80 rfl kc_i_4 ?_
          refine g_callS_ip 84 hX (k_X12_atTrader l g N M9 x1 4) lk_X12_atTrader q_1675 (by omega) rfl (Nat.le_of_ble_eq_true rfl) (Nat.zero_le _) (Nat.zero_le _) dX12_ages_81 rfl (fun r10 => ?_)
          refine g_iconst 85 hX 0 dX12_ages_84 rfl kc_i_0 ?_
          refine g_iast 86 hX dX12_ages_85 rfl ?_
          refine g_klM (fun M11 hM11 => ?_)
          refine g_aload_n 87 0 hX dX12_ages_86 rfl rfl ?_
          refine g_iconst 88 hX 2 dX12_ages_87 rfl kc_i_2 ?_
          refine g_iload_n 89 1 hX dX12_ages_88 rfl rfl ?_
          refine g_callV_v 92 hX (k_X12_records l g N M11 a0 2 x1) lk_X12_records rfl (ci := 12) rfl (Nat.le_of_ble_eq_true rfl) q_2114 q_109 (by omega) rfl (Nat.le_of_ble_eq_true rfl) (Nat.zero_le _) (Nat.zero_le _) dX12_ages_89 rfl (fun M12 => ?_)
          refine g_kl (fun v13 hv13 => ?_)
          refine g_iinc 95 1 1 v13 [(1, .int v13), (0, .ref a0)] hX dX12_ages_92 rfl rfl (by rw [hv13, kc_i_1]) (Nat.le_of_ble_eq_true rfl) rfl ?_
          refine g_goto 2 hX dX12_ages_95 (by decide) ?_
          refine g_lv [1, 0] rfl ?_
          exact ih M12 a0 v13
      · refine g_goto 92 hX dX12_ages_22 (by decide) ?_
        refine g_kl (fun v14 hv14 => ?_)
        refine g_iinc 95 1 1 v14 [(1, .int v14), (0, .ref a0)] hX dX12_ages_92 rfl rfl (by rw [hv14, kc_i_1]) (Nat.le_of_ble_eq_true rfl) rfl ?_
        refine g_goto 2 hX dX12_ages_95 (by decide) ?_
        refine g_lv [1, 0] rfl ?_
        exact ih M a0 v14
set_option maxRecDepth 100000 in
set_option maxHeartbeats 4000000 in
theorem k_X12_ages (l : Launch) (g : kG) (N : Nat) (M : kMem) (a0 : Nat) : kMet l g yX12_ages cX12_ages 2 none 5 0 0 [.ref a0] M (fun r : kMem => (none, r)) (F_X12_ages N M a0) := by
  refine k_of (lv := [(0, .ref a0)]) RX12 (by decide) rfl rfl (Nat.le_of_ble_eq_true rfl) ?_
  intro p e s m args below meth c hX hr _
  unfold F_X12_ages
  refine g_iconst 1 hX 0 dX12_ages_0 rfl kc_i_0 ?_
  refine g_istore_n 2 1 [(1, .int 0), (0, .ref a0)] hX dX12_ages_1 rfl rfl (Nat.le_of_ble_eq_true rfl) rfl ?_
  refine g_lv [1, 0] rfl ?_
  exact k_X12_ages_2 hX hr N N M a0 0
def F_X12_tips_36 (N : Nat) (k6 : kMem → Nat → Int32 → Int32 → Option (kMem)) : Nat → kMem → Nat → Int32 → Int32 → Int32 → Option (kMem)
  | 0, _, _, _, _, _ => none
  | n + 1, M, a0, x1, x2, x3 =>
    kg (kt M a0 12) <| (F_X12_onSeat N M a0 x1 x3).bind fun r5 =>
    if r5 = (-1) then (
      if (0 : Int32) < x2 then (
        kl (x3 - 1) fun v15 =>
        F_X12_tips_36 N k6 n M a0 x1 x2 v15) else
      kl (x3 - (-1)) fun v14 =>
      F_X12_tips_36 N k6 n M a0 x1 x2 v14) else
    kg (kt M a0 12) <| (F_X12_onSeat N M a0 x1 x3).bind fun r6 =>
    kg (kt M a0 12) <| (F_X12_rises N M a0 r6).bind fun M7 =>
    (F_X12_atTrader N M7 r6 2).bind fun r8 =>
    kg (kt M7 a0 12) <|
    kg (kin M7 (kR M7 a0 0) 13 4) <|
    kg (kt M7 a0 12) <| (F_X12_moves N M7 a0 r8 5 (kI M7 (kR M7 a0 0) (kx 4))).bind fun M9 =>
    kg (kt M9 a0 12) <| (F_X12_records N M9 a0 1 r6).bind fun M10 =>
    kg (kt M10 a0 12) <|
    kg (kin M10 (kR M10 a0 0) 13 12) <|
    kg (kin M10 (kR M10 a0 0) 13 12) <| kl (ksI M10 (kR M10 a0 0) (kx 12) ((kI M10 (kR M10 a0 0) (kx 12)) + 1)) fun M11 =>
    kg (kt M11 a0 12) <|
    kg (kin M11 (kR M11 a0 7) 14 r6 && ((1 : Int32) == 0 || (1 : Int32) == 1)) <| kl (ksI M11 (kR M11 a0 7) (kx r6) 1) fun M12 =>
    kg (kt M12 a0 12) <| (F_X12_torqueOf N M12 a0 x1).bind fun r13 =>
    k6 M12 a0 x1 r13
def F_X12_tips_6 (N : Nat) : Nat → kMem → Nat → Int32 → Int32 → Option (kMem)
  | 0, _, _, _, _ => none
  | n + 1, M, a0, x1, x2 =>
    kg (kt M a0 12) <| (F_X12_isTooMuch N M a0 x1 x2).bind fun r2 =>
    if r2 = 0 then (
      some M) else
    if (0 : Int32) < x2 then (
      kg (kt M a0 12) <| (F_X12_ofBoard N M a0 x1 0).bind fun r16 =>
      F_X12_tips_36 N (fun M a0 x1 x2 => F_X12_tips_6 N n M a0 x1 x2) N M a0 x1 x2 r16) else
    kg (kt M a0 12) <| (F_X12_ofBoard N M a0 x1 0).bind fun r3 =>
    kl (-r3) fun v4 =>
    F_X12_tips_36 N (fun M a0 x1 x2 => F_X12_tips_6 N n M a0 x1 x2) N M a0 x1 x2 v4
def F_X12_tips (N : Nat) (M : kMem) (a0 : Nat) (x1 : Int32) : Option (kMem) :=
    kg (kt M a0 12) <| (F_X12_torqueOf N M a0 x1).bind fun r1 =>
    F_X12_tips_6 N N M a0 x1 r1
set_option maxRecDepth 100000 in
set_option maxHeartbeats 4000000 in
theorem k_X12_tips_36 {p : Program} {l : Launch} {e : Env} {s : State} {m : MethodId} {args : Array Value} {below : List Frame} {meth : Method} {c : Code} {g : kG} (hX : Cok (p, l, e, { frames := 2 * 5, cells := 0, slots := 0, locals := 60 * 5 }, s, m, args, below, meth, c, cX12_tips, 5, RX12, g, 5)) (hr : meth.sig.returnType = none) (N : Nat) (k6 : kMem → Nat → Int32 → Int32 → Option (kMem)) (h6 : ∀ (M : kMem) (a0 : Nat) (x1 : Int32) (x2 : Int32), GG (p, l, e, { frames := 2 * 5, cells := 0, slots := 0, locals := 60 * 5 }, s, m, args, below, meth, c, cX12_tips, 5, RX12, g, 5) (fun b => MQ below (kQ g ((fun r : kMem => (none, r)) b)) args s 0 0 (kZ g.2.2.1)) 0 0 (k6 M a0 x1 x2) 6 [(0, .ref a0), (1, .int x1), (2, .int x2)] [] M) : ∀ (n : Nat) (M : kMem) (a0 : Nat) (x1 : Int32) (x2 : Int32) (x3 : Int32), GG (p, l, e, { frames := 2 * 5, cells := 0, slots := 0, locals := 60 * 5 }, s, m, args, below, meth, c, cX12_tips, 5, RX12, g, 5) (fun b => MQ below (kQ g ((fun r : kMem => (none, r)) b)) args s 0 0 (kZ g.2.2.1)) 0 0 (F_X12_tips_36 N k6 n M a0 x1 x2 x3) 36 [(0, .ref a0), (1, .int x1), (2, .int x2), (3, .int x3)] [] M := by
  intro n
  induction n with
  | zero => intro _ _ _ _ _; exact g_none
  | succ n ih =>
    intro M a0 x1 x2 x3
    unfold F_X12_tips_36
    refine g_aload_n 37 0 hX dX12_tips_36 rfl rfl ?_
    refine g_iload_n 38 1 hX dX12_tips_37 rfl rfl ?_
    refine g_iload_n 39 3 hX dX12_tips_38 rfl rfl ?_
    refine g_callV_ip 42 hX (k_X12_onSeat l g N M a0 x1 x3) lk_X12_onSeat rfl (ci := 12) rfl (Nat.le_of_ble_eq_true rfl) q_1925 q_67 (by omega) rfl (Nat.le_of_ble_eq_true rfl) (Nat.zero_le _) (Nat.zero_le _) dX12_tips_39 rfl (fun r5 => ?_)
    refine g_iconst 43 hX (-1) dX12_tips_42 rfl kc_i_m1 ?_
    refine g_icmp_ne 61 46 hX dX12_tips_43 (by decide) rfl (fun _ => ?_) (fun _ => ?_)
    · refine g_aload_n 62 0 hX dX12_tips_61 rfl rfl ?_
      refine g_iload_n 63 1 hX dX12_tips_62 rfl rfl ?_
      refine g_iload_n 64 3 hX dX12_tips_63 rfl rfl ?_
      refine g_callV_ip 67 hX (k_X12_onSeat l g N M a0 x1 x3) lk_X12_onSeat rfl (ci := 12) rfl (Nat.le_of_ble_eq_true rfl) q_1925 q_67 (by omega) rfl (Nat.le_of_ble_eq_true rfl) (Nat.zero_le _) (Nat.zero_le _) dX12_tips_64 rfl (fun r6 => ?_)
      refine g_istore 69 4 [(4, .int r6), (0, .ref a0), (1, .int x1), (2, .int x2), (3, .int x3)] hX dX12_tips_67 rfl (Nat.le_of_ble_eq_true rfl) rfl ?_
      refine g_aload_n 70 1 hX dX12_tips_69 rfl rfl ?_
      refine g_iload 72 0 hX dX12_tips_70 rfl rfl ?_
      refine g_callV_v 75 hX (k_X12_rises l g N M a0 r6) lk_X12_rises rfl (ci := 12) rfl (Nat.le_of_ble_eq_true rfl) q_2042 q_91 (by omega) rfl (Nat.le_of_ble_eq_true rfl) (Nat.zero_le _) (Nat.zero_le _) dX12_tips_72 rfl (fun M7 => ?_)
      refine g_aload_n 76 1 hX dX12_tips_75 rfl rfl ?_
      refine g_iload 78 0 hX dX12_tips_76 rfl rfl ?_
      refine g_iconst 79 hX 2 dX12_tips_78 rfl kc_i_2 ?_
      refine g_callS_ip 82 hX (k_X12_atTrader l g N M7 r6 2) lk_X12_atTrader q_1675 (by omega) rfl (Nat.le_of_ble_eq_true rfl) (Nat.zero_le _) (Nat.zero_le _) dX12_tips_79 rfl (fun r8 => ?_)
      refine g_iconst 83 hX 5 dX12_tips_82 rfl kc_i_5 ?_
      refine g_aload_n 84 1 hX dX12_tips_83 rfl rfl ?_
      refine r_X12_7 87 hX dX12_tips_84 rfl ?_
      refine g_iconst 88 hX 4 dX12_tips_87 rfl kc_i_4 ?_
      refine g_iald 89 hX dX12_tips_88 rfl ?_
      refine g_callV_v 92 hX (k_X12_moves l g N M7 a0 r8 5 (kI M7 (kR M7 a0 0) (kx 4))) lk_X12_moves rfl (ci := 12) rfl (Nat.le_of_ble_eq_true rfl) q_2038 q_90 (by omega) rfl (Nat.le_of_ble_eq_true rfl) (Nat.zero_le _) (Nat.zero_le _) dX12_tips_89 rfl (fun M9 => ?_)
      refine g_aload_n 93 1 hX dX12_tips_92 rfl rfl ?_
      refine g_iconst 94 hX 1 dX12_tips_93 rfl kc_i_1 ?_
      refine g_iload 96 0 hX dX12_tips_94 rfl rfl ?_
      refine g_callV_v 99 hX (k_X12_records l g N M9 a0 1 r6) lk_X12_records rfl (ci := 12) rfl (Nat.le_of_ble_eq_true rfl) q_2114 q_109 (by omega) rfl (Nat.le_of_ble_eq_true rfl) (Nat.zero_le _) (Nat.zero_le _) dX12_tips_96 rfl (fun M10 => ?_)
      refine g_aload_n 100 1 hX dX12_tips_99 rfl rfl ?_
      refine r_X12_7 103 hX dX12_tips_100 rfl ?_
      refine g_bipush 105 hX 12 dX12_tips_103 rfl kc_b_12 ?_
      refine g_dup2 106 hX dX12_tips_105 rfl rfl rfl ?_
      refine g_iald 107 hX dX12_tips_106 rfl ?_
      refine g_iconst 108 hX 1 dX12_tips_107 rfl kc_i_1 ?_
      refine g_iadd 109 hX dX12_tips_108 rfl ?_
      refine g_iast 110 hX dX12_tips_109 rfl ?_
      refine g_klM (fun M11 hM11 => ?_)
      refine g_aload_n 111 1 hX dX12_tips_110 rfl rfl ?_
      refine r_X12_26 114 hX dX12_tips_111 rfl ?_
      refine g_iload 116 0 hX dX12_tips_114 rfl rfl ?_
      refine g_iconst 117 hX 1 dX12_tips_116 rfl kc_i_1 ?_
      refine g_zast 118 hX dX12_tips_117 rfl ?_
      refine g_klM (fun M12 hM12 => ?_)
      refine g_aload_n 119 1 hX dX12_tips_118 rfl rfl ?_
      refine g_iload_n 120 2 hX dX12_tips_119 rfl rfl ?_
      refine g_callV_ip 123 hX (k_X12_torqueOf l g N M12 a0 x1) lk_X12_torqueOf rfl (ci := 12) rfl (Nat.le_of_ble_eq_true rfl) q_2015 q_85 (by omega) rfl (Nat.le_of_ble_eq_true rfl) (Nat.zero_le _) (Nat.zero_le _) dX12_tips_120 rfl (fun r13 => ?_)
      refine g_istore_n 124 2 [(2, .int r13), (4, .int r6), (0, .ref a0), (1, .int x1), (3, .int x3)] hX dX12_tips_123 rfl rfl (Nat.le_of_ble_eq_true rfl) rfl ?_
      refine g_goto 6 hX dX12_tips_124 (by decide) ?_
      refine g_lv [2, 3, 0] rfl ?_
      exact h6 M12 a0 x1 r13
    · refine g_iload_n 47 3 hX dX12_tips_46 rfl rfl ?_
      refine g_iload_n 48 2 hX dX12_tips_47 rfl rfl ?_
      refine g_if_le 55 51 hX dX12_tips_48 (by decide) rfl (fun _ => ?_) (fun _ => ?_)
      · refine g_iconst 56 hX (-1) dX12_tips_55 rfl kc_i_m1 ?_
        refine g_isub 57 hX dX12_tips_56 rfl ?_
        refine g_klI (fun v14 hv14 => ?_)
        refine g_istore_n 58 3 [(3, .int v14), (0, .ref a0), (1, .int x1), (2, .int x2)] hX dX12_tips_57 rfl rfl (Nat.le_of_ble_eq_true rfl) rfl ?_
        refine g_goto 36 hX dX12_tips_58 (by decide) ?_
        refine g_lv [1, 2, 3, 0] rfl ?_
        exact ih M a0 x1 x2 v14
      · refine g_iconst 52 hX 1 dX12_tips_51 rfl kc_i_1 ?_
        refine g_goto 56 hX dX12_tips_52 (by decide) ?_
        refine g_isub 57 hX dX12_tips_56 rfl ?_
        refine g_klI (fun v15 hv15 => ?_)
        refine g_istore_n 58 3 [(3, .int v15), (0, .ref a0), (1, .int x1), (2, .int x2)] hX dX12_tips_57 rfl rfl (Nat.le_of_ble_eq_true rfl) rfl ?_
        refine g_goto 36 hX dX12_tips_58 (by decide) ?_
        refine g_lv [1, 2, 3, 0] rfl ?_
        exact ih M a0 x1 x2 v15
set_option maxRecDepth 100000 in
set_option maxHeartbeats 4000000 in
theorem k_X12_tips_6 {p : Program} {l : Launch} {e : Env} {s : State} {m : MethodId} {args : Array Value} {below : List Frame} {meth : Method} {c : Code} {g : kG} (hX : Cok (p, l, e, { frames := 2 * 5, cells := 0, slots := 0, locals := 60 * 5 }, s, m, args, below, meth, c, cX12_tips, 5, RX12, g, 5)) (hr : meth.sig.returnType = none) (N : Nat) : ∀ (n : Nat) (M : kMem) (a0 : Nat) (x1 : Int32) (x2 : Int32), GG (p, l, e, { frames := 2 * 5, cells := 0, slots := 0, locals := 60 * 5 }, s, m, args, below, meth, c, cX12_tips, 5, RX12, g, 5) (fun b => MQ below (kQ g ((fun r : kMem => (none, r)) b)) args s 0 0 (kZ g.2.2.1)) 0 0 (F_X12_tips_6 N n M a0 x1 x2) 6 [(0, .ref a0), (1, .int x1), (2, .int x2)] [] M := by
  intro n
  induction n with
  | zero => intro _ _ _ _; exact g_none
  | succ n ih =>
    intro M a0 x1 x2
    unfold F_X12_tips_6
    refine g_aload_n 7 0 hX dX12_tips_6 rfl rfl ?_
    refine g_iload_n 8 1 hX dX12_tips_7 rfl rfl ?_
    refine g_iload_n 9 2 hX dX12_tips_8 rfl rfl ?_
    refine g_callV_ip 12 hX (k_X12_isTooMuch l g N M a0 x1 x2) lk_X12_isTooMuch rfl (ci := 12) rfl (Nat.le_of_ble_eq_true rfl) q_2030 q_88 (by omega) rfl (Nat.le_of_ble_eq_true rfl) (Nat.zero_le _) (Nat.zero_le _) dX12_tips_9 rfl (fun r2 => ?_)
    refine g_if_eq 127 15 hX dX12_tips_12 (by decide) rfl (fun _ => ?_) (fun _ => ?_)
    · exact g_vret hX hr rfl (Nat.le_refl 0) (Nat.le_refl 0) dX12_tips_127
    · refine g_iload_n 16 2 hX dX12_tips_15 rfl rfl ?_
      refine g_if_le 28 19 hX dX12_tips_16 (by decide) rfl (fun _ => ?_) (fun _ => ?_)
      · refine g_aload_n 29 0 hX dX12_tips_28 rfl rfl ?_
        refine g_iload_n 30 1 hX dX12_tips_29 rfl rfl ?_
        refine g_iconst 31 hX 0 dX12_tips_30 rfl kc_i_0 ?_
        refine g_callV_ip 34 hX (k_X12_ofBoard l g N M a0 x1 0) lk_X12_ofBoard rfl (ci := 12) rfl (Nat.le_of_ble_eq_true rfl) q_1921 q_66 (by omega) rfl (Nat.le_of_ble_eq_true rfl) (Nat.zero_le _) (Nat.zero_le _) dX12_tips_31 rfl (fun r3 => ?_)
        refine g_ineg 35 hX dX12_tips_34 rfl ?_
        refine g_klI (fun v4 hv4 => ?_)
        refine g_istore_n 36 3 [(3, .int v4), (0, .ref a0), (1, .int x1), (2, .int x2)] hX dX12_tips_35 rfl rfl (Nat.le_of_ble_eq_true rfl) rfl ?_
        refine g_lv [1, 2, 3, 0] rfl ?_
        exact k_X12_tips_36 hX hr N (fun M a0 x1 x2 => F_X12_tips_6 N n M a0 x1 x2) ih N M a0 x1 x2 v4
      · refine g_aload_n 20 0 hX dX12_tips_19 rfl rfl ?_
        refine g_iload_n 21 1 hX dX12_tips_20 rfl rfl ?_
        refine g_iconst 22 hX 0 dX12_tips_21 rfl kc_i_0 ?_
        refine g_callV_ip 25 hX (k_X12_ofBoard l g N M a0 x1 0) lk_X12_ofBoard rfl (ci := 12) rfl (Nat.le_of_ble_eq_true rfl) q_1921 q_66 (by omega) rfl (Nat.le_of_ble_eq_true rfl) (Nat.zero_le _) (Nat.zero_le _) dX12_tips_22 rfl (fun r16 => ?_)
        refine g_goto 35 hX dX12_tips_25 (by decide) ?_
        refine g_istore_n 36 3 [(3, .int r16), (0, .ref a0), (1, .int x1), (2, .int x2)] hX dX12_tips_35 rfl rfl (Nat.le_of_ble_eq_true rfl) rfl ?_
        refine g_lv [1, 2, 3, 0] rfl ?_
        exact k_X12_tips_36 hX hr N (fun M a0 x1 x2 => F_X12_tips_6 N n M a0 x1 x2) ih N M a0 x1 x2 r16
set_option maxRecDepth 100000 in
set_option maxHeartbeats 4000000 in
theorem k_X12_tips (l : Launch) (g : kG) (N : Nat) (M : kMem) (a0 : Nat) (x1 : Int32) : kMet l g yX12_tips cX12_tips 5 none 5 0 0 [.ref a0, .int x1] M (fun r : kMem => (none, r)) (F_X12_tips N M a0 x1) := by
  refine k_of (lv := [(0, .ref a0), (1, .int x1)]) RX12 (by decide) rfl rfl (Nat.le_of_ble_eq_true rfl) ?_
  intro p e s m args below meth c hX hr _
  unfold F_X12_tips
  refine g_aload_n 1 0 hX dX12_tips_0 rfl rfl ?_
  refine g_iload_n 2 1 hX dX12_tips_1 rfl rfl ?_
  refine g_callV_ip 5 hX (k_X12_torqueOf l g N M a0 x1) lk_X12_torqueOf rfl (ci := 12) rfl (Nat.le_of_ble_eq_true rfl) q_2015 q_85 (by omega) rfl (Nat.le_of_ble_eq_true rfl) (Nat.zero_le _) (Nat.zero_le _) dX12_tips_2 rfl (fun r1 => ?_)
  refine g_istore_n 6 2 [(2, .int r1), (0, .ref a0), (1, .int x1)] hX dX12_tips_5 rfl rfl (Nat.le_of_ble_eq_true rfl) rfl ?_
  refine g_lv [1, 2, 0] rfl ?_
  exact k_X12_tips_6 hX hr N N M a0 x1 r1
def F_X12_day1_21 (N : Nat) : Nat → kMem → Nat → Int32 → Option (kMem)
  | 0, _, _, _ => none
  | n + 1, M, a0, x1 =>
    kg (kt M a0 12) <|
    kg (kin M (kR M a0 0) 13 7) <|
    if x1 < (kI M (kR M a0 0) (kx 7)) then (
      kg (kt M a0 12) <| (F_X12_tips N M a0 x1).bind fun M4 =>
      kl (x1 + 1) fun v5 =>
      F_X12_day1_21 N n M4 a0 v5) else
    some M
def F_X12_day1 (N : Nat) (M : kMem) (a0 : Nat) : Option (kMem) :=
    kg (kt M a0 12) <|
    kg (kin M (kR M a0 0) 13 6) <|
    kg (kin M (kR M a0 0) 13 6) <| kl (ksI M (kR M a0 0) (kx 6) ((kI M (kR M a0 0) (kx 6)) + 1)) fun M1 =>
    kg (kt M1 a0 12) <| (F_X12_earns N M1 a0).bind fun M2 =>
    kg (kt M2 a0 12) <| (F_X12_ages N M2 a0).bind fun M3 =>
    F_X12_day1_21 N N M3 a0 0
set_option maxRecDepth 100000 in
set_option maxHeartbeats 4000000 in
theorem k_X12_day1_21 {p : Program} {l : Launch} {e : Env} {s : State} {m : MethodId} {args : Array Value} {below : List Frame} {meth : Method} {c : Code} {g : kG} (hX : Cok (p, l, e, { frames := 2 * 8, cells := 0, slots := 0, locals := 60 * 8 }, s, m, args, below, meth, c, cX12_day1, 2, RX12, g, 8)) (hr : meth.sig.returnType = none) (N : Nat) : ∀ (n : Nat) (M : kMem) (a0 : Nat) (x1 : Int32), GG (p, l, e, { frames := 2 * 8, cells := 0, slots := 0, locals := 60 * 8 }, s, m, args, below, meth, c, cX12_day1, 2, RX12, g, 8) (fun b => MQ below (kQ g ((fun r : kMem => (none, r)) b)) args s 0 0 (kZ g.2.2.1)) 0 0 (F_X12_day1_21 N n M a0 x1) 21 [(0, .ref a0), (1, .int x1)] [] M := by
  intro n
  induction n with
  | zero => intro _ _ _; exact g_none
  | succ n ih =>
    intro M a0 x1
    unfold F_X12_day1_21
    refine g_iload_n 22 1 hX dX12_day1_21 rfl rfl ?_
    refine g_aload_n 23 0 hX dX12_day1_22 rfl rfl ?_
    refine r_X12_7 26 hX dX12_day1_23 rfl ?_
    refine g_bipush 28 hX 7 dX12_day1_26 rfl kc_b_7 ?_
    refine g_iald 29 hX dX12_day1_28 rfl ?_
    refine g_icmp_ge 43 32 hX dX12_day1_29 (by decide) rfl (fun _ => ?_) (fun _ => ?_)
    · exact g_vret hX hr rfl (Nat.le_refl 0) (Nat.le_refl 0) dX12_day1_43
    · refine g_aload_n 33 0 hX dX12_day1_32 rfl rfl ?_
      refine g_iload_n 34 1 hX dX12_day1_33 rfl rfl ?_
      refine g_callV_v 37 hX (k_X12_tips l g N M a0 x1) lk_X12_tips rfl (ci := 12) rfl (Nat.le_of_ble_eq_true rfl) q_2118 q_110 (by omega) rfl (Nat.le_of_ble_eq_true rfl) (Nat.zero_le _) (Nat.zero_le _) dX12_day1_34 rfl (fun M4 => ?_)
      refine g_kl (fun v5 hv5 => ?_)
      refine g_iinc 40 1 1 v5 [(1, .int v5), (0, .ref a0)] hX dX12_day1_37 rfl rfl (by rw [hv5, kc_i_1]) (Nat.le_of_ble_eq_true rfl) rfl ?_
      refine g_goto 21 hX dX12_day1_40 (by decide) ?_
      refine g_lv [1, 0] rfl ?_
      exact ih M4 a0 v5
set_option maxRecDepth 100000 in
set_option maxHeartbeats 4000000 in
theorem k_X12_day1 (l : Launch) (g : kG) (N : Nat) (M : kMem) (a0 : Nat) : kMet l g yX12_day1 cX12_day1 2 none 8 0 0 [.ref a0] M (fun r : kMem => (none, r)) (F_X12_day1 N M a0) := by
  refine k_of (lv := [(0, .ref a0)]) RX12 (by decide) rfl rfl (Nat.le_of_ble_eq_true rfl) ?_
  intro p e s m args below meth c hX hr _
  unfold F_X12_day1
  refine g_aload_n 1 0 hX dX12_day1_0 rfl rfl ?_
  refine r_X12_7 4 hX dX12_day1_1 rfl ?_
  refine g_bipush 6 hX 6 dX12_day1_4 rfl kc_b_6 ?_
  refine g_dup2 7 hX dX12_day1_6 rfl rfl rfl ?_
  refine g_iald 8 hX dX12_day1_7 rfl ?_
  refine g_iconst 9 hX 1 dX12_day1_8 rfl kc_i_1 ?_
  refine g_iadd 10 hX dX12_day1_9 rfl ?_
  refine g_iast 11 hX dX12_day1_10 rfl ?_
  refine g_klM (fun M1 hM1 => ?_)
  refine g_aload_n 12 0 hX dX12_day1_11 rfl rfl ?_
  refine g_callV_v 15 hX (k_X12_earns l g N M1 a0) lk_X12_earns rfl (ci := 12) rfl (Nat.le_of_ble_eq_true rfl) q_2106 q_107 (by omega) rfl (Nat.le_of_ble_eq_true rfl) (Nat.zero_le _) (Nat.zero_le _) dX12_day1_12 rfl (fun M2 => ?_)
  refine g_aload_n 16 0 hX dX12_day1_15 rfl rfl ?_
  refine g_callV_v 19 hX (k_X12_ages l g N M2 a0) lk_X12_ages rfl (ci := 12) rfl (Nat.le_of_ble_eq_true rfl) q_2110 q_108 (by omega) rfl (Nat.le_of_ble_eq_true rfl) (Nat.zero_le _) (Nat.zero_le _) dX12_day1_16 rfl (fun M3 => ?_)
  refine g_iconst 20 hX 0 dX12_day1_19 rfl kc_i_0 ?_
  refine g_istore_n 21 1 [(1, .int 0), (0, .ref a0)] hX dX12_day1_20 rfl rfl (Nat.le_of_ble_eq_true rfl) rfl ?_
  refine g_lv [1, 0] rfl ?_
  exact k_X12_day1_21 hX hr N N M3 a0 0
def F_X12_days1_10 (N : Nat) : Nat → kMem → Nat → Int32 → Int32 → Int32 → Option (Int32 × kMem)
  | 0, _, _, _, _, _ => none
  | n + 1, M, a0, x1, x2, x3 =>
    if x3 < x1 then (
      kg (kt M a0 12) <| (F_X12_day1 N M a0).bind fun M2 =>
      kl (x3 + 1) fun v3 =>
      F_X12_days1_10 N n M2 a0 x1 x2 v3) else
    kg (kt M a0 12) <|
    kg (kin M (kR M a0 0) 13 12) <|
    some ((kI M (kR M a0 0) (kx 12)) - x2, M)
def F_X12_days1 (N : Nat) (M : kMem) (a0 : Nat) (x1 : Int32) : Option (Int32 × kMem) :=
    kg (kt M a0 12) <|
    kg (kin M (kR M a0 0) 13 12) <|
    kl (kI M (kR M a0 0) (kx 12)) fun v1 =>
    F_X12_days1_10 N N M a0 x1 v1 0
set_option maxRecDepth 100000 in
set_option maxHeartbeats 4000000 in
theorem k_X12_days1_10 {p : Program} {l : Launch} {e : Env} {s : State} {m : MethodId} {args : Array Value} {below : List Frame} {meth : Method} {c : Code} {g : kG} (hX : Cok (p, l, e, { frames := 2 * 9, cells := 0, slots := 0, locals := 60 * 9 }, s, m, args, below, meth, c, cX12_days1, 4, RX12, g, 9)) (hr : meth.sig.returnType = (some .int)) (N : Nat) : ∀ (n : Nat) (M : kMem) (a0 : Nat) (x1 : Int32) (x2 : Int32) (x3 : Int32), GG (p, l, e, { frames := 2 * 9, cells := 0, slots := 0, locals := 60 * 9 }, s, m, args, below, meth, c, cX12_days1, 4, RX12, g, 9) (fun b => MQ below (kQ g ((fun r : Int32 × kMem => (some (.int r.1), r.2)) b)) args s 0 0 (kZ g.2.2.1)) 0 0 (F_X12_days1_10 N n M a0 x1 x2 x3) 10 [(0, .ref a0), (1, .int x1), (2, .int x2), (3, .int x3)] [] M := by
  intro n
  induction n with
  | zero => intro _ _ _ _ _; exact g_none
  | succ n ih =>
    intro M a0 x1 x2 x3
    unfold F_X12_days1_10
    refine g_iload_n 11 3 hX dX12_days1_10 rfl rfl ?_
    refine g_iload_n 12 1 hX dX12_days1_11 rfl rfl ?_
    refine g_icmp_ge 25 15 hX dX12_days1_12 (by decide) rfl (fun _ => ?_) (fun _ => ?_)
    · refine g_aload_n 26 0 hX dX12_days1_25 rfl rfl ?_
      refine r_X12_7 29 hX dX12_days1_26 rfl ?_
      refine g_bipush 31 hX 12 dX12_days1_29 rfl kc_b_12 ?_
      refine g_iald 32 hX dX12_days1_31 rfl ?_
      refine g_iload_n 33 2 hX dX12_days1_32 rfl rfl ?_
      refine g_isub 34 hX dX12_days1_33 rfl ?_
      exact g_iret hX hr rfl (Nat.le_refl 0) (Nat.le_refl 0) dX12_days1_34
    · refine g_aload_n 16 0 hX dX12_days1_15 rfl rfl ?_
      refine g_callV_v 19 hX (k_X12_day1 l g N M a0) lk_X12_day1 rfl (ci := 12) rfl (Nat.le_of_ble_eq_true rfl) q_2102 q_106 (by omega) rfl (Nat.le_of_ble_eq_true rfl) (Nat.zero_le _) (Nat.zero_le _) dX12_days1_16 rfl (fun M2 => ?_)
      refine g_kl (fun v3 hv3 => ?_)
      refine g_iinc 22 3 3 v3 [(3, .int v3), (0, .ref a0), (1, .int x1), (2, .int x2)] hX dX12_days1_19 rfl rfl (by rw [hv3, kc_i_1]) (Nat.le_of_ble_eq_true rfl) rfl ?_
      refine g_goto 10 hX dX12_days1_22 (by decide) ?_
      refine g_lv [1, 2, 3, 0] rfl ?_
      exact ih M2 a0 x1 x2 v3
set_option maxRecDepth 100000 in
set_option maxHeartbeats 4000000 in
theorem k_X12_days1 (l : Launch) (g : kG) (N : Nat) (M : kMem) (a0 : Nat) (x1 : Int32) : kMet l g yX12_days1 cX12_days1 4 (some .int) 9 0 0 [.ref a0, .int x1] M (fun r : Int32 × kMem => (some (.int r.1), r.2)) (F_X12_days1 N M a0 x1) := by
  refine k_of (lv := [(0, .ref a0), (1, .int x1)]) RX12 (by decide) rfl rfl (Nat.le_of_ble_eq_true rfl) ?_
  intro p e s m args below meth c hX hr _
  unfold F_X12_days1
  refine g_aload_n 1 0 hX dX12_days1_0 rfl rfl ?_
  refine r_X12_7 4 hX dX12_days1_1 rfl ?_
  refine g_bipush 6 hX 12 dX12_days1_4 rfl kc_b_12 ?_
  refine g_iald 7 hX dX12_days1_6 rfl ?_
  refine g_klI (fun v1 hv1 => ?_)
  refine g_istore_n 8 2 [(2, .int v1), (0, .ref a0), (1, .int x1)] hX dX12_days1_7 rfl rfl (Nat.le_of_ble_eq_true rfl) rfl ?_
  refine g_iconst 9 hX 0 dX12_days1_8 rfl kc_i_0 ?_
  refine g_istore_n 10 3 [(3, .int 0), (2, .int v1), (0, .ref a0), (1, .int x1)] hX dX12_days1_9 rfl rfl (Nat.le_of_ble_eq_true rfl) rfl ?_
  refine g_lv [2, 3, 1, 0] rfl ?_
  exact k_X12_days1_10 hX hr N N M a0 x1 v1 0
def F_X12_againstSeat (N : Nat) (M : kMem) (a0 : Nat) (x1 : Int32) (x2 : Int32) (x3 : Int32) : Option (Int32) :=
    kg (kt M a0 12) <| (F_X12_has N M a0 x1 4).bind fun r1 =>
    if r1 = 0 then (
      some 1) else
    kg (kt M a0 12) <| (F_X12_onSeat N M a0 x2 x3).bind fun r2 =>
    if r2 = (-1) then (
      kg (kt M a0 12) <| (F_X12_has N M a0 x1 2).bind fun r3 =>
      kg (kt M a0 12) <| (F_X12_price N M a0 x2 x3).bind fun r4 =>
      if r3 < r4 then (
        some 3) else
      kg (kt M a0 12) <| (F_X12_torqueWith N M a0 x1 x2 x3).bind fun r5 =>
      kg (kt M a0 12) <| (F_X12_isTooMuch N M a0 x2 r5).bind fun r6 =>
      if r6 = 0 then (
        some 0) else
      some 4) else
    some 2
set_option maxRecDepth 100000 in
set_option maxHeartbeats 4000000 in
theorem k_X12_againstSeat (l : Launch) (g : kG) (N : Nat) (M : kMem) (a0 : Nat) (x1 : Int32) (x2 : Int32) (x3 : Int32) : kMet l g yX12_againstSeat cX12_againstSeat 4 (some .int) 7 0 0 [.ref a0, .int x1, .int x2, .int x3] M (fun r : Int32 => (some (.int r), M)) (F_X12_againstSeat N M a0 x1 x2 x3) := by
  refine k_of (lv := [(0, .ref a0), (1, .int x1), (2, .int x2), (3, .int x3)]) RX12 (by decide) rfl rfl (Nat.le_of_ble_eq_true rfl) ?_
  intro p e s m args below meth c hX hr _
  unfold F_X12_againstSeat
  refine g_aload_n 1 0 hX dX12_againstSeat_0 rfl rfl ?_
  refine g_iload_n 2 1 hX dX12_againstSeat_1 rfl rfl ?_
  refine g_iconst 3 hX 4 dX12_againstSeat_2 rfl kc_i_4 ?_
  refine g_callV_ip 6 hX (k_X12_has l g N M a0 x1 4) lk_X12_has rfl (ci := 12) rfl (Nat.le_of_ble_eq_true rfl) q_1689 q_42 (by omega) rfl (Nat.le_of_ble_eq_true rfl) (Nat.zero_le _) (Nat.zero_le _) dX12_againstSeat_3 rfl (fun r1 => ?_)
  refine g_if_ne 11 9 hX dX12_againstSeat_6 (by decide) rfl (fun _ => ?_) (fun _ => ?_)
  · refine g_aload_n 12 0 hX dX12_againstSeat_11 rfl rfl ?_
    refine g_iload_n 13 2 hX dX12_againstSeat_12 rfl rfl ?_
    refine g_iload_n 14 3 hX dX12_againstSeat_13 rfl rfl ?_
    refine g_callV_ip 17 hX (k_X12_onSeat l g N M a0 x2 x3) lk_X12_onSeat rfl (ci := 12) rfl (Nat.le_of_ble_eq_true rfl) q_1925 q_67 (by omega) rfl (Nat.le_of_ble_eq_true rfl) (Nat.zero_le _) (Nat.zero_le _) dX12_againstSeat_14 rfl (fun r2 => ?_)
    refine g_iconst 18 hX (-1) dX12_againstSeat_17 rfl kc_i_m1 ?_
    refine g_icmp_eq 23 21 hX dX12_againstSeat_18 (by decide) rfl (fun _ => ?_) (fun _ => ?_)
    · refine g_aload_n 24 0 hX dX12_againstSeat_23 rfl rfl ?_
      refine g_iload_n 25 1 hX dX12_againstSeat_24 rfl rfl ?_
      refine g_iconst 26 hX 2 dX12_againstSeat_25 rfl kc_i_2 ?_
      refine g_callV_ip 29 hX (k_X12_has l g N M a0 x1 2) lk_X12_has rfl (ci := 12) rfl (Nat.le_of_ble_eq_true rfl) q_1689 q_42 (by omega) rfl (Nat.le_of_ble_eq_true rfl) (Nat.zero_le _) (Nat.zero_le _) dX12_againstSeat_26 rfl (fun r3 => ?_)
      refine g_aload_n 30 0 hX dX12_againstSeat_29 rfl rfl ?_
      refine g_iload_n 31 2 hX dX12_againstSeat_30 rfl rfl ?_
      refine g_iload_n 32 3 hX dX12_againstSeat_31 rfl rfl ?_
      refine g_callV_ip 35 hX (k_X12_price l g N M a0 x2 x3) lk_X12_price rfl (ci := 12) rfl (Nat.le_of_ble_eq_true rfl) q_2004 q_83 (by omega) rfl (Nat.le_of_ble_eq_true rfl) (Nat.zero_le _) (Nat.zero_le _) dX12_againstSeat_32 rfl (fun r4 => ?_)
      refine g_icmp_ge 40 38 hX dX12_againstSeat_35 (by decide) rfl (fun _ => ?_) (fun _ => ?_)
      · refine g_aload_n 41 0 hX dX12_againstSeat_40 rfl rfl ?_
        refine g_iload_n 42 2 hX dX12_againstSeat_41 rfl rfl ?_
        refine g_aload_n 43 0 hX dX12_againstSeat_42 rfl rfl ?_
        refine g_iload_n 44 1 hX dX12_againstSeat_43 rfl rfl ?_
        refine g_iload_n 45 2 hX dX12_againstSeat_44 rfl rfl ?_
        refine g_iload_n 46 3 hX dX12_againstSeat_45 rfl rfl ?_
        refine g_callV_ip 49 hX (k_X12_torqueWith l g N M a0 x1 x2 x3) lk_X12_torqueWith rfl (ci := 12) rfl (Nat.le_of_ble_eq_true rfl) q_2026 q_87 (by omega) rfl (Nat.le_of_ble_eq_true rfl) (Nat.zero_le _) (Nat.zero_le _) dX12_againstSeat_46 rfl (fun r5 => ?_)
        refine g_callV_ip 52 hX (k_X12_isTooMuch l g N M a0 x2 r5) lk_X12_isTooMuch rfl (ci := 12) rfl (Nat.le_of_ble_eq_true rfl) q_2030 q_88 (by omega) rfl (Nat.le_of_ble_eq_true rfl) (Nat.zero_le _) (Nat.zero_le _) dX12_againstSeat_49 rfl (fun r6 => ?_)
        refine g_if_eq 59 55 hX dX12_againstSeat_52 (by decide) rfl (fun _ => ?_) (fun _ => ?_)
        · refine g_iconst 60 hX 0 dX12_againstSeat_59 rfl kc_i_0 ?_
          exact g_iret hX hr rfl (Nat.le_refl 0) (Nat.le_refl 0) dX12_againstSeat_60
        · refine g_iconst 56 hX 4 dX12_againstSeat_55 rfl kc_i_4 ?_
          refine g_goto 60 hX dX12_againstSeat_56 (by decide) ?_
          exact g_iret hX hr rfl (Nat.le_refl 0) (Nat.le_refl 0) dX12_againstSeat_60
      · refine g_iconst 39 hX 3 dX12_againstSeat_38 rfl kc_i_3 ?_
        exact g_iret hX hr rfl (Nat.le_refl 0) (Nat.le_refl 0) dX12_againstSeat_39
    · refine g_iconst 22 hX 2 dX12_againstSeat_21 rfl kc_i_2 ?_
      exact g_iret hX hr rfl (Nat.le_refl 0) (Nat.le_refl 0) dX12_againstSeat_22
  · refine g_iconst 10 hX 1 dX12_againstSeat_9 rfl kc_i_1 ?_
    exact g_iret hX hr rfl (Nat.le_refl 0) (Nat.le_refl 0) dX12_againstSeat_10
def F_X12_againstSale (N : Nat) (M : kMem) (a0 : Nat) (x1 : Int32) (x2 : Int32) (x3 : Int32) : Option (Int32) :=
    kg (kt M a0 12) <| (F_X12_isSeated N M a0 x1).bind fun r1 =>
    if r1 = 0 then (
      some 5) else
    kg (kt M a0 12) <| (F_X12_isSeated N M a0 x2).bind fun r2 =>
    if r2 = 0 then (
      some 5) else
    kg (kt M a0 12) <| (F_X12_has N M a0 x1 5).bind fun r3 =>
    kg (kt M a0 12) <| (F_X12_has N M a0 x2 5).bind fun r4 =>
    if r3 = r4 then (
      kg (kt M a0 12) <| (F_X12_has N M a0 x1 1).bind fun r5 =>
      if (r5 - x3) < 1 then (
        some 7) else
      kg (kt M a0 12) <| (F_X12_has N M a0 x2 1).bind fun r6 =>
      if (99 : Int32) < (r6 + x3) then (
        some 7) else
      kg (kt M a0 12) <| (F_X12_has N M a0 x2 2).bind fun r7 =>
      kg (kt M a0 12) <| (F_X12_unitPrice N M a0 x1 x2).bind fun r8 =>
      if r7 < (x3 * r8) then (
        some 3) else
      kg (kt M a0 12) <| (F_X12_has N M a0 x1 5).bind fun r9 =>
      kg (kt M a0 12) <| (F_X12_torqueOf N M a0 r9).bind fun r10 =>
      kg (kt M a0 12) <| (F_X12_has N M a0 x2 6).bind fun r11 =>
      kg (kt M a0 12) <| (F_X12_has N M a0 x1 6).bind fun r12 =>
      kg (kt M a0 12) <| (F_X12_isTooMuch N M a0 r9 (r10 + (x3 * (r11 - r12)))).bind fun r13 =>
      if r13 = 0 then (
        some 0) else
      some 4) else
    some 6
set_option maxRecDepth 100000 in
set_option maxHeartbeats 4000000 in
theorem k_X12_againstSale (l : Launch) (g : kG) (N : Nat) (M : kMem) (a0 : Nat) (x1 : Int32) (x2 : Int32) (x3 : Int32) : kMet l g yX12_againstSale cX12_againstSale 5 (some .int) 8 0 0 [.ref a0, .int x1, .int x2, .int x3] M (fun r : Int32 => (some (.int r), M)) (F_X12_againstSale N M a0 x1 x2 x3) := by
  refine k_of (lv := [(0, .ref a0), (1, .int x1), (2, .int x2), (3, .int x3)]) RX12 (by decide) rfl rfl (Nat.le_of_ble_eq_true rfl) ?_
  intro p e s m args below meth c hX hr _
  unfold F_X12_againstSale
  refine g_aload_n 1 0 hX dX12_againstSale_0 rfl rfl ?_
  refine g_iload_n 2 1 hX dX12_againstSale_1 rfl rfl ?_
  refine g_callV_ip 5 hX (k_X12_isSeated l g N M a0 x1) lk_X12_isSeated rfl (ci := 12) rfl (Nat.le_of_ble_eq_true rfl) q_1911 q_64 (by omega) rfl (Nat.le_of_ble_eq_true rfl) (Nat.zero_le _) (Nat.zero_le _) dX12_againstSale_2 rfl (fun r1 => ?_)
  refine g_if_eq 16 8 hX dX12_againstSale_5 (by decide) rfl (fun _ => ?_) (fun _ => ?_)
  · refine g_iconst 17 hX 5 dX12_againstSale_16 rfl kc_i_5 ?_
    exact g_iret hX hr rfl (Nat.le_refl 0) (Nat.le_refl 0) dX12_againstSale_17
  · refine g_aload_n 9 0 hX dX12_againstSale_8 rfl rfl ?_
    refine g_iload_n 10 2 hX dX12_againstSale_9 rfl rfl ?_
    refine g_callV_ip 13 hX (k_X12_isSeated l g N M a0 x2) lk_X12_isSeated rfl (ci := 12) rfl (Nat.le_of_ble_eq_true rfl) q_1911 q_64 (by omega) rfl (Nat.le_of_ble_eq_true rfl) (Nat.zero_le _) (Nat.zero_le _) dX12_againstSale_10 rfl (fun r2 => ?_)
    refine g_if_ne 18 16 hX dX12_againstSale_13 (by decide) rfl (fun _ => ?_) (fun _ => ?_)
    · refine g_aload_n 19 0 hX dX12_againstSale_18 rfl rfl ?_
      refine g_iload_n 20 1 hX dX12_againstSale_19 rfl rfl ?_
      refine g_iconst 21 hX 5 dX12_againstSale_20 rfl kc_i_5 ?_
      refine g_callV_ip 24 hX (k_X12_has l g N M a0 x1 5) lk_X12_has rfl (ci := 12) rfl (Nat.le_of_ble_eq_true rfl) q_1689 q_42 (by omega) rfl (Nat.le_of_ble_eq_true rfl) (Nat.zero_le _) (Nat.zero_le _) dX12_againstSale_21 rfl (fun r3 => ?_)
      refine g_aload_n 25 0 hX dX12_againstSale_24 rfl rfl ?_
      refine g_iload_n 26 2 hX dX12_againstSale_25 rfl rfl ?_
      refine g_iconst 27 hX 5 dX12_againstSale_26 rfl kc_i_5 ?_
      refine g_callV_ip 30 hX (k_X12_has l g N M a0 x2 5) lk_X12_has rfl (ci := 12) rfl (Nat.le_of_ble_eq_true rfl) q_1689 q_42 (by omega) rfl (Nat.le_of_ble_eq_true rfl) (Nat.zero_le _) (Nat.zero_le _) dX12_againstSale_27 rfl (fun r4 => ?_)
      refine g_icmp_eq 36 33 hX dX12_againstSale_30 (by decide) rfl (fun _ => ?_) (fun _ => ?_)
      · refine g_aload_n 37 0 hX dX12_againstSale_36 rfl rfl ?_
        refine g_iload_n 38 1 hX dX12_againstSale_37 rfl rfl ?_
        refine g_iconst 39 hX 1 dX12_againstSale_38 rfl kc_i_1 ?_
        refine g_callV_ip 42 hX (k_X12_has l g N M a0 x1 1) lk_X12_has rfl (ci := 12) rfl (Nat.le_of_ble_eq_true rfl) q_1689 q_42 (by omega) rfl (Nat.le_of_ble_eq_true rfl) (Nat.zero_le _) (Nat.zero_le _) dX12_againstSale_39 rfl (fun r5 => ?_)
        refine g_iload_n 43 3 hX dX12_againstSale_42 rfl rfl ?_
        refine g_isub 44 hX dX12_againstSale_43 rfl ?_
        refine g_iconst 45 hX 1 dX12_againstSale_44 rfl kc_i_1 ?_
        refine g_icmp_lt 61 48 hX dX12_againstSale_45 (by decide) rfl (fun _ => ?_) (fun _ => ?_)
        · refine g_bipush 63 hX 7 dX12_againstSale_61 rfl kc_b_7 ?_
          exact g_iret hX hr rfl (Nat.le_refl 0) (Nat.le_refl 0) dX12_againstSale_63
        · refine g_aload_n 49 0 hX dX12_againstSale_48 rfl rfl ?_
          refine g_iload_n 50 2 hX dX12_againstSale_49 rfl rfl ?_
          refine g_iconst 51 hX 1 dX12_againstSale_50 rfl kc_i_1 ?_
          refine g_callV_ip 54 hX (k_X12_has l g N M a0 x2 1) lk_X12_has rfl (ci := 12) rfl (Nat.le_of_ble_eq_true rfl) q_1689 q_42 (by omega) rfl (Nat.le_of_ble_eq_true rfl) (Nat.zero_le _) (Nat.zero_le _) dX12_againstSale_51 rfl (fun r6 => ?_)
          refine g_iload_n 55 3 hX dX12_againstSale_54 rfl rfl ?_
          refine g_iadd 56 hX dX12_againstSale_55 rfl ?_
          refine g_bipush 58 hX 99 dX12_againstSale_56 rfl kc_b_99 ?_
          refine g_icmp_le 64 61 hX dX12_againstSale_58 (by decide) rfl (fun _ => ?_) (fun _ => ?_)
          · refine g_aload_n 65 0 hX dX12_againstSale_64 rfl rfl ?_
            refine g_iload_n 66 2 hX dX12_againstSale_65 rfl rfl ?_
            refine g_iconst 67 hX 2 dX12_againstSale_66 rfl kc_i_2 ?_
            refine g_callV_ip 70 hX (k_X12_has l g N M a0 x2 2) lk_X12_has rfl (ci := 12) rfl (Nat.le_of_ble_eq_true rfl) q_1689 q_42 (by omega) rfl (Nat.le_of_ble_eq_true rfl) (Nat.zero_le _) (Nat.zero_le _) dX12_againstSale_67 rfl (fun r7 => ?_)
            refine g_iload_n 71 3 hX dX12_againstSale_70 rfl rfl ?_
            refine g_aload_n 72 0 hX dX12_againstSale_71 rfl rfl ?_
            refine g_iload_n 73 1 hX dX12_againstSale_72 rfl rfl ?_
            refine g_iload_n 74 2 hX dX12_againstSale_73 rfl rfl ?_
            refine g_callV_ip 77 hX (k_X12_unitPrice l g N M a0 x1 x2) lk_X12_unitPrice rfl (ci := 12) rfl (Nat.le_of_ble_eq_true rfl) q_2066 q_97 (by omega) rfl (Nat.le_of_ble_eq_true rfl) (Nat.zero_le _) (Nat.zero_le _) dX12_againstSale_74 rfl (fun r8 => ?_)
            refine g_imul 78 hX dX12_againstSale_77 rfl ?_
            refine g_icmp_ge 83 81 hX dX12_againstSale_78 (by decide) rfl (fun _ => ?_) (fun _ => ?_)
            · refine g_aload_n 84 0 hX dX12_againstSale_83 rfl rfl ?_
              refine g_iload_n 85 1 hX dX12_againstSale_84 rfl rfl ?_
              refine g_iconst 86 hX 5 dX12_againstSale_85 rfl kc_i_5 ?_
              refine g_callV_ip 89 hX (k_X12_has l g N M a0 x1 5) lk_X12_has rfl (ci := 12) rfl (Nat.le_of_ble_eq_true rfl) q_1689 q_42 (by omega) rfl (Nat.le_of_ble_eq_true rfl) (Nat.zero_le _) (Nat.zero_le _) dX12_againstSale_86 rfl (fun r9 => ?_)
              refine g_istore 91 4 [(4, .int r9), (0, .ref a0), (1, .int x1), (2, .int x2), (3, .int x3)] hX dX12_againstSale_89 rfl (Nat.le_of_ble_eq_true rfl) rfl ?_
              refine g_aload_n 92 1 hX dX12_againstSale_91 rfl rfl ?_
              refine g_iload 94 0 hX dX12_againstSale_92 rfl rfl ?_
              refine g_aload_n 95 1 hX dX12_againstSale_94 rfl rfl ?_
              refine g_iload 97 0 hX dX12_againstSale_95 rfl rfl ?_
              refine g_callV_ip 100 hX (k_X12_torqueOf l g N M a0 r9) lk_X12_torqueOf rfl (ci := 12) rfl (Nat.le_of_ble_eq_true rfl) q_2015 q_85 (by omega) rfl (Nat.le_of_ble_eq_true rfl) (Nat.zero_le _) (Nat.zero_le _) dX12_againstSale_97 rfl (fun r10 => ?_)
              refine g_iload_n 101 4 hX dX12_againstSale_100 rfl rfl ?_
              refine g_aload_n 102 1 hX dX12_againstSale_101 rfl rfl ?_
              refine g_iload_n 103 3 hX dX12_againstSale_102 rfl rfl ?_
              refine g_bipush 105 hX 6 dX12_againstSale_103 rfl kc_b_6 ?_
              refine g_callV_ip 108 hX (k_X12_has l g N M a0 x2 6) lk_X12_has rfl (ci := 12) rfl (Nat.le_of_ble_eq_true rfl) q_1689 q_42 (by omega) rfl (Nat.le_of_ble_eq_true rfl) (Nat.zero_le _) (Nat.zero_le _) dX12_againstSale_105 rfl (fun r11 => ?_)
              refine g_aload_n 109 1 hX dX12_againstSale_108 rfl rfl ?_
              refine g_iload_n 110 2 hX dX12_againstSale_109 rfl rfl ?_
              refine g_bipush 112 hX 6 dX12_againstSale_110 rfl kc_b_6 ?_
              refine g_callV_ip 115 hX (k_X12_has l g N M a0 x1 6) lk_X12_has rfl (ci := 12) rfl (Nat.le_of_ble_eq_true rfl) q_1689 q_42 (by omega) rfl (Nat.le_of_ble_eq_true rfl) (Nat.zero_le _) (Nat.zero_le _) dX12_againstSale_112 rfl (fun r12 => ?_)
              refine g_isub 116 hX dX12_againstSale_115 rfl ?_
              refine g_imul 117 hX dX12_againstSale_116 rfl ?_
              refine g_iadd 118 hX dX12_againstSale_117 rfl ?_
              refine g_callV_ip 121 hX (k_X12_isTooMuch l g N M a0 r9 (r10 + (x3 * (r11 - r12)))) lk_X12_isTooMuch rfl (ci := 12) rfl (Nat.le_of_ble_eq_true rfl) q_2030 q_88 (by omega) rfl (Nat.le_of_ble_eq_true rfl) (Nat.zero_le _) (Nat.zero_le _) dX12_againstSale_118 rfl (fun r13 => ?_)
              refine g_if_eq 128 124 hX dX12_againstSale_121 (by decide) rfl (fun _ => ?_) (fun _ => ?_)
              · refine g_iconst 129 hX 0 dX12_againstSale_128 rfl kc_i_0 ?_
                exact g_iret hX hr rfl (Nat.le_refl 0) (Nat.le_refl 0) dX12_againstSale_129
              · refine g_iconst 125 hX 4 dX12_againstSale_124 rfl kc_i_4 ?_
                refine g_goto 129 hX dX12_againstSale_125 (by decide) ?_
                exact g_iret hX hr rfl (Nat.le_refl 0) (Nat.le_refl 0) dX12_againstSale_129
            · refine g_iconst 82 hX 3 dX12_againstSale_81 rfl kc_i_3 ?_
              exact g_iret hX hr rfl (Nat.le_refl 0) (Nat.le_refl 0) dX12_againstSale_82
          · refine g_bipush 63 hX 7 dX12_againstSale_61 rfl kc_b_7 ?_
            exact g_iret hX hr rfl (Nat.le_refl 0) (Nat.le_refl 0) dX12_againstSale_63
      · refine g_bipush 35 hX 6 dX12_againstSale_33 rfl kc_b_6 ?_
        exact g_iret hX hr rfl (Nat.le_refl 0) (Nat.le_refl 0) dX12_againstSale_35
    · refine g_iconst 17 hX 5 dX12_againstSale_16 rfl kc_i_5 ?_
      exact g_iret hX hr rfl (Nat.le_refl 0) (Nat.le_refl 0) dX12_againstSale_17
def F_X12_torqueSwapped (N : Nat) (M : kMem) (a0 : Nat) (x1 : Int32) (x2 : Int32) : Option (Int32) :=
    kg (kt M a0 12) <| (F_X12_has N M a0 x1 5).bind fun r1 =>
    kg (kt M a0 12) <| (F_X12_torqueOf N M a0 r1).bind fun r2 =>
    kg (kt M a0 12) <| (F_X12_has N M a0 x1 6).bind fun r3 =>
    kg (kt M a0 12) <| (F_X12_has N M a0 x2 1).bind fun r4 =>
    kg (kt M a0 12) <| (F_X12_has N M a0 x1 1).bind fun r5 =>
    kl (r2 + (r3 * (r4 - r5))) fun v6 =>
    kg (kt M a0 12) <| (F_X12_has N M a0 x1 5).bind fun r7 =>
    kg (kt M a0 12) <| (F_X12_has N M a0 x2 5).bind fun r8 =>
    if r7 = r8 then (
      kg (kt M a0 12) <| (F_X12_has N M a0 x2 6).bind fun r9 =>
      kg (kt M a0 12) <| (F_X12_has N M a0 x1 1).bind fun r10 =>
      kg (kt M a0 12) <| (F_X12_has N M a0 x2 1).bind fun r11 =>
      kl (v6 + (r9 * (r10 - r11))) fun v12 =>
      some v12) else
    some v6
set_option maxRecDepth 100000 in
set_option maxHeartbeats 4000000 in
theorem k_X12_torqueSwapped (l : Launch) (g : kG) (N : Nat) (M : kMem) (a0 : Nat) (x1 : Int32) (x2 : Int32) : kMet l g yX12_torqueSwapped cX12_torqueSwapped 4 (some .int) 5 0 0 [.ref a0, .int x1, .int x2] M (fun r : Int32 => (some (.int r), M)) (F_X12_torqueSwapped N M a0 x1 x2) := by
  refine k_of (lv := [(0, .ref a0), (1, .int x1), (2, .int x2)]) RX12 (by decide) rfl rfl (Nat.le_of_ble_eq_true rfl) ?_
  intro p e s m args below meth c hX hr _
  unfold F_X12_torqueSwapped
  refine g_aload_n 1 0 hX dX12_torqueSwapped_0 rfl rfl ?_
  refine g_aload_n 2 0 hX dX12_torqueSwapped_1 rfl rfl ?_
  refine g_iload_n 3 1 hX dX12_torqueSwapped_2 rfl rfl ?_
  refine g_iconst 4 hX 5 dX12_torqueSwapped_3 rfl kc_i_5 ?_
  refine g_callV_ip 7 hX (k_X12_has l g N M a0 x1 5) lk_X12_has rfl (ci := 12) rfl (Nat.le_of_ble_eq_true rfl) q_1689 q_42 (by omega) rfl (Nat.le_of_ble_eq_true rfl) (Nat.zero_le _) (Nat.zero_le _) dX12_torqueSwapped_4 rfl (fun r1 => ?_)
  refine g_callV_ip 10 hX (k_X12_torqueOf l g N M a0 r1) lk_X12_torqueOf rfl (ci := 12) rfl (Nat.le_of_ble_eq_true rfl) q_2015 q_85 (by omega) rfl (Nat.le_of_ble_eq_true rfl) (Nat.zero_le _) (Nat.zero_le _) dX12_torqueSwapped_7 rfl (fun r2 => ?_)
  refine g_aload_n 11 0 hX dX12_torqueSwapped_10 rfl rfl ?_
  refine g_iload_n 12 1 hX dX12_torqueSwapped_11 rfl rfl ?_
  refine g_bipush 14 hX 6 dX12_torqueSwapped_12 rfl kc_b_6 ?_
  refine g_callV_ip 17 hX (k_X12_has l g N M a0 x1 6) lk_X12_has rfl (ci := 12) rfl (Nat.le_of_ble_eq_true rfl) q_1689 q_42 (by omega) rfl (Nat.le_of_ble_eq_true rfl) (Nat.zero_le _) (Nat.zero_le _) dX12_torqueSwapped_14 rfl (fun r3 => ?_)
  refine g_aload_n 18 0 hX dX12_torqueSwapped_17 rfl rfl ?_
  refine g_iload_n 19 2 hX dX12_torqueSwapped_18 rfl rfl ?_
  refine g_iconst 20 hX 1 dX12_torqueSwapped_19 rfl kc_i_1 ?_
  refine g_callV_ip 23 hX (k_X12_has l g N M a0 x2 1) lk_X12_has rfl (ci := 12) rfl (Nat.le_of_ble_eq_true rfl) q_1689 q_42 (by omega) rfl (Nat.le_of_ble_eq_true rfl) (Nat.zero_le _) (Nat.zero_le _) dX12_torqueSwapped_20 rfl (fun r4 => ?_)
  refine g_aload_n 24 0 hX dX12_torqueSwapped_23 rfl rfl ?_
  refine g_iload_n 25 1 hX dX12_torqueSwapped_24 rfl rfl ?_
  refine g_iconst 26 hX 1 dX12_torqueSwapped_25 rfl kc_i_1 ?_
  refine g_callV_ip 29 hX (k_X12_has l g N M a0 x1 1) lk_X12_has rfl (ci := 12) rfl (Nat.le_of_ble_eq_true rfl) q_1689 q_42 (by omega) rfl (Nat.le_of_ble_eq_true rfl) (Nat.zero_le _) (Nat.zero_le _) dX12_torqueSwapped_26 rfl (fun r5 => ?_)
  refine g_isub 30 hX dX12_torqueSwapped_29 rfl ?_
  refine g_imul 31 hX dX12_torqueSwapped_30 rfl ?_
  refine g_iadd 32 hX dX12_torqueSwapped_31 rfl ?_
  refine g_klI (fun v6 hv6 => ?_)
  refine g_istore_n 33 3 [(3, .int v6), (0, .ref a0), (1, .int x1), (2, .int x2)] hX dX12_torqueSwapped_32 rfl rfl (Nat.le_of_ble_eq_true rfl) rfl ?_
  refine g_aload_n 34 1 hX dX12_torqueSwapped_33 rfl rfl ?_
  refine g_iload_n 35 2 hX dX12_torqueSwapped_34 rfl rfl ?_
  refine g_iconst 36 hX 5 dX12_torqueSwapped_35 rfl kc_i_5 ?_
  refine g_callV_ip 39 hX (k_X12_has l g N M a0 x1 5) lk_X12_has rfl (ci := 12) rfl (Nat.le_of_ble_eq_true rfl) q_1689 q_42 (by omega) rfl (Nat.le_of_ble_eq_true rfl) (Nat.zero_le _) (Nat.zero_le _) dX12_torqueSwapped_36 rfl (fun r7 => ?_)
  refine g_aload_n 40 1 hX dX12_torqueSwapped_39 rfl rfl ?_
  refine g_iload_n 41 3 hX dX12_torqueSwapped_40 rfl rfl ?_
  refine g_iconst 42 hX 5 dX12_torqueSwapped_41 rfl kc_i_5 ?_
  refine g_callV_ip 45 hX (k_X12_has l g N M a0 x2 5) lk_X12_has rfl (ci := 12) rfl (Nat.le_of_ble_eq_true rfl) q_1689 q_42 (by omega) rfl (Nat.le_of_ble_eq_true rfl) (Nat.zero_le _) (Nat.zero_le _) dX12_torqueSwapped_42 rfl (fun r8 => ?_)
  refine g_icmp_ne 72 48 hX dX12_torqueSwapped_45 (by decide) rfl (fun _ => ?_) (fun _ => ?_)
  · refine g_iload_n 73 0 hX dX12_torqueSwapped_72 rfl rfl ?_
    exact g_iret hX hr rfl (Nat.le_refl 0) (Nat.le_refl 0) dX12_torqueSwapped_73
  · refine g_iload_n 49 0 hX dX12_torqueSwapped_48 rfl rfl ?_
    refine g_aload_n 50 1 hX dX12_torqueSwapped_49 rfl rfl ?_
    refine g_iload_n 51 3 hX dX12_torqueSwapped_50 rfl rfl ?_
    refine g_bipush 53 hX 6 dX12_torqueSwapped_51 rfl kc_b_6 ?_
    refine g_callV_ip 56 hX (k_X12_has l g N M a0 x2 6) lk_X12_has rfl (ci := 12) rfl (Nat.le_of_ble_eq_true rfl) q_1689 q_42 (by omega) rfl (Nat.le_of_ble_eq_true rfl) (Nat.zero_le _) (Nat.zero_le _) dX12_torqueSwapped_53 rfl (fun r9 => ?_)
    refine g_aload_n 57 1 hX dX12_torqueSwapped_56 rfl rfl ?_
    refine g_iload_n 58 2 hX dX12_torqueSwapped_57 rfl rfl ?_
    refine g_iconst 59 hX 1 dX12_torqueSwapped_58 rfl kc_i_1 ?_
    refine g_callV_ip 62 hX (k_X12_has l g N M a0 x1 1) lk_X12_has rfl (ci := 12) rfl (Nat.le_of_ble_eq_true rfl) q_1689 q_42 (by omega) rfl (Nat.le_of_ble_eq_true rfl) (Nat.zero_le _) (Nat.zero_le _) dX12_torqueSwapped_59 rfl (fun r10 => ?_)
    refine g_aload_n 63 1 hX dX12_torqueSwapped_62 rfl rfl ?_
    refine g_iload_n 64 3 hX dX12_torqueSwapped_63 rfl rfl ?_
    refine g_iconst 65 hX 1 dX12_torqueSwapped_64 rfl kc_i_1 ?_
    refine g_callV_ip 68 hX (k_X12_has l g N M a0 x2 1) lk_X12_has rfl (ci := 12) rfl (Nat.le_of_ble_eq_true rfl) q_1689 q_42 (by omega) rfl (Nat.le_of_ble_eq_true rfl) (Nat.zero_le _) (Nat.zero_le _) dX12_torqueSwapped_65 rfl (fun r11 => ?_)
    refine g_isub 69 hX dX12_torqueSwapped_68 rfl ?_
    refine g_imul 70 hX dX12_torqueSwapped_69 rfl ?_
    refine g_iadd 71 hX dX12_torqueSwapped_70 rfl ?_
    refine g_klI (fun v12 hv12 => ?_)
    refine g_istore_n 72 3 [(3, .int v12), (0, .ref a0), (1, .int x1), (2, .int x2)] hX dX12_torqueSwapped_71 rfl rfl (Nat.le_of_ble_eq_true rfl) rfl ?_
    refine g_iload_n 73 0 hX dX12_torqueSwapped_72 rfl rfl ?_
    exact g_iret hX hr rfl (Nat.le_refl 0) (Nat.le_refl 0) dX12_torqueSwapped_73
def F_X12_againstSwap_40 (N : Nat) (M : kMem) (a0 : Nat) (x1 : Int32) (x2 : Int32) (x3 : Int32) (y0 : Nat) (y1 : Int32) : Option (Int32) :=
    kg (kt M y0 12) <| (F_X12_has N M y0 y1 2).bind fun r6 =>
    (F_X12_bare N M x3).bind fun r7 =>
    if r6 < r7 then (
      some 3) else
    kg (kt M a0 12) <| (F_X12_has N M a0 x1 5).bind fun r8 =>
    kg (kt M a0 12) <| (F_X12_torqueSwapped N M a0 x1 x2).bind fun r9 =>
    kg (kt M a0 12) <| (F_X12_isTooMuch N M a0 r8 r9).bind fun r10 =>
    if r10 = 0 then (
      kg (kt M a0 12) <| (F_X12_has N M a0 x2 5).bind fun r11 =>
      kg (kt M a0 12) <| (F_X12_torqueSwapped N M a0 x2 x1).bind fun r12 =>
      kg (kt M a0 12) <| (F_X12_isTooMuch N M a0 r11 r12).bind fun r13 =>
      if r13 = 0 then (
        if (0 : Int32) = 0 then (
          some 0) else
        some 4) else
      if (1 : Int32) = 0 then (
        some 0) else
      some 4) else
    if (1 : Int32) = 0 then (
      some 0) else
    some 4
def F_X12_againstSwap (N : Nat) (M : kMem) (a0 : Nat) (x1 : Int32) (x2 : Int32) : Option (Int32) :=
    kg (kt M a0 12) <| (F_X12_isSeated N M a0 x1).bind fun r1 =>
    if r1 = 0 then (
      some 5) else
    kg (kt M a0 12) <| (F_X12_isSeated N M a0 x2).bind fun r2 =>
    if r2 = 0 then (
      some 5) else
    kg (kt M a0 12) <| (F_X12_ownHeight N M a0 x2).bind fun r3 =>
    kg (kt M a0 12) <| (F_X12_ownHeight N M a0 x1).bind fun r4 =>
    kl (r3 - r4) fun v5 =>
    if (0 : Int32) < v5 then (
      F_X12_againstSwap_40 N M a0 x1 x2 v5 a0 x1) else
    F_X12_againstSwap_40 N M a0 x1 x2 v5 a0 x2
set_option maxRecDepth 100000 in
set_option maxHeartbeats 4000000 in
theorem k_X12_againstSwap_40 {p : Program} {l : Launch} {e : Env} {s : State} {m : MethodId} {args : Array Value} {below : List Frame} {meth : Method} {c : Code} {g : kG} (hX : Cok (p, l, e, { frames := 2 * 7, cells := 0, slots := 0, locals := 60 * 7 }, s, m, args, below, meth, c, cX12_againstSwap, 5, RX12, g, 7)) (hr : meth.sig.returnType = (some .int)) (N : Nat) (M : kMem) : ∀ (a0 : Nat) (x1 : Int32) (x2 : Int32) (x3 : Int32) (y0 : Nat) (y1 : Int32), GG (p, l, e, { frames := 2 * 7, cells := 0, slots := 0, locals := 60 * 7 }, s, m, args, below, meth, c, cX12_againstSwap, 5, RX12, g, 7) (fun b => MQ below (kQ g ((fun r : Int32 => (some (.int r), M)) b)) args s 0 0 (kZ g.2.2.1)) 0 0 (F_X12_againstSwap_40 N M a0 x1 x2 x3 y0 y1) 40 [(0, .ref a0), (1, .int x1), (2, .int x2), (3, .int x3)] [.int y1, .ref y0] M := by
  intro a0 x1 x2 x3 y0 y1
  unfold F_X12_againstSwap_40
  refine g_iconst 41 hX 2 dX12_againstSwap_40 rfl kc_i_2 ?_
  refine g_callV_ip 44 hX (k_X12_has l g N M y0 y1 2) lk_X12_has rfl (ci := 12) rfl (Nat.le_of_ble_eq_true rfl) q_1689 q_42 (by omega) rfl (Nat.le_of_ble_eq_true rfl) (Nat.zero_le _) (Nat.zero_le _) dX12_againstSwap_41 rfl (fun r6 => ?_)
  refine g_iload_n 45 3 hX dX12_againstSwap_44 rfl rfl ?_
  refine g_callS_ip 48 hX (k_X12_bare l g N M x3) lk_X12_bare q_2008 (by omega) rfl (Nat.le_of_ble_eq_true rfl) (Nat.zero_le _) (Nat.zero_le _) dX12_againstSwap_45 rfl (fun r7 => ?_)
  refine g_icmp_ge 53 51 hX dX12_againstSwap_48 (by decide) rfl (fun _ => ?_) (fun _ => ?_)
  · refine g_aload_n 54 0 hX dX12_againstSwap_53 rfl rfl ?_
    refine g_aload_n 55 0 hX dX12_againstSwap_54 rfl rfl ?_
    refine g_iload_n 56 1 hX dX12_againstSwap_55 rfl rfl ?_
    refine g_iconst 57 hX 5 dX12_againstSwap_56 rfl kc_i_5 ?_
    refine g_callV_ip 60 hX (k_X12_has l g N M a0 x1 5) lk_X12_has rfl (ci := 12) rfl (Nat.le_of_ble_eq_true rfl) q_1689 q_42 (by omega) rfl (Nat.le_of_ble_eq_true rfl) (Nat.zero_le _) (Nat.zero_le _) dX12_againstSwap_57 rfl (fun r8 => ?_)
    refine g_aload_n 61 0 hX dX12_againstSwap_60 rfl rfl ?_
    refine g_iload_n 62 1 hX dX12_againstSwap_61 rfl rfl ?_
    refine g_iload_n 63 2 hX dX12_againstSwap_62 rfl rfl ?_
    refine g_callV_ip 66 hX (k_X12_torqueSwapped l g N M a0 x1 x2) lk_X12_torqueSwapped rfl (ci := 12) rfl (Nat.le_of_ble_eq_true rfl) q_2078 q_100 (by omega) rfl (Nat.le_of_ble_eq_true rfl) (Nat.zero_le _) (Nat.zero_le _) dX12_againstSwap_63 rfl (fun r9 => ?_)
    refine g_callV_ip 69 hX (k_X12_isTooMuch l g N M a0 r8 r9) lk_X12_isTooMuch rfl (ci := 12) rfl (Nat.le_of_ble_eq_true rfl) q_2030 q_88 (by omega) rfl (Nat.le_of_ble_eq_true rfl) (Nat.zero_le _) (Nat.zero_le _) dX12_againstSwap_66 rfl (fun r10 => ?_)
    refine g_if_ne 91 72 hX dX12_againstSwap_69 (by decide) rfl (fun _ => ?_) (fun _ => ?_)
    · refine g_iconst 92 hX 1 dX12_againstSwap_91 rfl kc_i_1 ?_
      refine g_goto 96 hX dX12_againstSwap_92 (by decide) ?_
      refine g_istore 98 4 [(4, .int 1), (0, .ref a0), (1, .int x1), (2, .int x2), (3, .int x3)] hX dX12_againstSwap_96 rfl (Nat.le_of_ble_eq_true rfl) rfl ?_
      refine g_iload 100 0 hX dX12_againstSwap_98 rfl rfl ?_
      refine g_if_eq 107 103 hX dX12_againstSwap_100 (by decide) rfl (fun _ => ?_) (fun _ => ?_)
      · refine g_iconst 108 hX 0 dX12_againstSwap_107 rfl kc_i_0 ?_
        exact g_iret hX hr rfl (Nat.le_refl 0) (Nat.le_refl 0) dX12_againstSwap_108
      · refine g_iconst 104 hX 4 dX12_againstSwap_103 rfl kc_i_4 ?_
        refine g_goto 108 hX dX12_againstSwap_104 (by decide) ?_
        exact g_iret hX hr rfl (Nat.le_refl 0) (Nat.le_refl 0) dX12_againstSwap_108
    · refine g_aload_n 73 0 hX dX12_againstSwap_72 rfl rfl ?_
      refine g_aload_n 74 0 hX dX12_againstSwap_73 rfl rfl ?_
      refine g_iload_n 75 2 hX dX12_againstSwap_74 rfl rfl ?_
      refine g_iconst 76 hX 5 dX12_againstSwap_75 rfl kc_i_5 ?_
      refine g_callV_ip 79 hX (k_X12_has l g N M a0 x2 5) lk_X12_has rfl (ci := 12) rfl (Nat.le_of_ble_eq_true rfl) q_1689 q_42 (by omega) rfl (Nat.le_of_ble_eq_true rfl) (Nat.zero_le _) (Nat.zero_le _) dX12_againstSwap_76 rfl (fun r11 => ?_)
      refine g_aload_n 80 0 hX dX12_againstSwap_79 rfl rfl ?_
      refine g_iload_n 81 2 hX dX12_againstSwap_80 rfl rfl ?_
      refine g_iload_n 82 1 hX dX12_againstSwap_81 rfl rfl ?_
      refine g_callV_ip 85 hX (k_X12_torqueSwapped l g N M a0 x2 x1) lk_X12_torqueSwapped rfl (ci := 12) rfl (Nat.le_of_ble_eq_true rfl) q_2078 q_100 (by omega) rfl (Nat.le_of_ble_eq_true rfl) (Nat.zero_le _) (Nat.zero_le _) dX12_againstSwap_82 rfl (fun r12 => ?_)
      refine g_callV_ip 88 hX (k_X12_isTooMuch l g N M a0 r11 r12) lk_X12_isTooMuch rfl (ci := 12) rfl (Nat.le_of_ble_eq_true rfl) q_2030 q_88 (by omega) rfl (Nat.le_of_ble_eq_true rfl) (Nat.zero_le _) (Nat.zero_le _) dX12_againstSwap_85 rfl (fun r13 => ?_)
      refine g_if_eq 95 91 hX dX12_againstSwap_88 (by decide) rfl (fun _ => ?_) (fun _ => ?_)
      · refine g_iconst 96 hX 0 dX12_againstSwap_95 rfl kc_i_0 ?_
        refine g_istore 98 4 [(4, .int 0), (0, .ref a0), (1, .int x1), (2, .int x2), (3, .int x3)] hX dX12_againstSwap_96 rfl (Nat.le_of_ble_eq_true rfl) rfl ?_
        refine g_iload 100 0 hX dX12_againstSwap_98 rfl rfl ?_
        refine g_if_eq 107 103 hX dX12_againstSwap_100 (by decide) rfl (fun _ => ?_) (fun _ => ?_)
        · refine g_iconst 108 hX 0 dX12_againstSwap_107 rfl kc_i_0 ?_
          exact g_iret hX hr rfl (Nat.le_refl 0) (Nat.le_refl 0) dX12_againstSwap_108
        · refine g_iconst 104 hX 4 dX12_againstSwap_103 rfl kc_i_4 ?_
          refine g_goto 108 hX dX12_againstSwap_104 (by decide) ?_
          exact g_iret hX hr rfl (Nat.le_refl 0) (Nat.le_refl 0) dX12_againstSwap_108
      · refine g_iconst 92 hX 1 dX12_againstSwap_91 rfl kc_i_1 ?_
        refine g_goto 96 hX dX12_againstSwap_92 (by decide) ?_
        refine g_istore 98 4 [(4, .int 1), (0, .ref a0), (1, .int x1), (2, .int x2), (3, .int x3)] hX dX12_againstSwap_96 rfl (Nat.le_of_ble_eq_true rfl) rfl ?_
        refine g_iload 100 0 hX dX12_againstSwap_98 rfl rfl ?_
        refine g_if_eq 107 103 hX dX12_againstSwap_100 (by decide) rfl (fun _ => ?_) (fun _ => ?_)
        · refine g_iconst 108 hX 0 dX12_againstSwap_107 rfl kc_i_0 ?_
          exact g_iret hX hr rfl (Nat.le_refl 0) (Nat.le_refl 0) dX12_againstSwap_108
        · refine g_iconst 104 hX 4 dX12_againstSwap_103 rfl kc_i_4 ?_
          refine g_goto 108 hX dX12_againstSwap_104 (by decide) ?_
          exact g_iret hX hr rfl (Nat.le_refl 0) (Nat.le_refl 0) dX12_againstSwap_108
  · refine g_iconst 52 hX 3 dX12_againstSwap_51 rfl kc_i_3 ?_
    exact g_iret hX hr rfl (Nat.le_refl 0) (Nat.le_refl 0) dX12_againstSwap_52
set_option maxRecDepth 100000 in
set_option maxHeartbeats 4000000 in
theorem k_X12_againstSwap (l : Launch) (g : kG) (N : Nat) (M : kMem) (a0 : Nat) (x1 : Int32) (x2 : Int32) : kMet l g yX12_againstSwap cX12_againstSwap 5 (some .int) 7 0 0 [.ref a0, .int x1, .int x2] M (fun r : Int32 => (some (.int r), M)) (F_X12_againstSwap N M a0 x1 x2) := by
  refine k_of (lv := [(0, .ref a0), (1, .int x1), (2, .int x2)]) RX12 (by decide) rfl rfl (Nat.le_of_ble_eq_true rfl) ?_
  intro p e s m args below meth c hX hr _
  unfold F_X12_againstSwap
  refine g_aload_n 1 0 hX dX12_againstSwap_0 rfl rfl ?_
  refine g_iload_n 2 1 hX dX12_againstSwap_1 rfl rfl ?_
  refine g_callV_ip 5 hX (k_X12_isSeated l g N M a0 x1) lk_X12_isSeated rfl (ci := 12) rfl (Nat.le_of_ble_eq_true rfl) q_1911 q_64 (by omega) rfl (Nat.le_of_ble_eq_true rfl) (Nat.zero_le _) (Nat.zero_le _) dX12_againstSwap_2 rfl (fun r1 => ?_)
  refine g_if_eq 16 8 hX dX12_againstSwap_5 (by decide) rfl (fun _ => ?_) (fun _ => ?_)
  · refine g_iconst 17 hX 5 dX12_againstSwap_16 rfl kc_i_5 ?_
    exact g_iret hX hr rfl (Nat.le_refl 0) (Nat.le_refl 0) dX12_againstSwap_17
  · refine g_aload_n 9 0 hX dX12_againstSwap_8 rfl rfl ?_
    refine g_iload_n 10 2 hX dX12_againstSwap_9 rfl rfl ?_
    refine g_callV_ip 13 hX (k_X12_isSeated l g N M a0 x2) lk_X12_isSeated rfl (ci := 12) rfl (Nat.le_of_ble_eq_true rfl) q_1911 q_64 (by omega) rfl (Nat.le_of_ble_eq_true rfl) (Nat.zero_le _) (Nat.zero_le _) dX12_againstSwap_10 rfl (fun r2 => ?_)
    refine g_if_ne 18 16 hX dX12_againstSwap_13 (by decide) rfl (fun _ => ?_) (fun _ => ?_)
    · refine g_aload_n 19 0 hX dX12_againstSwap_18 rfl rfl ?_
      refine g_iload_n 20 2 hX dX12_againstSwap_19 rfl rfl ?_
      refine g_callV_ip 23 hX (k_X12_ownHeight l g N M a0 x2) lk_X12_ownHeight rfl (ci := 12) rfl (Nat.le_of_ble_eq_true rfl) q_2070 q_98 (by omega) rfl (Nat.le_of_ble_eq_true rfl) (Nat.zero_le _) (Nat.zero_le _) dX12_againstSwap_20 rfl (fun r3 => ?_)
      refine g_aload_n 24 0 hX dX12_againstSwap_23 rfl rfl ?_
      refine g_iload_n 25 1 hX dX12_againstSwap_24 rfl rfl ?_
      refine g_callV_ip 28 hX (k_X12_ownHeight l g N M a0 x1) lk_X12_ownHeight rfl (ci := 12) rfl (Nat.le_of_ble_eq_true rfl) q_2070 q_98 (by omega) rfl (Nat.le_of_ble_eq_true rfl) (Nat.zero_le _) (Nat.zero_le _) dX12_againstSwap_25 rfl (fun r4 => ?_)
      refine g_isub 29 hX dX12_againstSwap_28 rfl ?_
      refine g_klI (fun v5 hv5 => ?_)
      refine g_istore_n 30 3 [(3, .int v5), (0, .ref a0), (1, .int x1), (2, .int x2)] hX dX12_againstSwap_29 rfl rfl (Nat.le_of_ble_eq_true rfl) rfl ?_
      refine g_aload_n 31 1 hX dX12_againstSwap_30 rfl rfl ?_
      refine g_iload_n 32 0 hX dX12_againstSwap_31 rfl rfl ?_
      refine g_if_le 39 35 hX dX12_againstSwap_32 (by decide) rfl (fun _ => ?_) (fun _ => ?_)
      · refine g_iload_n 40 3 hX dX12_againstSwap_39 rfl rfl ?_
        refine g_lv [1, 2, 3, 0] rfl ?_
        exact k_X12_againstSwap_40 hX hr N M a0 x1 x2 v5 a0 x2
      · refine g_iload_n 36 2 hX dX12_againstSwap_35 rfl rfl ?_
        refine g_goto 40 hX dX12_againstSwap_36 (by decide) ?_
        refine g_lv [1, 2, 3, 0] rfl ?_
        exact k_X12_againstSwap_40 hX hr N M a0 x1 x2 v5 a0 x1
    · refine g_iconst 17 hX 5 dX12_againstSwap_16 rfl kc_i_5 ?_
      exact g_iret hX hr rfl (Nat.le_refl 0) (Nat.le_refl 0) dX12_againstSwap_17
def F_X12_buys (N : Nat) (M : kMem) (a0 : Nat) (x1 : Int32) (x2 : Int32) (x3 : Int32) : Option (Int32 × kMem) :=
    kg (kt M a0 12) <| (F_X12_price N M a0 x2 x3).bind fun r1 =>
    (F_X12_atTrader N M x1 2).bind fun r2 =>
    kg (kt M a0 12) <| (F_X12_moves N M a0 r2 5 r1).bind fun M3 =>
    kg (kt M3 a0 12) <| (F_X12_rises N M3 a0 x1).bind fun M4 =>
    kg (kt M4 a0 12) <| (F_X12_sits N M4 a0 x1 x2 x3).bind fun M5 =>
    kg (kt M5 a0 12) <|
    kg (kin M5 (kR M5 a0 0) 13 10) <|
    kg (kin M5 (kR M5 a0 0) 13 10) <| kl (ksI M5 (kR M5 a0 0) (kx 10) ((kI M5 (kR M5 a0 0) (kx 10)) + 1)) fun M6 =>
    some (r1, M6)
set_option maxRecDepth 100000 in
set_option maxHeartbeats 4000000 in
theorem k_X12_buys (l : Launch) (g : kG) (N : Nat) (M : kMem) (a0 : Nat) (x1 : Int32) (x2 : Int32) (x3 : Int32) : kMet l g yX12_buys cX12_buys 5 (some .int) 7 0 0 [.ref a0, .int x1, .int x2, .int x3] M (fun r : Int32 × kMem => (some (.int r.1), r.2)) (F_X12_buys N M a0 x1 x2 x3) := by
  refine k_of (lv := [(0, .ref a0), (1, .int x1), (2, .int x2), (3, .int x3)]) RX12 (by decide) rfl rfl (Nat.le_of_ble_eq_true rfl) ?_
  intro p e s m args below meth c hX hr _
  unfold F_X12_buys
  refine g_aload_n 1 0 hX dX12_buys_0 rfl rfl ?_
  refine g_iload_n 2 2 hX dX12_buys_1 rfl rfl ?_
  refine g_iload_n 3 3 hX dX12_buys_2 rfl rfl ?_
  refine g_callV_ip 6 hX (k_X12_price l g N M a0 x2 x3) lk_X12_price rfl (ci := 12) rfl (Nat.le_of_ble_eq_true rfl) q_2004 q_83 (by omega) rfl (Nat.le_of_ble_eq_true rfl) (Nat.zero_le _) (Nat.zero_le _) dX12_buys_3 rfl (fun r1 => ?_)
  refine g_istore 8 4 [(4, .int r1), (0, .ref a0), (1, .int x1), (2, .int x2), (3, .int x3)] hX dX12_buys_6 rfl (Nat.le_of_ble_eq_true rfl) rfl ?_
  refine g_aload_n 9 1 hX dX12_buys_8 rfl rfl ?_
  refine g_iload_n 10 2 hX dX12_buys_9 rfl rfl ?_
  refine g_iconst 11 hX 2 dX12_buys_10 rfl kc_i_2 ?_
  refine g_callS_ip 14 hX (k_X12_atTrader l g N M x1 2) lk_X12_atTrader q_1675 (by omega) rfl (Nat.le_of_ble_eq_true rfl) (Nat.zero_le _) (Nat.zero_le _) dX12_buys_11 rfl (fun r2 => ?_)
  refine g_iconst 15 hX 5 dX12_buys_14 rfl kc_i_5 ?_
  refine g_iload 17 0 hX dX12_buys_15 rfl rfl ?_
  refine g_callV_v 20 hX (k_X12_moves l g N M a0 r2 5 r1) lk_X12_moves rfl (ci := 12) rfl (Nat.le_of_ble_eq_true rfl) q_2038 q_90 (by omega) rfl (Nat.le_of_ble_eq_true rfl) (Nat.zero_le _) (Nat.zero_le _) dX12_buys_17 rfl (fun M3 => ?_)
  refine g_aload_n 21 1 hX dX12_buys_20 rfl rfl ?_
  refine g_iload_n 22 2 hX dX12_buys_21 rfl rfl ?_
  refine g_callV_v 25 hX (k_X12_rises l g N M3 a0 x1) lk_X12_rises rfl (ci := 12) rfl (Nat.le_of_ble_eq_true rfl) q_2042 q_91 (by omega) rfl (Nat.le_of_ble_eq_true rfl) (Nat.zero_le _) (Nat.zero_le _) dX12_buys_22 rfl (fun M4 => ?_)
  refine g_aload_n 26 1 hX dX12_buys_25 rfl rfl ?_
  refine g_iload_n 27 2 hX dX12_buys_26 rfl rfl ?_
  refine g_iload_n 28 3 hX dX12_buys_27 rfl rfl ?_
  refine g_iload_n 29 4 hX dX12_buys_28 rfl rfl ?_
  refine g_callV_v 32 hX (k_X12_sits l g N M4 a0 x1 x2 x3) lk_X12_sits rfl (ci := 12) rfl (Nat.le_of_ble_eq_true rfl) q_1678 q_40 (by omega) rfl (Nat.le_of_ble_eq_true rfl) (Nat.zero_le _) (Nat.zero_le _) dX12_buys_29 rfl (fun M5 => ?_)
  refine g_aload_n 33 1 hX dX12_buys_32 rfl rfl ?_
  refine r_X12_7 36 hX dX12_buys_33 rfl ?_
  refine g_bipush 38 hX 10 dX12_buys_36 rfl kc_b_10 ?_
  refine g_dup2 39 hX dX12_buys_38 rfl rfl rfl ?_
  refine g_iald 40 hX dX12_buys_39 rfl ?_
  refine g_iconst 41 hX 1 dX12_buys_40 rfl kc_i_1 ?_
  refine g_iadd 42 hX dX12_buys_41 rfl ?_
  refine g_iast 43 hX dX12_buys_42 rfl ?_
  refine g_klM (fun M6 hM6 => ?_)
  refine g_iload 45 0 hX dX12_buys_43 rfl rfl ?_
  exact g_iret hX hr rfl (Nat.le_refl 0) (Nat.le_refl 0) dX12_buys_45
def F_X12_sells (N : Nat) (M : kMem) (a0 : Nat) (x1 : Int32) (x2 : Int32) (x3 : Int32) : Option (Int32 × kMem) :=
    kg (kt M a0 12) <| (F_X12_unitPrice N M a0 x1 x2).bind fun r1 =>
    kl (x3 * r1) fun v2 =>
    (F_X12_atTrader N M x2 2).bind fun r3 =>
    (F_X12_atTrader N M x1 2).bind fun r4 =>
    kg (kt M a0 12) <| (F_X12_moves N M a0 r3 r4 v2).bind fun M5 =>
    kg (kt M5 a0 12) <|
    (F_X12_atTrader N M5 x1 1).bind fun r6 =>
    kg (kin M5 (kR M5 a0 0) 13 r6) <|
    kg (kin M5 (kR M5 a0 0) 13 r6) <| kl (ksI M5 (kR M5 a0 0) (kx r6) ((kI M5 (kR M5 a0 0) (kx r6)) - x3)) fun M7 =>
    kg (kt M7 a0 12) <|
    (F_X12_atTrader N M7 x2 1).bind fun r8 =>
    kg (kin M7 (kR M7 a0 0) 13 r8) <|
    kg (kin M7 (kR M7 a0 0) 13 r8) <| kl (ksI M7 (kR M7 a0 0) (kx r8) ((kI M7 (kR M7 a0 0) (kx r8)) + x3)) fun M9 =>
    kg (kt M9 a0 12) <|
    kg (kin M9 (kR M9 a0 0) 13 11) <|
    kg (kin M9 (kR M9 a0 0) 13 11) <| kl (ksI M9 (kR M9 a0 0) (kx 11) ((kI M9 (kR M9 a0 0) (kx 11)) + x3)) fun M10 =>
    some (v2, M10)
set_option maxRecDepth 100000 in
set_option maxHeartbeats 4000000 in
theorem k_X12_sells (l : Launch) (g : kG) (N : Nat) (M : kMem) (a0 : Nat) (x1 : Int32) (x2 : Int32) (x3 : Int32) : kMet l g yX12_sells cX12_sells 5 (some .int) 8 0 0 [.ref a0, .int x1, .int x2, .int x3] M (fun r : Int32 × kMem => (some (.int r.1), r.2)) (F_X12_sells N M a0 x1 x2 x3) := by
  refine k_of (lv := [(0, .ref a0), (1, .int x1), (2, .int x2), (3, .int x3)]) RX12 (by decide) rfl rfl (Nat.le_of_ble_eq_true rfl) ?_
  intro p e s m args below meth c hX hr _
  unfold F_X12_sells
  refine g_iload_n 1 3 hX dX12_sells_0 rfl rfl ?_
  refine g_aload_n 2 0 hX dX12_sells_1 rfl rfl ?_
  refine g_iload_n 3 1 hX dX12_sells_2 rfl rfl ?_
  refine g_iload_n 4 2 hX dX12_sells_3 rfl rfl ?_
  refine g_callV_ip 7 hX (k_X12_unitPrice l g N M a0 x1 x2) lk_X12_unitPrice rfl (ci := 12) rfl (Nat.le_of_ble_eq_true rfl) q_2066 q_97 (by omega) rfl (Nat.le_of_ble_eq_true rfl) (Nat.zero_le _) (Nat.zero_le _) dX12_sells_4 rfl (fun r1 => ?_)
  refine g_imul 8 hX dX12_sells_7 rfl ?_
  refine g_klI (fun v2 hv2 => ?_)
  refine g_istore 10 4 [(4, .int v2), (0, .ref a0), (1, .int x1), (2, .int x2), (3, .int x3)] hX dX12_sells_8 rfl (Nat.le_of_ble_eq_true rfl) rfl ?_
  refine g_aload_n 11 1 hX dX12_sells_10 rfl rfl ?_
  refine g_iload_n 12 3 hX dX12_sells_11 rfl rfl ?_
  refine g_iconst 13 hX 2 dX12_sells_12 rfl kc_i_2 ?_
  refine g_callS_ip 16 hX (k_X12_atTrader l g N M x2 2) lk_X12_atTrader q_1675 (by omega) rfl (Nat.le_of_ble_eq_true rfl) (Nat.zero_le _) (Nat.zero_le _) dX12_sells_13 rfl (fun r3 => ?_)
  refine g_iload_n 17 2 hX dX12_sells_16 rfl rfl ?_
  refine g_iconst 18 hX 2 dX12_sells_17 rfl kc_i_2 ?_
  refine g_callS_ip 21 hX (k_X12_atTrader l g N M x1 2) lk_X12_atTrader q_1675 (by omega) rfl (Nat.le_of_ble_eq_true rfl) (Nat.zero_le _) (Nat.zero_le _) dX12_sells_18 rfl (fun r4 => ?_)
  refine g_iload 23 0 hX dX12_sells_21 rfl rfl ?_
  refine g_callV_v 26 hX (k_X12_moves l g N M a0 r3 r4 v2) lk_X12_moves rfl (ci := 12) rfl (Nat.le_of_ble_eq_true rfl) q_2038 q_90 (by omega) rfl (Nat.le_of_ble_eq_true rfl) (Nat.zero_le _) (Nat.zero_le _) dX12_sells_23 rfl (fun M5 => ?_)
  refine g_aload_n 27 1 hX dX12_sells_26 rfl rfl ?_
  refine r_X12_7 30 hX dX12_sells_27 rfl ?_
  refine g_iload_n 31 2 hX dX12_sells_30 rfl rfl ?_
  refine g_iconst 32 hX 1 dX12_sells_31 rfl kc_i_1 ?_
  refine g_callS_ip 35 hX (k_X12_atTrader l g N M5 x1 1) lk_X12_atTrader q_1675 (by omega) rfl (Nat.le_of_ble_eq_true rfl) (Nat.zero_le _) (Nat.zero_le _) dX12_sells_32 rfl (fun r6 => ?_)
  refine g_dup2 36 hX dX12_sells_35 rfl rfl rfl ?_
  refine g_iald 37 hX dX12_sells_36 rfl ?_
  refine g_iload_n 38 4 hX dX12_sells_37 rfl rfl ?_
  refine g_isub 39 hX dX12_sells_38 rfl ?_
  refine g_iast 40 hX dX12_sells_39 rfl ?_
  refine g_klM (fun M7 hM7 => ?_)
  refine g_aload_n 41 1 hX dX12_sells_40 rfl rfl ?_
  refine r_X12_7 44 hX dX12_sells_41 rfl ?_
  refine g_iload_n 45 3 hX dX12_sells_44 rfl rfl ?_
  refine g_iconst 46 hX 1 dX12_sells_45 rfl kc_i_1 ?_
  refine g_callS_ip 49 hX (k_X12_atTrader l g N M7 x2 1) lk_X12_atTrader q_1675 (by omega) rfl (Nat.le_of_ble_eq_true rfl) (Nat.zero_le _) (Nat.zero_le _) dX12_sells_46 rfl (fun r8 => ?_)
  refine g_dup2 50 hX dX12_sells_49 rfl rfl rfl ?_
  refine g_iald 51 hX dX12_sells_50 rfl ?_
  refine g_iload_n 52 4 hX dX12_sells_51 rfl rfl ?_
  refine g_iadd 53 hX dX12_sells_52 rfl ?_
  refine g_iast 54 hX dX12_sells_53 rfl ?_
  refine g_klM (fun M9 hM9 => ?_)
  refine g_aload_n 55 1 hX dX12_sells_54 rfl rfl ?_
  refine r_X12_7 58 hX dX12_sells_55 rfl ?_
  refine g_bipush 60 hX 11 dX12_sells_58 rfl kc_b_11 ?_
  refine g_dup2 61 hX dX12_sells_60 rfl rfl rfl ?_
  refine g_iald 62 hX dX12_sells_61 rfl ?_
  refine g_iload_n 63 4 hX dX12_sells_62 rfl rfl ?_
  refine g_iadd 64 hX dX12_sells_63 rfl ?_
  refine g_iast 65 hX dX12_sells_64 rfl ?_
  refine g_klM (fun M10 hM10 => ?_)
  refine g_iload 67 0 hX dX12_sells_65 rfl rfl ?_
  exact g_iret hX hr rfl (Nat.le_refl 0) (Nat.le_refl 0) dX12_sells_67
def F_X12_swaps_35 (N : Nat) (M : kMem) (a0 : Nat) (x1 : Int32) (x2 : Int32) (x3 : Int32) (y0 : Nat) (y1 : Int32) (y2 : Int32) : Option (Int32 × kMem) :=
    (F_X12_atTrader N M y2 2).bind fun r5 =>
    (F_X12_bare N M x3).bind fun r6 =>
    kg (kt M y0 12) <| (F_X12_moves N M y0 y1 r5 r6).bind fun M7 =>
    kg (kt M7 a0 12) <| (F_X12_has N M7 a0 x1 5).bind fun r8 =>
    kg (kt M7 a0 12) <| (F_X12_has N M7 a0 x1 6).bind fun r9 =>
    kg (kt M7 a0 12) <| (F_X12_has N M7 a0 x2 5).bind fun r10 =>
    kg (kt M7 a0 12) <| (F_X12_has N M7 a0 x2 6).bind fun r11 =>
    kg (kt M7 a0 12) <| (F_X12_sits N M7 a0 x1 r10 r11).bind fun M12 =>
    kg (kt M12 a0 12) <| (F_X12_sits N M12 a0 x2 r8 r9).bind fun M13 =>
    some (x3, M13)
def F_X12_swaps_22 (N : Nat) (M : kMem) (a0 : Nat) (x1 : Int32) (x2 : Int32) (x3 : Int32) (y0 : Nat) (y1 : Int32) : Option (Int32 × kMem) :=
    (F_X12_atTrader N M y1 2).bind fun r4 =>
    if (0 : Int32) < x3 then (
      F_X12_swaps_35 N M a0 x1 x2 x3 y0 r4 x2) else
    F_X12_swaps_35 N M a0 x1 x2 x3 y0 r4 x1
def F_X12_swaps (N : Nat) (M : kMem) (a0 : Nat) (x1 : Int32) (x2 : Int32) : Option (Int32 × kMem) :=
    kg (kt M a0 12) <| (F_X12_ownHeight N M a0 x2).bind fun r1 =>
    kg (kt M a0 12) <| (F_X12_ownHeight N M a0 x1).bind fun r2 =>
    kl (r1 - r2) fun v3 =>
    if (0 : Int32) < v3 then (
      F_X12_swaps_22 N M a0 x1 x2 v3 a0 x1) else
    F_X12_swaps_22 N M a0 x1 x2 v3 a0 x2
set_option maxRecDepth 100000 in
set_option maxHeartbeats 4000000 in
theorem k_X12_swaps_35 {p : Program} {l : Launch} {e : Env} {s : State} {m : MethodId} {args : Array Value} {below : List Frame} {meth : Method} {c : Code} {g : kG} (hX : Cok (p, l, e, { frames := 2 * 7, cells := 0, slots := 0, locals := 60 * 7 }, s, m, args, below, meth, c, cX12_swaps, 6, RX12, g, 7)) (hr : meth.sig.returnType = (some .int)) (N : Nat) : ∀ (M : kMem) (a0 : Nat) (x1 : Int32) (x2 : Int32) (x3 : Int32) (y0 : Nat) (y1 : Int32) (y2 : Int32), GG (p, l, e, { frames := 2 * 7, cells := 0, slots := 0, locals := 60 * 7 }, s, m, args, below, meth, c, cX12_swaps, 6, RX12, g, 7) (fun b => MQ below (kQ g ((fun r : Int32 × kMem => (some (.int r.1), r.2)) b)) args s 0 0 (kZ g.2.2.1)) 0 0 (F_X12_swaps_35 N M a0 x1 x2 x3 y0 y1 y2) 35 [(0, .ref a0), (1, .int x1), (2, .int x2), (3, .int x3)] [.int y2, .int y1, .ref y0] M := by
  intro M a0 x1 x2 x3 y0 y1 y2
  unfold F_X12_swaps_35
  refine g_iconst 36 hX 2 dX12_swaps_35 rfl kc_i_2 ?_
  refine g_callS_ip 39 hX (k_X12_atTrader l g N M y2 2) lk_X12_atTrader q_1675 (by omega) rfl (Nat.le_of_ble_eq_true rfl) (Nat.zero_le _) (Nat.zero_le _) dX12_swaps_36 rfl (fun r5 => ?_)
  refine g_iload_n 40 3 hX dX12_swaps_39 rfl rfl ?_
  refine g_callS_ip 43 hX (k_X12_bare l g N M x3) lk_X12_bare q_2008 (by omega) rfl (Nat.le_of_ble_eq_true rfl) (Nat.zero_le _) (Nat.zero_le _) dX12_swaps_40 rfl (fun r6 => ?_)
  refine g_callV_v 46 hX (k_X12_moves l g N M y0 y1 r5 r6) lk_X12_moves rfl (ci := 12) rfl (Nat.le_of_ble_eq_true rfl) q_2038 q_90 (by omega) rfl (Nat.le_of_ble_eq_true rfl) (Nat.zero_le _) (Nat.zero_le _) dX12_swaps_43 rfl (fun M7 => ?_)
  refine g_aload_n 47 0 hX dX12_swaps_46 rfl rfl ?_
  refine g_iload_n 48 1 hX dX12_swaps_47 rfl rfl ?_
  refine g_iconst 49 hX 5 dX12_swaps_48 rfl kc_i_5 ?_
  refine g_callV_ip 52 hX (k_X12_has l g N M7 a0 x1 5) lk_X12_has rfl (ci := 12) rfl (Nat.le_of_ble_eq_true rfl) q_1689 q_42 (by omega) rfl (Nat.le_of_ble_eq_true rfl) (Nat.zero_le _) (Nat.zero_le _) dX12_swaps_49 rfl (fun r8 => ?_)
  refine g_istore 54 4 [(4, .int r8), (0, .ref a0), (1, .int x1), (2, .int x2), (3, .int x3)] hX dX12_swaps_52 rfl (Nat.le_of_ble_eq_true rfl) rfl ?_
  refine g_aload_n 55 1 hX dX12_swaps_54 rfl rfl ?_
  refine g_iload_n 56 2 hX dX12_swaps_55 rfl rfl ?_
  refine g_bipush 58 hX 6 dX12_swaps_56 rfl kc_b_6 ?_
  refine g_callV_ip 61 hX (k_X12_has l g N M7 a0 x1 6) lk_X12_has rfl (ci := 12) rfl (Nat.le_of_ble_eq_true rfl) q_1689 q_42 (by omega) rfl (Nat.le_of_ble_eq_true rfl) (Nat.zero_le _) (Nat.zero_le _) dX12_swaps_58 rfl (fun r9 => ?_)
  refine g_istore 63 5 [(5, .int r9), (4, .int r8), (0, .ref a0), (1, .int x1), (2, .int x2), (3, .int x3)] hX dX12_swaps_61 rfl (Nat.le_of_ble_eq_true rfl) rfl ?_
  refine g_aload_n 64 2 hX dX12_swaps_63 rfl rfl ?_
  refine g_iload_n 65 3 hX dX12_swaps_64 rfl rfl ?_
  refine g_aload_n 66 2 hX dX12_swaps_65 rfl rfl ?_
  refine g_iload_n 67 4 hX dX12_swaps_66 rfl rfl ?_
  refine g_iconst 68 hX 5 dX12_swaps_67 rfl kc_i_5 ?_
  refine g_callV_ip 71 hX (k_X12_has l g N M7 a0 x2 5) lk_X12_has rfl (ci := 12) rfl (Nat.le_of_ble_eq_true rfl) q_1689 q_42 (by omega) rfl (Nat.le_of_ble_eq_true rfl) (Nat.zero_le _) (Nat.zero_le _) dX12_swaps_68 rfl (fun r10 => ?_)
  refine g_aload_n 72 2 hX dX12_swaps_71 rfl rfl ?_
  refine g_iload_n 73 4 hX dX12_swaps_72 rfl rfl ?_
  refine g_bipush 75 hX 6 dX12_swaps_73 rfl kc_b_6 ?_
  refine g_callV_ip 78 hX (k_X12_has l g N M7 a0 x2 6) lk_X12_has rfl (ci := 12) rfl (Nat.le_of_ble_eq_true rfl) q_1689 q_42 (by omega) rfl (Nat.le_of_ble_eq_true rfl) (Nat.zero_le _) (Nat.zero_le _) dX12_swaps_75 rfl (fun r11 => ?_)
  refine g_callV_v 81 hX (k_X12_sits l g N M7 a0 x1 r10 r11) lk_X12_sits rfl (ci := 12) rfl (Nat.le_of_ble_eq_true rfl) q_1678 q_40 (by omega) rfl (Nat.le_of_ble_eq_true rfl) (Nat.zero_le _) (Nat.zero_le _) dX12_swaps_78 rfl (fun M12 => ?_)
  refine g_aload_n 82 2 hX dX12_swaps_81 rfl rfl ?_
  refine g_iload_n 83 4 hX dX12_swaps_82 rfl rfl ?_
  refine g_iload 85 1 hX dX12_swaps_83 rfl rfl ?_
  refine g_iload 87 0 hX dX12_swaps_85 rfl rfl ?_
  refine g_callV_v 90 hX (k_X12_sits l g N M12 a0 x2 r8 r9) lk_X12_sits rfl (ci := 12) rfl (Nat.le_of_ble_eq_true rfl) q_1678 q_40 (by omega) rfl (Nat.le_of_ble_eq_true rfl) (Nat.zero_le _) (Nat.zero_le _) dX12_swaps_87 rfl (fun M13 => ?_)
  refine g_iload_n 91 5 hX dX12_swaps_90 rfl rfl ?_
  exact g_iret hX hr rfl (Nat.le_refl 0) (Nat.le_refl 0) dX12_swaps_91
set_option maxRecDepth 100000 in
set_option maxHeartbeats 4000000 in
theorem k_X12_swaps_22 {p : Program} {l : Launch} {e : Env} {s : State} {m : MethodId} {args : Array Value} {below : List Frame} {meth : Method} {c : Code} {g : kG} (hX : Cok (p, l, e, { frames := 2 * 7, cells := 0, slots := 0, locals := 60 * 7 }, s, m, args, below, meth, c, cX12_swaps, 6, RX12, g, 7)) (hr : meth.sig.returnType = (some .int)) (N : Nat) : ∀ (M : kMem) (a0 : Nat) (x1 : Int32) (x2 : Int32) (x3 : Int32) (y0 : Nat) (y1 : Int32), GG (p, l, e, { frames := 2 * 7, cells := 0, slots := 0, locals := 60 * 7 }, s, m, args, below, meth, c, cX12_swaps, 6, RX12, g, 7) (fun b => MQ below (kQ g ((fun r : Int32 × kMem => (some (.int r.1), r.2)) b)) args s 0 0 (kZ g.2.2.1)) 0 0 (F_X12_swaps_22 N M a0 x1 x2 x3 y0 y1) 22 [(0, .ref a0), (1, .int x1), (2, .int x2), (3, .int x3)] [.int y1, .ref y0] M := by
  intro M a0 x1 x2 x3 y0 y1
  unfold F_X12_swaps_22
  refine g_iconst 23 hX 2 dX12_swaps_22 rfl kc_i_2 ?_
  refine g_callS_ip 26 hX (k_X12_atTrader l g N M y1 2) lk_X12_atTrader q_1675 (by omega) rfl (Nat.le_of_ble_eq_true rfl) (Nat.zero_le _) (Nat.zero_le _) dX12_swaps_23 rfl (fun r4 => ?_)
  refine g_iload_n 27 3 hX dX12_swaps_26 rfl rfl ?_
  refine g_if_le 34 30 hX dX12_swaps_27 (by decide) rfl (fun _ => ?_) (fun _ => ?_)
  · refine g_iload_n 35 1 hX dX12_swaps_34 rfl rfl ?_
    exact k_X12_swaps_35 hX hr N M a0 x1 x2 x3 y0 r4 x1
  · refine g_iload_n 31 2 hX dX12_swaps_30 rfl rfl ?_
    refine g_goto 35 hX dX12_swaps_31 (by decide) ?_
    exact k_X12_swaps_35 hX hr N M a0 x1 x2 x3 y0 r4 x2
set_option maxRecDepth 100000 in
set_option maxHeartbeats 4000000 in
theorem k_X12_swaps (l : Launch) (g : kG) (N : Nat) (M : kMem) (a0 : Nat) (x1 : Int32) (x2 : Int32) : kMet l g yX12_swaps cX12_swaps 6 (some .int) 7 0 0 [.ref a0, .int x1, .int x2] M (fun r : Int32 × kMem => (some (.int r.1), r.2)) (F_X12_swaps N M a0 x1 x2) := by
  refine k_of (lv := [(0, .ref a0), (1, .int x1), (2, .int x2)]) RX12 (by decide) rfl rfl (Nat.le_of_ble_eq_true rfl) ?_
  intro p e s m args below meth c hX hr _
  unfold F_X12_swaps
  refine g_aload_n 1 0 hX dX12_swaps_0 rfl rfl ?_
  refine g_iload_n 2 2 hX dX12_swaps_1 rfl rfl ?_
  refine g_callV_ip 5 hX (k_X12_ownHeight l g N M a0 x2) lk_X12_ownHeight rfl (ci := 12) rfl (Nat.le_of_ble_eq_true rfl) q_2070 q_98 (by omega) rfl (Nat.le_of_ble_eq_true rfl) (Nat.zero_le _) (Nat.zero_le _) dX12_swaps_2 rfl (fun r1 => ?_)
  refine g_aload_n 6 0 hX dX12_swaps_5 rfl rfl ?_
  refine g_iload_n 7 1 hX dX12_swaps_6 rfl rfl ?_
  refine g_callV_ip 10 hX (k_X12_ownHeight l g N M a0 x1) lk_X12_ownHeight rfl (ci := 12) rfl (Nat.le_of_ble_eq_true rfl) q_2070 q_98 (by omega) rfl (Nat.le_of_ble_eq_true rfl) (Nat.zero_le _) (Nat.zero_le _) dX12_swaps_7 rfl (fun r2 => ?_)
  refine g_isub 11 hX dX12_swaps_10 rfl ?_
  refine g_klI (fun v3 hv3 => ?_)
  refine g_istore_n 12 3 [(3, .int v3), (0, .ref a0), (1, .int x1), (2, .int x2)] hX dX12_swaps_11 rfl rfl (Nat.le_of_ble_eq_true rfl) rfl ?_
  refine g_aload_n 13 1 hX dX12_swaps_12 rfl rfl ?_
  refine g_iload_n 14 0 hX dX12_swaps_13 rfl rfl ?_
  refine g_if_le 21 17 hX dX12_swaps_14 (by decide) rfl (fun _ => ?_) (fun _ => ?_)
  · refine g_iload_n 22 3 hX dX12_swaps_21 rfl rfl ?_
    refine g_lv [1, 2, 3, 0] rfl ?_
    exact k_X12_swaps_22 hX hr N M a0 x1 x2 v3 a0 x2
  · refine g_iload_n 18 2 hX dX12_swaps_17 rfl rfl ?_
    refine g_goto 22 hX dX12_swaps_18 (by decide) ?_
    refine g_lv [1, 2, 3, 0] rfl ?_
    exact k_X12_swaps_22 hX hr N M a0 x1 x2 v3 a0 x1
def F_X12_joins (N : Nat) (M : kMem) (a0 : Nat) (x1 : Int32) (x2 : Int32) (x3 : Int32) : Option (Int32 × kMem) :=
    kg (kt M a0 12) <| (F_X12_appears N M a0 x1 x2 x3 0).bind fun M1 =>
    kg (kt M1 a0 12) <|
    kg (kin M1 (kR M1 a0 0) 13 9) <|
    kg (kin M1 (kR M1 a0 0) 13 9) <| kl (ksI M1 (kR M1 a0 0) (kx 9) ((kI M1 (kR M1 a0 0) (kx 9)) + x3)) fun M2 =>
    kg (kt M2 a0 12) <|
    kg (kin M2 (kR M2 a0 0) 13 8) <|
    some ((kI M2 (kR M2 a0 0) (kx 8)) - 1, M2)
set_option maxRecDepth 100000 in
set_option maxHeartbeats 4000000 in
theorem k_X12_joins (l : Launch) (g : kG) (N : Nat) (M : kMem) (a0 : Nat) (x1 : Int32) (x2 : Int32) (x3 : Int32) : kMet l g yX12_joins cX12_joins 4 (some .int) 3 0 0 [.ref a0, .int x1, .int x2, .int x3] M (fun r : Int32 × kMem => (some (.int r.1), r.2)) (F_X12_joins N M a0 x1 x2 x3) := by
  refine k_of (lv := [(0, .ref a0), (1, .int x1), (2, .int x2), (3, .int x3)]) RX12 (by decide) rfl rfl (Nat.le_of_ble_eq_true rfl) ?_
  intro p e s m args below meth c hX hr _
  unfold F_X12_joins
  refine g_aload_n 1 0 hX dX12_joins_0 rfl rfl ?_
  refine g_iload_n 2 1 hX dX12_joins_1 rfl rfl ?_
  refine g_iload_n 3 2 hX dX12_joins_2 rfl rfl ?_
  refine g_iload_n 4 3 hX dX12_joins_3 rfl rfl ?_
  refine g_iconst 5 hX 0 dX12_joins_4 rfl kc_i_0 ?_
  refine g_callV_v 8 hX (k_X12_appears l g N M a0 x1 x2 x3 0) lk_X12_appears rfl (ci := 12) rfl (Nat.le_of_ble_eq_true rfl) q_1671 q_39 (by omega) rfl (Nat.le_of_ble_eq_true rfl) (Nat.zero_le _) (Nat.zero_le _) dX12_joins_5 rfl (fun M1 => ?_)
  refine g_aload_n 9 0 hX dX12_joins_8 rfl rfl ?_
  refine r_X12_7 12 hX dX12_joins_9 rfl ?_
  refine g_bipush 14 hX 9 dX12_joins_12 rfl kc_b_9 ?_
  refine g_dup2 15 hX dX12_joins_14 rfl rfl rfl ?_
  refine g_iald 16 hX dX12_joins_15 rfl ?_
  refine g_iload_n 17 3 hX dX12_joins_16 rfl rfl ?_
  refine g_iadd 18 hX dX12_joins_17 rfl ?_
  refine g_iast 19 hX dX12_joins_18 rfl ?_
  refine g_klM (fun M2 hM2 => ?_)
  refine g_aload_n 20 0 hX dX12_joins_19 rfl rfl ?_
  refine r_X12_7 23 hX dX12_joins_20 rfl ?_
  refine g_bipush 25 hX 8 dX12_joins_23 rfl kc_b_8 ?_
  refine g_iald 26 hX dX12_joins_25 rfl ?_
  refine g_iconst 27 hX 1 dX12_joins_26 rfl kc_i_1 ?_
  refine g_isub 28 hX dX12_joins_27 rfl ?_
  exact g_iret hX hr rfl (Nat.le_refl 0) (Nat.le_refl 0) dX12_joins_28
def F_X12_leaves (N : Nat) (M : kMem) (a0 : Nat) (x1 : Int32) : Option (Int32 × kMem) :=
    kg (kt M a0 12) <| (F_X12_has N M a0 x1 5).bind fun r1 =>
    kg (kt M a0 12) <| (F_X12_rises N M a0 x1).bind fun M2 =>
    some (r1, M2)
set_option maxRecDepth 100000 in
set_option maxHeartbeats 4000000 in
theorem k_X12_leaves (l : Launch) (g : kG) (N : Nat) (M : kMem) (a0 : Nat) (x1 : Int32) : kMet l g yX12_leaves cX12_leaves 3 (some .int) 5 0 0 [.ref a0, .int x1] M (fun r : Int32 × kMem => (some (.int r.1), r.2)) (F_X12_leaves N M a0 x1) := by
  refine k_of (lv := [(0, .ref a0), (1, .int x1)]) RX12 (by decide) rfl rfl (Nat.le_of_ble_eq_true rfl) ?_
  intro p e s m args below meth c hX hr _
  unfold F_X12_leaves
  refine g_aload_n 1 0 hX dX12_leaves_0 rfl rfl ?_
  refine g_iload_n 2 1 hX dX12_leaves_1 rfl rfl ?_
  refine g_iconst 3 hX 5 dX12_leaves_2 rfl kc_i_5 ?_
  refine g_callV_ip 6 hX (k_X12_has l g N M a0 x1 5) lk_X12_has rfl (ci := 12) rfl (Nat.le_of_ble_eq_true rfl) q_1689 q_42 (by omega) rfl (Nat.le_of_ble_eq_true rfl) (Nat.zero_le _) (Nat.zero_le _) dX12_leaves_3 rfl (fun r1 => ?_)
  refine g_istore_n 7 2 [(2, .int r1), (0, .ref a0), (1, .int x1)] hX dX12_leaves_6 rfl rfl (Nat.le_of_ble_eq_true rfl) rfl ?_
  refine g_aload_n 8 1 hX dX12_leaves_7 rfl rfl ?_
  refine g_iload_n 9 2 hX dX12_leaves_8 rfl rfl ?_
  refine g_callV_v 12 hX (k_X12_rises l g N M a0 x1) lk_X12_rises rfl (ci := 12) rfl (Nat.le_of_ble_eq_true rfl) q_2042 q_91 (by omega) rfl (Nat.le_of_ble_eq_true rfl) (Nat.zero_le _) (Nat.zero_le _) dX12_leaves_9 rfl (fun M2 => ?_)
  refine g_iload_n 13 0 hX dX12_leaves_12 rfl rfl ?_
  exact g_iret hX hr rfl (Nat.le_refl 0) (Nat.le_refl 0) dX12_leaves_13
def F_X12_setsWage (N : Nat) (M : kMem) (a0 : Nat) (x1 : Int32) : Option (Int32 × kMem) :=
    kg (kt M a0 12) <|
    kg (kin M (kR M a0 0) 13 0) <|
    kl (kI M (kR M a0 0) (kx 0)) fun v1 =>
    kg (kt M a0 12) <|
    kg (kin M (kR M a0 0) 13 0) <| kl (ksI M (kR M a0 0) (kx 0) x1) fun M2 =>
    some (v1, M2)
set_option maxRecDepth 100000 in
set_option maxHeartbeats 4000000 in
theorem k_X12_setsWage (l : Launch) (g : kG) (N : Nat) (M : kMem) (a0 : Nat) (x1 : Int32) : kMet l g yX12_setsWage cX12_setsWage 3 (some .int) 1 0 0 [.ref a0, .int x1] M (fun r : Int32 × kMem => (some (.int r.1), r.2)) (F_X12_setsWage N M a0 x1) := by
  refine k_of (lv := [(0, .ref a0), (1, .int x1)]) RX12 (by decide) rfl rfl (Nat.le_of_ble_eq_true rfl) ?_
  intro p e s m args below meth c hX hr _
  unfold F_X12_setsWage
  refine g_aload_n 1 0 hX dX12_setsWage_0 rfl rfl ?_
  refine r_X12_7 4 hX dX12_setsWage_1 rfl ?_
  refine g_iconst 5 hX 0 dX12_setsWage_4 rfl kc_i_0 ?_
  refine g_iald 6 hX dX12_setsWage_5 rfl ?_
  refine g_klI (fun v1 hv1 => ?_)
  refine g_istore_n 7 2 [(2, .int v1), (0, .ref a0), (1, .int x1)] hX dX12_setsWage_6 rfl rfl (Nat.le_of_ble_eq_true rfl) rfl ?_
  refine g_aload_n 8 1 hX dX12_setsWage_7 rfl rfl ?_
  refine r_X12_7 11 hX dX12_setsWage_8 rfl ?_
  refine g_iconst 12 hX 0 dX12_setsWage_11 rfl kc_i_0 ?_
  refine g_iload_n 13 2 hX dX12_setsWage_12 rfl rfl ?_
  refine g_iast 14 hX dX12_setsWage_13 rfl ?_
  refine g_klM (fun M2 hM2 => ?_)
  refine g_iload_n 15 0 hX dX12_setsWage_14 rfl rfl ?_
  exact g_iret hX hr rfl (Nat.le_refl 0) (Nat.le_refl 0) dX12_setsWage_15
def F_X12_bytesIn_5 (N : Nat) (M : kMem) : Nat → Int32 → Int32 → Int32 → Option (Int32)
  | 0, _, _, _ => none
  | n + 1, x1, x2, x3 =>
    if x3 < 0 then (
      some x2) else
    if ((x1 >>> (x3 &&& 31)) &&& 255) = 0 then (
      kl (x2 + 0) fun v1 =>
      kl (x3 + (-8)) fun v2 =>
      F_X12_bytesIn_5 N M n x1 v1 v2) else
    kl (x2 + 1) fun v3 =>
    kl (x3 + (-8)) fun v4 =>
    F_X12_bytesIn_5 N M n x1 v3 v4
def F_X12_bytesIn (N : Nat) (M : kMem) (a0 : Nat) (x1 : Int32) : Option (Int32) :=
    F_X12_bytesIn_5 N M N x1 0 24
set_option maxRecDepth 100000 in
set_option maxHeartbeats 4000000 in
theorem k_X12_bytesIn_5 {p : Program} {l : Launch} {e : Env} {s : State} {m : MethodId} {args : Array Value} {below : List Frame} {meth : Method} {c : Code} {g : kG} (hX : Cok (p, l, e, { frames := 2 * 1, cells := 0, slots := 0, locals := 60 * 1 }, s, m, args, below, meth, c, cX12_bytesIn, 4, RX12, g, 1)) (hr : meth.sig.returnType = (some .int)) (N : Nat) (M : kMem) : ∀ (n : Nat) (x1 : Int32) (x2 : Int32) (x3 : Int32), GG (p, l, e, { frames := 2 * 1, cells := 0, slots := 0, locals := 60 * 1 }, s, m, args, below, meth, c, cX12_bytesIn, 4, RX12, g, 1) (fun b => MQ below (kQ g ((fun r : Int32 => (some (.int r), M)) b)) args s 0 0 (kZ g.2.2.1)) 0 0 (F_X12_bytesIn_5 N M n x1 x2 x3) 5 [(1, .int x1), (2, .int x2), (3, .int x3)] [] M := by
  intro n
  induction n with
  | zero => intro _ _ _; exact g_none
  | succ n ih =>
    intro x1 x2 x3
    unfold F_X12_bytesIn_5
    refine g_iload_n 6 2 hX dX12_bytesIn_5 rfl rfl ?_
    refine g_if_lt 33 9 hX dX12_bytesIn_6 (by decide) rfl (fun _ => ?_) (fun _ => ?_)
    · refine g_iload_n 34 1 hX dX12_bytesIn_33 rfl rfl ?_
      exact g_iret hX hr rfl (Nat.le_refl 0) (Nat.le_refl 0) dX12_bytesIn_34
    · refine g_iload_n 10 1 hX dX12_bytesIn_9 rfl rfl ?_
      refine g_iload_n 11 0 hX dX12_bytesIn_10 rfl rfl ?_
      refine g_iload_n 12 2 hX dX12_bytesIn_11 rfl rfl ?_
      refine g_ishr 13 hX dX12_bytesIn_12 rfl ?_
      refine g_sipush 16 hX 255 dX12_bytesIn_13 rfl kc_s_255 ?_
      refine g_iand 17 hX dX12_bytesIn_16 rfl ?_
      refine g_if_eq 24 20 hX dX12_bytesIn_17 (by decide) rfl (fun _ => ?_) (fun _ => ?_)
      · refine g_iconst 25 hX 0 dX12_bytesIn_24 rfl kc_i_0 ?_
        refine g_iadd 26 hX dX12_bytesIn_25 rfl ?_
        refine g_klI (fun v1 hv1 => ?_)
        refine g_istore_n 27 2 [(2, .int v1), (1, .int x1), (3, .int x3)] hX dX12_bytesIn_26 rfl rfl (Nat.le_of_ble_eq_true rfl) rfl ?_
        refine g_kl (fun v2 hv2 => ?_)
        refine g_iinc 30 3 2 v2 [(3, .int v2), (2, .int v1), (1, .int x1)] hX dX12_bytesIn_27 rfl rfl (by rw [hv2, kc_i_m8]) (Nat.le_of_ble_eq_true rfl) rfl ?_
        refine g_goto 5 hX dX12_bytesIn_30 (by decide) ?_
        refine g_lv [2, 1, 0] rfl ?_
        exact ih x1 v1 v2
      · refine g_iconst 21 hX 1 dX12_bytesIn_20 rfl kc_i_1 ?_
        refine g_goto 25 hX dX12_bytesIn_21 (by decide) ?_
        refine g_iadd 26 hX dX12_bytesIn_25 rfl ?_
        refine g_klI (fun v3 hv3 => ?_)
        refine g_istore_n 27 2 [(2, .int v3), (1, .int x1), (3, .int x3)] hX dX12_bytesIn_26 rfl rfl (Nat.le_of_ble_eq_true rfl) rfl ?_
        refine g_kl (fun v4 hv4 => ?_)
        refine g_iinc 30 3 2 v4 [(3, .int v4), (2, .int v3), (1, .int x1)] hX dX12_bytesIn_27 rfl rfl (by rw [hv4, kc_i_m8]) (Nat.le_of_ble_eq_true rfl) rfl ?_
        refine g_goto 5 hX dX12_bytesIn_30 (by decide) ?_
        refine g_lv [2, 1, 0] rfl ?_
        exact ih x1 v3 v4
set_option maxRecDepth 100000 in
set_option maxHeartbeats 4000000 in
theorem k_X12_bytesIn (l : Launch) (g : kG) (N : Nat) (M : kMem) (a0 : Nat) (x1 : Int32) : kMet l g yX12_bytesIn cX12_bytesIn 4 (some .int) 1 0 0 [.ref a0, .int x1] M (fun r : Int32 => (some (.int r), M)) (F_X12_bytesIn N M a0 x1) := by
  refine k_of (lv := [(0, .ref a0), (1, .int x1)]) RX12 (by decide) rfl rfl (Nat.le_of_ble_eq_true rfl) ?_
  intro p e s m args below meth c hX hr _
  unfold F_X12_bytesIn
  refine g_iconst 1 hX 0 dX12_bytesIn_0 rfl kc_i_0 ?_
  refine g_istore_n 2 2 [(2, .int 0), (0, .ref a0), (1, .int x1)] hX dX12_bytesIn_1 rfl rfl (Nat.le_of_ble_eq_true rfl) rfl ?_
  refine g_bipush 4 hX 24 dX12_bytesIn_2 rfl kc_b_24 ?_
  refine g_istore_n 5 3 [(3, .int 24), (2, .int 0), (0, .ref a0), (1, .int x1)] hX dX12_bytesIn_4 rfl rfl (Nat.le_of_ble_eq_true rfl) rfl ?_
  refine g_lv [3, 1, 0] rfl ?_
  exact k_X12_bytesIn_5 hX hr N M N x1 0 24
def F_X12_four_3 (N : Nat) : Nat → kMem → Nat → Int32 → Int32 → Option (kMem)
  | 0, _, _, _, _ => none
  | n + 1, M, a0, x1, x2 =>
    if x2 < 0 then (
      some M) else
    if ((x1 >>> (x2 &&& 31)) &&& 255) = 0 then (
      kl (x2 + (-8)) fun v1 =>
      F_X12_four_3 N n M a0 x1 v1) else
    kg (kt M a0 12) <|
    kg (kt M a0 12) <|
    kg (kin M (kR M a0 8) 13 (kI M a0 10)) <| kl (ksI M (kR M a0 8) (kx (kI M a0 10)) ((x1 >>> (x2 &&& 31)) &&& 255)) fun M2 =>
    kg (kt M2 a0 12) <|
    kg (kt M2 a0 12) <| kl (ksI M2 a0 10 ((kI M2 a0 10) + 1)) fun M3 =>
    kl (x2 + (-8)) fun v4 =>
    F_X12_four_3 N n M3 a0 x1 v4
def F_X12_four (N : Nat) (M : kMem) (a0 : Nat) (x1 : Int32) : Option (kMem) :=
    F_X12_four_3 N N M a0 x1 24
set_option maxRecDepth 100000 in
set_option maxHeartbeats 4000000 in
theorem k_X12_four_3 {p : Program} {l : Launch} {e : Env} {s : State} {m : MethodId} {args : Array Value} {below : List Frame} {meth : Method} {c : Code} {g : kG} (hX : Cok (p, l, e, { frames := 2 * 1, cells := 0, slots := 0, locals := 60 * 1 }, s, m, args, below, meth, c, cX12_four, 3, RX12, g, 1)) (hr : meth.sig.returnType = none) (N : Nat) : ∀ (n : Nat) (M : kMem) (a0 : Nat) (x1 : Int32) (x2 : Int32), GG (p, l, e, { frames := 2 * 1, cells := 0, slots := 0, locals := 60 * 1 }, s, m, args, below, meth, c, cX12_four, 3, RX12, g, 1) (fun b => MQ below (kQ g ((fun r : kMem => (none, r)) b)) args s 0 0 (kZ g.2.2.1)) 0 0 (F_X12_four_3 N n M a0 x1 x2) 3 [(0, .ref a0), (1, .int x1), (2, .int x2)] [] M := by
  intro n
  induction n with
  | zero => intro _ _ _ _; exact g_none
  | succ n ih =>
    intro M a0 x1 x2
    unfold F_X12_four_3
    refine g_iload_n 4 2 hX dX12_four_3 rfl rfl ?_
    refine g_if_lt 49 7 hX dX12_four_4 (by decide) rfl (fun _ => ?_) (fun _ => ?_)
    · exact g_vret hX hr rfl (Nat.le_refl 0) (Nat.le_refl 0) dX12_four_49
    · refine g_iload_n 8 1 hX dX12_four_7 rfl rfl ?_
      refine g_iload_n 9 2 hX dX12_four_8 rfl rfl ?_
      refine g_ishr 10 hX dX12_four_9 rfl ?_
      refine g_sipush 13 hX 255 dX12_four_10 rfl kc_s_255 ?_
      refine g_iand 14 hX dX12_four_13 rfl ?_
      refine g_if_eq 43 17 hX dX12_four_14 (by decide) rfl (fun _ => ?_) (fun _ => ?_)
      · refine g_kl (fun v1 hv1 => ?_)
        refine g_iinc 46 2 2 v1 [(2, .int v1), (0, .ref a0), (1, .int x1)] hX dX12_four_43 rfl rfl (by rw [hv1, kc_i_m8]) (Nat.le_of_ble_eq_true rfl) rfl ?_
        refine g_goto 3 hX dX12_four_46 (by decide) ?_
        refine g_lv [1, 2, 0] rfl ?_
        exact ih M a0 x1 v1
      · refine g_aload_n 18 0 hX dX12_four_17 rfl rfl ?_
        refine r_X12_29 21 hX dX12_four_18 rfl ?_
        refine g_aload_n 22 0 hX dX12_four_21 rfl rfl ?_
        refine r_X12_155 25 hX dX12_four_22 rfl ?_
        refine g_iload_n 26 1 hX dX12_four_25 rfl rfl ?_
        refine g_iload_n 27 2 hX dX12_four_26 rfl rfl ?_
        refine g_ishr 28 hX dX12_four_27 rfl ?_
        refine g_sipush 31 hX 255 dX12_four_28 rfl kc_s_255 ?_
        refine g_iand 32 hX dX12_four_31 rfl ?_
        refine g_iast 33 hX dX12_four_32 rfl ?_
        refine g_klM (fun M2 hM2 => ?_)
        refine g_aload_n 34 0 hX dX12_four_33 rfl rfl ?_
        refine g_dup 35 hX dX12_four_34 rfl rfl ?_
        refine r_X12_155 38 hX dX12_four_35 rfl ?_
        refine g_iconst 39 hX 1 dX12_four_38 rfl kc_i_1 ?_
        refine g_iadd 40 hX dX12_four_39 rfl ?_
        refine p_X12_155 43 hX dX12_four_40 rfl ?_
        refine g_klM (fun M3 hM3 => ?_)
        refine g_kl (fun v4 hv4 => ?_)
        refine g_iinc 46 2 2 v4 [(2, .int v4), (0, .ref a0), (1, .int x1)] hX dX12_four_43 rfl rfl (by rw [hv4, kc_i_m8]) (Nat.le_of_ble_eq_true rfl) rfl ?_
        refine g_goto 3 hX dX12_four_46 (by decide) ?_
        refine g_lv [1, 2, 0] rfl ?_
        exact ih M3 a0 x1 v4
set_option maxRecDepth 100000 in
set_option maxHeartbeats 4000000 in
theorem k_X12_four (l : Launch) (g : kG) (N : Nat) (M : kMem) (a0 : Nat) (x1 : Int32) : kMet l g yX12_four cX12_four 3 none 1 0 0 [.ref a0, .int x1] M (fun r : kMem => (none, r)) (F_X12_four N M a0 x1) := by
  refine k_of (lv := [(0, .ref a0), (1, .int x1)]) RX12 (by decide) rfl rfl (Nat.le_of_ble_eq_true rfl) ?_
  intro p e s m args below meth c hX hr _
  unfold F_X12_four
  refine g_bipush 2 hX 24 dX12_four_0 rfl kc_b_24 ?_
  refine g_istore_n 3 2 [(2, .int 24), (0, .ref a0), (1, .int x1)] hX dX12_four_2 rfl rfl (Nat.le_of_ble_eq_true rfl) rfl ?_
  refine g_lv [1, 2, 0] rfl ?_
  exact k_X12_four_3 hX hr N N M a0 x1 24
def F_X12_append_53 (N : Nat) (M : kMem) (a0 : Nat) (x1 : Int32) (x2 : Int32) (x3 : Int32) (x4 : Int32) (x5 : Int32) (y0 : Nat) (y1 : Int32) : Option (Int32 × kMem) :=
    kg (kt M y0 12) <| (F_X12_stops N M y0 y1 1).bind fun r7 =>
    if r7.1 = 0 then (
      kg (kt r7.2 a0 12) <| (F_X12_four N r7.2 a0 x1).bind fun M8 =>
      kg (kt M8 a0 12) <| (F_X12_four N M8 a0 x2).bind fun M9 =>
      kg (kt M9 a0 12) <| (F_X12_four N M9 a0 x3).bind fun M10 =>
      kg (kt M10 a0 12) <| (F_X12_four N M10 a0 x4).bind fun M11 =>
      kg (kt M11 a0 12) <| (F_X12_four N M11 a0 x5).bind fun M12 =>
      kg (kt M12 a0 12) <|
      some (kI M12 a0 10, M12)) else
    some (0, r7.2)
def F_X12_append (N : Nat) (M : kMem) (a0 : Nat) (x1 : Int32) (x2 : Int32) (x3 : Int32) (x4 : Int32) (x5 : Int32) : Option (Int32 × kMem) :=
    kg (kt M a0 12) <| kl (ksI M a0 6 0) fun M1 =>
    kg (kt M1 a0 12) <|
    kg (kt M1 a0 12) <| (F_X12_bytesIn N M1 a0 x1).bind fun r2 =>
    kg (kt M1 a0 12) <| (F_X12_bytesIn N M1 a0 x2).bind fun r3 =>
    kg (kt M1 a0 12) <| (F_X12_bytesIn N M1 a0 x3).bind fun r4 =>
    kg (kt M1 a0 12) <| (F_X12_bytesIn N M1 a0 x4).bind fun r5 =>
    kg (kt M1 a0 12) <| (F_X12_bytesIn N M1 a0 x5).bind fun r6 =>
    if (800 : Int32) < ((((((kI M1 a0 10) + r2) + r3) + r4) + r5) + r6) then (
      F_X12_append_53 N M1 a0 x1 x2 x3 x4 x5 a0 1) else
    F_X12_append_53 N M1 a0 x1 x2 x3 x4 x5 a0 0
set_option maxRecDepth 100000 in
set_option maxHeartbeats 4000000 in
theorem k_X12_append_53 {p : Program} {l : Launch} {e : Env} {s : State} {m : MethodId} {args : Array Value} {below : List Frame} {meth : Method} {c : Code} {g : kG} (hX : Cok (p, l, e, { frames := 2 * 2, cells := 0, slots := 0, locals := 60 * 2 }, s, m, args, below, meth, c, cX12_append, 6, RX12, g, 2)) (hr : meth.sig.returnType = (some .int)) (N : Nat) : ∀ (M : kMem) (a0 : Nat) (x1 : Int32) (x2 : Int32) (x3 : Int32) (x4 : Int32) (x5 : Int32) (y0 : Nat) (y1 : Int32), GG (p, l, e, { frames := 2 * 2, cells := 0, slots := 0, locals := 60 * 2 }, s, m, args, below, meth, c, cX12_append, 6, RX12, g, 2) (fun b => MQ below (kQ g ((fun r : Int32 × kMem => (some (.int r.1), r.2)) b)) args s 0 0 (kZ g.2.2.1)) 0 0 (F_X12_append_53 N M a0 x1 x2 x3 x4 x5 y0 y1) 53 [(0, .ref a0), (1, .int x1), (2, .int x2), (3, .int x3), (4, .int x4), (5, .int x5)] [.int y1, .ref y0] M := by
  intro M a0 x1 x2 x3 x4 x5 y0 y1
  unfold F_X12_append_53
  refine g_iconst 54 hX 1 dX12_append_53 rfl kc_i_1 ?_
  refine g_callV_i 57 hX (k_X12_stops l g N M y0 y1 1) lk_X12_stops rfl (ci := 12) rfl (Nat.le_of_ble_eq_true rfl) q_1796 q_44 (by omega) rfl (Nat.le_of_ble_eq_true rfl) (Nat.zero_le _) (Nat.zero_le _) dX12_append_54 rfl (fun r7 => ?_)
  refine g_if_eq 62 60 hX dX12_append_57 (by decide) rfl (fun _ => ?_) (fun _ => ?_)
  · refine g_aload_n 63 0 hX dX12_append_62 rfl rfl ?_
    refine g_iload_n 64 1 hX dX12_append_63 rfl rfl ?_
    refine g_callV_v 67 hX (k_X12_four l g N r7.2 a0 x1) lk_X12_four rfl (ci := 12) rfl (Nat.le_of_ble_eq_true rfl) q_1800 q_45 (by omega) rfl (Nat.le_of_ble_eq_true rfl) (Nat.zero_le _) (Nat.zero_le _) dX12_append_64 rfl (fun M8 => ?_)
    refine g_aload_n 68 0 hX dX12_append_67 rfl rfl ?_
    refine g_iload_n 69 2 hX dX12_append_68 rfl rfl ?_
    refine g_callV_v 72 hX (k_X12_four l g N M8 a0 x2) lk_X12_four rfl (ci := 12) rfl (Nat.le_of_ble_eq_true rfl) q_1800 q_45 (by omega) rfl (Nat.le_of_ble_eq_true rfl) (Nat.zero_le _) (Nat.zero_le _) dX12_append_69 rfl (fun M9 => ?_)
    refine g_aload_n 73 0 hX dX12_append_72 rfl rfl ?_
    refine g_iload_n 74 3 hX dX12_append_73 rfl rfl ?_
    refine g_callV_v 77 hX (k_X12_four l g N M9 a0 x3) lk_X12_four rfl (ci := 12) rfl (Nat.le_of_ble_eq_true rfl) q_1800 q_45 (by omega) rfl (Nat.le_of_ble_eq_true rfl) (Nat.zero_le _) (Nat.zero_le _) dX12_append_74 rfl (fun M10 => ?_)
    refine g_aload_n 78 0 hX dX12_append_77 rfl rfl ?_
    refine g_iload 80 4 hX dX12_append_78 rfl rfl ?_
    refine g_callV_v 83 hX (k_X12_four l g N M10 a0 x4) lk_X12_four rfl (ci := 12) rfl (Nat.le_of_ble_eq_true rfl) q_1800 q_45 (by omega) rfl (Nat.le_of_ble_eq_true rfl) (Nat.zero_le _) (Nat.zero_le _) dX12_append_80 rfl (fun M11 => ?_)
    refine g_aload_n 84 0 hX dX12_append_83 rfl rfl ?_
    refine g_iload 86 5 hX dX12_append_84 rfl rfl ?_
    refine g_callV_v 89 hX (k_X12_four l g N M11 a0 x5) lk_X12_four rfl (ci := 12) rfl (Nat.le_of_ble_eq_true rfl) q_1800 q_45 (by omega) rfl (Nat.le_of_ble_eq_true rfl) (Nat.zero_le _) (Nat.zero_le _) dX12_append_86 rfl (fun M12 => ?_)
    refine g_aload_n 90 0 hX dX12_append_89 rfl rfl ?_
    refine r_X12_155 93 hX dX12_append_90 rfl ?_
    exact g_iret hX hr rfl (Nat.le_refl 0) (Nat.le_refl 0) dX12_append_93
  · refine g_iconst 61 hX 0 dX12_append_60 rfl kc_i_0 ?_
    exact g_iret hX hr rfl (Nat.le_refl 0) (Nat.le_refl 0) dX12_append_61
set_option maxRecDepth 100000 in
set_option maxHeartbeats 4000000 in
theorem k_X12_append (l : Launch) (g : kG) (N : Nat) (M : kMem) (a0 : Nat) (x1 : Int32) (x2 : Int32) (x3 : Int32) (x4 : Int32) (x5 : Int32) : kMet l g yX12_append cX12_append 6 (some .int) 2 0 0 [.ref a0, .int x1, .int x2, .int x3, .int x4, .int x5] M (fun r : Int32 × kMem => (some (.int r.1), r.2)) (F_X12_append N M a0 x1 x2 x3 x4 x5) := by
  refine k_of (lv := [(0, .ref a0), (1, .int x1), (2, .int x2), (3, .int x3), (4, .int x4), (5, .int x5)]) RX12 (by decide) rfl rfl (Nat.le_of_ble_eq_true rfl) ?_
  intro p e s m args below meth c hX hr _
  unfold F_X12_append
  refine g_aload_n 1 0 hX dX12_append_0 rfl rfl ?_
  refine g_iconst 2 hX 0 dX12_append_1 rfl kc_i_0 ?_
  refine p_X12_63 5 hX dX12_append_2 rfl ?_
  refine g_klM (fun M1 hM1 => ?_)
  refine g_aload_n 6 0 hX dX12_append_5 rfl rfl ?_
  refine g_aload_n 7 0 hX dX12_append_6 rfl rfl ?_
  refine r_X12_155 10 hX dX12_append_7 rfl ?_
  refine g_aload_n 11 0 hX dX12_append_10 rfl rfl ?_
  refine g_iload_n 12 1 hX dX12_append_11 rfl rfl ?_
  refine g_callV_ip 15 hX (k_X12_bytesIn l g N M1 a0 x1) lk_X12_bytesIn rfl (ci := 12) rfl (Nat.le_of_ble_eq_true rfl) q_1792 q_43 (by omega) rfl (Nat.le_of_ble_eq_true rfl) (Nat.zero_le _) (Nat.zero_le _) dX12_append_12 rfl (fun r2 => ?_)
  refine g_iadd 16 hX dX12_append_15 rfl ?_
  refine g_aload_n 17 0 hX dX12_append_16 rfl rfl ?_
  refine g_iload_n 18 2 hX dX12_append_17 rfl rfl ?_
  refine g_callV_ip 21 hX (k_X12_bytesIn l g N M1 a0 x2) lk_X12_bytesIn rfl (ci := 12) rfl (Nat.le_of_ble_eq_true rfl) q_1792 q_43 (by omega) rfl (Nat.le_of_ble_eq_true rfl) (Nat.zero_le _) (Nat.zero_le _) dX12_append_18 rfl (fun r3 => ?_)
  refine g_iadd 22 hX dX12_append_21 rfl ?_
  refine g_aload_n 23 0 hX dX12_append_22 rfl rfl ?_
  refine g_iload_n 24 3 hX dX12_append_23 rfl rfl ?_
  refine g_callV_ip 27 hX (k_X12_bytesIn l g N M1 a0 x3) lk_X12_bytesIn rfl (ci := 12) rfl (Nat.le_of_ble_eq_true rfl) q_1792 q_43 (by omega) rfl (Nat.le_of_ble_eq_true rfl) (Nat.zero_le _) (Nat.zero_le _) dX12_append_24 rfl (fun r4 => ?_)
  refine g_iadd 28 hX dX12_append_27 rfl ?_
  refine g_aload_n 29 0 hX dX12_append_28 rfl rfl ?_
  refine g_iload 31 4 hX dX12_append_29 rfl rfl ?_
  refine g_callV_ip 34 hX (k_X12_bytesIn l g N M1 a0 x4) lk_X12_bytesIn rfl (ci := 12) rfl (Nat.le_of_ble_eq_true rfl) q_1792 q_43 (by omega) rfl (Nat.le_of_ble_eq_true rfl) (Nat.zero_le _) (Nat.zero_le _) dX12_append_31 rfl (fun r5 => ?_)
  refine g_iadd 35 hX dX12_append_34 rfl ?_
  refine g_aload_n 36 0 hX dX12_append_35 rfl rfl ?_
  refine g_iload 38 5 hX dX12_append_36 rfl rfl ?_
  refine g_callV_ip 41 hX (k_X12_bytesIn l g N M1 a0 x5) lk_X12_bytesIn rfl (ci := 12) rfl (Nat.le_of_ble_eq_true rfl) q_1792 q_43 (by omega) rfl (Nat.le_of_ble_eq_true rfl) (Nat.zero_le _) (Nat.zero_le _) dX12_append_38 rfl (fun r6 => ?_)
  refine g_iadd 42 hX dX12_append_41 rfl ?_
  refine g_sipush 45 hX 800 dX12_append_42 rfl kc_s_800 ?_
  refine g_icmp_le 52 48 hX dX12_append_45 (by decide) rfl (fun _ => ?_) (fun _ => ?_)
  · refine g_iconst 53 hX 0 dX12_append_52 rfl kc_i_0 ?_
    exact k_X12_append_53 hX hr N M1 a0 x1 x2 x3 x4 x5 a0 0
  · refine g_iconst 49 hX 1 dX12_append_48 rfl kc_i_1 ?_
    refine g_goto 53 hX dX12_append_49 (by decide) ?_
    exact k_X12_append_53 hX hr N M1 a0 x1 x2 x3 x4 x5 a0 1
def F_X12_truncate_25 (N : Nat) (M : kMem) (a0 : Nat) (x1 : Int32) (y0 : Nat) (y1 : Int32) : Option (Int32 × kMem) :=
    kg (kt M y0 12) <| (F_X12_stops N M y0 y1 1).bind fun r3 =>
    if r3.1 = 0 then (
      kg (kt r3.2 a0 12) <| kl (ksI r3.2 a0 10 x1) fun M4 =>
      some (x1, M4)) else
    some (0, r3.2)
def F_X12_truncate (N : Nat) (M : kMem) (a0 : Nat) (x1 : Int32) : Option (Int32 × kMem) :=
    kg (kt M a0 12) <| kl (ksI M a0 6 0) fun M1 =>
    kg (kt M1 a0 12) <|
    (F_X12_in N M1 x1.toInt64 0 ((kI M1 a0 10).toInt64)).bind fun r2 =>
    if r2 = 0 then (
      F_X12_truncate_25 N M1 a0 x1 a0 1) else
    F_X12_truncate_25 N M1 a0 x1 a0 0
set_option maxRecDepth 100000 in
set_option maxHeartbeats 4000000 in
theorem k_X12_truncate_25 {p : Program} {l : Launch} {e : Env} {s : State} {m : MethodId} {args : Array Value} {below : List Frame} {meth : Method} {c : Code} {g : kG} (hX : Cok (p, l, e, { frames := 2 * 2, cells := 0, slots := 0, locals := 60 * 2 }, s, m, args, below, meth, c, cX12_truncate, 2, RX12, g, 2)) (hr : meth.sig.returnType = (some .int)) (N : Nat) : ∀ (M : kMem) (a0 : Nat) (x1 : Int32) (y0 : Nat) (y1 : Int32), GG (p, l, e, { frames := 2 * 2, cells := 0, slots := 0, locals := 60 * 2 }, s, m, args, below, meth, c, cX12_truncate, 2, RX12, g, 2) (fun b => MQ below (kQ g ((fun r : Int32 × kMem => (some (.int r.1), r.2)) b)) args s 0 0 (kZ g.2.2.1)) 0 0 (F_X12_truncate_25 N M a0 x1 y0 y1) 25 [(0, .ref a0), (1, .int x1)] [.int y1, .ref y0] M := by
  intro M a0 x1 y0 y1
  unfold F_X12_truncate_25
  refine g_iconst 26 hX 1 dX12_truncate_25 rfl kc_i_1 ?_
  refine g_callV_i 29 hX (k_X12_stops l g N M y0 y1 1) lk_X12_stops rfl (ci := 12) rfl (Nat.le_of_ble_eq_true rfl) q_1796 q_44 (by omega) rfl (Nat.le_of_ble_eq_true rfl) (Nat.zero_le _) (Nat.zero_le _) dX12_truncate_26 rfl (fun r3 => ?_)
  refine g_if_eq 34 32 hX dX12_truncate_29 (by decide) rfl (fun _ => ?_) (fun _ => ?_)
  · refine g_aload_n 35 0 hX dX12_truncate_34 rfl rfl ?_
    refine g_iload_n 36 1 hX dX12_truncate_35 rfl rfl ?_
    refine p_X12_155 39 hX dX12_truncate_36 rfl ?_
    refine g_klM (fun M4 hM4 => ?_)
    refine g_iload_n 40 1 hX dX12_truncate_39 rfl rfl ?_
    exact g_iret hX hr rfl (Nat.le_refl 0) (Nat.le_refl 0) dX12_truncate_40
  · refine g_iconst 33 hX 0 dX12_truncate_32 rfl kc_i_0 ?_
    exact g_iret hX hr rfl (Nat.le_refl 0) (Nat.le_refl 0) dX12_truncate_33
set_option maxRecDepth 100000 in
set_option maxHeartbeats 4000000 in
theorem k_X12_truncate (l : Launch) (g : kG) (N : Nat) (M : kMem) (a0 : Nat) (x1 : Int32) : kMet l g yX12_truncate cX12_truncate 2 (some .int) 2 0 0 [.ref a0, .int x1] M (fun r : Int32 × kMem => (some (.int r.1), r.2)) (F_X12_truncate N M a0 x1) := by
  refine k_of (lv := [(0, .ref a0), (1, .int x1)]) RX12 (by decide) rfl rfl (Nat.le_of_ble_eq_true rfl) ?_
  intro p e s m args below meth c hX hr _
  unfold F_X12_truncate
  refine g_aload_n 1 0 hX dX12_truncate_0 rfl rfl ?_
  refine g_iconst 2 hX 0 dX12_truncate_1 rfl kc_i_0 ?_
  refine p_X12_63 5 hX dX12_truncate_2 rfl ?_
  refine g_klM (fun M1 hM1 => ?_)
  refine g_aload_n 6 0 hX dX12_truncate_5 rfl rfl ?_
  refine g_iload_n 7 1 hX dX12_truncate_6 rfl rfl ?_
  refine g_i2l 8 hX dX12_truncate_7 rfl ?_
  refine g_lconst 9 hX 0 dX12_truncate_8 rfl rfl ?_
  refine g_aload_n 10 0 hX dX12_truncate_9 rfl rfl ?_
  refine r_X12_155 13 hX dX12_truncate_10 rfl ?_
  refine g_i2l 14 hX dX12_truncate_13 rfl ?_
  refine g_callS_ip 17 hX (k_X12_in l g N M1 x1.toInt64 0 ((kI M1 a0 10).toInt64)) lk_X12_in q_1808 (by omega) rfl (Nat.le_of_ble_eq_true rfl) (Nat.zero_le _) (Nat.zero_le _) dX12_truncate_14 rfl (fun r2 => ?_)
  refine g_if_ne 24 20 hX dX12_truncate_17 (by decide) rfl (fun _ => ?_) (fun _ => ?_)
  · refine g_iconst 25 hX 0 dX12_truncate_24 rfl kc_i_0 ?_
    exact k_X12_truncate_25 hX hr N M1 a0 x1 a0 0
  · refine g_iconst 21 hX 1 dX12_truncate_20 rfl kc_i_1 ?_
    refine g_goto 25 hX dX12_truncate_21 (by decide) ?_
    exact k_X12_truncate_25 hX hr N M1 a0 x1 a0 1
def F_X12_see (N : Nat) (M : kMem) (a0 : Nat) (x1 : Int32) : Option (Int32) :=
    kg (kt M a0 12) <|
    if x1 < (kI M a0 11) then (
      kg (kt M a0 12) <|
      kg (kin M (kR M a0 9) 13 x1) <|
      some (kI M (kR M a0 9) (kx x1))) else
    some (-1)
set_option maxRecDepth 100000 in
set_option maxHeartbeats 4000000 in
theorem k_X12_see (l : Launch) (g : kG) (N : Nat) (M : kMem) (a0 : Nat) (x1 : Int32) : kMet l g yX12_see cX12_see 2 (some .int) 1 0 0 [.ref a0, .int x1] M (fun r : Int32 => (some (.int r), M)) (F_X12_see N M a0 x1) := by
  refine k_of (lv := [(0, .ref a0), (1, .int x1)]) RX12 (by decide) rfl rfl (Nat.le_of_ble_eq_true rfl) ?_
  intro p e s m args below meth c hX hr _
  unfold F_X12_see
  refine g_iload_n 1 1 hX dX12_see_0 rfl rfl ?_
  refine g_aload_n 2 0 hX dX12_see_1 rfl rfl ?_
  refine r_X12_168 5 hX dX12_see_2 rfl ?_
  refine g_icmp_ge 17 8 hX dX12_see_5 (by decide) rfl (fun _ => ?_) (fun _ => ?_)
  · refine g_iconst 18 hX (-1) dX12_see_17 rfl kc_i_m1 ?_
    exact g_iret hX hr rfl (Nat.le_refl 0) (Nat.le_refl 0) dX12_see_18
  · refine g_aload_n 9 0 hX dX12_see_8 rfl rfl ?_
    refine r_X12_32 12 hX dX12_see_9 rfl ?_
    refine g_iload_n 13 1 hX dX12_see_12 rfl rfl ?_
    refine g_iald 14 hX dX12_see_13 rfl ?_
    refine g_goto 18 hX dX12_see_14 (by decide) ?_
    exact g_iret hX hr rfl (Nat.le_refl 0) (Nat.le_refl 0) dX12_see_18
def F_X12_isSmall (N : Nat) (M : kMem) (x0 : Int32) : Option (Int32) :=
    (F_X12_in N M x0.toInt64 97 122).bind fun r1 =>
    kg (r1 == 0 || r1 == 1) <| some r1
set_option maxRecDepth 100000 in
set_option maxHeartbeats 4000000 in
theorem k_X12_isSmall (l : Launch) (g : kG) (N : Nat) (M : kMem) (x0 : Int32) : kMet l g yX12_isSmall cX12_isSmall 1 (some .boolean) 2 0 0 [.int x0] M (fun r : Int32 => (some (.int r), M)) (F_X12_isSmall N M x0) := by
  refine k_of (lv := [(0, .int x0)]) RX12 (by decide) rfl rfl (Nat.le_of_ble_eq_true rfl) ?_
  intro p e s m args below meth c hX hr _
  unfold F_X12_isSmall
  refine g_iload_n 1 0 hX dX12_isSmall_0 rfl rfl ?_
  refine g_i2l 2 hX dX12_isSmall_1 rfl ?_
  refine g_ldc2 5 hX 97 dX12_isSmall_2 rfl q_1837 ?_
  refine g_ldc2 8 hX 122 dX12_isSmall_5 rfl q_1838 ?_
  refine g_callS_ip 11 hX (k_X12_in l g N M x0.toInt64 97 122) lk_X12_in q_1808 (by omega) rfl (Nat.le_of_ble_eq_true rfl) (Nat.zero_le _) (Nat.zero_le _) dX12_isSmall_8 rfl (fun r1 => ?_)
  exact g_zret hX hr rfl (Nat.le_refl 0) (Nat.le_refl 0) dX12_isSmall_11
def F_X12_isDigit (N : Nat) (M : kMem) (x0 : Int32) : Option (Int32) :=
    (F_X12_in N M x0.toInt64 48 57).bind fun r1 =>
    kg (r1 == 0 || r1 == 1) <| some r1
set_option maxRecDepth 100000 in
set_option maxHeartbeats 4000000 in
theorem k_X12_isDigit (l : Launch) (g : kG) (N : Nat) (M : kMem) (x0 : Int32) : kMet l g yX12_isDigit cX12_isDigit 1 (some .boolean) 2 0 0 [.int x0] M (fun r : Int32 => (some (.int r), M)) (F_X12_isDigit N M x0) := by
  refine k_of (lv := [(0, .int x0)]) RX12 (by decide) rfl rfl (Nat.le_of_ble_eq_true rfl) ?_
  intro p e s m args below meth c hX hr _
  unfold F_X12_isDigit
  refine g_iload_n 1 0 hX dX12_isDigit_0 rfl rfl ?_
  refine g_i2l 2 hX dX12_isDigit_1 rfl ?_
  refine g_ldc2 5 hX 48 dX12_isDigit_2 rfl q_1844 ?_
  refine g_ldc2 8 hX 57 dX12_isDigit_5 rfl q_1845 ?_
  refine g_callS_ip 11 hX (k_X12_in l g N M x0.toInt64 48 57) lk_X12_in q_1808 (by omega) rfl (Nat.le_of_ble_eq_true rfl) (Nat.zero_le _) (Nat.zero_le _) dX12_isDigit_8 rfl (fun r1 => ?_)
  exact g_zret hX hr rfl (Nat.le_refl 0) (Nat.le_refl 0) dX12_isDigit_11
def F_X12_scan_268 (N : Nat) (M : kMem) (a0 : Nat) (y0 : Nat) : Option (kMem) :=
    kg (kt M y0 12) <| kl (ksI M y0 14 3) fun M8 =>
    kg (kt M8 a0 12) <|
    kg (kt M8 a0 12) <| kl (ksI M8 a0 12 ((kI M8 a0 12) + 1)) fun M9 =>
    some M9
def F_X12_scan_175 (N : Nat) : Nat → kMem → Nat → Option (kMem)
  | 0, _, _ => none
  | n + 1, M, a0 =>
    kg (kt M a0 12) <|
    kg (kt M a0 12) <| (F_X12_see N M a0 (kI M a0 12)).bind fun r13 =>
    (F_X12_isDigit N M r13).bind fun r14 =>
    if r14 = 0 then (
      kg (kt M a0 12) <| kl (ksI M a0 14 2) fun M15 =>
      some M15) else
    kg (kt M a0 12) <|
    if (999999 : Int32) < (kI M a0 15) then (
      kg (kt M a0 12) <|
      kg (kt M a0 12) <| kl (ksI M a0 15 (kI M a0 15)) fun M19 =>
      kg (kt M19 a0 12) <|
      kg (kt M19 a0 12) <| kl (ksI M19 a0 12 ((kI M19 a0 12) + 1)) fun M20 =>
      F_X12_scan_175 N n M20 a0) else
    kg (kt M a0 12) <|
    kg (kt M a0 12) <|
    kg (kt M a0 12) <| (F_X12_see N M a0 (kI M a0 12)).bind fun r16 =>
    kg (kt M a0 12) <| kl (ksI M a0 15 (((10 * (kI M a0 15)) + r16) - 48)) fun M17 =>
    kg (kt M17 a0 12) <|
    kg (kt M17 a0 12) <| kl (ksI M17 a0 12 ((kI M17 a0 12) + 1)) fun M18 =>
    F_X12_scan_175 N n M18 a0
def F_X12_scan_81 (N : Nat) : Nat → kMem → Nat → Option (kMem)
  | 0, _, _ => none
  | n + 1, M, a0 =>
    kg (kt M a0 12) <|
    kg (kt M a0 12) <| (F_X12_see N M a0 (kI M a0 12)).bind fun r22 =>
    (F_X12_isSmall N M r22).bind fun r23 =>
    if r23 = 0 then (
      kg (kt M a0 12) <| kl (ksI M a0 14 1) fun M24 =>
      some M24) else
    kg (kt M a0 12) <|
    kg (kt M a0 12) <|
    if ((kI M a0 12) - (kI M a0 13)) < 12 then (
      kg (kt M a0 12) <|
      kg (kt M a0 12) <|
      kg (kt M a0 12) <| (F_X12_see N M a0 (kI M a0 12)).bind fun r27 =>
      kg (kt M a0 12) <| kl (ksL M a0 20 (((32 * (kL M a0 20)) + r27.toInt64) - 96)) fun M28 =>
      kg (kt M28 a0 12) <|
      kg (kt M28 a0 12) <| kl (ksI M28 a0 12 ((kI M28 a0 12) + 1)) fun M29 =>
      F_X12_scan_81 N n M29 a0) else
    kg (kt M a0 12) <|
    kg (kt M a0 12) <| kl (ksL M a0 20 (kL M a0 20)) fun M25 =>
    kg (kt M25 a0 12) <|
    kg (kt M25 a0 12) <| kl (ksI M25 a0 12 ((kI M25 a0 12) + 1)) fun M26 =>
    F_X12_scan_81 N n M26 a0
def F_X12_scan_0 (N : Nat) : Nat → kMem → Nat → Option (kMem)
  | 0, _, _ => none
  | n + 1, M, a0 =>
    kg (kt M a0 12) <|
    kg (kt M a0 12) <| (F_X12_see N M a0 (kI M a0 12)).bind fun r1 =>
    if r1 = 32 then (
      kg (kt M a0 12) <|
      kg (kt M a0 12) <| kl (ksI M a0 12 ((kI M a0 12) + 1)) fun M2 =>
      F_X12_scan_0 N n M2 a0) else
    kg (kt M a0 12) <|
    kg (kt M a0 12) <| (F_X12_see N M a0 (kI M a0 12)).bind fun r3 =>
    if r3 = 10 then (
      kg (kt M a0 12) <|
      kg (kt M a0 12) <| kl (ksI M a0 12 ((kI M a0 12) + 1)) fun M31 =>
      F_X12_scan_0 N n M31 a0) else
    kg (kt M a0 12) <|
    kg (kt M a0 12) <| kl (ksI M a0 13 (kI M a0 12)) fun M4 =>
    kg (kt M4 a0 12) <|
    kg (kt M4 a0 12) <| (F_X12_see N M4 a0 (kI M4 a0 12)).bind fun r5 =>
    if r5 = (-1) then (
      kg (kt M4 a0 12) <| kl (ksI M4 a0 14 0) fun M30 =>
      some M30) else
    (F_X12_isSmall N M4 r5).bind fun r6 =>
    if r6 = 0 then (
      (F_X12_isDigit N M4 r5).bind fun r7 =>
      if r7 = 0 then (
        if r5 = 59 then (
          F_X12_scan_268 N M4 a0 a0) else
        if r5 = 40 then (
          F_X12_scan_268 N M4 a0 a0) else
        if r5 = 41 then (
          F_X12_scan_268 N M4 a0 a0) else
        kg (kt M4 a0 12) <| kl (ksI M4 a0 14 4) fun M10 =>
        kg (kt M10 a0 12) <|
        kg (kt M10 a0 12) <| kl (ksI M10 a0 12 ((kI M10 a0 12) + 1)) fun M11 =>
        some M11) else
      kg (kt M4 a0 12) <| kl (ksI M4 a0 15 0) fun M12 =>
      F_X12_scan_175 N N M12 a0) else
    kg (kt M4 a0 12) <| kl (ksL M4 a0 20 0) fun M21 =>
    F_X12_scan_81 N N M21 a0
def F_X12_scan (N : Nat) (M : kMem) (a0 : Nat) : Option (kMem) :=
    F_X12_scan_0 N N M a0
set_option maxRecDepth 100000 in
set_option maxHeartbeats 4000000 in
theorem k_X12_scan_268 {p : Program} {l : Launch} {e : Env} {s : State} {m : MethodId} {args : Array Value} {below : List Frame} {meth : Method} {c : Code} {g : kG} (hX : Cok (p, l, e, { frames := 2 * 3, cells := 0, slots := 0, locals := 60 * 3 }, s, m, args, below, meth, c, cX12_scan, 2, RX12, g, 3)) (hr : meth.sig.returnType = none) (N : Nat) : ∀ (M : kMem) (a0 : Nat) (y0 : Nat), GG (p, l, e, { frames := 2 * 3, cells := 0, slots := 0, locals := 60 * 3 }, s, m, args, below, meth, c, cX12_scan, 2, RX12, g, 3) (fun b => MQ below (kQ g ((fun r : kMem => (none, r)) b)) args s 0 0 (kZ g.2.2.1)) 0 0 (F_X12_scan_268 N M a0 y0) 268 [(0, .ref a0)] [.ref y0] M := by
  intro M a0 y0
  unfold F_X12_scan_268
  refine g_iconst 269 hX 3 dX12_scan_268 rfl kc_i_3 ?_
  refine g_goto 273 hX dX12_scan_269 (by decide) ?_
  refine p_X12_188 276 hX dX12_scan_273 rfl ?_
  refine g_klM (fun M8 hM8 => ?_)
  refine g_aload_n 277 0 hX dX12_scan_276 rfl rfl ?_
  refine g_dup 278 hX dX12_scan_277 rfl rfl ?_
  refine r_X12_179 281 hX dX12_scan_278 rfl ?_
  refine g_iconst 282 hX 1 dX12_scan_281 rfl kc_i_1 ?_
  refine g_iadd 283 hX dX12_scan_282 rfl ?_
  refine p_X12_179 286 hX dX12_scan_283 rfl ?_
  refine g_klM (fun M9 hM9 => ?_)
  exact g_vret hX hr rfl (Nat.le_refl 0) (Nat.le_refl 0) dX12_scan_286
set_option maxRecDepth 100000 in
set_option maxHeartbeats 4000000 in
theorem k_X12_scan_175 {p : Program} {l : Launch} {e : Env} {s : State} {m : MethodId} {args : Array Value} {below : List Frame} {meth : Method} {c : Code} {g : kG} (hX : Cok (p, l, e, { frames := 2 * 3, cells := 0, slots := 0, locals := 60 * 3 }, s, m, args, below, meth, c, cX12_scan, 2, RX12, g, 3)) (hr : meth.sig.returnType = none) (N : Nat) : ∀ (n : Nat) (M : kMem) (a0 : Nat), GG (p, l, e, { frames := 2 * 3, cells := 0, slots := 0, locals := 60 * 3 }, s, m, args, below, meth, c, cX12_scan, 2, RX12, g, 3) (fun b => MQ below (kQ g ((fun r : kMem => (none, r)) b)) args s 0 0 (kZ g.2.2.1)) 0 0 (F_X12_scan_175 N n M a0) 175 [(0, .ref a0)] [] M := by
  intro n
  induction n with
  | zero => intro _ _; exact g_none
  | succ n ih =>
    intro M a0
    unfold F_X12_scan_175
    refine g_aload_n 176 0 hX dX12_scan_175 rfl rfl ?_
    refine g_aload_n 177 0 hX dX12_scan_176 rfl rfl ?_
    refine r_X12_179 180 hX dX12_scan_177 rfl ?_
    refine g_callV_ip 183 hX (k_X12_see l g N M a0 (kI M a0 12)) lk_X12_see rfl (ci := 12) rfl (Nat.le_of_ble_eq_true rfl) q_1830 q_49 (by omega) rfl (Nat.le_of_ble_eq_true rfl) (Nat.zero_le _) (Nat.zero_le _) dX12_scan_180 rfl (fun r13 => ?_)
    refine g_callS_ip 186 hX (k_X12_isDigit l g N M r13) lk_X12_isDigit q_1841 (by omega) rfl (Nat.le_of_ble_eq_true rfl) (Nat.zero_le _) (Nat.zero_le _) dX12_scan_183 rfl (fun r14 => ?_)
    refine g_if_eq 241 189 hX dX12_scan_186 (by decide) rfl (fun _ => ?_) (fun _ => ?_)
    · refine g_aload_n 242 0 hX dX12_scan_241 rfl rfl ?_
      refine g_iconst 243 hX 2 dX12_scan_242 rfl kc_i_2 ?_
      refine p_X12_188 246 hX dX12_scan_243 rfl ?_
      refine g_klM (fun M15 hM15 => ?_)
      refine g_goto 286 hX dX12_scan_246 (by decide) ?_
      exact g_vret hX hr rfl (Nat.le_refl 0) (Nat.le_refl 0) dX12_scan_286
    · refine g_aload_n 190 0 hX dX12_scan_189 rfl rfl ?_
      refine g_aload_n 191 0 hX dX12_scan_190 rfl rfl ?_
      refine r_X12_205 194 hX dX12_scan_191 rfl ?_
      refine g_ldc 196 hX 999999 dX12_scan_194 rfl q_1846 ?_
      refine g_icmp_le 206 199 hX dX12_scan_196 (by decide) rfl (fun _ => ?_) (fun _ => ?_)
      · refine g_bipush 208 hX 10 dX12_scan_206 rfl kc_b_10 ?_
        refine g_aload_n 209 0 hX dX12_scan_208 rfl rfl ?_
        refine r_X12_205 212 hX dX12_scan_209 rfl ?_
        refine g_imul 213 hX dX12_scan_212 rfl ?_
        refine g_aload_n 214 0 hX dX12_scan_213 rfl rfl ?_
        refine g_aload_n 215 0 hX dX12_scan_214 rfl rfl ?_
        refine r_X12_179 218 hX dX12_scan_215 rfl ?_
        refine g_callV_ip 221 hX (k_X12_see l g N M a0 (kI M a0 12)) lk_X12_see rfl (ci := 12) rfl (Nat.le_of_ble_eq_true rfl) q_1830 q_49 (by omega) rfl (Nat.le_of_ble_eq_true rfl) (Nat.zero_le _) (Nat.zero_le _) dX12_scan_218 rfl (fun r16 => ?_)
        refine g_iadd 222 hX dX12_scan_221 rfl ?_
        refine g_bipush 224 hX 48 dX12_scan_222 rfl kc_b_48 ?_
        refine g_isub 225 hX dX12_scan_224 rfl ?_
        refine p_X12_205 228 hX dX12_scan_225 rfl ?_
        refine g_klM (fun M17 hM17 => ?_)
        refine g_aload_n 229 0 hX dX12_scan_228 rfl rfl ?_
        refine g_dup 230 hX dX12_scan_229 rfl rfl ?_
        refine r_X12_179 233 hX dX12_scan_230 rfl ?_
        refine g_iconst 234 hX 1 dX12_scan_233 rfl kc_i_1 ?_
        refine g_iadd 235 hX dX12_scan_234 rfl ?_
        refine p_X12_179 238 hX dX12_scan_235 rfl ?_
        refine g_klM (fun M18 hM18 => ?_)
        refine g_goto 175 hX dX12_scan_238 (by decide) ?_
        exact ih M18 a0
      · refine g_aload_n 200 0 hX dX12_scan_199 rfl rfl ?_
        refine r_X12_205 203 hX dX12_scan_200 rfl ?_
        refine g_goto 225 hX dX12_scan_203 (by decide) ?_
        refine p_X12_205 228 hX dX12_scan_225 rfl ?_
        refine g_klM (fun M19 hM19 => ?_)
        refine g_aload_n 229 0 hX dX12_scan_228 rfl rfl ?_
        refine g_dup 230 hX dX12_scan_229 rfl rfl ?_
        refine r_X12_179 233 hX dX12_scan_230 rfl ?_
        refine g_iconst 234 hX 1 dX12_scan_233 rfl kc_i_1 ?_
        refine g_iadd 235 hX dX12_scan_234 rfl ?_
        refine p_X12_179 238 hX dX12_scan_235 rfl ?_
        refine g_klM (fun M20 hM20 => ?_)
        refine g_goto 175 hX dX12_scan_238 (by decide) ?_
        exact ih M20 a0
set_option maxRecDepth 100000 in
set_option maxHeartbeats 4000000 in
theorem k_X12_scan_81 {p : Program} {l : Launch} {e : Env} {s : State} {m : MethodId} {args : Array Value} {below : List Frame} {meth : Method} {c : Code} {g : kG} (hX : Cok (p, l, e, { frames := 2 * 3, cells := 0, slots := 0, locals := 60 * 3 }, s, m, args, below, meth, c, cX12_scan, 2, RX12, g, 3)) (hr : meth.sig.returnType = none) (N : Nat) : ∀ (n : Nat) (M : kMem) (a0 : Nat), GG (p, l, e, { frames := 2 * 3, cells := 0, slots := 0, locals := 60 * 3 }, s, m, args, below, meth, c, cX12_scan, 2, RX12, g, 3) (fun b => MQ below (kQ g ((fun r : kMem => (none, r)) b)) args s 0 0 (kZ g.2.2.1)) 0 0 (F_X12_scan_81 N n M a0) 81 [(0, .ref a0)] [] M := by
  intro n
  induction n with
  | zero => intro _ _; exact g_none
  | succ n ih =>
    intro M a0
    unfold F_X12_scan_81
    refine g_aload_n 82 0 hX dX12_scan_81 rfl rfl ?_
    refine g_aload_n 83 0 hX dX12_scan_82 rfl rfl ?_
    refine r_X12_179 86 hX dX12_scan_83 rfl ?_
    refine g_callV_ip 89 hX (k_X12_see l g N M a0 (kI M a0 12)) lk_X12_see rfl (ci := 12) rfl (Nat.le_of_ble_eq_true rfl) q_1830 q_49 (by omega) rfl (Nat.le_of_ble_eq_true rfl) (Nat.zero_le _) (Nat.zero_le _) dX12_scan_86 rfl (fun r22 => ?_)
    refine g_callS_ip 92 hX (k_X12_isSmall l g N M r22) lk_X12_isSmall q_1834 (by omega) rfl (Nat.le_of_ble_eq_true rfl) (Nat.zero_le _) (Nat.zero_le _) dX12_scan_89 rfl (fun r23 => ?_)
    refine g_if_eq 155 95 hX dX12_scan_92 (by decide) rfl (fun _ => ?_) (fun _ => ?_)
    · refine g_aload_n 156 0 hX dX12_scan_155 rfl rfl ?_
      refine g_iconst 157 hX 1 dX12_scan_156 rfl kc_i_1 ?_
      refine p_X12_188 160 hX dX12_scan_157 rfl ?_
      refine g_klM (fun M24 hM24 => ?_)
      refine g_goto 286 hX dX12_scan_160 (by decide) ?_
      exact g_vret hX hr rfl (Nat.le_refl 0) (Nat.le_refl 0) dX12_scan_286
    · refine g_aload_n 96 0 hX dX12_scan_95 rfl rfl ?_
      refine g_aload_n 97 0 hX dX12_scan_96 rfl rfl ?_
      refine r_X12_179 100 hX dX12_scan_97 rfl ?_
      refine g_aload_n 101 0 hX dX12_scan_100 rfl rfl ?_
      refine r_X12_185 104 hX dX12_scan_101 rfl ?_
      refine g_isub 105 hX dX12_scan_104 rfl ?_
      refine g_bipush 107 hX 12 dX12_scan_105 rfl kc_b_12 ?_
      refine g_icmp_ge 135 110 hX dX12_scan_107 (by decide) rfl (fun _ => ?_) (fun _ => ?_)
      · refine g_aload_n 136 0 hX dX12_scan_135 rfl rfl ?_
        refine r_X12_194 139 hX dX12_scan_136 rfl ?_
        refine p_X12_194 142 hX dX12_scan_139 rfl ?_
        refine g_klM (fun M25 hM25 => ?_)
        refine g_aload_n 143 0 hX dX12_scan_142 rfl rfl ?_
        refine g_dup 144 hX dX12_scan_143 rfl rfl ?_
        refine r_X12_179 147 hX dX12_scan_144 rfl ?_
        refine g_iconst 148 hX 1 dX12_scan_147 rfl kc_i_1 ?_
        refine g_iadd 149 hX dX12_scan_148 rfl ?_
        refine p_X12_179 152 hX dX12_scan_149 rfl ?_
        refine g_klM (fun M26 hM26 => ?_)
        refine g_goto 81 hX dX12_scan_152 (by decide) ?_
        exact ih M26 a0
      · refine g_ldc2 113 hX 32 dX12_scan_110 rfl q_1839 ?_
        refine g_aload_n 114 0 hX dX12_scan_113 rfl rfl ?_
        refine r_X12_194 117 hX dX12_scan_114 rfl ?_
        refine g_lmul 118 hX dX12_scan_117 rfl ?_
        refine g_aload_n 119 0 hX dX12_scan_118 rfl rfl ?_
        refine g_aload_n 120 0 hX dX12_scan_119 rfl rfl ?_
        refine r_X12_179 123 hX dX12_scan_120 rfl ?_
        refine g_callV_ip 126 hX (k_X12_see l g N M a0 (kI M a0 12)) lk_X12_see rfl (ci := 12) rfl (Nat.le_of_ble_eq_true rfl) q_1830 q_49 (by omega) rfl (Nat.le_of_ble_eq_true rfl) (Nat.zero_le _) (Nat.zero_le _) dX12_scan_123 rfl (fun r27 => ?_)
        refine g_i2l 127 hX dX12_scan_126 rfl ?_
        refine g_ladd 128 hX dX12_scan_127 rfl ?_
        refine g_ldc2 131 hX 96 dX12_scan_128 rfl q_1840 ?_
        refine g_lsub 132 hX dX12_scan_131 rfl ?_
        refine g_goto 139 hX dX12_scan_132 (by decide) ?_
        refine p_X12_194 142 hX dX12_scan_139 rfl ?_
        refine g_klM (fun M28 hM28 => ?_)
        refine g_aload_n 143 0 hX dX12_scan_142 rfl rfl ?_
        refine g_dup 144 hX dX12_scan_143 rfl rfl ?_
        refine r_X12_179 147 hX dX12_scan_144 rfl ?_
        refine g_iconst 148 hX 1 dX12_scan_147 rfl kc_i_1 ?_
        refine g_iadd 149 hX dX12_scan_148 rfl ?_
        refine p_X12_179 152 hX dX12_scan_149 rfl ?_
        refine g_klM (fun M29 hM29 => ?_)
        refine g_goto 81 hX dX12_scan_152 (by decide) ?_
        exact ih M29 a0
set_option maxRecDepth 100000 in
set_option maxHeartbeats 4000000 in
theorem k_X12_scan_0 {p : Program} {l : Launch} {e : Env} {s : State} {m : MethodId} {args : Array Value} {below : List Frame} {meth : Method} {c : Code} {g : kG} (hX : Cok (p, l, e, { frames := 2 * 3, cells := 0, slots := 0, locals := 60 * 3 }, s, m, args, below, meth, c, cX12_scan, 2, RX12, g, 3)) (hr : meth.sig.returnType = none) (N : Nat) : ∀ (n : Nat) (M : kMem) (a0 : Nat), GG (p, l, e, { frames := 2 * 3, cells := 0, slots := 0, locals := 60 * 3 }, s, m, args, below, meth, c, cX12_scan, 2, RX12, g, 3) (fun b => MQ below (kQ g ((fun r : kMem => (none, r)) b)) args s 0 0 (kZ g.2.2.1)) 0 0 (F_X12_scan_0 N n M a0) 0 [(0, .ref a0)] [] M := by
  intro n
  induction n with
  | zero => intro _ _; exact g_none
  | succ n ih =>
    intro M a0
    unfold F_X12_scan_0
    refine g_aload_n 1 0 hX dX12_scan_0 rfl rfl ?_
    refine g_aload_n 2 0 hX dX12_scan_1 rfl rfl ?_
    refine r_X12_179 5 hX dX12_scan_2 rfl ?_
    refine g_callV_ip 8 hX (k_X12_see l g N M a0 (kI M a0 12)) lk_X12_see rfl (ci := 12) rfl (Nat.le_of_ble_eq_true rfl) q_1830 q_49 (by omega) rfl (Nat.le_of_ble_eq_true rfl) (Nat.zero_le _) (Nat.zero_le _) dX12_scan_5 rfl (fun r1 => ?_)
    refine g_bipush 10 hX 32 dX12_scan_8 rfl kc_b_32 ?_
    refine g_icmp_eq 26 13 hX dX12_scan_10 (by decide) rfl (fun _ => ?_) (fun _ => ?_)
    · refine g_aload_n 27 0 hX dX12_scan_26 rfl rfl ?_
      refine g_dup 28 hX dX12_scan_27 rfl rfl ?_
      refine r_X12_179 31 hX dX12_scan_28 rfl ?_
      refine g_iconst 32 hX 1 dX12_scan_31 rfl kc_i_1 ?_
      refine g_iadd 33 hX dX12_scan_32 rfl ?_
      refine p_X12_179 36 hX dX12_scan_33 rfl ?_
      refine g_klM (fun M2 hM2 => ?_)
      refine g_goto 0 hX dX12_scan_36 (by decide) ?_
      exact ih M2 a0
    · refine g_aload_n 14 0 hX dX12_scan_13 rfl rfl ?_
      refine g_aload_n 15 0 hX dX12_scan_14 rfl rfl ?_
      refine r_X12_179 18 hX dX12_scan_15 rfl ?_
      refine g_callV_ip 21 hX (k_X12_see l g N M a0 (kI M a0 12)) lk_X12_see rfl (ci := 12) rfl (Nat.le_of_ble_eq_true rfl) q_1830 q_49 (by omega) rfl (Nat.le_of_ble_eq_true rfl) (Nat.zero_le _) (Nat.zero_le _) dX12_scan_18 rfl (fun r3 => ?_)
      refine g_bipush 23 hX 10 dX12_scan_21 rfl kc_b_10 ?_
      refine g_icmp_ne 39 26 hX dX12_scan_23 (by decide) rfl (fun _ => ?_) (fun _ => ?_)
      · refine g_aload_n 40 0 hX dX12_scan_39 rfl rfl ?_
        refine g_aload_n 41 0 hX dX12_scan_40 rfl rfl ?_
        refine r_X12_179 44 hX dX12_scan_41 rfl ?_
        refine p_X12_185 47 hX dX12_scan_44 rfl ?_
        refine g_klM (fun M4 hM4 => ?_)
        refine g_aload_n 48 0 hX dX12_scan_47 rfl rfl ?_
        refine g_aload_n 49 0 hX dX12_scan_48 rfl rfl ?_
        refine r_X12_179 52 hX dX12_scan_49 rfl ?_
        refine g_callV_ip 55 hX (k_X12_see l g N M4 a0 (kI M4 a0 12)) lk_X12_see rfl (ci := 12) rfl (Nat.le_of_ble_eq_true rfl) q_1830 q_49 (by omega) rfl (Nat.le_of_ble_eq_true rfl) (Nat.zero_le _) (Nat.zero_le _) dX12_scan_52 rfl (fun r5 => ?_)
        refine g_istore_n 56 1 [(1, .int r5), (0, .ref a0)] hX dX12_scan_55 rfl rfl (Nat.le_of_ble_eq_true rfl) rfl ?_
        refine g_iload_n 57 0 hX dX12_scan_56 rfl rfl ?_
        refine g_iconst 58 hX (-1) dX12_scan_57 rfl kc_i_m1 ?_
        refine g_icmp_ne 69 61 hX dX12_scan_58 (by decide) rfl (fun _ => ?_) (fun _ => ?_)
        · refine g_iload_n 70 0 hX dX12_scan_69 rfl rfl ?_
          refine g_callS_ip 73 hX (k_X12_isSmall l g N M4 r5) lk_X12_isSmall q_1834 (by omega) rfl (Nat.le_of_ble_eq_true rfl) (Nat.zero_le _) (Nat.zero_le _) dX12_scan_70 rfl (fun r6 => ?_)
          refine g_if_eq 163 76 hX dX12_scan_73 (by decide) rfl (fun _ => ?_) (fun _ => ?_)
          · refine g_iload_n 164 0 hX dX12_scan_163 rfl rfl ?_
            refine g_callS_ip 167 hX (k_X12_isDigit l g N M4 r5) lk_X12_isDigit q_1841 (by omega) rfl (Nat.le_of_ble_eq_true rfl) (Nat.zero_le _) (Nat.zero_le _) dX12_scan_164 rfl (fun r7 => ?_)
            refine g_if_eq 249 170 hX dX12_scan_167 (by decide) rfl (fun _ => ?_) (fun _ => ?_)
            · refine g_aload_n 250 1 hX dX12_scan_249 rfl rfl ?_
              refine g_iload_n 251 0 hX dX12_scan_250 rfl rfl ?_
              refine g_bipush 253 hX 59 dX12_scan_251 rfl kc_b_59 ?_
              refine g_icmp_eq 268 256 hX dX12_scan_253 (by decide) rfl (fun _ => ?_) (fun _ => ?_)
              · refine g_lv [1] rfl ?_
                exact k_X12_scan_268 hX hr N M4 a0 a0
              · refine g_iload_n 257 0 hX dX12_scan_256 rfl rfl ?_
                refine g_bipush 259 hX 40 dX12_scan_257 rfl kc_b_40 ?_
                refine g_icmp_eq 268 262 hX dX12_scan_259 (by decide) rfl (fun _ => ?_) (fun _ => ?_)
                · refine g_lv [1] rfl ?_
                  exact k_X12_scan_268 hX hr N M4 a0 a0
                · refine g_iload_n 263 0 hX dX12_scan_262 rfl rfl ?_
                  refine g_bipush 265 hX 41 dX12_scan_263 rfl kc_b_41 ?_
                  refine g_icmp_ne 272 268 hX dX12_scan_265 (by decide) rfl (fun _ => ?_) (fun _ => ?_)
                  · refine g_iconst 273 hX 4 dX12_scan_272 rfl kc_i_4 ?_
                    refine p_X12_188 276 hX dX12_scan_273 rfl ?_
                    refine g_klM (fun M10 hM10 => ?_)
                    refine g_aload_n 277 1 hX dX12_scan_276 rfl rfl ?_
                    refine g_dup 278 hX dX12_scan_277 rfl rfl ?_
                    refine r_X12_179 281 hX dX12_scan_278 rfl ?_
                    refine g_iconst 282 hX 1 dX12_scan_281 rfl kc_i_1 ?_
                    refine g_iadd 283 hX dX12_scan_282 rfl ?_
                    refine p_X12_179 286 hX dX12_scan_283 rfl ?_
                    refine g_klM (fun M11 hM11 => ?_)
                    exact g_vret hX hr rfl (Nat.le_refl 0) (Nat.le_refl 0) dX12_scan_286
                  · refine g_lv [1] rfl ?_
                    exact k_X12_scan_268 hX hr N M4 a0 a0
            · refine g_aload_n 171 1 hX dX12_scan_170 rfl rfl ?_
              refine g_iconst 172 hX 0 dX12_scan_171 rfl kc_i_0 ?_
              refine p_X12_205 175 hX dX12_scan_172 rfl ?_
              refine g_klM (fun M12 hM12 => ?_)
              refine g_lv [1] rfl ?_
              exact k_X12_scan_175 hX hr N N M12 a0
          · refine g_aload_n 77 1 hX dX12_scan_76 rfl rfl ?_
            refine g_lconst 78 hX 0 dX12_scan_77 rfl rfl ?_
            refine p_X12_194 81 hX dX12_scan_78 rfl ?_
            refine g_klM (fun M21 hM21 => ?_)
            refine g_lv [1] rfl ?_
            exact k_X12_scan_81 hX hr N N M21 a0
        · refine g_aload_n 62 1 hX dX12_scan_61 rfl rfl ?_
          refine g_iconst 63 hX 0 dX12_scan_62 rfl kc_i_0 ?_
          refine p_X12_188 66 hX dX12_scan_63 rfl ?_
          refine g_klM (fun M30 hM30 => ?_)
          refine g_goto 286 hX dX12_scan_66 (by decide) ?_
          exact g_vret hX hr rfl (Nat.le_refl 0) (Nat.le_refl 0) dX12_scan_286
      · refine g_aload_n 27 0 hX dX12_scan_26 rfl rfl ?_
        refine g_dup 28 hX dX12_scan_27 rfl rfl ?_
        refine r_X12_179 31 hX dX12_scan_28 rfl ?_
        refine g_iconst 32 hX 1 dX12_scan_31 rfl kc_i_1 ?_
        refine g_iadd 33 hX dX12_scan_32 rfl ?_
        refine p_X12_179 36 hX dX12_scan_33 rfl ?_
        refine g_klM (fun M31 hM31 => ?_)
        refine g_goto 0 hX dX12_scan_36 (by decide) ?_
        exact ih M31 a0
set_option maxRecDepth 100000 in
set_option maxHeartbeats 4000000 in
theorem k_X12_scan (l : Launch) (g : kG) (N : Nat) (M : kMem) (a0 : Nat) : kMet l g yX12_scan cX12_scan 2 none 3 0 0 [.ref a0] M (fun r : kMem => (none, r)) (F_X12_scan N M a0) := by
  refine k_of (lv := [(0, .ref a0)]) RX12 (by decide) rfl rfl (Nat.le_of_ble_eq_true rfl) ?_
  intro p e s m args below meth c hX hr _
  unfold F_X12_scan
  exact k_X12_scan_0 hX hr N N M a0
def F_X12_isGood (N : Nat) (M : kMem) (a0 : Nat) : Option (Int32) :=
    kg (kt M a0 12) <|
    if (kI M a0 16) = 0 then (
      some 1) else
    some 0
set_option maxRecDepth 100000 in
set_option maxHeartbeats 4000000 in
theorem k_X12_isGood (l : Launch) (g : kG) (N : Nat) (M : kMem) (a0 : Nat) : kMet l g yX12_isGood cX12_isGood 1 (some .boolean) 1 0 0 [.ref a0] M (fun r : Int32 => (some (.int r), M)) (F_X12_isGood N M a0) := by
  refine k_of (lv := [(0, .ref a0)]) RX12 (by decide) rfl rfl (Nat.le_of_ble_eq_true rfl) ?_
  intro p e s m args below meth c hX hr _
  unfold F_X12_isGood
  refine g_aload_n 1 0 hX dX12_isGood_0 rfl rfl ?_
  refine r_X12_209 4 hX dX12_isGood_1 rfl ?_
  refine g_if_ne 11 7 hX dX12_isGood_4 (by decide) rfl (fun _ => ?_) (fun _ => ?_)
  · refine g_iconst 12 hX 0 dX12_isGood_11 rfl kc_i_0 ?_
    exact g_zretL hX hr rfl rfl (Nat.le_refl 0) (Nat.le_refl 0) dX12_isGood_12
  · refine g_iconst 8 hX 1 dX12_isGood_7 rfl kc_i_1 ?_
    refine g_goto 12 hX dX12_isGood_8 (by decide) ?_
    exact g_zretL hX hr rfl rfl (Nat.le_refl 0) (Nat.le_refl 0) dX12_isGood_12
def F_X12_must (N : Nat) (M : kMem) (a0 : Nat) (x1 : Int32) (x2 : Int32) : Option (kMem) :=
    kg (kt M a0 12) <|
    if (kI M a0 16) = 0 then (
      if x1 = 0 then (
        kg (kt M a0 12) <| kl (ksI M a0 16 x2) fun M1 =>
        kg (kt M1 a0 12) <|
        kg (kt M1 a0 12) <| kl (ksI M1 a0 17 (kI M1 a0 13)) fun M2 =>
        some M2) else
      some M) else
    some M
set_option maxRecDepth 100000 in
set_option maxHeartbeats 4000000 in
theorem k_X12_must (l : Launch) (g : kG) (N : Nat) (M : kMem) (a0 : Nat) (x1 : Int32) (x2 : Int32) : kMet l g yX12_must cX12_must 3 none 1 0 0 [.ref a0, .int x1, .int x2] M (fun r : kMem => (none, r)) (F_X12_must N M a0 x1 x2) := by
  refine k_of (lv := [(0, .ref a0), (1, .int x1), (2, .int x2)]) RX12 (by decide) rfl rfl (Nat.le_of_ble_eq_true rfl) ?_
  intro p e s m args below meth c hX hr _
  unfold F_X12_must
  refine g_aload_n 1 0 hX dX12_must_0 rfl rfl ?_
  refine r_X12_209 4 hX dX12_must_1 rfl ?_
  refine g_if_ne 24 7 hX dX12_must_4 (by decide) rfl (fun _ => ?_) (fun _ => ?_)
  · exact g_vret hX hr rfl (Nat.le_refl 0) (Nat.le_refl 0) dX12_must_24
  · refine g_iload_n 8 1 hX dX12_must_7 rfl rfl ?_
    refine g_if_ne 24 11 hX dX12_must_8 (by decide) rfl (fun _ => ?_) (fun _ => ?_)
    · exact g_vret hX hr rfl (Nat.le_refl 0) (Nat.le_refl 0) dX12_must_24
    · refine g_aload_n 12 0 hX dX12_must_11 rfl rfl ?_
      refine g_iload_n 13 2 hX dX12_must_12 rfl rfl ?_
      refine p_X12_209 16 hX dX12_must_13 rfl ?_
      refine g_klM (fun M1 hM1 => ?_)
      refine g_aload_n 17 0 hX dX12_must_16 rfl rfl ?_
      refine g_aload_n 18 0 hX dX12_must_17 rfl rfl ?_
      refine r_X12_185 21 hX dX12_must_18 rfl ?_
      refine p_X12_212 24 hX dX12_must_21 rfl ?_
      refine g_klM (fun M2 hM2 => ?_)
      exact g_vret hX hr rfl (Nat.le_refl 0) (Nat.le_refl 0) dX12_must_24
def F_X12_goesOn (N : Nat) (M : kMem) (a0 : Nat) : Option (kMem) :=
    kg (kt M a0 12) <|
    if (kI M a0 16) = 0 then (
      kg (kt M a0 12) <| (F_X12_scan N M a0).bind fun M1 =>
      some M1) else
    some M
set_option maxRecDepth 100000 in
set_option maxHeartbeats 4000000 in
theorem k_X12_goesOn (l : Launch) (g : kG) (N : Nat) (M : kMem) (a0 : Nat) : kMet l g yX12_goesOn cX12_goesOn 1 none 4 0 0 [.ref a0] M (fun r : kMem => (none, r)) (F_X12_goesOn N M a0) := by
  refine k_of (lv := [(0, .ref a0)]) RX12 (by decide) rfl rfl (Nat.le_of_ble_eq_true rfl) ?_
  intro p e s m args below meth c hX hr _
  unfold F_X12_goesOn
  refine g_aload_n 1 0 hX dX12_goesOn_0 rfl rfl ?_
  refine r_X12_209 4 hX dX12_goesOn_1 rfl ?_
  refine g_if_ne 11 7 hX dX12_goesOn_4 (by decide) rfl (fun _ => ?_) (fun _ => ?_)
  · exact g_vret hX hr rfl (Nat.le_refl 0) (Nat.le_refl 0) dX12_goesOn_11
  · refine g_aload_n 8 0 hX dX12_goesOn_7 rfl rfl ?_
    refine g_callV_v 11 hX (k_X12_scan l g N M a0) lk_X12_scan rfl (ci := 12) rfl (Nat.le_of_ble_eq_true rfl) q_1826 q_48 (by omega) rfl (Nat.le_of_ble_eq_true rfl) (Nat.zero_le _) (Nat.zero_le _) dX12_goesOn_8 rfl (fun M1 => ?_)
    exact g_vret hX hr rfl (Nat.le_refl 0) (Nat.le_refl 0) dX12_goesOn_11
def F_X12_starts (N : Nat) (M : kMem) (a0 : Nat) : Option (kMem) :=
    kg (kt M a0 12) <| kl (ksI M a0 12 0) fun M1 =>
    kg (kt M1 a0 12) <| kl (ksI M1 a0 16 0) fun M2 =>
    kg (kt M2 a0 12) <| (F_X12_scan N M2 a0).bind fun M3 =>
    some M3
set_option maxRecDepth 100000 in
set_option maxHeartbeats 4000000 in
theorem k_X12_starts (l : Launch) (g : kG) (N : Nat) (M : kMem) (a0 : Nat) : kMet l g yX12_starts cX12_starts 1 none 4 0 0 [.ref a0] M (fun r : kMem => (none, r)) (F_X12_starts N M a0) := by
  refine k_of (lv := [(0, .ref a0)]) RX12 (by decide) rfl rfl (Nat.le_of_ble_eq_true rfl) ?_
  intro p e s m args below meth c hX hr _
  unfold F_X12_starts
  refine g_aload_n 1 0 hX dX12_starts_0 rfl rfl ?_
  refine g_iconst 2 hX 0 dX12_starts_1 rfl kc_i_0 ?_
  refine p_X12_179 5 hX dX12_starts_2 rfl ?_
  refine g_klM (fun M1 hM1 => ?_)
  refine g_aload_n 6 0 hX dX12_starts_5 rfl rfl ?_
  refine g_iconst 7 hX 0 dX12_starts_6 rfl kc_i_0 ?_
  refine p_X12_209 10 hX dX12_starts_7 rfl ?_
  refine g_klM (fun M2 hM2 => ?_)
  refine g_aload_n 11 0 hX dX12_starts_10 rfl rfl ?_
  refine g_callV_v 14 hX (k_X12_scan l g N M2 a0) lk_X12_scan rfl (ci := 12) rfl (Nat.le_of_ble_eq_true rfl) q_1826 q_48 (by omega) rfl (Nat.le_of_ble_eq_true rfl) (Nat.zero_le _) (Nat.zero_le _) dX12_starts_11 rfl (fun M3 => ?_)
  exact g_vret hX hr rfl (Nat.le_refl 0) (Nat.le_refl 0) dX12_starts_14
def F_X12_isWord (N : Nat) (M : kMem) (a0 : Nat) (x1 : Int64) : Option (Int32) :=
    kg (kt M a0 12) <|
    if (kI M a0 16) = 0 then (
      kg (kt M a0 12) <|
      if (kI M a0 14) = 1 then (
        kg (kt M a0 12) <|
        kg (kt M a0 12) <|
        if ((kI M a0 12) - (kI M a0 13)) < 12 then (
          kg (kt M a0 12) <|
          if (lg_cmp (kL M a0 20) x1) = 0 then (
            some 1) else
          some 0) else
        some 0) else
      some 0) else
    some 0
set_option maxRecDepth 100000 in
set_option maxHeartbeats 4000000 in
theorem k_X12_isWord (l : Launch) (g : kG) (N : Nat) (M : kMem) (a0 : Nat) (x1 : Int64) : kMet l g yX12_isWord cX12_isWord 3 (some .boolean) 1 0 0 [.ref a0, .long x1] M (fun r : Int32 => (some (.int r), M)) (F_X12_isWord N M a0 x1) := by
  refine k_of (lv := [(0, .ref a0), (1, .long x1)]) RX12 (by decide) rfl rfl (Nat.le_of_ble_eq_true rfl) ?_
  intro p e s m args below meth c hX hr _
  unfold F_X12_isWord
  refine g_aload_n 1 0 hX dX12_isWord_0 rfl rfl ?_
  refine r_X12_209 4 hX dX12_isWord_1 rfl ?_
  refine g_if_ne 42 7 hX dX12_isWord_4 (by decide) rfl (fun _ => ?_) (fun _ => ?_)
  · refine g_iconst 43 hX 0 dX12_isWord_42 rfl kc_i_0 ?_
    exact g_zretL hX hr rfl rfl (Nat.le_refl 0) (Nat.le_refl 0) dX12_isWord_43
  · refine g_aload_n 8 0 hX dX12_isWord_7 rfl rfl ?_
    refine r_X12_188 11 hX dX12_isWord_8 rfl ?_
    refine g_iconst 12 hX 1 dX12_isWord_11 rfl kc_i_1 ?_
    refine g_icmp_ne 42 15 hX dX12_isWord_12 (by decide) rfl (fun _ => ?_) (fun _ => ?_)
    · refine g_iconst 43 hX 0 dX12_isWord_42 rfl kc_i_0 ?_
      exact g_zretL hX hr rfl rfl (Nat.le_refl 0) (Nat.le_refl 0) dX12_isWord_43
    · refine g_aload_n 16 0 hX dX12_isWord_15 rfl rfl ?_
      refine r_X12_179 19 hX dX12_isWord_16 rfl ?_
      refine g_aload_n 20 0 hX dX12_isWord_19 rfl rfl ?_
      refine r_X12_185 23 hX dX12_isWord_20 rfl ?_
      refine g_isub 24 hX dX12_isWord_23 rfl ?_
      refine g_bipush 26 hX 12 dX12_isWord_24 rfl kc_b_12 ?_
      refine g_icmp_ge 42 29 hX dX12_isWord_26 (by decide) rfl (fun _ => ?_) (fun _ => ?_)
      · refine g_iconst 43 hX 0 dX12_isWord_42 rfl kc_i_0 ?_
        exact g_zretL hX hr rfl rfl (Nat.le_refl 0) (Nat.le_refl 0) dX12_isWord_43
      · refine g_aload_n 30 0 hX dX12_isWord_29 rfl rfl ?_
        refine r_X12_194 33 hX dX12_isWord_30 rfl ?_
        refine g_lload_n 34 1 hX dX12_isWord_33 rfl rfl ?_
        refine g_lcmp 35 hX dX12_isWord_34 rfl ?_
        refine g_if_ne 42 38 hX dX12_isWord_35 (by decide) rfl (fun _ => ?_) (fun _ => ?_)
        · refine g_iconst 43 hX 0 dX12_isWord_42 rfl kc_i_0 ?_
          exact g_zretL hX hr rfl rfl (Nat.le_refl 0) (Nat.le_refl 0) dX12_isWord_43
        · refine g_iconst 39 hX 1 dX12_isWord_38 rfl kc_i_1 ?_
          refine g_goto 43 hX dX12_isWord_39 (by decide) ?_
          exact g_zretL hX hr rfl rfl (Nat.le_refl 0) (Nat.le_refl 0) dX12_isWord_43
def F_X12_isSign (N : Nat) (M : kMem) (a0 : Nat) (x1 : Int32) : Option (Int32) :=
    kg (kt M a0 12) <|
    if (kI M a0 16) = 0 then (
      kg (kt M a0 12) <|
      if (kI M a0 14) = 3 then (
        kg (kt M a0 12) <|
        kg (kt M a0 12) <|
        kg (kin M (kR M a0 9) 13 (kI M a0 13)) <|
        if (kI M (kR M a0 9) (kx (kI M a0 13))) = x1 then (
          some 1) else
        some 0) else
      some 0) else
    some 0
set_option maxRecDepth 100000 in
set_option maxHeartbeats 4000000 in
theorem k_X12_isSign (l : Launch) (g : kG) (N : Nat) (M : kMem) (a0 : Nat) (x1 : Int32) : kMet l g yX12_isSign cX12_isSign 2 (some .boolean) 1 0 0 [.ref a0, .int x1] M (fun r : Int32 => (some (.int r), M)) (F_X12_isSign N M a0 x1) := by
  refine k_of (lv := [(0, .ref a0), (1, .int x1)]) RX12 (by decide) rfl rfl (Nat.le_of_ble_eq_true rfl) ?_
  intro p e s m args below meth c hX hr _
  unfold F_X12_isSign
  refine g_aload_n 1 0 hX dX12_isSign_0 rfl rfl ?_
  refine r_X12_209 4 hX dX12_isSign_1 rfl ?_
  refine g_if_ne 32 7 hX dX12_isSign_4 (by decide) rfl (fun _ => ?_) (fun _ => ?_)
  · refine g_iconst 33 hX 0 dX12_isSign_32 rfl kc_i_0 ?_
    exact g_zretL hX hr rfl rfl (Nat.le_refl 0) (Nat.le_refl 0) dX12_isSign_33
  · refine g_aload_n 8 0 hX dX12_isSign_7 rfl rfl ?_
    refine r_X12_188 11 hX dX12_isSign_8 rfl ?_
    refine g_iconst 12 hX 3 dX12_isSign_11 rfl kc_i_3 ?_
    refine g_icmp_ne 32 15 hX dX12_isSign_12 (by decide) rfl (fun _ => ?_) (fun _ => ?_)
    · refine g_iconst 33 hX 0 dX12_isSign_32 rfl kc_i_0 ?_
      exact g_zretL hX hr rfl rfl (Nat.le_refl 0) (Nat.le_refl 0) dX12_isSign_33
    · refine g_aload_n 16 0 hX dX12_isSign_15 rfl rfl ?_
      refine r_X12_32 19 hX dX12_isSign_16 rfl ?_
      refine g_aload_n 20 0 hX dX12_isSign_19 rfl rfl ?_
      refine r_X12_185 23 hX dX12_isSign_20 rfl ?_
      refine g_iald 24 hX dX12_isSign_23 rfl ?_
      refine g_iload_n 25 1 hX dX12_isSign_24 rfl rfl ?_
      refine g_icmp_ne 32 28 hX dX12_isSign_25 (by decide) rfl (fun _ => ?_) (fun _ => ?_)
      · refine g_iconst 33 hX 0 dX12_isSign_32 rfl kc_i_0 ?_
        exact g_zretL hX hr rfl rfl (Nat.le_refl 0) (Nat.le_refl 0) dX12_isSign_33
      · refine g_iconst 29 hX 1 dX12_isSign_28 rfl kc_i_1 ?_
        refine g_goto 33 hX dX12_isSign_29 (by decide) ?_
        exact g_zretL hX hr rfl rfl (Nat.le_refl 0) (Nat.le_refl 0) dX12_isSign_33
def F_X12_sign (N : Nat) (M : kMem) (a0 : Nat) (x1 : Int32) : Option (kMem) :=
    kg (kt M a0 12) <| (F_X12_isSign N M a0 x1).bind fun r1 =>
    kg (kt M a0 12) <| (F_X12_must N M a0 r1 1).bind fun M2 =>
    kg (kt M2 a0 12) <| (F_X12_goesOn N M2 a0).bind fun M3 =>
    some M3
set_option maxRecDepth 100000 in
set_option maxHeartbeats 4000000 in
theorem k_X12_sign (l : Launch) (g : kG) (N : Nat) (M : kMem) (a0 : Nat) (x1 : Int32) : kMet l g yX12_sign cX12_sign 2 none 5 0 0 [.ref a0, .int x1] M (fun r : kMem => (none, r)) (F_X12_sign N M a0 x1) := by
  refine k_of (lv := [(0, .ref a0), (1, .int x1)]) RX12 (by decide) rfl rfl (Nat.le_of_ble_eq_true rfl) ?_
  intro p e s m args below meth c hX hr _
  unfold F_X12_sign
  refine g_aload_n 1 0 hX dX12_sign_0 rfl rfl ?_
  refine g_aload_n 2 0 hX dX12_sign_1 rfl rfl ?_
  refine g_iload_n 3 1 hX dX12_sign_2 rfl rfl ?_
  refine g_callV_ip 6 hX (k_X12_isSign l g N M a0 x1) lk_X12_isSign rfl (ci := 12) rfl (Nat.le_of_ble_eq_true rfl) q_1873 q_56 (by omega) rfl (Nat.le_of_ble_eq_true rfl) (Nat.zero_le _) (Nat.zero_le _) dX12_sign_3 rfl (fun r1 => ?_)
  refine g_iconst 7 hX 1 dX12_sign_6 rfl kc_i_1 ?_
  refine g_callV_v 10 hX (k_X12_must l g N M a0 r1 1) lk_X12_must rfl (ci := 12) rfl (Nat.le_of_ble_eq_true rfl) q_1856 q_52 (by omega) rfl (Nat.le_of_ble_eq_true rfl) (Nat.zero_le _) (Nat.zero_le _) dX12_sign_7 rfl (fun M2 => ?_)
  refine g_aload_n 11 0 hX dX12_sign_10 rfl rfl ?_
  refine g_callV_v 14 hX (k_X12_goesOn l g N M2 a0) lk_X12_goesOn rfl (ci := 12) rfl (Nat.le_of_ble_eq_true rfl) q_1860 q_53 (by omega) rfl (Nat.le_of_ble_eq_true rfl) (Nat.zero_le _) (Nat.zero_le _) dX12_sign_11 rfl (fun M3 => ?_)
  exact g_vret hX hr rfl (Nat.le_refl 0) (Nat.le_refl 0) dX12_sign_14
def F_X12_reads_14 (N : Nat) (M : kMem) (a0 : Nat) (x1 : Int32) (x2 : Int32) (y0 : Nat) (y1 : Int32) : Option (Int32 × kMem) :=
    kg (kt M y0 12) <| (F_X12_must N M y0 y1 1).bind fun M1 =>
    kg (kt M1 a0 12) <|
    (F_X12_in N M1 ((kI M1 a0 15).toInt64) x1.toInt64 x2.toInt64).bind fun r2 =>
    kg (kt M1 a0 12) <| (F_X12_must N M1 a0 r2 2).bind fun M3 =>
    kg (kt M3 a0 12) <|
    kl (kI M3 a0 15) fun v4 =>
    kg (kt M3 a0 12) <| (F_X12_goesOn N M3 a0).bind fun M5 =>
    kg (kt M5 a0 12) <|
    if (kI M5 a0 16) = 0 then (
      some (v4, M5)) else
    some (x1, M5)
def F_X12_reads (N : Nat) (M : kMem) (a0 : Nat) (x1 : Int32) (x2 : Int32) : Option (Int32 × kMem) :=
    kg (kt M a0 12) <|
    if (kI M a0 14) = 2 then (
      F_X12_reads_14 N M a0 x1 x2 a0 1) else
    F_X12_reads_14 N M a0 x1 x2 a0 0
set_option maxRecDepth 100000 in
set_option maxHeartbeats 4000000 in
theorem k_X12_reads_14 {p : Program} {l : Launch} {e : Env} {s : State} {m : MethodId} {args : Array Value} {below : List Frame} {meth : Method} {c : Code} {g : kG} (hX : Cok (p, l, e, { frames := 2 * 5, cells := 0, slots := 0, locals := 60 * 5 }, s, m, args, below, meth, c, cX12_reads, 4, RX12, g, 5)) (hr : meth.sig.returnType = (some .int)) (N : Nat) : ∀ (M : kMem) (a0 : Nat) (x1 : Int32) (x2 : Int32) (y0 : Nat) (y1 : Int32), GG (p, l, e, { frames := 2 * 5, cells := 0, slots := 0, locals := 60 * 5 }, s, m, args, below, meth, c, cX12_reads, 4, RX12, g, 5) (fun b => MQ below (kQ g ((fun r : Int32 × kMem => (some (.int r.1), r.2)) b)) args s 0 0 (kZ g.2.2.1)) 0 0 (F_X12_reads_14 N M a0 x1 x2 y0 y1) 14 [(0, .ref a0), (1, .int x1), (2, .int x2)] [.int y1, .ref y0] M := by
  intro M a0 x1 x2 y0 y1
  unfold F_X12_reads_14
  refine g_iconst 15 hX 1 dX12_reads_14 rfl kc_i_1 ?_
  refine g_callV_v 18 hX (k_X12_must l g N M y0 y1 1) lk_X12_must rfl (ci := 12) rfl (Nat.le_of_ble_eq_true rfl) q_1856 q_52 (by omega) rfl (Nat.le_of_ble_eq_true rfl) (Nat.zero_le _) (Nat.zero_le _) dX12_reads_15 rfl (fun M1 => ?_)
  refine g_aload_n 19 0 hX dX12_reads_18 rfl rfl ?_
  refine g_aload_n 20 0 hX dX12_reads_19 rfl rfl ?_
  refine r_X12_205 23 hX dX12_reads_20 rfl ?_
  refine g_i2l 24 hX dX12_reads_23 rfl ?_
  refine g_iload_n 25 1 hX dX12_reads_24 rfl rfl ?_
  refine g_i2l 26 hX dX12_reads_25 rfl ?_
  refine g_iload_n 27 2 hX dX12_reads_26 rfl rfl ?_
  refine g_i2l 28 hX dX12_reads_27 rfl ?_
  refine g_callS_ip 31 hX (k_X12_in l g N M1 ((kI M1 a0 15).toInt64) x1.toInt64 x2.toInt64) lk_X12_in q_1808 (by omega) rfl (Nat.le_of_ble_eq_true rfl) (Nat.zero_le _) (Nat.zero_le _) dX12_reads_28 rfl (fun r2 => ?_)
  refine g_iconst 32 hX 2 dX12_reads_31 rfl kc_i_2 ?_
  refine g_callV_v 35 hX (k_X12_must l g N M1 a0 r2 2) lk_X12_must rfl (ci := 12) rfl (Nat.le_of_ble_eq_true rfl) q_1856 q_52 (by omega) rfl (Nat.le_of_ble_eq_true rfl) (Nat.zero_le _) (Nat.zero_le _) dX12_reads_32 rfl (fun M3 => ?_)
  refine g_aload_n 36 0 hX dX12_reads_35 rfl rfl ?_
  refine r_X12_205 39 hX dX12_reads_36 rfl ?_
  refine g_klI (fun v4 hv4 => ?_)
  refine g_istore_n 40 3 [(3, .int v4), (0, .ref a0), (1, .int x1), (2, .int x2)] hX dX12_reads_39 rfl rfl (Nat.le_of_ble_eq_true rfl) rfl ?_
  refine g_aload_n 41 1 hX dX12_reads_40 rfl rfl ?_
  refine g_callV_v 44 hX (k_X12_goesOn l g N M3 a0) lk_X12_goesOn rfl (ci := 12) rfl (Nat.le_of_ble_eq_true rfl) q_1860 q_53 (by omega) rfl (Nat.le_of_ble_eq_true rfl) (Nat.zero_le _) (Nat.zero_le _) dX12_reads_41 rfl (fun M5 => ?_)
  refine g_aload_n 45 1 hX dX12_reads_44 rfl rfl ?_
  refine r_X12_209 48 hX dX12_reads_45 rfl ?_
  refine g_if_ne 55 51 hX dX12_reads_48 (by decide) rfl (fun _ => ?_) (fun _ => ?_)
  · refine g_iload_n 56 2 hX dX12_reads_55 rfl rfl ?_
    exact g_iret hX hr rfl (Nat.le_refl 0) (Nat.le_refl 0) dX12_reads_56
  · refine g_iload_n 52 0 hX dX12_reads_51 rfl rfl ?_
    refine g_goto 56 hX dX12_reads_52 (by decide) ?_
    exact g_iret hX hr rfl (Nat.le_refl 0) (Nat.le_refl 0) dX12_reads_56
set_option maxRecDepth 100000 in
set_option maxHeartbeats 4000000 in
theorem k_X12_reads (l : Launch) (g : kG) (N : Nat) (M : kMem) (a0 : Nat) (x1 : Int32) (x2 : Int32) : kMet l g yX12_reads cX12_reads 4 (some .int) 5 0 0 [.ref a0, .int x1, .int x2] M (fun r : Int32 × kMem => (some (.int r.1), r.2)) (F_X12_reads N M a0 x1 x2) := by
  refine k_of (lv := [(0, .ref a0), (1, .int x1), (2, .int x2)]) RX12 (by decide) rfl rfl (Nat.le_of_ble_eq_true rfl) ?_
  intro p e s m args below meth c hX hr _
  unfold F_X12_reads
  refine g_aload_n 1 0 hX dX12_reads_0 rfl rfl ?_
  refine g_aload_n 2 0 hX dX12_reads_1 rfl rfl ?_
  refine r_X12_188 5 hX dX12_reads_2 rfl ?_
  refine g_iconst 6 hX 2 dX12_reads_5 rfl kc_i_2 ?_
  refine g_icmp_ne 13 9 hX dX12_reads_6 (by decide) rfl (fun _ => ?_) (fun _ => ?_)
  · refine g_iconst 14 hX 0 dX12_reads_13 rfl kc_i_0 ?_
    exact k_X12_reads_14 hX hr N M a0 x1 x2 a0 0
  · refine g_iconst 10 hX 1 dX12_reads_9 rfl kc_i_1 ?_
    refine g_goto 14 hX dX12_reads_10 (by decide) ?_
    exact k_X12_reads_14 hX hr N M a0 x1 x2 a0 1
def F_X12_isNameHere (N : Nat) (M : kMem) (a0 : Nat) : Option (Int32) :=
    kg (kt M a0 12) <|
    if (kI M a0 14) = 1 then (
      kg (kt M a0 12) <|
      kg (kt M a0 12) <|
      if (6 : Int32) < ((kI M a0 12) - (kI M a0 13)) then (
        some 0) else
      some 1) else
    some 0
set_option maxRecDepth 100000 in
set_option maxHeartbeats 4000000 in
theorem k_X12_isNameHere (l : Launch) (g : kG) (N : Nat) (M : kMem) (a0 : Nat) : kMet l g yX12_isNameHere cX12_isNameHere 1 (some .boolean) 1 0 0 [.ref a0] M (fun r : Int32 => (some (.int r), M)) (F_X12_isNameHere N M a0) := by
  refine k_of (lv := [(0, .ref a0)]) RX12 (by decide) rfl rfl (Nat.le_of_ble_eq_true rfl) ?_
  intro p e s m args below meth c hX hr _
  unfold F_X12_isNameHere
  refine g_aload_n 1 0 hX dX12_isNameHere_0 rfl rfl ?_
  refine r_X12_188 4 hX dX12_isNameHere_1 rfl ?_
  refine g_iconst 5 hX 1 dX12_isNameHere_4 rfl kc_i_1 ?_
  refine g_icmp_ne 26 8 hX dX12_isNameHere_5 (by decide) rfl (fun _ => ?_) (fun _ => ?_)
  · refine g_iconst 27 hX 0 dX12_isNameHere_26 rfl kc_i_0 ?_
    exact g_zretL hX hr rfl rfl (Nat.le_refl 0) (Nat.le_refl 0) dX12_isNameHere_27
  · refine g_aload_n 9 0 hX dX12_isNameHere_8 rfl rfl ?_
    refine r_X12_179 12 hX dX12_isNameHere_9 rfl ?_
    refine g_aload_n 13 0 hX dX12_isNameHere_12 rfl rfl ?_
    refine r_X12_185 16 hX dX12_isNameHere_13 rfl ?_
    refine g_isub 17 hX dX12_isNameHere_16 rfl ?_
    refine g_bipush 19 hX 6 dX12_isNameHere_17 rfl kc_b_6 ?_
    refine g_icmp_gt 26 22 hX dX12_isNameHere_19 (by decide) rfl (fun _ => ?_) (fun _ => ?_)
    · refine g_iconst 27 hX 0 dX12_isNameHere_26 rfl kc_i_0 ?_
      exact g_zretL hX hr rfl rfl (Nat.le_refl 0) (Nat.le_refl 0) dX12_isNameHere_27
    · refine g_iconst 23 hX 1 dX12_isNameHere_22 rfl kc_i_1 ?_
      refine g_goto 27 hX dX12_isNameHere_23 (by decide) ?_
      exact g_zretL hX hr rfl rfl (Nat.le_refl 0) (Nat.le_refl 0) dX12_isNameHere_27
def F_X12_named (N : Nat) (M : kMem) (a0 : Nat) : Option (Int32) :=
    kg (kt M a0 12) <| (F_X12_isGood N M a0).bind fun r1 =>
    if r1 = 0 then (
      some (-1)) else
    kg (kt M a0 12) <|
    kg (kt M a0 12) <| (F_X12_traderNamed N M a0 ((kL M a0 20).toInt32)).bind fun r2 =>
    some r2
set_option maxRecDepth 100000 in
set_option maxHeartbeats 4000000 in
theorem k_X12_named (l : Launch) (g : kG) (N : Nat) (M : kMem) (a0 : Nat) : kMet l g yX12_named cX12_named 1 (some .int) 4 0 0 [.ref a0] M (fun r : Int32 => (some (.int r), M)) (F_X12_named N M a0) := by
  refine k_of (lv := [(0, .ref a0)]) RX12 (by decide) rfl rfl (Nat.le_of_ble_eq_true rfl) ?_
  intro p e s m args below meth c hX hr _
  unfold F_X12_named
  refine g_aload_n 1 0 hX dX12_named_0 rfl rfl ?_
  refine g_callV_ip 4 hX (k_X12_isGood l g N M a0) lk_X12_isGood rfl (ci := 12) rfl (Nat.le_of_ble_eq_true rfl) q_1882 q_58 (by omega) rfl (Nat.le_of_ble_eq_true rfl) (Nat.zero_le _) (Nat.zero_le _) dX12_named_1 rfl (fun r1 => ?_)
  refine g_if_eq 19 7 hX dX12_named_4 (by decide) rfl (fun _ => ?_) (fun _ => ?_)
  · refine g_iconst 20 hX (-1) dX12_named_19 rfl kc_i_m1 ?_
    exact g_iret hX hr rfl (Nat.le_refl 0) (Nat.le_refl 0) dX12_named_20
  · refine g_aload_n 8 0 hX dX12_named_7 rfl rfl ?_
    refine g_aload_n 9 0 hX dX12_named_8 rfl rfl ?_
    refine r_X12_194 12 hX dX12_named_9 rfl ?_
    refine g_l2i 13 hX dX12_named_12 rfl ?_
    refine g_callV_ip 16 hX (k_X12_traderNamed l g N M a0 ((kL M a0 20).toInt32)) lk_X12_traderNamed rfl (ci := 12) rfl (Nat.le_of_ble_eq_true rfl) q_1899 q_62 (by omega) rfl (Nat.le_of_ble_eq_true rfl) (Nat.zero_le _) (Nat.zero_le _) dX12_named_13 rfl (fun r2 => ?_)
    refine g_goto 20 hX dX12_named_16 (by decide) ?_
    exact g_iret hX hr rfl (Nat.le_refl 0) (Nat.le_refl 0) dX12_named_20
def F_X12_boardText (N : Nat) (M : kMem) (a0 : Nat) : Option (kMem) :=
    kg (kt M a0 12) <| (F_X12_reads N M a0 1 6).bind fun r1 =>
    kl r1.1 fun v2 =>
    kg (kt r1.2 a0 12) <| (F_X12_reads N r1.2 a0 1 99).bind fun r3 =>
    kl r3.1 fun v4 =>
    kg (kt r3.2 a0 12) <| (F_X12_reads N r3.2 a0 0 999).bind fun r5 =>
    kl r5.1 fun v6 =>
    kg (kt r5.2 a0 12) <| (F_X12_isGood N r5.2 a0).bind fun r7 =>
    if r7 = 0 then (
      some r5.2) else
    kg (kt r5.2 a0 12) <| (F_X12_builds N r5.2 a0 v2 v4 v6).bind fun M8 =>
    some M8
set_option maxRecDepth 100000 in
set_option maxHeartbeats 4000000 in
theorem k_X12_boardText (l : Launch) (g : kG) (N : Nat) (M : kMem) (a0 : Nat) : kMet l g yX12_boardText cX12_boardText 4 none 6 0 0 [.ref a0] M (fun r : kMem => (none, r)) (F_X12_boardText N M a0) := by
  refine k_of (lv := [(0, .ref a0)]) RX12 (by decide) rfl rfl (Nat.le_of_ble_eq_true rfl) ?_
  intro p e s m args below meth c hX hr _
  unfold F_X12_boardText
  refine g_aload_n 1 0 hX dX12_boardText_0 rfl rfl ?_
  refine g_iconst 2 hX 1 dX12_boardText_1 rfl kc_i_1 ?_
  refine g_bipush 4 hX 6 dX12_boardText_2 rfl kc_b_6 ?_
  refine g_callV_i 7 hX (k_X12_reads l g N M a0 1 6) lk_X12_reads rfl (ci := 12) rfl (Nat.le_of_ble_eq_true rfl) q_1864 q_54 (by omega) rfl (Nat.le_of_ble_eq_true rfl) (Nat.zero_le _) (Nat.zero_le _) dX12_boardText_4 rfl (fun r1 => ?_)
  refine g_klI (fun v2 hv2 => ?_)
  refine g_istore_n 8 1 [(1, .int v2), (0, .ref a0)] hX dX12_boardText_7 rfl rfl (Nat.le_of_ble_eq_true rfl) rfl ?_
  refine g_aload_n 9 1 hX dX12_boardText_8 rfl rfl ?_
  refine g_iconst 10 hX 1 dX12_boardText_9 rfl kc_i_1 ?_
  refine g_bipush 12 hX 99 dX12_boardText_10 rfl kc_b_99 ?_
  refine g_callV_i 15 hX (k_X12_reads l g N r1.2 a0 1 99) lk_X12_reads rfl (ci := 12) rfl (Nat.le_of_ble_eq_true rfl) q_1864 q_54 (by omega) rfl (Nat.le_of_ble_eq_true rfl) (Nat.zero_le _) (Nat.zero_le _) dX12_boardText_12 rfl (fun r3 => ?_)
  refine g_klI (fun v4 hv4 => ?_)
  refine g_istore_n 16 2 [(2, .int v4), (1, .int v2), (0, .ref a0)] hX dX12_boardText_15 rfl rfl (Nat.le_of_ble_eq_true rfl) rfl ?_
  refine g_aload_n 17 2 hX dX12_boardText_16 rfl rfl ?_
  refine g_iconst 18 hX 0 dX12_boardText_17 rfl kc_i_0 ?_
  refine g_sipush 21 hX 999 dX12_boardText_18 rfl kc_s_999 ?_
  refine g_callV_i 24 hX (k_X12_reads l g N r3.2 a0 0 999) lk_X12_reads rfl (ci := 12) rfl (Nat.le_of_ble_eq_true rfl) q_1864 q_54 (by omega) rfl (Nat.le_of_ble_eq_true rfl) (Nat.zero_le _) (Nat.zero_le _) dX12_boardText_21 rfl (fun r5 => ?_)
  refine g_klI (fun v6 hv6 => ?_)
  refine g_istore_n 25 3 [(3, .int v6), (2, .int v4), (1, .int v2), (0, .ref a0)] hX dX12_boardText_24 rfl rfl (Nat.le_of_ble_eq_true rfl) rfl ?_
  refine g_aload_n 26 3 hX dX12_boardText_25 rfl rfl ?_
  refine g_callV_ip 29 hX (k_X12_isGood l g N r5.2 a0) lk_X12_isGood rfl (ci := 12) rfl (Nat.le_of_ble_eq_true rfl) q_1882 q_58 (by omega) rfl (Nat.le_of_ble_eq_true rfl) (Nat.zero_le _) (Nat.zero_le _) dX12_boardText_26 rfl (fun r7 => ?_)
  refine g_if_eq 39 32 hX dX12_boardText_29 (by decide) rfl (fun _ => ?_) (fun _ => ?_)
  · exact g_vret hX hr rfl (Nat.le_refl 0) (Nat.le_refl 0) dX12_boardText_39
  · refine g_aload_n 33 3 hX dX12_boardText_32 rfl rfl ?_
    refine g_iload_n 34 2 hX dX12_boardText_33 rfl rfl ?_
    refine g_iload_n 35 1 hX dX12_boardText_34 rfl rfl ?_
    refine g_iload_n 36 0 hX dX12_boardText_35 rfl rfl ?_
    refine g_callV_v 39 hX (k_X12_builds l g N r5.2 a0 v2 v4 v6) lk_X12_builds rfl (ci := 12) rfl (Nat.le_of_ble_eq_true rfl) q_1664 q_38 (by omega) rfl (Nat.le_of_ble_eq_true rfl) (Nat.zero_le _) (Nat.zero_le _) dX12_boardText_36 rfl (fun M8 => ?_)
    exact g_vret hX hr rfl (Nat.le_refl 0) (Nat.le_refl 0) dX12_boardText_39
def F_X12_traderText_23 (N : Nat) (M : kMem) (a0 : Nat) (y0 : Nat) (y1 : Int32) : Option (kMem) :=
    kg (kt M y0 12) <| (F_X12_must N M y0 y1 3).bind fun M4 =>
    kg (kt M4 a0 12) <|
    kl ((kL M4 a0 20).toInt32) fun v5 =>
    kg (kt M4 a0 12) <| (F_X12_goesOn N M4 a0).bind fun M6 =>
    kg (kt M6 a0 12) <| (F_X12_reads N M6 a0 1 99).bind fun r7 =>
    kl r7.1 fun v8 =>
    kg (kt r7.2 a0 12) <| (F_X12_reads N r7.2 a0 0 9999).bind fun r9 =>
    kl r9.1 fun v10 =>
    kg (kt r9.2 a0 12) <|
    kg (kin r9.2 (kR r9.2 a0 0) 13 3) <|
    (F_X12_lesser N r9.2 999 (kI r9.2 (kR r9.2 a0 0) (kx 3))).bind fun r11 =>
    kg (kt r9.2 a0 12) <| (F_X12_reads N r9.2 a0 0 r11).bind fun r12 =>
    kl r12.1 fun v13 =>
    kg (kt r12.2 a0 12) <| (F_X12_isGood N r12.2 a0).bind fun r14 =>
    if r14 = 0 then (
      some r12.2) else
    kg (kt r12.2 a0 12) <| (F_X12_appears N r12.2 a0 v5 v8 v10 v13).bind fun M15 =>
    some M15
def F_X12_traderText (N : Nat) (M : kMem) (a0 : Nat) : Option (kMem) :=
    kg (kt M a0 12) <| (F_X12_isNameHere N M a0).bind fun r1 =>
    kg (kt M a0 12) <| (F_X12_must N M a0 r1 1).bind fun M2 =>
    kg (kt M2 a0 12) <| (F_X12_named N M2 a0).bind fun r3 =>
    if r3 = (-1) then (
      F_X12_traderText_23 N M2 a0 a0 1) else
    F_X12_traderText_23 N M2 a0 a0 0
set_option maxRecDepth 100000 in
set_option maxHeartbeats 4000000 in
theorem k_X12_traderText_23 {p : Program} {l : Launch} {e : Env} {s : State} {m : MethodId} {args : Array Value} {below : List Frame} {meth : Method} {c : Code} {g : kG} (hX : Cok (p, l, e, { frames := 2 * 6, cells := 0, slots := 0, locals := 60 * 6 }, s, m, args, below, meth, c, cX12_traderText, 5, RX12, g, 6)) (hr : meth.sig.returnType = none) (N : Nat) : ∀ (M : kMem) (a0 : Nat) (y0 : Nat) (y1 : Int32), GG (p, l, e, { frames := 2 * 6, cells := 0, slots := 0, locals := 60 * 6 }, s, m, args, below, meth, c, cX12_traderText, 5, RX12, g, 6) (fun b => MQ below (kQ g ((fun r : kMem => (none, r)) b)) args s 0 0 (kZ g.2.2.1)) 0 0 (F_X12_traderText_23 N M a0 y0 y1) 23 [(0, .ref a0)] [.int y1, .ref y0] M := by
  intro M a0 y0 y1
  unfold F_X12_traderText_23
  refine g_iconst 24 hX 3 dX12_traderText_23 rfl kc_i_3 ?_
  refine g_callV_v 27 hX (k_X12_must l g N M y0 y1 3) lk_X12_must rfl (ci := 12) rfl (Nat.le_of_ble_eq_true rfl) q_1856 q_52 (by omega) rfl (Nat.le_of_ble_eq_true rfl) (Nat.zero_le _) (Nat.zero_le _) dX12_traderText_24 rfl (fun M4 => ?_)
  refine g_aload_n 28 0 hX dX12_traderText_27 rfl rfl ?_
  refine r_X12_194 31 hX dX12_traderText_28 rfl ?_
  refine g_l2i 32 hX dX12_traderText_31 rfl ?_
  refine g_klI (fun v5 hv5 => ?_)
  refine g_istore_n 33 1 [(1, .int v5), (0, .ref a0)] hX dX12_traderText_32 rfl rfl (Nat.le_of_ble_eq_true rfl) rfl ?_
  refine g_aload_n 34 1 hX dX12_traderText_33 rfl rfl ?_
  refine g_callV_v 37 hX (k_X12_goesOn l g N M4 a0) lk_X12_goesOn rfl (ci := 12) rfl (Nat.le_of_ble_eq_true rfl) q_1860 q_53 (by omega) rfl (Nat.le_of_ble_eq_true rfl) (Nat.zero_le _) (Nat.zero_le _) dX12_traderText_34 rfl (fun M6 => ?_)
  refine g_aload_n 38 1 hX dX12_traderText_37 rfl rfl ?_
  refine g_iconst 39 hX 1 dX12_traderText_38 rfl kc_i_1 ?_
  refine g_bipush 41 hX 99 dX12_traderText_39 rfl kc_b_99 ?_
  refine g_callV_i 44 hX (k_X12_reads l g N M6 a0 1 99) lk_X12_reads rfl (ci := 12) rfl (Nat.le_of_ble_eq_true rfl) q_1864 q_54 (by omega) rfl (Nat.le_of_ble_eq_true rfl) (Nat.zero_le _) (Nat.zero_le _) dX12_traderText_41 rfl (fun r7 => ?_)
  refine g_klI (fun v8 hv8 => ?_)
  refine g_istore_n 45 2 [(2, .int v8), (1, .int v5), (0, .ref a0)] hX dX12_traderText_44 rfl rfl (Nat.le_of_ble_eq_true rfl) rfl ?_
  refine g_aload_n 46 2 hX dX12_traderText_45 rfl rfl ?_
  refine g_iconst 47 hX 0 dX12_traderText_46 rfl kc_i_0 ?_
  refine g_sipush 50 hX 9999 dX12_traderText_47 rfl kc_s_9999 ?_
  refine g_callV_i 53 hX (k_X12_reads l g N r7.2 a0 0 9999) lk_X12_reads rfl (ci := 12) rfl (Nat.le_of_ble_eq_true rfl) q_1864 q_54 (by omega) rfl (Nat.le_of_ble_eq_true rfl) (Nat.zero_le _) (Nat.zero_le _) dX12_traderText_50 rfl (fun r9 => ?_)
  refine g_klI (fun v10 hv10 => ?_)
  refine g_istore_n 54 3 [(3, .int v10), (2, .int v8), (1, .int v5), (0, .ref a0)] hX dX12_traderText_53 rfl rfl (Nat.le_of_ble_eq_true rfl) rfl ?_
  refine g_aload_n 55 3 hX dX12_traderText_54 rfl rfl ?_
  refine g_iconst 56 hX 0 dX12_traderText_55 rfl kc_i_0 ?_
  refine g_sipush 59 hX 999 dX12_traderText_56 rfl kc_s_999 ?_
  refine g_aload_n 60 3 hX dX12_traderText_59 rfl rfl ?_
  refine r_X12_7 63 hX dX12_traderText_60 rfl ?_
  refine g_iconst 64 hX 3 dX12_traderText_63 rfl kc_i_3 ?_
  refine g_iald 65 hX dX12_traderText_64 rfl ?_
  refine g_callS_ip 68 hX (k_X12_lesser l g N r9.2 999 (kI r9.2 (kR r9.2 a0 0) (kx 3))) lk_X12_lesser q_1903 (by omega) rfl (Nat.le_of_ble_eq_true rfl) (Nat.zero_le _) (Nat.zero_le _) dX12_traderText_65 rfl (fun r11 => ?_)
  refine g_callV_i 71 hX (k_X12_reads l g N r9.2 a0 0 r11) lk_X12_reads rfl (ci := 12) rfl (Nat.le_of_ble_eq_true rfl) q_1864 q_54 (by omega) rfl (Nat.le_of_ble_eq_true rfl) (Nat.zero_le _) (Nat.zero_le _) dX12_traderText_68 rfl (fun r12 => ?_)
  refine g_klI (fun v13 hv13 => ?_)
  refine g_istore 73 4 [(4, .int v13), (3, .int v10), (2, .int v8), (1, .int v5), (0, .ref a0)] hX dX12_traderText_71 rfl (Nat.le_of_ble_eq_true rfl) rfl ?_
  refine g_aload_n 74 4 hX dX12_traderText_73 rfl rfl ?_
  refine g_callV_ip 77 hX (k_X12_isGood l g N r12.2 a0) lk_X12_isGood rfl (ci := 12) rfl (Nat.le_of_ble_eq_true rfl) q_1882 q_58 (by omega) rfl (Nat.le_of_ble_eq_true rfl) (Nat.zero_le _) (Nat.zero_le _) dX12_traderText_74 rfl (fun r14 => ?_)
  refine g_if_eq 89 80 hX dX12_traderText_77 (by decide) rfl (fun _ => ?_) (fun _ => ?_)
  · exact g_vret hX hr rfl (Nat.le_refl 0) (Nat.le_refl 0) dX12_traderText_89
  · refine g_aload_n 81 4 hX dX12_traderText_80 rfl rfl ?_
    refine g_iload_n 82 3 hX dX12_traderText_81 rfl rfl ?_
    refine g_iload_n 83 2 hX dX12_traderText_82 rfl rfl ?_
    refine g_iload_n 84 1 hX dX12_traderText_83 rfl rfl ?_
    refine g_iload 86 0 hX dX12_traderText_84 rfl rfl ?_
    refine g_callV_v 89 hX (k_X12_appears l g N r12.2 a0 v5 v8 v10 v13) lk_X12_appears rfl (ci := 12) rfl (Nat.le_of_ble_eq_true rfl) q_1671 q_39 (by omega) rfl (Nat.le_of_ble_eq_true rfl) (Nat.zero_le _) (Nat.zero_le _) dX12_traderText_86 rfl (fun M15 => ?_)
    exact g_vret hX hr rfl (Nat.le_refl 0) (Nat.le_refl 0) dX12_traderText_89
set_option maxRecDepth 100000 in
set_option maxHeartbeats 4000000 in
theorem k_X12_traderText (l : Launch) (g : kG) (N : Nat) (M : kMem) (a0 : Nat) : kMet l g yX12_traderText cX12_traderText 5 none 6 0 0 [.ref a0] M (fun r : kMem => (none, r)) (F_X12_traderText N M a0) := by
  refine k_of (lv := [(0, .ref a0)]) RX12 (by decide) rfl rfl (Nat.le_of_ble_eq_true rfl) ?_
  intro p e s m args below meth c hX hr _
  unfold F_X12_traderText
  refine g_aload_n 1 0 hX dX12_traderText_0 rfl rfl ?_
  refine g_aload_n 2 0 hX dX12_traderText_1 rfl rfl ?_
  refine g_callV_ip 5 hX (k_X12_isNameHere l g N M a0) lk_X12_isNameHere rfl (ci := 12) rfl (Nat.le_of_ble_eq_true rfl) q_1891 q_60 (by omega) rfl (Nat.le_of_ble_eq_true rfl) (Nat.zero_le _) (Nat.zero_le _) dX12_traderText_2 rfl (fun r1 => ?_)
  refine g_iconst 6 hX 1 dX12_traderText_5 rfl kc_i_1 ?_
  refine g_callV_v 9 hX (k_X12_must l g N M a0 r1 1) lk_X12_must rfl (ci := 12) rfl (Nat.le_of_ble_eq_true rfl) q_1856 q_52 (by omega) rfl (Nat.le_of_ble_eq_true rfl) (Nat.zero_le _) (Nat.zero_le _) dX12_traderText_6 rfl (fun M2 => ?_)
  refine g_aload_n 10 0 hX dX12_traderText_9 rfl rfl ?_
  refine g_aload_n 11 0 hX dX12_traderText_10 rfl rfl ?_
  refine g_callV_ip 14 hX (k_X12_named l g N M2 a0) lk_X12_named rfl (ci := 12) rfl (Nat.le_of_ble_eq_true rfl) q_1895 q_61 (by omega) rfl (Nat.le_of_ble_eq_true rfl) (Nat.zero_le _) (Nat.zero_le _) dX12_traderText_11 rfl (fun r3 => ?_)
  refine g_iconst 15 hX (-1) dX12_traderText_14 rfl kc_i_m1 ?_
  refine g_icmp_ne 22 18 hX dX12_traderText_15 (by decide) rfl (fun _ => ?_) (fun _ => ?_)
  · refine g_iconst 23 hX 0 dX12_traderText_22 rfl kc_i_0 ?_
    exact k_X12_traderText_23 hX hr N M2 a0 a0 0
  · refine g_iconst 19 hX 1 dX12_traderText_18 rfl kc_i_1 ?_
    refine g_goto 23 hX dX12_traderText_19 (by decide) ?_
    exact k_X12_traderText_23 hX hr N M2 a0 a0 1
def F_X12_sideText_29 (N : Nat) (M : kMem) (a0 : Nat) (y0 : Int32) : Option (Int32 × kMem) :=
    if y0 = 0 then (
      kg (kt M a0 12) <| (F_X12_must N M a0 0 1).bind fun M3 =>
      kg (kt M3 a0 12) <| (F_X12_goesOn N M3 a0).bind fun M4 =>
      some (y0, M4)) else
    kg (kt M a0 12) <| (F_X12_must N M a0 1 1).bind fun M5 =>
    kg (kt M5 a0 12) <| (F_X12_goesOn N M5 a0).bind fun M6 =>
    some (y0, M6)
def F_X12_sideText (N : Nat) (M : kMem) (a0 : Nat) : Option (Int32 × kMem) :=
    kg (kt M a0 12) <| (F_X12_isWord N M a0 398548).bind fun r1 =>
    if r1 = 0 then (
      kg (kt M a0 12) <| (F_X12_isWord N M a0 19176724).bind fun r2 =>
      if r2 = 0 then (
        F_X12_sideText_29 N M a0 0) else
      F_X12_sideText_29 N M a0 1) else
    F_X12_sideText_29 N M a0 (-1)
set_option maxRecDepth 100000 in
set_option maxHeartbeats 4000000 in
theorem k_X12_sideText_29 {p : Program} {l : Launch} {e : Env} {s : State} {m : MethodId} {args : Array Value} {below : List Frame} {meth : Method} {c : Code} {g : kG} (hX : Cok (p, l, e, { frames := 2 * 5, cells := 0, slots := 0, locals := 60 * 5 }, s, m, args, below, meth, c, cX12_sideText, 2, RX12, g, 5)) (hr : meth.sig.returnType = (some .int)) (N : Nat) : ∀ (M : kMem) (a0 : Nat) (y0 : Int32), GG (p, l, e, { frames := 2 * 5, cells := 0, slots := 0, locals := 60 * 5 }, s, m, args, below, meth, c, cX12_sideText, 2, RX12, g, 5) (fun b => MQ below (kQ g ((fun r : Int32 × kMem => (some (.int r.1), r.2)) b)) args s 0 0 (kZ g.2.2.1)) 0 0 (F_X12_sideText_29 N M a0 y0) 29 [(0, .ref a0)] [.int y0] M := by
  intro M a0 y0
  unfold F_X12_sideText_29
  refine g_istore_n 30 1 [(1, .int y0), (0, .ref a0)] hX dX12_sideText_29 rfl rfl (Nat.le_of_ble_eq_true rfl) rfl ?_
  refine g_aload_n 31 1 hX dX12_sideText_30 rfl rfl ?_
  refine g_iload_n 32 0 hX dX12_sideText_31 rfl rfl ?_
  refine g_if_eq 39 35 hX dX12_sideText_32 (by decide) rfl (fun _ => ?_) (fun _ => ?_)
  · refine g_iconst 40 hX 0 dX12_sideText_39 rfl kc_i_0 ?_
    refine g_iconst 41 hX 1 dX12_sideText_40 rfl kc_i_1 ?_
    refine g_callV_v 44 hX (k_X12_must l g N M a0 0 1) lk_X12_must rfl (ci := 12) rfl (Nat.le_of_ble_eq_true rfl) q_1856 q_52 (by omega) rfl (Nat.le_of_ble_eq_true rfl) (Nat.zero_le _) (Nat.zero_le _) dX12_sideText_41 rfl (fun M3 => ?_)
    refine g_aload_n 45 1 hX dX12_sideText_44 rfl rfl ?_
    refine g_callV_v 48 hX (k_X12_goesOn l g N M3 a0) lk_X12_goesOn rfl (ci := 12) rfl (Nat.le_of_ble_eq_true rfl) q_1860 q_53 (by omega) rfl (Nat.le_of_ble_eq_true rfl) (Nat.zero_le _) (Nat.zero_le _) dX12_sideText_45 rfl (fun M4 => ?_)
    refine g_iload_n 49 0 hX dX12_sideText_48 rfl rfl ?_
    exact g_iret hX hr rfl (Nat.le_refl 0) (Nat.le_refl 0) dX12_sideText_49
  · refine g_iconst 36 hX 1 dX12_sideText_35 rfl kc_i_1 ?_
    refine g_goto 40 hX dX12_sideText_36 (by decide) ?_
    refine g_iconst 41 hX 1 dX12_sideText_40 rfl kc_i_1 ?_
    refine g_callV_v 44 hX (k_X12_must l g N M a0 1 1) lk_X12_must rfl (ci := 12) rfl (Nat.le_of_ble_eq_true rfl) q_1856 q_52 (by omega) rfl (Nat.le_of_ble_eq_true rfl) (Nat.zero_le _) (Nat.zero_le _) dX12_sideText_41 rfl (fun M5 => ?_)
    refine g_aload_n 45 1 hX dX12_sideText_44 rfl rfl ?_
    refine g_callV_v 48 hX (k_X12_goesOn l g N M5 a0) lk_X12_goesOn rfl (ci := 12) rfl (Nat.le_of_ble_eq_true rfl) q_1860 q_53 (by omega) rfl (Nat.le_of_ble_eq_true rfl) (Nat.zero_le _) (Nat.zero_le _) dX12_sideText_45 rfl (fun M6 => ?_)
    refine g_iload_n 49 0 hX dX12_sideText_48 rfl rfl ?_
    exact g_iret hX hr rfl (Nat.le_refl 0) (Nat.le_refl 0) dX12_sideText_49
set_option maxRecDepth 100000 in
set_option maxHeartbeats 4000000 in
theorem k_X12_sideText (l : Launch) (g : kG) (N : Nat) (M : kMem) (a0 : Nat) : kMet l g yX12_sideText cX12_sideText 2 (some .int) 5 0 0 [.ref a0] M (fun r : Int32 × kMem => (some (.int r.1), r.2)) (F_X12_sideText N M a0) := by
  refine k_of (lv := [(0, .ref a0)]) RX12 (by decide) rfl rfl (Nat.le_of_ble_eq_true rfl) ?_
  intro p e s m args below meth c hX hr _
  unfold F_X12_sideText
  refine g_aload_n 1 0 hX dX12_sideText_0 rfl rfl ?_
  refine g_ldc2 4 hX 398548 dX12_sideText_1 rfl q_1919 ?_
  refine g_callV_ip 7 hX (k_X12_isWord l g N M a0 398548) lk_X12_isWord rfl (ci := 12) rfl (Nat.le_of_ble_eq_true rfl) q_1852 q_51 (by omega) rfl (Nat.le_of_ble_eq_true rfl) (Nat.zero_le _) (Nat.zero_le _) dX12_sideText_4 rfl (fun r1 => ?_)
  refine g_if_eq 14 10 hX dX12_sideText_7 (by decide) rfl (fun _ => ?_) (fun _ => ?_)
  · refine g_aload_n 15 0 hX dX12_sideText_14 rfl rfl ?_
    refine g_ldc2 18 hX 19176724 dX12_sideText_15 rfl q_1920 ?_
    refine g_callV_ip 21 hX (k_X12_isWord l g N M a0 19176724) lk_X12_isWord rfl (ci := 12) rfl (Nat.le_of_ble_eq_true rfl) q_1852 q_51 (by omega) rfl (Nat.le_of_ble_eq_true rfl) (Nat.zero_le _) (Nat.zero_le _) dX12_sideText_18 rfl (fun r2 => ?_)
    refine g_if_eq 28 24 hX dX12_sideText_21 (by decide) rfl (fun _ => ?_) (fun _ => ?_)
    · refine g_iconst 29 hX 0 dX12_sideText_28 rfl kc_i_0 ?_
      exact k_X12_sideText_29 hX hr N M a0 0
    · refine g_iconst 25 hX 1 dX12_sideText_24 rfl kc_i_1 ?_
      refine g_goto 29 hX dX12_sideText_25 (by decide) ?_
      exact k_X12_sideText_29 hX hr N M a0 1
  · refine g_iconst 11 hX (-1) dX12_sideText_10 rfl kc_i_m1 ?_
    refine g_goto 29 hX dX12_sideText_11 (by decide) ?_
    exact k_X12_sideText_29 hX hr N M a0 (-1)
def F_X12_seatText_187 (N : Nat) (M : kMem) (a0 : Nat) (x1 : Int32) (x2 : Int32) (x4 : Int32) (y0 : Nat) (y1 : Int32) : Option (kMem) :=
    kg (kt M y0 12) <| (F_X12_must N M y0 y1 3).bind fun M18 =>
    kg (kt M18 a0 12) <| (F_X12_goesOn N M18 a0).bind fun M19 =>
    kg (kt M19 a0 12) <| (F_X12_isGood N M19 a0).bind fun r20 =>
    if r20 = 0 then (
      some M19) else
    kg (kt M19 a0 12) <| (F_X12_sits N M19 a0 x1 x2 x4).bind fun M21 =>
    some M21
def F_X12_seatText_182 (N : Nat) (M : kMem) (a0 : Nat) (x1 : Int32) (x2 : Int32) (x4 : Int32) (y0 : Nat) : Option (kMem) :=
    F_X12_seatText_187 N M a0 x1 x2 x4 y0 1
def F_X12_seatText_161 (N : Nat) (M : kMem) (a0 : Nat) (x1 : Int32) (x2 : Int32) (y0 : Int32) : Option (kMem) :=
    kg (kt M a0 12) <| (F_X12_isGood N M a0).bind fun r17 =>
    if r17 = 0 then (
      F_X12_seatText_182 N M a0 x1 x2 y0 a0) else
    kg (kt M a0 12) <| (F_X12_onSeat N M a0 x2 y0).bind fun r22 =>
    if r22 = (-1) then (
      F_X12_seatText_182 N M a0 x1 x2 y0 a0) else
    F_X12_seatText_187 N M a0 x1 x2 y0 a0 0
def F_X12_seatText_140 (N : Nat) (M : kMem) (a0 : Nat) (x1 : Int32) (x2 : Int32) (x3 : Int32) (y0 : Nat) (y1 : Int32) : Option (kMem) :=
    kg (kt M y0 12) <| (F_X12_must N M y0 y1 2).bind fun M15 =>
    kg (kt M15 a0 12) <| (F_X12_isGood N M15 a0).bind fun r16 =>
    if r16 = 0 then (
      F_X12_seatText_161 N M15 a0 x1 x2 1) else
    kg (kt M15 a0 12) <|
    F_X12_seatText_161 N M15 a0 x1 x2 (x3 * (kI M15 a0 15))
def F_X12_seatText_135 (N : Nat) (M : kMem) (a0 : Nat) (x1 : Int32) (x2 : Int32) (x3 : Int32) (y0 : Nat) : Option (kMem) :=
    F_X12_seatText_140 N M a0 x1 x2 x3 y0 1
def F_X12_seatText_104 (N : Nat) (M : kMem) (a0 : Nat) (x1 : Int32) (x2 : Int32) (x3 : Int32) (y0 : Nat) (y1 : Int32) : Option (kMem) :=
    kg (kt M y0 12) <| (F_X12_must N M y0 y1 1).bind fun M13 =>
    kg (kt M13 a0 12) <| (F_X12_isGood N M13 a0).bind fun r14 =>
    if r14 = 0 then (
      F_X12_seatText_135 N M13 a0 x1 x2 x3 a0) else
    kg (kt M13 a0 12) <|
    kg (kt M13 a0 12) <| (F_X12_ofBoard N M13 a0 x2 0).bind fun r23 =>
    (F_X12_in N M13 ((kI M13 a0 15).toInt64) 1 r23.toInt64).bind fun r24 =>
    if r24 = 0 then (
      F_X12_seatText_140 N M13 a0 x1 x2 x3 a0 0) else
    F_X12_seatText_135 N M13 a0 x1 x2 x3 a0
def F_X12_seatText_62 (N : Nat) (M : kMem) (a0 : Nat) (x1 : Int32) (y0 : Nat) (y1 : Int32) : Option (kMem) :=
    kg (kt M y0 12) <| (F_X12_must N M y0 y1 4).bind fun M7 =>
    kg (kt M7 a0 12) <| (F_X12_goesOn N M7 a0).bind fun M8 =>
    kg (kt M8 a0 12) <|
    kg (kin M8 (kR M8 a0 0) 13 7) <|
    kg (kt M8 a0 12) <| (F_X12_reads N M8 a0 0 ((kI M8 (kR M8 a0 0) (kx 7)) - 1)).bind fun r9 =>
    kl r9.1 fun v10 =>
    kg (kt r9.2 a0 12) <| (F_X12_sideText N r9.2 a0).bind fun r11 =>
    kl r11.1 fun v12 =>
    kg (kt r11.2 a0 12) <|
    if (kI r11.2 a0 14) = 2 then (
      F_X12_seatText_104 N r11.2 a0 x1 v10 v12 a0 1) else
    F_X12_seatText_104 N r11.2 a0 x1 v10 v12 a0 0
def F_X12_seatText_57 (N : Nat) (M : kMem) (a0 : Nat) (x1 : Int32) (y0 : Nat) : Option (kMem) :=
    F_X12_seatText_62 N M a0 x1 y0 1
def F_X12_seatText_40 (N : Nat) (M : kMem) (a0 : Nat) (x1 : Int32) (y0 : Nat) (y1 : Int32) : Option (kMem) :=
    kg (kt M y0 12) <| (F_X12_must N M y0 y1 3).bind fun M5 =>
    kg (kt M5 a0 12) <| (F_X12_isGood N M5 a0).bind fun r6 =>
    if r6 = 0 then (
      F_X12_seatText_57 N M5 a0 x1 a0) else
    if x1 = (-1) then (
      F_X12_seatText_62 N M5 a0 x1 a0 0) else
    F_X12_seatText_57 N M5 a0 x1 a0
def F_X12_seatText_35 (N : Nat) (M : kMem) (a0 : Nat) (x1 : Int32) (y0 : Nat) : Option (kMem) :=
    F_X12_seatText_40 N M a0 x1 y0 1
def F_X12_seatText (N : Nat) (M : kMem) (a0 : Nat) : Option (kMem) :=
    kg (kt M a0 12) <| (F_X12_isNameHere N M a0).bind fun r1 =>
    kg (kt M a0 12) <| (F_X12_must N M a0 r1 1).bind fun M2 =>
    kg (kt M2 a0 12) <| (F_X12_named N M2 a0).bind fun r3 =>
    kg (kt M2 a0 12) <| (F_X12_isGood N M2 a0).bind fun r4 =>
    if r4 = 0 then (
      F_X12_seatText_35 N M2 a0 r3 a0) else
    if r3 = (-1) then (
      F_X12_seatText_35 N M2 a0 r3 a0) else
    kg (kt M2 a0 12) <| (F_X12_isSeated N M2 a0 r3).bind fun r25 =>
    if r25 = 0 then (
      F_X12_seatText_35 N M2 a0 r3 a0) else
    F_X12_seatText_40 N M2 a0 r3 a0 0
set_option maxRecDepth 100000 in
set_option maxHeartbeats 4000000 in
theorem k_X12_seatText_187 {p : Program} {l : Launch} {e : Env} {s : State} {m : MethodId} {args : Array Value} {below : List Frame} {meth : Method} {c : Code} {g : kG} (hX : Cok (p, l, e, { frames := 2 * 6, cells := 0, slots := 0, locals := 60 * 6 }, s, m, args, below, meth, c, cX12_seatText, 5, RX12, g, 6)) (hr : meth.sig.returnType = none) (N : Nat) : ∀ (M : kMem) (a0 : Nat) (x1 : Int32) (x2 : Int32) (x4 : Int32) (y0 : Nat) (y1 : Int32), GG (p, l, e, { frames := 2 * 6, cells := 0, slots := 0, locals := 60 * 6 }, s, m, args, below, meth, c, cX12_seatText, 5, RX12, g, 6) (fun b => MQ below (kQ g ((fun r : kMem => (none, r)) b)) args s 0 0 (kZ g.2.2.1)) 0 0 (F_X12_seatText_187 N M a0 x1 x2 x4 y0 y1) 187 [(0, .ref a0), (1, .int x1), (2, .int x2), (4, .int x4)] [.int y1, .ref y0] M := by
  intro M a0 x1 x2 x4 y0 y1
  unfold F_X12_seatText_187
  refine g_iconst 188 hX 3 dX12_seatText_187 rfl kc_i_3 ?_
  refine g_callV_v 191 hX (k_X12_must l g N M y0 y1 3) lk_X12_must rfl (ci := 12) rfl (Nat.le_of_ble_eq_true rfl) q_1856 q_52 (by omega) rfl (Nat.le_of_ble_eq_true rfl) (Nat.zero_le _) (Nat.zero_le _) dX12_seatText_188 rfl (fun M18 => ?_)
  refine g_aload_n 192 0 hX dX12_seatText_191 rfl rfl ?_
  refine g_callV_v 195 hX (k_X12_goesOn l g N M18 a0) lk_X12_goesOn rfl (ci := 12) rfl (Nat.le_of_ble_eq_true rfl) q_1860 q_53 (by omega) rfl (Nat.le_of_ble_eq_true rfl) (Nat.zero_le _) (Nat.zero_le _) dX12_seatText_192 rfl (fun M19 => ?_)
  refine g_aload_n 196 0 hX dX12_seatText_195 rfl rfl ?_
  refine g_callV_ip 199 hX (k_X12_isGood l g N M19 a0) lk_X12_isGood rfl (ci := 12) rfl (Nat.le_of_ble_eq_true rfl) q_1882 q_58 (by omega) rfl (Nat.le_of_ble_eq_true rfl) (Nat.zero_le _) (Nat.zero_le _) dX12_seatText_196 rfl (fun r20 => ?_)
  refine g_if_eq 210 202 hX dX12_seatText_199 (by decide) rfl (fun _ => ?_) (fun _ => ?_)
  · exact g_vret hX hr rfl (Nat.le_refl 0) (Nat.le_refl 0) dX12_seatText_210
  · refine g_aload_n 203 0 hX dX12_seatText_202 rfl rfl ?_
    refine g_iload_n 204 1 hX dX12_seatText_203 rfl rfl ?_
    refine g_iload_n 205 2 hX dX12_seatText_204 rfl rfl ?_
    refine g_iload 207 3 hX dX12_seatText_205 rfl rfl ?_
    refine g_callV_v 210 hX (k_X12_sits l g N M19 a0 x1 x2 x4) lk_X12_sits rfl (ci := 12) rfl (Nat.le_of_ble_eq_true rfl) q_1678 q_40 (by omega) rfl (Nat.le_of_ble_eq_true rfl) (Nat.zero_le _) (Nat.zero_le _) dX12_seatText_207 rfl (fun M21 => ?_)
    exact g_vret hX hr rfl (Nat.le_refl 0) (Nat.le_refl 0) dX12_seatText_210
set_option maxRecDepth 100000 in
set_option maxHeartbeats 4000000 in
theorem k_X12_seatText_182 {p : Program} {l : Launch} {e : Env} {s : State} {m : MethodId} {args : Array Value} {below : List Frame} {meth : Method} {c : Code} {g : kG} (hX : Cok (p, l, e, { frames := 2 * 6, cells := 0, slots := 0, locals := 60 * 6 }, s, m, args, below, meth, c, cX12_seatText, 5, RX12, g, 6)) (hr : meth.sig.returnType = none) (N : Nat) : ∀ (M : kMem) (a0 : Nat) (x1 : Int32) (x2 : Int32) (x4 : Int32) (y0 : Nat), GG (p, l, e, { frames := 2 * 6, cells := 0, slots := 0, locals := 60 * 6 }, s, m, args, below, meth, c, cX12_seatText, 5, RX12, g, 6) (fun b => MQ below (kQ g ((fun r : kMem => (none, r)) b)) args s 0 0 (kZ g.2.2.1)) 0 0 (F_X12_seatText_182 N M a0 x1 x2 x4 y0) 182 [(0, .ref a0), (1, .int x1), (2, .int x2), (4, .int x4)] [.ref y0] M := by
  intro M a0 x1 x2 x4 y0
  unfold F_X12_seatText_182
  refine g_iconst 183 hX 1 dX12_seatText_182 rfl kc_i_1 ?_
  refine g_goto 187 hX dX12_seatText_183 (by decide) ?_
  exact k_X12_seatText_187 hX hr N M a0 x1 x2 x4 y0 1
set_option maxRecDepth 100000 in
set_option maxHeartbeats 4000000 in
theorem k_X12_seatText_161 {p : Program} {l : Launch} {e : Env} {s : State} {m : MethodId} {args : Array Value} {below : List Frame} {meth : Method} {c : Code} {g : kG} (hX : Cok (p, l, e, { frames := 2 * 6, cells := 0, slots := 0, locals := 60 * 6 }, s, m, args, below, meth, c, cX12_seatText, 5, RX12, g, 6)) (hr : meth.sig.returnType = none) (N : Nat) : ∀ (M : kMem) (a0 : Nat) (x1 : Int32) (x2 : Int32) (y0 : Int32), GG (p, l, e, { frames := 2 * 6, cells := 0, slots := 0, locals := 60 * 6 }, s, m, args, below, meth, c, cX12_seatText, 5, RX12, g, 6) (fun b => MQ below (kQ g ((fun r : kMem => (none, r)) b)) args s 0 0 (kZ g.2.2.1)) 0 0 (F_X12_seatText_161 N M a0 x1 x2 y0) 161 [(0, .ref a0), (1, .int x1), (2, .int x2)] [.int y0] M := by
  intro M a0 x1 x2 y0
  unfold F_X12_seatText_161
  refine g_istore 163 4 [(4, .int y0), (0, .ref a0), (1, .int x1), (2, .int x2)] hX dX12_seatText_161 rfl (Nat.le_of_ble_eq_true rfl) rfl ?_
  refine g_aload_n 164 1 hX dX12_seatText_163 rfl rfl ?_
  refine g_aload_n 165 1 hX dX12_seatText_164 rfl rfl ?_
  refine g_callV_ip 168 hX (k_X12_isGood l g N M a0) lk_X12_isGood rfl (ci := 12) rfl (Nat.le_of_ble_eq_true rfl) q_1882 q_58 (by omega) rfl (Nat.le_of_ble_eq_true rfl) (Nat.zero_le _) (Nat.zero_le _) dX12_seatText_165 rfl (fun r17 => ?_)
  refine g_if_eq 182 171 hX dX12_seatText_168 (by decide) rfl (fun _ => ?_) (fun _ => ?_)
  · refine g_lv [1, 2, 3, 0] rfl ?_
    exact k_X12_seatText_182 hX hr N M a0 x1 x2 y0 a0
  · refine g_aload_n 172 1 hX dX12_seatText_171 rfl rfl ?_
    refine g_iload_n 173 3 hX dX12_seatText_172 rfl rfl ?_
    refine g_iload 175 0 hX dX12_seatText_173 rfl rfl ?_
    refine g_callV_ip 178 hX (k_X12_onSeat l g N M a0 x2 y0) lk_X12_onSeat rfl (ci := 12) rfl (Nat.le_of_ble_eq_true rfl) q_1925 q_67 (by omega) rfl (Nat.le_of_ble_eq_true rfl) (Nat.zero_le _) (Nat.zero_le _) dX12_seatText_175 rfl (fun r22 => ?_)
    refine g_iconst 179 hX (-1) dX12_seatText_178 rfl kc_i_m1 ?_
    refine g_icmp_ne 186 182 hX dX12_seatText_179 (by decide) rfl (fun _ => ?_) (fun _ => ?_)
    · refine g_iconst 187 hX 0 dX12_seatText_186 rfl kc_i_0 ?_
      refine g_lv [1, 2, 3, 0] rfl ?_
      exact k_X12_seatText_187 hX hr N M a0 x1 x2 y0 a0 0
    · refine g_lv [1, 2, 3, 0] rfl ?_
      exact k_X12_seatText_182 hX hr N M a0 x1 x2 y0 a0
set_option maxRecDepth 100000 in
set_option maxHeartbeats 4000000 in
theorem k_X12_seatText_140 {p : Program} {l : Launch} {e : Env} {s : State} {m : MethodId} {args : Array Value} {below : List Frame} {meth : Method} {c : Code} {g : kG} (hX : Cok (p, l, e, { frames := 2 * 6, cells := 0, slots := 0, locals := 60 * 6 }, s, m, args, below, meth, c, cX12_seatText, 5, RX12, g, 6)) (hr : meth.sig.returnType = none) (N : Nat) : ∀ (M : kMem) (a0 : Nat) (x1 : Int32) (x2 : Int32) (x3 : Int32) (y0 : Nat) (y1 : Int32), GG (p, l, e, { frames := 2 * 6, cells := 0, slots := 0, locals := 60 * 6 }, s, m, args, below, meth, c, cX12_seatText, 5, RX12, g, 6) (fun b => MQ below (kQ g ((fun r : kMem => (none, r)) b)) args s 0 0 (kZ g.2.2.1)) 0 0 (F_X12_seatText_140 N M a0 x1 x2 x3 y0 y1) 140 [(0, .ref a0), (1, .int x1), (2, .int x2), (3, .int x3)] [.int y1, .ref y0] M := by
  intro M a0 x1 x2 x3 y0 y1
  unfold F_X12_seatText_140
  refine g_iconst 141 hX 2 dX12_seatText_140 rfl kc_i_2 ?_
  refine g_callV_v 144 hX (k_X12_must l g N M y0 y1 2) lk_X12_must rfl (ci := 12) rfl (Nat.le_of_ble_eq_true rfl) q_1856 q_52 (by omega) rfl (Nat.le_of_ble_eq_true rfl) (Nat.zero_le _) (Nat.zero_le _) dX12_seatText_141 rfl (fun M15 => ?_)
  refine g_aload_n 145 0 hX dX12_seatText_144 rfl rfl ?_
  refine g_callV_ip 148 hX (k_X12_isGood l g N M15 a0) lk_X12_isGood rfl (ci := 12) rfl (Nat.le_of_ble_eq_true rfl) q_1882 q_58 (by omega) rfl (Nat.le_of_ble_eq_true rfl) (Nat.zero_le _) (Nat.zero_le _) dX12_seatText_145 rfl (fun r16 => ?_)
  refine g_if_eq 160 151 hX dX12_seatText_148 (by decide) rfl (fun _ => ?_) (fun _ => ?_)
  · refine g_iconst 161 hX 1 dX12_seatText_160 rfl kc_i_1 ?_
    refine g_lv [0, 1, 2] rfl ?_
    exact k_X12_seatText_161 hX hr N M15 a0 x1 x2 1
  · refine g_iload_n 152 3 hX dX12_seatText_151 rfl rfl ?_
    refine g_aload_n 153 0 hX dX12_seatText_152 rfl rfl ?_
    refine r_X12_205 156 hX dX12_seatText_153 rfl ?_
    refine g_imul 157 hX dX12_seatText_156 rfl ?_
    refine g_goto 161 hX dX12_seatText_157 (by decide) ?_
    refine g_lv [0, 1, 2] rfl ?_
    exact k_X12_seatText_161 hX hr N M15 a0 x1 x2 (x3 * (kI M15 a0 15))
set_option maxRecDepth 100000 in
set_option maxHeartbeats 4000000 in
theorem k_X12_seatText_135 {p : Program} {l : Launch} {e : Env} {s : State} {m : MethodId} {args : Array Value} {below : List Frame} {meth : Method} {c : Code} {g : kG} (hX : Cok (p, l, e, { frames := 2 * 6, cells := 0, slots := 0, locals := 60 * 6 }, s, m, args, below, meth, c, cX12_seatText, 5, RX12, g, 6)) (hr : meth.sig.returnType = none) (N : Nat) : ∀ (M : kMem) (a0 : Nat) (x1 : Int32) (x2 : Int32) (x3 : Int32) (y0 : Nat), GG (p, l, e, { frames := 2 * 6, cells := 0, slots := 0, locals := 60 * 6 }, s, m, args, below, meth, c, cX12_seatText, 5, RX12, g, 6) (fun b => MQ below (kQ g ((fun r : kMem => (none, r)) b)) args s 0 0 (kZ g.2.2.1)) 0 0 (F_X12_seatText_135 N M a0 x1 x2 x3 y0) 135 [(0, .ref a0), (1, .int x1), (2, .int x2), (3, .int x3)] [.ref y0] M := by
  intro M a0 x1 x2 x3 y0
  unfold F_X12_seatText_135
  refine g_iconst 136 hX 1 dX12_seatText_135 rfl kc_i_1 ?_
  refine g_goto 140 hX dX12_seatText_136 (by decide) ?_
  exact k_X12_seatText_140 hX hr N M a0 x1 x2 x3 y0 1
set_option maxRecDepth 100000 in
set_option maxHeartbeats 4000000 in
theorem k_X12_seatText_104 {p : Program} {l : Launch} {e : Env} {s : State} {m : MethodId} {args : Array Value} {below : List Frame} {meth : Method} {c : Code} {g : kG} (hX : Cok (p, l, e, { frames := 2 * 6, cells := 0, slots := 0, locals := 60 * 6 }, s, m, args, below, meth, c, cX12_seatText, 5, RX12, g, 6)) (hr : meth.sig.returnType = none) (N : Nat) : ∀ (M : kMem) (a0 : Nat) (x1 : Int32) (x2 : Int32) (x3 : Int32) (y0 : Nat) (y1 : Int32), GG (p, l, e, { frames := 2 * 6, cells := 0, slots := 0, locals := 60 * 6 }, s, m, args, below, meth, c, cX12_seatText, 5, RX12, g, 6) (fun b => MQ below (kQ g ((fun r : kMem => (none, r)) b)) args s 0 0 (kZ g.2.2.1)) 0 0 (F_X12_seatText_104 N M a0 x1 x2 x3 y0 y1) 104 [(0, .ref a0), (1, .int x1), (2, .int x2), (3, .int x3)] [.int y1, .ref y0] M := by
  intro M a0 x1 x2 x3 y0 y1
  unfold F_X12_seatText_104
  refine g_iconst 105 hX 1 dX12_seatText_104 rfl kc_i_1 ?_
  refine g_callV_v 108 hX (k_X12_must l g N M y0 y1 1) lk_X12_must rfl (ci := 12) rfl (Nat.le_of_ble_eq_true rfl) q_1856 q_52 (by omega) rfl (Nat.le_of_ble_eq_true rfl) (Nat.zero_le _) (Nat.zero_le _) dX12_seatText_105 rfl (fun M13 => ?_)
  refine g_aload_n 109 0 hX dX12_seatText_108 rfl rfl ?_
  refine g_aload_n 110 0 hX dX12_seatText_109 rfl rfl ?_
  refine g_callV_ip 113 hX (k_X12_isGood l g N M13 a0) lk_X12_isGood rfl (ci := 12) rfl (Nat.le_of_ble_eq_true rfl) q_1882 q_58 (by omega) rfl (Nat.le_of_ble_eq_true rfl) (Nat.zero_le _) (Nat.zero_le _) dX12_seatText_110 rfl (fun r14 => ?_)
  refine g_if_eq 135 116 hX dX12_seatText_113 (by decide) rfl (fun _ => ?_) (fun _ => ?_)
  · exact k_X12_seatText_135 hX hr N M13 a0 x1 x2 x3 a0
  · refine g_aload_n 117 0 hX dX12_seatText_116 rfl rfl ?_
    refine r_X12_205 120 hX dX12_seatText_117 rfl ?_
    refine g_i2l 121 hX dX12_seatText_120 rfl ?_
    refine g_lconst 122 hX 1 dX12_seatText_121 rfl rfl ?_
    refine g_aload_n 123 0 hX dX12_seatText_122 rfl rfl ?_
    refine g_iload_n 124 2 hX dX12_seatText_123 rfl rfl ?_
    refine g_iconst 125 hX 0 dX12_seatText_124 rfl kc_i_0 ?_
    refine g_callV_ip 128 hX (k_X12_ofBoard l g N M13 a0 x2 0) lk_X12_ofBoard rfl (ci := 12) rfl (Nat.le_of_ble_eq_true rfl) q_1921 q_66 (by omega) rfl (Nat.le_of_ble_eq_true rfl) (Nat.zero_le _) (Nat.zero_le _) dX12_seatText_125 rfl (fun r23 => ?_)
    refine g_i2l 129 hX dX12_seatText_128 rfl ?_
    refine g_callS_ip 132 hX (k_X12_in l g N M13 ((kI M13 a0 15).toInt64) 1 r23.toInt64) lk_X12_in q_1808 (by omega) rfl (Nat.le_of_ble_eq_true rfl) (Nat.zero_le _) (Nat.zero_le _) dX12_seatText_129 rfl (fun r24 => ?_)
    refine g_if_eq 139 135 hX dX12_seatText_132 (by decide) rfl (fun _ => ?_) (fun _ => ?_)
    · refine g_iconst 140 hX 0 dX12_seatText_139 rfl kc_i_0 ?_
      exact k_X12_seatText_140 hX hr N M13 a0 x1 x2 x3 a0 0
    · exact k_X12_seatText_135 hX hr N M13 a0 x1 x2 x3 a0
set_option maxRecDepth 100000 in
set_option maxHeartbeats 4000000 in
theorem k_X12_seatText_62 {p : Program} {l : Launch} {e : Env} {s : State} {m : MethodId} {args : Array Value} {below : List Frame} {meth : Method} {c : Code} {g : kG} (hX : Cok (p, l, e, { frames := 2 * 6, cells := 0, slots := 0, locals := 60 * 6 }, s, m, args, below, meth, c, cX12_seatText, 5, RX12, g, 6)) (hr : meth.sig.returnType = none) (N : Nat) : ∀ (M : kMem) (a0 : Nat) (x1 : Int32) (y0 : Nat) (y1 : Int32), GG (p, l, e, { frames := 2 * 6, cells := 0, slots := 0, locals := 60 * 6 }, s, m, args, below, meth, c, cX12_seatText, 5, RX12, g, 6) (fun b => MQ below (kQ g ((fun r : kMem => (none, r)) b)) args s 0 0 (kZ g.2.2.1)) 0 0 (F_X12_seatText_62 N M a0 x1 y0 y1) 62 [(0, .ref a0), (1, .int x1)] [.int y1, .ref y0] M := by
  intro M a0 x1 y0 y1
  unfold F_X12_seatText_62
  refine g_iconst 63 hX 4 dX12_seatText_62 rfl kc_i_4 ?_
  refine g_callV_v 66 hX (k_X12_must l g N M y0 y1 4) lk_X12_must rfl (ci := 12) rfl (Nat.le_of_ble_eq_true rfl) q_1856 q_52 (by omega) rfl (Nat.le_of_ble_eq_true rfl) (Nat.zero_le _) (Nat.zero_le _) dX12_seatText_63 rfl (fun M7 => ?_)
  refine g_aload_n 67 0 hX dX12_seatText_66 rfl rfl ?_
  refine g_callV_v 70 hX (k_X12_goesOn l g N M7 a0) lk_X12_goesOn rfl (ci := 12) rfl (Nat.le_of_ble_eq_true rfl) q_1860 q_53 (by omega) rfl (Nat.le_of_ble_eq_true rfl) (Nat.zero_le _) (Nat.zero_le _) dX12_seatText_67 rfl (fun M8 => ?_)
  refine g_aload_n 71 0 hX dX12_seatText_70 rfl rfl ?_
  refine g_iconst 72 hX 0 dX12_seatText_71 rfl kc_i_0 ?_
  refine g_aload_n 73 0 hX dX12_seatText_72 rfl rfl ?_
  refine r_X12_7 76 hX dX12_seatText_73 rfl ?_
  refine g_bipush 78 hX 7 dX12_seatText_76 rfl kc_b_7 ?_
  refine g_iald 79 hX dX12_seatText_78 rfl ?_
  refine g_iconst 80 hX 1 dX12_seatText_79 rfl kc_i_1 ?_
  refine g_isub 81 hX dX12_seatText_80 rfl ?_
  refine g_callV_i 84 hX (k_X12_reads l g N M8 a0 0 ((kI M8 (kR M8 a0 0) (kx 7)) - 1)) lk_X12_reads rfl (ci := 12) rfl (Nat.le_of_ble_eq_true rfl) q_1864 q_54 (by omega) rfl (Nat.le_of_ble_eq_true rfl) (Nat.zero_le _) (Nat.zero_le _) dX12_seatText_81 rfl (fun r9 => ?_)
  refine g_klI (fun v10 hv10 => ?_)
  refine g_istore_n 85 2 [(2, .int v10), (0, .ref a0), (1, .int x1)] hX dX12_seatText_84 rfl rfl (Nat.le_of_ble_eq_true rfl) rfl ?_
  refine g_aload_n 86 1 hX dX12_seatText_85 rfl rfl ?_
  refine g_callV_i 89 hX (k_X12_sideText l g N r9.2 a0) lk_X12_sideText rfl (ci := 12) rfl (Nat.le_of_ble_eq_true rfl) q_1915 q_65 (by omega) rfl (Nat.le_of_ble_eq_true rfl) (Nat.zero_le _) (Nat.zero_le _) dX12_seatText_86 rfl (fun r11 => ?_)
  refine g_klI (fun v12 hv12 => ?_)
  refine g_istore_n 90 3 [(3, .int v12), (2, .int v10), (0, .ref a0), (1, .int x1)] hX dX12_seatText_89 rfl rfl (Nat.le_of_ble_eq_true rfl) rfl ?_
  refine g_aload_n 91 2 hX dX12_seatText_90 rfl rfl ?_
  refine g_aload_n 92 2 hX dX12_seatText_91 rfl rfl ?_
  refine r_X12_188 95 hX dX12_seatText_92 rfl ?_
  refine g_iconst 96 hX 2 dX12_seatText_95 rfl kc_i_2 ?_
  refine g_icmp_ne 103 99 hX dX12_seatText_96 (by decide) rfl (fun _ => ?_) (fun _ => ?_)
  · refine g_iconst 104 hX 0 dX12_seatText_103 rfl kc_i_0 ?_
    refine g_lv [2, 3, 1, 0] rfl ?_
    exact k_X12_seatText_104 hX hr N r11.2 a0 x1 v10 v12 a0 0
  · refine g_iconst 100 hX 1 dX12_seatText_99 rfl kc_i_1 ?_
    refine g_goto 104 hX dX12_seatText_100 (by decide) ?_
    refine g_lv [2, 3, 1, 0] rfl ?_
    exact k_X12_seatText_104 hX hr N r11.2 a0 x1 v10 v12 a0 1
set_option maxRecDepth 100000 in
set_option maxHeartbeats 4000000 in
theorem k_X12_seatText_57 {p : Program} {l : Launch} {e : Env} {s : State} {m : MethodId} {args : Array Value} {below : List Frame} {meth : Method} {c : Code} {g : kG} (hX : Cok (p, l, e, { frames := 2 * 6, cells := 0, slots := 0, locals := 60 * 6 }, s, m, args, below, meth, c, cX12_seatText, 5, RX12, g, 6)) (hr : meth.sig.returnType = none) (N : Nat) : ∀ (M : kMem) (a0 : Nat) (x1 : Int32) (y0 : Nat), GG (p, l, e, { frames := 2 * 6, cells := 0, slots := 0, locals := 60 * 6 }, s, m, args, below, meth, c, cX12_seatText, 5, RX12, g, 6) (fun b => MQ below (kQ g ((fun r : kMem => (none, r)) b)) args s 0 0 (kZ g.2.2.1)) 0 0 (F_X12_seatText_57 N M a0 x1 y0) 57 [(0, .ref a0), (1, .int x1)] [.ref y0] M := by
  intro M a0 x1 y0
  unfold F_X12_seatText_57
  refine g_iconst 58 hX 1 dX12_seatText_57 rfl kc_i_1 ?_
  refine g_goto 62 hX dX12_seatText_58 (by decide) ?_
  exact k_X12_seatText_62 hX hr N M a0 x1 y0 1
set_option maxRecDepth 100000 in
set_option maxHeartbeats 4000000 in
theorem k_X12_seatText_40 {p : Program} {l : Launch} {e : Env} {s : State} {m : MethodId} {args : Array Value} {below : List Frame} {meth : Method} {c : Code} {g : kG} (hX : Cok (p, l, e, { frames := 2 * 6, cells := 0, slots := 0, locals := 60 * 6 }, s, m, args, below, meth, c, cX12_seatText, 5, RX12, g, 6)) (hr : meth.sig.returnType = none) (N : Nat) : ∀ (M : kMem) (a0 : Nat) (x1 : Int32) (y0 : Nat) (y1 : Int32), GG (p, l, e, { frames := 2 * 6, cells := 0, slots := 0, locals := 60 * 6 }, s, m, args, below, meth, c, cX12_seatText, 5, RX12, g, 6) (fun b => MQ below (kQ g ((fun r : kMem => (none, r)) b)) args s 0 0 (kZ g.2.2.1)) 0 0 (F_X12_seatText_40 N M a0 x1 y0 y1) 40 [(0, .ref a0), (1, .int x1)] [.int y1, .ref y0] M := by
  intro M a0 x1 y0 y1
  unfold F_X12_seatText_40
  refine g_iconst 41 hX 3 dX12_seatText_40 rfl kc_i_3 ?_
  refine g_callV_v 44 hX (k_X12_must l g N M y0 y1 3) lk_X12_must rfl (ci := 12) rfl (Nat.le_of_ble_eq_true rfl) q_1856 q_52 (by omega) rfl (Nat.le_of_ble_eq_true rfl) (Nat.zero_le _) (Nat.zero_le _) dX12_seatText_41 rfl (fun M5 => ?_)
  refine g_aload_n 45 0 hX dX12_seatText_44 rfl rfl ?_
  refine g_aload_n 46 0 hX dX12_seatText_45 rfl rfl ?_
  refine g_callV_ip 49 hX (k_X12_isGood l g N M5 a0) lk_X12_isGood rfl (ci := 12) rfl (Nat.le_of_ble_eq_true rfl) q_1882 q_58 (by omega) rfl (Nat.le_of_ble_eq_true rfl) (Nat.zero_le _) (Nat.zero_le _) dX12_seatText_46 rfl (fun r6 => ?_)
  refine g_if_eq 57 52 hX dX12_seatText_49 (by decide) rfl (fun _ => ?_) (fun _ => ?_)
  · exact k_X12_seatText_57 hX hr N M5 a0 x1 a0
  · refine g_iload_n 53 1 hX dX12_seatText_52 rfl rfl ?_
    refine g_iconst 54 hX (-1) dX12_seatText_53 rfl kc_i_m1 ?_
    refine g_icmp_eq 61 57 hX dX12_seatText_54 (by decide) rfl (fun _ => ?_) (fun _ => ?_)
    · refine g_iconst 62 hX 0 dX12_seatText_61 rfl kc_i_0 ?_
      exact k_X12_seatText_62 hX hr N M5 a0 x1 a0 0
    · exact k_X12_seatText_57 hX hr N M5 a0 x1 a0
set_option maxRecDepth 100000 in
set_option maxHeartbeats 4000000 in
theorem k_X12_seatText_35 {p : Program} {l : Launch} {e : Env} {s : State} {m : MethodId} {args : Array Value} {below : List Frame} {meth : Method} {c : Code} {g : kG} (hX : Cok (p, l, e, { frames := 2 * 6, cells := 0, slots := 0, locals := 60 * 6 }, s, m, args, below, meth, c, cX12_seatText, 5, RX12, g, 6)) (hr : meth.sig.returnType = none) (N : Nat) : ∀ (M : kMem) (a0 : Nat) (x1 : Int32) (y0 : Nat), GG (p, l, e, { frames := 2 * 6, cells := 0, slots := 0, locals := 60 * 6 }, s, m, args, below, meth, c, cX12_seatText, 5, RX12, g, 6) (fun b => MQ below (kQ g ((fun r : kMem => (none, r)) b)) args s 0 0 (kZ g.2.2.1)) 0 0 (F_X12_seatText_35 N M a0 x1 y0) 35 [(0, .ref a0), (1, .int x1)] [.ref y0] M := by
  intro M a0 x1 y0
  unfold F_X12_seatText_35
  refine g_iconst 36 hX 1 dX12_seatText_35 rfl kc_i_1 ?_
  refine g_goto 40 hX dX12_seatText_36 (by decide) ?_
  exact k_X12_seatText_40 hX hr N M a0 x1 y0 1
set_option maxRecDepth 100000 in
set_option maxHeartbeats 4000000 in
theorem k_X12_seatText (l : Launch) (g : kG) (N : Nat) (M : kMem) (a0 : Nat) : kMet l g yX12_seatText cX12_seatText 5 none 6 0 0 [.ref a0] M (fun r : kMem => (none, r)) (F_X12_seatText N M a0) := by
  refine k_of (lv := [(0, .ref a0)]) RX12 (by decide) rfl rfl (Nat.le_of_ble_eq_true rfl) ?_
  intro p e s m args below meth c hX hr _
  unfold F_X12_seatText
  refine g_aload_n 1 0 hX dX12_seatText_0 rfl rfl ?_
  refine g_aload_n 2 0 hX dX12_seatText_1 rfl rfl ?_
  refine g_callV_ip 5 hX (k_X12_isNameHere l g N M a0) lk_X12_isNameHere rfl (ci := 12) rfl (Nat.le_of_ble_eq_true rfl) q_1891 q_60 (by omega) rfl (Nat.le_of_ble_eq_true rfl) (Nat.zero_le _) (Nat.zero_le _) dX12_seatText_2 rfl (fun r1 => ?_)
  refine g_iconst 6 hX 1 dX12_seatText_5 rfl kc_i_1 ?_
  refine g_callV_v 9 hX (k_X12_must l g N M a0 r1 1) lk_X12_must rfl (ci := 12) rfl (Nat.le_of_ble_eq_true rfl) q_1856 q_52 (by omega) rfl (Nat.le_of_ble_eq_true rfl) (Nat.zero_le _) (Nat.zero_le _) dX12_seatText_6 rfl (fun M2 => ?_)
  refine g_aload_n 10 0 hX dX12_seatText_9 rfl rfl ?_
  refine g_callV_ip 13 hX (k_X12_named l g N M2 a0) lk_X12_named rfl (ci := 12) rfl (Nat.le_of_ble_eq_true rfl) q_1895 q_61 (by omega) rfl (Nat.le_of_ble_eq_true rfl) (Nat.zero_le _) (Nat.zero_le _) dX12_seatText_10 rfl (fun r3 => ?_)
  refine g_istore_n 14 1 [(1, .int r3), (0, .ref a0)] hX dX12_seatText_13 rfl rfl (Nat.le_of_ble_eq_true rfl) rfl ?_
  refine g_aload_n 15 1 hX dX12_seatText_14 rfl rfl ?_
  refine g_aload_n 16 1 hX dX12_seatText_15 rfl rfl ?_
  refine g_callV_ip 19 hX (k_X12_isGood l g N M2 a0) lk_X12_isGood rfl (ci := 12) rfl (Nat.le_of_ble_eq_true rfl) q_1882 q_58 (by omega) rfl (Nat.le_of_ble_eq_true rfl) (Nat.zero_le _) (Nat.zero_le _) dX12_seatText_16 rfl (fun r4 => ?_)
  refine g_if_eq 35 22 hX dX12_seatText_19 (by decide) rfl (fun _ => ?_) (fun _ => ?_)
  · refine g_lv [1, 0] rfl ?_
    exact k_X12_seatText_35 hX hr N M2 a0 r3 a0
  · refine g_iload_n 23 0 hX dX12_seatText_22 rfl rfl ?_
    refine g_iconst 24 hX (-1) dX12_seatText_23 rfl kc_i_m1 ?_
    refine g_icmp_eq 35 27 hX dX12_seatText_24 (by decide) rfl (fun _ => ?_) (fun _ => ?_)
    · refine g_lv [1, 0] rfl ?_
      exact k_X12_seatText_35 hX hr N M2 a0 r3 a0
    · refine g_aload_n 28 1 hX dX12_seatText_27 rfl rfl ?_
      refine g_iload_n 29 0 hX dX12_seatText_28 rfl rfl ?_
      refine g_callV_ip 32 hX (k_X12_isSeated l g N M2 a0 r3) lk_X12_isSeated rfl (ci := 12) rfl (Nat.le_of_ble_eq_true rfl) q_1911 q_64 (by omega) rfl (Nat.le_of_ble_eq_true rfl) (Nat.zero_le _) (Nat.zero_le _) dX12_seatText_29 rfl (fun r25 => ?_)
      refine g_if_ne 39 35 hX dX12_seatText_32 (by decide) rfl (fun _ => ?_) (fun _ => ?_)
      · refine g_iconst 40 hX 0 dX12_seatText_39 rfl kc_i_0 ?_
        refine g_lv [1, 0] rfl ?_
        exact k_X12_seatText_40 hX hr N M2 a0 r3 a0 0
      · refine g_lv [1, 0] rfl ?_
        exact k_X12_seatText_35 hX hr N M2 a0 r3 a0
def F_X12_setup_200 (N : Nat) : Nat → kMem → Nat → Option (kMem)
  | 0, _, _ => none
  | n + 1, M, a0 =>
    kg (kt M a0 12) <| (F_X12_isWord N M a0 627764).bind fun r19 =>
    if r19 = 0 then (
      kg (kt M a0 12) <|
      if (kI M a0 14) = 0 then (
        kg (kt M a0 12) <| (F_X12_must N M a0 1 1).bind fun M21 =>
        some M21) else
      kg (kt M a0 12) <| (F_X12_must N M a0 0 1).bind fun M20 =>
      some M20) else
    kg (kt M a0 12) <| (F_X12_goesOn N M a0).bind fun M22 =>
    kg (kt M22 a0 12) <| (F_X12_seatText N M22 a0).bind fun M23 =>
    kg (kt M23 a0 12) <| (F_X12_sign N M23 a0 59).bind fun M24 =>
    F_X12_setup_200 N n M24 a0
def F_X12_setup_179 (N : Nat) (k151 : kMem → Nat → Option (kMem)) (M : kMem) (a0 : Nat) (y0 : Nat) (y1 : Int32) : Option (kMem) :=
    kg (kt M y0 12) <| (F_X12_must N M y0 y1 5).bind fun M25 =>
    kg (kt M25 a0 12) <| (F_X12_goesOn N M25 a0).bind fun M26 =>
    kg (kt M26 a0 12) <| (F_X12_traderText N M26 a0).bind fun M27 =>
    kg (kt M27 a0 12) <| (F_X12_sign N M27 a0 59).bind fun M28 =>
    k151 M28 a0
def F_X12_setup_151 (N : Nat) : Nat → kMem → Nat → Option (kMem)
  | 0, _, _ => none
  | n + 1, M, a0 =>
    kg (kt M a0 12) <| (F_X12_isWord N M a0 690000050).bind fun r18 =>
    if r18 = 0 then (
      F_X12_setup_200 N N M a0) else
    kg (kt M a0 12) <|
    kg (kin M (kR M a0 0) 13 8) <|
    if (kI M (kR M a0 0) (kx 8)) < 24 then (
      F_X12_setup_179 N (fun M a0 => F_X12_setup_151 N n M a0) M a0 a0 1) else
    F_X12_setup_179 N (fun M a0 => F_X12_setup_151 N n M a0) M a0 a0 0
def F_X12_setup_130 (N : Nat) (k103 : kMem → Nat → Option (kMem)) (M : kMem) (a0 : Nat) (y0 : Nat) (y1 : Int32) : Option (kMem) :=
    kg (kt M y0 12) <| (F_X12_must N M y0 y1 5).bind fun M29 =>
    kg (kt M29 a0 12) <| (F_X12_goesOn N M29 a0).bind fun M30 =>
    kg (kt M30 a0 12) <| (F_X12_boardText N M30 a0).bind fun M31 =>
    kg (kt M31 a0 12) <| (F_X12_sign N M31 a0 59).bind fun M32 =>
    k103 M32 a0
def F_X12_setup_103 (N : Nat) : Nat → kMem → Nat → Option (kMem)
  | 0, _, _ => none
  | n + 1, M, a0 =>
    kg (kt M a0 12) <| (F_X12_isWord N M a0 2590276).bind fun r17 =>
    if r17 = 0 then (
      F_X12_setup_151 N N M a0) else
    kg (kt M a0 12) <|
    kg (kin M (kR M a0 0) 13 7) <|
    if (kI M (kR M a0 0) (kx 7)) < 5 then (
      F_X12_setup_130 N (fun M a0 => F_X12_setup_103 N n M a0) M a0 a0 1) else
    F_X12_setup_130 N (fun M a0 => F_X12_setup_103 N n M a0) M a0 a0 0
def F_X12_setup (N : Nat) (M : kMem) (a0 : Nat) : Option (kMem) :=
    kg (kt M a0 12) <| (F_X12_isWord N M a0 437857460).bind fun r1 =>
    kg (kt M a0 12) <| (F_X12_must N M a0 r1 1).bind fun M2 =>
    kg (kt M2 a0 12) <| (F_X12_goesOn N M2 a0).bind fun M3 =>
    kg (kt M3 a0 12) <|
    kg (kt M3 a0 12) <| (F_X12_reads N M3 a0 0 20).bind fun r4 =>
    kg (kin r4.2 (kR M3 a0 0) 13 0) <| kl (ksI r4.2 (kR M3 a0 0) (kx 0) r4.1) fun M5 =>
    kg (kt M5 a0 12) <|
    kg (kt M5 a0 12) <| (F_X12_reads N M5 a0 0 99).bind fun r6 =>
    kg (kin r6.2 (kR M5 a0 0) 13 1) <| kl (ksI r6.2 (kR M5 a0 0) (kx 1) r6.1) fun M7 =>
    kg (kt M7 a0 12) <|
    kg (kt M7 a0 12) <| (F_X12_reads N M7 a0 0 99).bind fun r8 =>
    kg (kin r8.2 (kR M7 a0 0) 13 2) <| kl (ksI r8.2 (kR M7 a0 0) (kx 2) r8.1) fun M9 =>
    kg (kt M9 a0 12) <|
    kg (kt M9 a0 12) <| (F_X12_reads N M9 a0 1 999).bind fun r10 =>
    kg (kin r10.2 (kR M9 a0 0) 13 3) <| kl (ksI r10.2 (kR M9 a0 0) (kx 3) r10.1) fun M11 =>
    kg (kt M11 a0 12) <|
    kg (kt M11 a0 12) <| (F_X12_reads N M11 a0 0 999).bind fun r12 =>
    kg (kin r12.2 (kR M11 a0 0) 13 4) <| kl (ksI r12.2 (kR M11 a0 0) (kx 4) r12.1) fun M13 =>
    kg (kt M13 a0 12) <|
    kg (kt M13 a0 12) <| (F_X12_reads N M13 a0 0 99999).bind fun r14 =>
    kg (kin r14.2 (kR M13 a0 0) 13 5) <| kl (ksI r14.2 (kR M13 a0 0) (kx 5) r14.1) fun M15 =>
    kg (kt M15 a0 12) <| (F_X12_sign N M15 a0 59).bind fun M16 =>
    F_X12_setup_103 N N M16 a0
set_option maxRecDepth 100000 in
set_option maxHeartbeats 4000000 in
theorem k_X12_setup_200 {p : Program} {l : Launch} {e : Env} {s : State} {m : MethodId} {args : Array Value} {below : List Frame} {meth : Method} {c : Code} {g : kG} (hX : Cok (p, l, e, { frames := 2 * 7, cells := 0, slots := 0, locals := 60 * 7 }, s, m, args, below, meth, c, cX12_setup, 1, RX12, g, 7)) (hr : meth.sig.returnType = none) (N : Nat) : ∀ (n : Nat) (M : kMem) (a0 : Nat), GG (p, l, e, { frames := 2 * 7, cells := 0, slots := 0, locals := 60 * 7 }, s, m, args, below, meth, c, cX12_setup, 1, RX12, g, 7) (fun b => MQ below (kQ g ((fun r : kMem => (none, r)) b)) args s 0 0 (kZ g.2.2.1)) 0 0 (F_X12_setup_200 N n M a0) 200 [(0, .ref a0)] [] M := by
  intro n
  induction n with
  | zero => intro _ _; exact g_none
  | succ n ih =>
    intro M a0
    unfold F_X12_setup_200
    refine g_aload_n 201 0 hX dX12_setup_200 rfl rfl ?_
    refine g_ldc2 204 hX 627764 dX12_setup_201 rfl q_1906 ?_
    refine g_callV_ip 207 hX (k_X12_isWord l g N M a0 627764) lk_X12_isWord rfl (ci := 12) rfl (Nat.le_of_ble_eq_true rfl) q_1852 q_51 (by omega) rfl (Nat.le_of_ble_eq_true rfl) (Nat.zero_le _) (Nat.zero_le _) dX12_setup_204 rfl (fun r19 => ?_)
    refine g_if_eq 227 210 hX dX12_setup_207 (by decide) rfl (fun _ => ?_) (fun _ => ?_)
    · refine g_aload_n 228 0 hX dX12_setup_227 rfl rfl ?_
      refine g_aload_n 229 0 hX dX12_setup_228 rfl rfl ?_
      refine r_X12_188 232 hX dX12_setup_229 rfl ?_
      refine g_if_ne 239 235 hX dX12_setup_232 (by decide) rfl (fun _ => ?_) (fun _ => ?_)
      · refine g_iconst 240 hX 0 dX12_setup_239 rfl kc_i_0 ?_
        refine g_iconst 241 hX 1 dX12_setup_240 rfl kc_i_1 ?_
        refine g_callV_v 244 hX (k_X12_must l g N M a0 0 1) lk_X12_must rfl (ci := 12) rfl (Nat.le_of_ble_eq_true rfl) q_1856 q_52 (by omega) rfl (Nat.le_of_ble_eq_true rfl) (Nat.zero_le _) (Nat.zero_le _) dX12_setup_241 rfl (fun M20 => ?_)
        exact g_vret hX hr rfl (Nat.le_refl 0) (Nat.le_refl 0) dX12_setup_244
      · refine g_iconst 236 hX 1 dX12_setup_235 rfl kc_i_1 ?_
        refine g_goto 240 hX dX12_setup_236 (by decide) ?_
        refine g_iconst 241 hX 1 dX12_setup_240 rfl kc_i_1 ?_
        refine g_callV_v 244 hX (k_X12_must l g N M a0 1 1) lk_X12_must rfl (ci := 12) rfl (Nat.le_of_ble_eq_true rfl) q_1856 q_52 (by omega) rfl (Nat.le_of_ble_eq_true rfl) (Nat.zero_le _) (Nat.zero_le _) dX12_setup_241 rfl (fun M21 => ?_)
        exact g_vret hX hr rfl (Nat.le_refl 0) (Nat.le_refl 0) dX12_setup_244
    · refine g_aload_n 211 0 hX dX12_setup_210 rfl rfl ?_
      refine g_callV_v 214 hX (k_X12_goesOn l g N M a0) lk_X12_goesOn rfl (ci := 12) rfl (Nat.le_of_ble_eq_true rfl) q_1860 q_53 (by omega) rfl (Nat.le_of_ble_eq_true rfl) (Nat.zero_le _) (Nat.zero_le _) dX12_setup_211 rfl (fun M22 => ?_)
      refine g_aload_n 215 0 hX dX12_setup_214 rfl rfl ?_
      refine g_callV_v 218 hX (k_X12_seatText l g N M22 a0) lk_X12_seatText rfl (ci := 12) rfl (Nat.le_of_ble_eq_true rfl) q_1907 q_63 (by omega) rfl (Nat.le_of_ble_eq_true rfl) (Nat.zero_le _) (Nat.zero_le _) dX12_setup_215 rfl (fun M23 => ?_)
      refine g_aload_n 219 0 hX dX12_setup_218 rfl rfl ?_
      refine g_bipush 221 hX 59 dX12_setup_219 rfl kc_b_59 ?_
      refine g_callV_v 224 hX (k_X12_sign l g N M23 a0 59) lk_X12_sign rfl (ci := 12) rfl (Nat.le_of_ble_eq_true rfl) q_1869 q_55 (by omega) rfl (Nat.le_of_ble_eq_true rfl) (Nat.zero_le _) (Nat.zero_le _) dX12_setup_221 rfl (fun M24 => ?_)
      refine g_goto 200 hX dX12_setup_224 (by decide) ?_
      exact ih M24 a0
set_option maxRecDepth 100000 in
set_option maxHeartbeats 4000000 in
theorem k_X12_setup_179 {p : Program} {l : Launch} {e : Env} {s : State} {m : MethodId} {args : Array Value} {below : List Frame} {meth : Method} {c : Code} {g : kG} (hX : Cok (p, l, e, { frames := 2 * 7, cells := 0, slots := 0, locals := 60 * 7 }, s, m, args, below, meth, c, cX12_setup, 1, RX12, g, 7)) (hr : meth.sig.returnType = none) (N : Nat) (k151 : kMem → Nat → Option (kMem)) (h151 : ∀ (M : kMem) (a0 : Nat), GG (p, l, e, { frames := 2 * 7, cells := 0, slots := 0, locals := 60 * 7 }, s, m, args, below, meth, c, cX12_setup, 1, RX12, g, 7) (fun b => MQ below (kQ g ((fun r : kMem => (none, r)) b)) args s 0 0 (kZ g.2.2.1)) 0 0 (k151 M a0) 151 [(0, .ref a0)] [] M) : ∀ (M : kMem) (a0 : Nat) (y0 : Nat) (y1 : Int32), GG (p, l, e, { frames := 2 * 7, cells := 0, slots := 0, locals := 60 * 7 }, s, m, args, below, meth, c, cX12_setup, 1, RX12, g, 7) (fun b => MQ below (kQ g ((fun r : kMem => (none, r)) b)) args s 0 0 (kZ g.2.2.1)) 0 0 (F_X12_setup_179 N k151 M a0 y0 y1) 179 [(0, .ref a0)] [.int y1, .ref y0] M := by
  intro M a0 y0 y1
  unfold F_X12_setup_179
  refine g_iconst 180 hX 5 dX12_setup_179 rfl kc_i_5 ?_
  refine g_callV_v 183 hX (k_X12_must l g N M y0 y1 5) lk_X12_must rfl (ci := 12) rfl (Nat.le_of_ble_eq_true rfl) q_1856 q_52 (by omega) rfl (Nat.le_of_ble_eq_true rfl) (Nat.zero_le _) (Nat.zero_le _) dX12_setup_180 rfl (fun M25 => ?_)
  refine g_aload_n 184 0 hX dX12_setup_183 rfl rfl ?_
  refine g_callV_v 187 hX (k_X12_goesOn l g N M25 a0) lk_X12_goesOn rfl (ci := 12) rfl (Nat.le_of_ble_eq_true rfl) q_1860 q_53 (by omega) rfl (Nat.le_of_ble_eq_true rfl) (Nat.zero_le _) (Nat.zero_le _) dX12_setup_184 rfl (fun M26 => ?_)
  refine g_aload_n 188 0 hX dX12_setup_187 rfl rfl ?_
  refine g_callV_v 191 hX (k_X12_traderText l g N M26 a0) lk_X12_traderText rfl (ci := 12) rfl (Nat.le_of_ble_eq_true rfl) q_1887 q_59 (by omega) rfl (Nat.le_of_ble_eq_true rfl) (Nat.zero_le _) (Nat.zero_le _) dX12_setup_188 rfl (fun M27 => ?_)
  refine g_aload_n 192 0 hX dX12_setup_191 rfl rfl ?_
  refine g_bipush 194 hX 59 dX12_setup_192 rfl kc_b_59 ?_
  refine g_callV_v 197 hX (k_X12_sign l g N M27 a0 59) lk_X12_sign rfl (ci := 12) rfl (Nat.le_of_ble_eq_true rfl) q_1869 q_55 (by omega) rfl (Nat.le_of_ble_eq_true rfl) (Nat.zero_le _) (Nat.zero_le _) dX12_setup_194 rfl (fun M28 => ?_)
  refine g_goto 151 hX dX12_setup_197 (by decide) ?_
  exact h151 M28 a0
set_option maxRecDepth 100000 in
set_option maxHeartbeats 4000000 in
theorem k_X12_setup_151 {p : Program} {l : Launch} {e : Env} {s : State} {m : MethodId} {args : Array Value} {below : List Frame} {meth : Method} {c : Code} {g : kG} (hX : Cok (p, l, e, { frames := 2 * 7, cells := 0, slots := 0, locals := 60 * 7 }, s, m, args, below, meth, c, cX12_setup, 1, RX12, g, 7)) (hr : meth.sig.returnType = none) (N : Nat) : ∀ (n : Nat) (M : kMem) (a0 : Nat), GG (p, l, e, { frames := 2 * 7, cells := 0, slots := 0, locals := 60 * 7 }, s, m, args, below, meth, c, cX12_setup, 1, RX12, g, 7) (fun b => MQ below (kQ g ((fun r : kMem => (none, r)) b)) args s 0 0 (kZ g.2.2.1)) 0 0 (F_X12_setup_151 N n M a0) 151 [(0, .ref a0)] [] M := by
  intro n
  induction n with
  | zero => intro _ _; exact g_none
  | succ n ih =>
    intro M a0
    unfold F_X12_setup_151
    refine g_aload_n 152 0 hX dX12_setup_151 rfl rfl ?_
    refine g_ldc2 155 hX 690000050 dX12_setup_152 rfl q_1886 ?_
    refine g_callV_ip 158 hX (k_X12_isWord l g N M a0 690000050) lk_X12_isWord rfl (ci := 12) rfl (Nat.le_of_ble_eq_true rfl) q_1852 q_51 (by omega) rfl (Nat.le_of_ble_eq_true rfl) (Nat.zero_le _) (Nat.zero_le _) dX12_setup_155 rfl (fun r18 => ?_)
    refine g_if_eq 200 161 hX dX12_setup_158 (by decide) rfl (fun _ => ?_) (fun _ => ?_)
    · exact k_X12_setup_200 hX hr N N M a0
    · refine g_aload_n 162 0 hX dX12_setup_161 rfl rfl ?_
      refine g_aload_n 163 0 hX dX12_setup_162 rfl rfl ?_
      refine r_X12_7 166 hX dX12_setup_163 rfl ?_
      refine g_bipush 168 hX 8 dX12_setup_166 rfl kc_b_8 ?_
      refine g_iald 169 hX dX12_setup_168 rfl ?_
      refine g_bipush 171 hX 24 dX12_setup_169 rfl kc_b_24 ?_
      refine g_icmp_ge 178 174 hX dX12_setup_171 (by decide) rfl (fun _ => ?_) (fun _ => ?_)
      · refine g_iconst 179 hX 0 dX12_setup_178 rfl kc_i_0 ?_
        exact k_X12_setup_179 hX hr N (fun M a0 => F_X12_setup_151 N n M a0) ih M a0 a0 0
      · refine g_iconst 175 hX 1 dX12_setup_174 rfl kc_i_1 ?_
        refine g_goto 179 hX dX12_setup_175 (by decide) ?_
        exact k_X12_setup_179 hX hr N (fun M a0 => F_X12_setup_151 N n M a0) ih M a0 a0 1
set_option maxRecDepth 100000 in
set_option maxHeartbeats 4000000 in
theorem k_X12_setup_130 {p : Program} {l : Launch} {e : Env} {s : State} {m : MethodId} {args : Array Value} {below : List Frame} {meth : Method} {c : Code} {g : kG} (hX : Cok (p, l, e, { frames := 2 * 7, cells := 0, slots := 0, locals := 60 * 7 }, s, m, args, below, meth, c, cX12_setup, 1, RX12, g, 7)) (hr : meth.sig.returnType = none) (N : Nat) (k103 : kMem → Nat → Option (kMem)) (h103 : ∀ (M : kMem) (a0 : Nat), GG (p, l, e, { frames := 2 * 7, cells := 0, slots := 0, locals := 60 * 7 }, s, m, args, below, meth, c, cX12_setup, 1, RX12, g, 7) (fun b => MQ below (kQ g ((fun r : kMem => (none, r)) b)) args s 0 0 (kZ g.2.2.1)) 0 0 (k103 M a0) 103 [(0, .ref a0)] [] M) : ∀ (M : kMem) (a0 : Nat) (y0 : Nat) (y1 : Int32), GG (p, l, e, { frames := 2 * 7, cells := 0, slots := 0, locals := 60 * 7 }, s, m, args, below, meth, c, cX12_setup, 1, RX12, g, 7) (fun b => MQ below (kQ g ((fun r : kMem => (none, r)) b)) args s 0 0 (kZ g.2.2.1)) 0 0 (F_X12_setup_130 N k103 M a0 y0 y1) 130 [(0, .ref a0)] [.int y1, .ref y0] M := by
  intro M a0 y0 y1
  unfold F_X12_setup_130
  refine g_iconst 131 hX 5 dX12_setup_130 rfl kc_i_5 ?_
  refine g_callV_v 134 hX (k_X12_must l g N M y0 y1 5) lk_X12_must rfl (ci := 12) rfl (Nat.le_of_ble_eq_true rfl) q_1856 q_52 (by omega) rfl (Nat.le_of_ble_eq_true rfl) (Nat.zero_le _) (Nat.zero_le _) dX12_setup_131 rfl (fun M29 => ?_)
  refine g_aload_n 135 0 hX dX12_setup_134 rfl rfl ?_
  refine g_callV_v 138 hX (k_X12_goesOn l g N M29 a0) lk_X12_goesOn rfl (ci := 12) rfl (Nat.le_of_ble_eq_true rfl) q_1860 q_53 (by omega) rfl (Nat.le_of_ble_eq_true rfl) (Nat.zero_le _) (Nat.zero_le _) dX12_setup_135 rfl (fun M30 => ?_)
  refine g_aload_n 139 0 hX dX12_setup_138 rfl rfl ?_
  refine g_callV_v 142 hX (k_X12_boardText l g N M30 a0) lk_X12_boardText rfl (ci := 12) rfl (Nat.le_of_ble_eq_true rfl) q_1878 q_57 (by omega) rfl (Nat.le_of_ble_eq_true rfl) (Nat.zero_le _) (Nat.zero_le _) dX12_setup_139 rfl (fun M31 => ?_)
  refine g_aload_n 143 0 hX dX12_setup_142 rfl rfl ?_
  refine g_bipush 145 hX 59 dX12_setup_143 rfl kc_b_59 ?_
  refine g_callV_v 148 hX (k_X12_sign l g N M31 a0 59) lk_X12_sign rfl (ci := 12) rfl (Nat.le_of_ble_eq_true rfl) q_1869 q_55 (by omega) rfl (Nat.le_of_ble_eq_true rfl) (Nat.zero_le _) (Nat.zero_le _) dX12_setup_145 rfl (fun M32 => ?_)
  refine g_goto 103 hX dX12_setup_148 (by decide) ?_
  exact h103 M32 a0
set_option maxRecDepth 100000 in
set_option maxHeartbeats 4000000 in
theorem k_X12_setup_103 {p : Program} {l : Launch} {e : Env} {s : State} {m : MethodId} {args : Array Value} {below : List Frame} {meth : Method} {c : Code} {g : kG} (hX : Cok (p, l, e, { frames := 2 * 7, cells := 0, slots := 0, locals := 60 * 7 }, s, m, args, below, meth, c, cX12_setup, 1, RX12, g, 7)) (hr : meth.sig.returnType = none) (N : Nat) : ∀ (n : Nat) (M : kMem) (a0 : Nat), GG (p, l, e, { frames := 2 * 7, cells := 0, slots := 0, locals := 60 * 7 }, s, m, args, below, meth, c, cX12_setup, 1, RX12, g, 7) (fun b => MQ below (kQ g ((fun r : kMem => (none, r)) b)) args s 0 0 (kZ g.2.2.1)) 0 0 (F_X12_setup_103 N n M a0) 103 [(0, .ref a0)] [] M := by
  intro n
  induction n with
  | zero => intro _ _; exact g_none
  | succ n ih =>
    intro M a0
    unfold F_X12_setup_103
    refine g_aload_n 104 0 hX dX12_setup_103 rfl rfl ?_
    refine g_ldc2 107 hX 2590276 dX12_setup_104 rfl q_1877 ?_
    refine g_callV_ip 110 hX (k_X12_isWord l g N M a0 2590276) lk_X12_isWord rfl (ci := 12) rfl (Nat.le_of_ble_eq_true rfl) q_1852 q_51 (by omega) rfl (Nat.le_of_ble_eq_true rfl) (Nat.zero_le _) (Nat.zero_le _) dX12_setup_107 rfl (fun r17 => ?_)
    refine g_if_eq 151 113 hX dX12_setup_110 (by decide) rfl (fun _ => ?_) (fun _ => ?_)
    · exact k_X12_setup_151 hX hr N N M a0
    · refine g_aload_n 114 0 hX dX12_setup_113 rfl rfl ?_
      refine g_aload_n 115 0 hX dX12_setup_114 rfl rfl ?_
      refine r_X12_7 118 hX dX12_setup_115 rfl ?_
      refine g_bipush 120 hX 7 dX12_setup_118 rfl kc_b_7 ?_
      refine g_iald 121 hX dX12_setup_120 rfl ?_
      refine g_iconst 122 hX 5 dX12_setup_121 rfl kc_i_5 ?_
      refine g_icmp_ge 129 125 hX dX12_setup_122 (by decide) rfl (fun _ => ?_) (fun _ => ?_)
      · refine g_iconst 130 hX 0 dX12_setup_129 rfl kc_i_0 ?_
        exact k_X12_setup_130 hX hr N (fun M a0 => F_X12_setup_103 N n M a0) ih M a0 a0 0
      · refine g_iconst 126 hX 1 dX12_setup_125 rfl kc_i_1 ?_
        refine g_goto 130 hX dX12_setup_126 (by decide) ?_
        exact k_X12_setup_130 hX hr N (fun M a0 => F_X12_setup_103 N n M a0) ih M a0 a0 1
set_option maxRecDepth 100000 in
set_option maxHeartbeats 4000000 in
theorem k_X12_setup (l : Launch) (g : kG) (N : Nat) (M : kMem) (a0 : Nat) : kMet l g yX12_setup cX12_setup 1 none 7 0 0 [.ref a0] M (fun r : kMem => (none, r)) (F_X12_setup N M a0) := by
  refine k_of (lv := [(0, .ref a0)]) RX12 (by decide) rfl rfl (Nat.le_of_ble_eq_true rfl) ?_
  intro p e s m args below meth c hX hr _
  unfold F_X12_setup
  refine g_aload_n 1 0 hX dX12_setup_0 rfl rfl ?_
  refine g_aload_n 2 0 hX dX12_setup_1 rfl rfl ?_
  refine g_ldc2 5 hX 437857460 dX12_setup_2 rfl q_1851 ?_
  refine g_callV_ip 8 hX (k_X12_isWord l g N M a0 437857460) lk_X12_isWord rfl (ci := 12) rfl (Nat.le_of_ble_eq_true rfl) q_1852 q_51 (by omega) rfl (Nat.le_of_ble_eq_true rfl) (Nat.zero_le _) (Nat.zero_le _) dX12_setup_5 rfl (fun r1 => ?_)
  refine g_iconst 9 hX 1 dX12_setup_8 rfl kc_i_1 ?_
  refine g_callV_v 12 hX (k_X12_must l g N M a0 r1 1) lk_X12_must rfl (ci := 12) rfl (Nat.le_of_ble_eq_true rfl) q_1856 q_52 (by omega) rfl (Nat.le_of_ble_eq_true rfl) (Nat.zero_le _) (Nat.zero_le _) dX12_setup_9 rfl (fun M2 => ?_)
  refine g_aload_n 13 0 hX dX12_setup_12 rfl rfl ?_
  refine g_callV_v 16 hX (k_X12_goesOn l g N M2 a0) lk_X12_goesOn rfl (ci := 12) rfl (Nat.le_of_ble_eq_true rfl) q_1860 q_53 (by omega) rfl (Nat.le_of_ble_eq_true rfl) (Nat.zero_le _) (Nat.zero_le _) dX12_setup_13 rfl (fun M3 => ?_)
  refine g_aload_n 17 0 hX dX12_setup_16 rfl rfl ?_
  refine r_X12_7 20 hX dX12_setup_17 rfl ?_
  refine g_iconst 21 hX 0 dX12_setup_20 rfl kc_i_0 ?_
  refine g_aload_n 22 0 hX dX12_setup_21 rfl rfl ?_
  refine g_iconst 23 hX 0 dX12_setup_22 rfl kc_i_0 ?_
  refine g_bipush 25 hX 20 dX12_setup_23 rfl kc_b_20 ?_
  refine g_callV_i 28 hX (k_X12_reads l g N M3 a0 0 20) lk_X12_reads rfl (ci := 12) rfl (Nat.le_of_ble_eq_true rfl) q_1864 q_54 (by omega) rfl (Nat.le_of_ble_eq_true rfl) (Nat.zero_le _) (Nat.zero_le _) dX12_setup_25 rfl (fun r4 => ?_)
  refine g_iast 29 hX dX12_setup_28 rfl ?_
  refine g_klM (fun M5 hM5 => ?_)
  refine g_aload_n 30 0 hX dX12_setup_29 rfl rfl ?_
  refine r_X12_7 33 hX dX12_setup_30 rfl ?_
  refine g_iconst 34 hX 1 dX12_setup_33 rfl kc_i_1 ?_
  refine g_aload_n 35 0 hX dX12_setup_34 rfl rfl ?_
  refine g_iconst 36 hX 0 dX12_setup_35 rfl kc_i_0 ?_
  refine g_bipush 38 hX 99 dX12_setup_36 rfl kc_b_99 ?_
  refine g_callV_i 41 hX (k_X12_reads l g N M5 a0 0 99) lk_X12_reads rfl (ci := 12) rfl (Nat.le_of_ble_eq_true rfl) q_1864 q_54 (by omega) rfl (Nat.le_of_ble_eq_true rfl) (Nat.zero_le _) (Nat.zero_le _) dX12_setup_38 rfl (fun r6 => ?_)
  refine g_iast 42 hX dX12_setup_41 rfl ?_
  refine g_klM (fun M7 hM7 => ?_)
  refine g_aload_n 43 0 hX dX12_setup_42 rfl rfl ?_
  refine r_X12_7 46 hX dX12_setup_43 rfl ?_
  refine g_iconst 47 hX 2 dX12_setup_46 rfl kc_i_2 ?_
  refine g_aload_n 48 0 hX dX12_setup_47 rfl rfl ?_
  refine g_iconst 49 hX 0 dX12_setup_48 rfl kc_i_0 ?_
  refine g_bipush 51 hX 99 dX12_setup_49 rfl kc_b_99 ?_
  refine g_callV_i 54 hX (k_X12_reads l g N M7 a0 0 99) lk_X12_reads rfl (ci := 12) rfl (Nat.le_of_ble_eq_true rfl) q_1864 q_54 (by omega) rfl (Nat.le_of_ble_eq_true rfl) (Nat.zero_le _) (Nat.zero_le _) dX12_setup_51 rfl (fun r8 => ?_)
  refine g_iast 55 hX dX12_setup_54 rfl ?_
  refine g_klM (fun M9 hM9 => ?_)
  refine g_aload_n 56 0 hX dX12_setup_55 rfl rfl ?_
  refine r_X12_7 59 hX dX12_setup_56 rfl ?_
  refine g_iconst 60 hX 3 dX12_setup_59 rfl kc_i_3 ?_
  refine g_aload_n 61 0 hX dX12_setup_60 rfl rfl ?_
  refine g_iconst 62 hX 1 dX12_setup_61 rfl kc_i_1 ?_
  refine g_sipush 65 hX 999 dX12_setup_62 rfl kc_s_999 ?_
  refine g_callV_i 68 hX (k_X12_reads l g N M9 a0 1 999) lk_X12_reads rfl (ci := 12) rfl (Nat.le_of_ble_eq_true rfl) q_1864 q_54 (by omega) rfl (Nat.le_of_ble_eq_true rfl) (Nat.zero_le _) (Nat.zero_le _) dX12_setup_65 rfl (fun r10 => ?_)
  refine g_iast 69 hX dX12_setup_68 rfl ?_
  refine g_klM (fun M11 hM11 => ?_)
  refine g_aload_n 70 0 hX dX12_setup_69 rfl rfl ?_
  refine r_X12_7 73 hX dX12_setup_70 rfl ?_
  refine g_iconst 74 hX 4 dX12_setup_73 rfl kc_i_4 ?_
  refine g_aload_n 75 0 hX dX12_setup_74 rfl rfl ?_
  refine g_iconst 76 hX 0 dX12_setup_75 rfl kc_i_0 ?_
  refine g_sipush 79 hX 999 dX12_setup_76 rfl kc_s_999 ?_
  refine g_callV_i 82 hX (k_X12_reads l g N M11 a0 0 999) lk_X12_reads rfl (ci := 12) rfl (Nat.le_of_ble_eq_true rfl) q_1864 q_54 (by omega) rfl (Nat.le_of_ble_eq_true rfl) (Nat.zero_le _) (Nat.zero_le _) dX12_setup_79 rfl (fun r12 => ?_)
  refine g_iast 83 hX dX12_setup_82 rfl ?_
  refine g_klM (fun M13 hM13 => ?_)
  refine g_aload_n 84 0 hX dX12_setup_83 rfl rfl ?_
  refine r_X12_7 87 hX dX12_setup_84 rfl ?_
  refine g_iconst 88 hX 5 dX12_setup_87 rfl kc_i_5 ?_
  refine g_aload_n 89 0 hX dX12_setup_88 rfl rfl ?_
  refine g_iconst 90 hX 0 dX12_setup_89 rfl kc_i_0 ?_
  refine g_ldcw 93 hX 99999 dX12_setup_90 rfl q_1868 ?_
  refine g_callV_i 96 hX (k_X12_reads l g N M13 a0 0 99999) lk_X12_reads rfl (ci := 12) rfl (Nat.le_of_ble_eq_true rfl) q_1864 q_54 (by omega) rfl (Nat.le_of_ble_eq_true rfl) (Nat.zero_le _) (Nat.zero_le _) dX12_setup_93 rfl (fun r14 => ?_)
  refine g_iast 97 hX dX12_setup_96 rfl ?_
  refine g_klM (fun M15 hM15 => ?_)
  refine g_aload_n 98 0 hX dX12_setup_97 rfl rfl ?_
  refine g_bipush 100 hX 59 dX12_setup_98 rfl kc_b_59 ?_
  refine g_callV_v 103 hX (k_X12_sign l g N M15 a0 59) lk_X12_sign rfl (ci := 12) rfl (Nat.le_of_ble_eq_true rfl) q_1869 q_55 (by omega) rfl (Nat.le_of_ble_eq_true rfl) (Nat.zero_le _) (Nat.zero_le _) dX12_setup_100 rfl (fun M16 => ?_)
  exact k_X12_setup_103 hX hr N N M16 a0
def F_X12_takesText_2 (N : Nat) : Nat → kMem → Nat → Int32 → Option (kMem)
  | 0, _, _, _ => none
  | n + 1, M, a0, x1 =>
    kg (kt M a0 12) <|
    if x1 < (kI M a0 10) then (
      kg (kt M a0 12) <|
      kg (kt M a0 12) <|
      kg (kin M (kR M a0 8) 13 x1) <|
      kg (kin M (kR M a0 9) 13 x1) <| kl (ksI M (kR M a0 9) (kx x1) (kI M (kR M a0 8) (kx x1))) fun M3 =>
      kl (x1 + 1) fun v4 =>
      F_X12_takesText_2 N n M3 a0 v4) else
    kg (kt M a0 12) <|
    kg (kt M a0 12) <| kl (ksI M a0 11 (kI M a0 10)) fun M1 =>
    kg (kt M1 a0 12) <| kl (ksI M1 a0 10 0) fun M2 =>
    some M2
def F_X12_takesText (N : Nat) (M : kMem) (a0 : Nat) : Option (kMem) :=
    F_X12_takesText_2 N N M a0 0
set_option maxRecDepth 100000 in
set_option maxHeartbeats 4000000 in
theorem k_X12_takesText_2 {p : Program} {l : Launch} {e : Env} {s : State} {m : MethodId} {args : Array Value} {below : List Frame} {meth : Method} {c : Code} {g : kG} (hX : Cok (p, l, e, { frames := 2 * 1, cells := 0, slots := 0, locals := 60 * 1 }, s, m, args, below, meth, c, cX12_takesText, 2, RX12, g, 1)) (hr : meth.sig.returnType = none) (N : Nat) : ∀ (n : Nat) (M : kMem) (a0 : Nat) (x1 : Int32), GG (p, l, e, { frames := 2 * 1, cells := 0, slots := 0, locals := 60 * 1 }, s, m, args, below, meth, c, cX12_takesText, 2, RX12, g, 1) (fun b => MQ below (kQ g ((fun r : kMem => (none, r)) b)) args s 0 0 (kZ g.2.2.1)) 0 0 (F_X12_takesText_2 N n M a0 x1) 2 [(0, .ref a0), (1, .int x1)] [] M := by
  intro n
  induction n with
  | zero => intro _ _ _; exact g_none
  | succ n ih =>
    intro M a0 x1
    unfold F_X12_takesText_2
    refine g_iload_n 3 1 hX dX12_takesText_2 rfl rfl ?_
    refine g_aload_n 4 0 hX dX12_takesText_3 rfl rfl ?_
    refine r_X12_155 7 hX dX12_takesText_4 rfl ?_
    refine g_icmp_ge 28 10 hX dX12_takesText_7 (by decide) rfl (fun _ => ?_) (fun _ => ?_)
    · refine g_aload_n 29 0 hX dX12_takesText_28 rfl rfl ?_
      refine g_aload_n 30 0 hX dX12_takesText_29 rfl rfl ?_
      refine r_X12_155 33 hX dX12_takesText_30 rfl ?_
      refine p_X12_168 36 hX dX12_takesText_33 rfl ?_
      refine g_klM (fun M1 hM1 => ?_)
      refine g_aload_n 37 0 hX dX12_takesText_36 rfl rfl ?_
      refine g_iconst 38 hX 0 dX12_takesText_37 rfl kc_i_0 ?_
      refine p_X12_155 41 hX dX12_takesText_38 rfl ?_
      refine g_klM (fun M2 hM2 => ?_)
      exact g_vret hX hr rfl (Nat.le_refl 0) (Nat.le_refl 0) dX12_takesText_41
    · refine g_aload_n 11 0 hX dX12_takesText_10 rfl rfl ?_
      refine r_X12_32 14 hX dX12_takesText_11 rfl ?_
      refine g_iload_n 15 1 hX dX12_takesText_14 rfl rfl ?_
      refine g_aload_n 16 0 hX dX12_takesText_15 rfl rfl ?_
      refine r_X12_29 19 hX dX12_takesText_16 rfl ?_
      refine g_iload_n 20 1 hX dX12_takesText_19 rfl rfl ?_
      refine g_iald 21 hX dX12_takesText_20 rfl ?_
      refine g_iast 22 hX dX12_takesText_21 rfl ?_
      refine g_klM (fun M3 hM3 => ?_)
      refine g_kl (fun v4 hv4 => ?_)
      refine g_iinc 25 1 1 v4 [(1, .int v4), (0, .ref a0)] hX dX12_takesText_22 rfl rfl (by rw [hv4, kc_i_1]) (Nat.le_of_ble_eq_true rfl) rfl ?_
      refine g_goto 2 hX dX12_takesText_25 (by decide) ?_
      refine g_lv [1, 0] rfl ?_
      exact ih M3 a0 v4
set_option maxRecDepth 100000 in
set_option maxHeartbeats 4000000 in
theorem k_X12_takesText (l : Launch) (g : kG) (N : Nat) (M : kMem) (a0 : Nat) : kMet l g yX12_takesText cX12_takesText 2 none 1 0 0 [.ref a0] M (fun r : kMem => (none, r)) (F_X12_takesText N M a0) := by
  refine k_of (lv := [(0, .ref a0)]) RX12 (by decide) rfl rfl (Nat.le_of_ble_eq_true rfl) ?_
  intro p e s m args below meth c hX hr _
  unfold F_X12_takesText
  refine g_iconst 1 hX 0 dX12_takesText_0 rfl kc_i_0 ?_
  refine g_istore_n 2 1 [(1, .int 0), (0, .ref a0)] hX dX12_takesText_1 rfl rfl (Nat.le_of_ble_eq_true rfl) rfl ?_
  refine g_lv [1, 0] rfl ?_
  exact k_X12_takesText_2 hX hr N N M a0 0
def F_X12_tellsError (N : Nat) (M : kMem) (a0 : Nat) : Option (kMem) :=
    kg (kt M a0 12) <|
    kg (kt M a0 12) <| kl (ksI M a0 18 (kI M a0 16)) fun M1 =>
    kg (kt M1 a0 12) <|
    if (kI M1 a0 16) = 0 then (
      kg (kt M1 a0 12) <| kl (ksI M1 a0 19 (-1)) fun M3 =>
      some M3) else
    kg (kt M1 a0 12) <|
    kg (kt M1 a0 12) <| kl (ksI M1 a0 19 (kI M1 a0 17)) fun M2 =>
    some M2
set_option maxRecDepth 100000 in
set_option maxHeartbeats 4000000 in
theorem k_X12_tellsError (l : Launch) (g : kG) (N : Nat) (M : kMem) (a0 : Nat) : kMet l g yX12_tellsError cX12_tellsError 1 none 1 0 0 [.ref a0] M (fun r : kMem => (none, r)) (F_X12_tellsError N M a0) := by
  refine k_of (lv := [(0, .ref a0)]) RX12 (by decide) rfl rfl (Nat.le_of_ble_eq_true rfl) ?_
  intro p e s m args below meth c hX hr _
  unfold F_X12_tellsError
  refine g_aload_n 1 0 hX dX12_tellsError_0 rfl rfl ?_
  refine g_aload_n 2 0 hX dX12_tellsError_1 rfl rfl ?_
  refine r_X12_209 5 hX dX12_tellsError_2 rfl ?_
  refine p_X12_276 8 hX dX12_tellsError_5 rfl ?_
  refine g_klM (fun M1 hM1 => ?_)
  refine g_aload_n 9 0 hX dX12_tellsError_8 rfl rfl ?_
  refine g_aload_n 10 0 hX dX12_tellsError_9 rfl rfl ?_
  refine r_X12_209 13 hX dX12_tellsError_10 rfl ?_
  refine g_if_ne 20 16 hX dX12_tellsError_13 (by decide) rfl (fun _ => ?_) (fun _ => ?_)
  · refine g_aload_n 21 0 hX dX12_tellsError_20 rfl rfl ?_
    refine r_X12_212 24 hX dX12_tellsError_21 rfl ?_
    refine p_X12_35 27 hX dX12_tellsError_24 rfl ?_
    refine g_klM (fun M2 hM2 => ?_)
    exact g_vret hX hr rfl (Nat.le_refl 0) (Nat.le_refl 0) dX12_tellsError_27
  · refine g_iconst 17 hX (-1) dX12_tellsError_16 rfl kc_i_m1 ?_
    refine g_goto 24 hX dX12_tellsError_17 (by decide) ?_
    refine p_X12_35 27 hX dX12_tellsError_24 rfl ?_
    refine g_klM (fun M3 hM3 => ?_)
    exact g_vret hX hr rfl (Nat.le_refl 0) (Nat.le_refl 0) dX12_tellsError_27
def F_X12_load_24 (N : Nat) : Nat → kMem → Nat → Int32 → Option (Int32 × kMem)
  | 0, _, _, _ => none
  | n + 1, M, a0, x1 =>
    if x1 < 293 then (
      kg (kt M a0 12) <|
      kg (kin M (kR M a0 0) 13 x1) <| kl (ksI M (kR M a0 0) (kx x1) 0) fun M13 =>
      kl (x1 + 1) fun v14 =>
      F_X12_load_24 N n M13 a0 v14) else
    kg (kt M a0 12) <| (F_X12_starts N M a0).bind fun M4 =>
    kg (kt M4 a0 12) <| (F_X12_setup N M4 a0).bind fun M5 =>
    kg (kt M5 a0 12) <| (F_X12_tellsError N M5 a0).bind fun M6 =>
    kg (kt M6 a0 12) <|
    if (kI M6 a0 16) = 0 then (
      kg (kt M6 a0 12) <|
      kg (kt M6 a0 12) <| (F_X12_allCoins N M6 a0).bind fun r7 =>
      kg (kin M6 (kR M6 a0 0) 13 9) <| kl (ksI M6 (kR M6 a0 0) (kx 9) r7) fun M8 =>
      kg (kt M8 a0 12) <| kl (ksI M8 a0 5 0) fun M9 =>
      kg (kt M9 a0 12) <|
      kg (kin M9 (kR M9 a0 4) 14 0 && ((0 : Int32) == 0 || (0 : Int32) == 1)) <| kl (ksI M9 (kR M9 a0 4) (kx 0) 0) fun M10 =>
      kg (kt M10 a0 12) <|
      kg (kin M10 (kR M10 a0 4) 14 1 && ((0 : Int32) == 0 || (0 : Int32) == 1)) <| kl (ksI M10 (kR M10 a0 4) (kx 1) 0) fun M11 =>
      some (0, M11)) else
    kg (kt M6 a0 12) <|
    kg (kt M6 a0 12) <|
    (F_X12_copies N M6 (kR M6 a0 1) 0 (kR M6 a0 0) 0).bind fun M12 =>
    kg (kt M12 a0 12) <|
    some (kI M12 a0 16, M12)
def F_X12_load (N : Nat) (M : kMem) (a0 : Nat) : Option (Int32 × kMem) :=
    kg (kt M a0 12) <| kl (ksI M a0 6 0) fun M1 =>
    kg (kt M1 a0 12) <| (F_X12_takesText N M1 a0).bind fun M2 =>
    kg (kt M2 a0 12) <|
    kg (kt M2 a0 12) <|
    (F_X12_copies N M2 (kR M2 a0 0) 0 (kR M2 a0 1) 0).bind fun M3 =>
    F_X12_load_24 N N M3 a0 0
set_option maxRecDepth 100000 in
set_option maxHeartbeats 4000000 in
theorem k_X12_load_24 {p : Program} {l : Launch} {e : Env} {s : State} {m : MethodId} {args : Array Value} {below : List Frame} {meth : Method} {c : Code} {g : kG} (hX : Cok (p, l, e, { frames := 2 * 8, cells := 0, slots := 0, locals := 60 * 8 }, s, m, args, below, meth, c, cX12_load, 2, RX12, g, 8)) (hr : meth.sig.returnType = (some .int)) (N : Nat) : ∀ (n : Nat) (M : kMem) (a0 : Nat) (x1 : Int32), GG (p, l, e, { frames := 2 * 8, cells := 0, slots := 0, locals := 60 * 8 }, s, m, args, below, meth, c, cX12_load, 2, RX12, g, 8) (fun b => MQ below (kQ g ((fun r : Int32 × kMem => (some (.int r.1), r.2)) b)) args s 0 0 (kZ g.2.2.1)) 0 0 (F_X12_load_24 N n M a0 x1) 24 [(0, .ref a0), (1, .int x1)] [] M := by
  intro n
  induction n with
  | zero => intro _ _ _; exact g_none
  | succ n ih =>
    intro M a0 x1
    unfold F_X12_load_24
    refine g_iload_n 25 1 hX dX12_load_24 rfl rfl ?_
    refine g_sipush 28 hX 293 dX12_load_25 rfl kc_s_293 ?_
    refine g_icmp_ge 44 31 hX dX12_load_28 (by decide) rfl (fun _ => ?_) (fun _ => ?_)
    · refine g_aload_n 45 0 hX dX12_load_44 rfl rfl ?_
      refine g_callV_v 48 hX (k_X12_starts l g N M a0) lk_X12_starts rfl (ci := 12) rfl (Nat.le_of_ble_eq_true rfl) q_1822 q_47 (by omega) rfl (Nat.le_of_ble_eq_true rfl) (Nat.zero_le _) (Nat.zero_le _) dX12_load_45 rfl (fun M4 => ?_)
      refine g_aload_n 49 0 hX dX12_load_48 rfl rfl ?_
      refine g_callV_v 52 hX (k_X12_setup l g N M4 a0) lk_X12_setup rfl (ci := 12) rfl (Nat.le_of_ble_eq_true rfl) q_1847 q_50 (by omega) rfl (Nat.le_of_ble_eq_true rfl) (Nat.zero_le _) (Nat.zero_le _) dX12_load_49 rfl (fun M5 => ?_)
      refine g_aload_n 53 0 hX dX12_load_52 rfl rfl ?_
      refine g_callV_v 56 hX (k_X12_tellsError l g N M5 a0) lk_X12_tellsError rfl (ci := 12) rfl (Nat.le_of_ble_eq_true rfl) q_1929 q_68 (by omega) rfl (Nat.le_of_ble_eq_true rfl) (Nat.zero_le _) (Nat.zero_le _) dX12_load_53 rfl (fun M6 => ?_)
      refine g_aload_n 57 0 hX dX12_load_56 rfl rfl ?_
      refine r_X12_209 60 hX dX12_load_57 rfl ?_
      refine g_if_eq 81 63 hX dX12_load_60 (by decide) rfl (fun _ => ?_) (fun _ => ?_)
      · refine g_aload_n 82 0 hX dX12_load_81 rfl rfl ?_
        refine r_X12_7 85 hX dX12_load_82 rfl ?_
        refine g_bipush 87 hX 9 dX12_load_85 rfl kc_b_9 ?_
        refine g_aload_n 88 0 hX dX12_load_87 rfl rfl ?_
        refine g_callV_ip 91 hX (k_X12_allCoins l g N M6 a0) lk_X12_allCoins rfl (ci := 12) rfl (Nat.le_of_ble_eq_true rfl) q_1685 q_41 (by omega) rfl (Nat.le_of_ble_eq_true rfl) (Nat.zero_le _) (Nat.zero_le _) dX12_load_88 rfl (fun r7 => ?_)
        refine g_iast 92 hX dX12_load_91 rfl ?_
        refine g_klM (fun M8 hM8 => ?_)
        refine g_aload_n 93 0 hX dX12_load_92 rfl rfl ?_
        refine g_iconst 94 hX 0 dX12_load_93 rfl kc_i_0 ?_
        refine p_X12_295 97 hX dX12_load_94 rfl ?_
        refine g_klM (fun M9 hM9 => ?_)
        refine g_aload_n 98 0 hX dX12_load_97 rfl rfl ?_
        refine r_X12_22 101 hX dX12_load_98 rfl ?_
        refine g_iconst 102 hX 0 dX12_load_101 rfl kc_i_0 ?_
        refine g_iconst 103 hX 0 dX12_load_102 rfl kc_i_0 ?_
        refine g_zast 104 hX dX12_load_103 rfl ?_
        refine g_klM (fun M10 hM10 => ?_)
        refine g_aload_n 105 0 hX dX12_load_104 rfl rfl ?_
        refine r_X12_22 108 hX dX12_load_105 rfl ?_
        refine g_iconst 109 hX 1 dX12_load_108 rfl kc_i_1 ?_
        refine g_iconst 110 hX 0 dX12_load_109 rfl kc_i_0 ?_
        refine g_zast 111 hX dX12_load_110 rfl ?_
        refine g_klM (fun M11 hM11 => ?_)
        refine g_iconst 112 hX 0 dX12_load_111 rfl kc_i_0 ?_
        exact g_iret hX hr rfl (Nat.le_refl 0) (Nat.le_refl 0) dX12_load_112
      · refine g_aload_n 64 0 hX dX12_load_63 rfl rfl ?_
        refine r_X12_13 67 hX dX12_load_64 rfl ?_
        refine g_iconst 68 hX 0 dX12_load_67 rfl kc_i_0 ?_
        refine g_aload_n 69 0 hX dX12_load_68 rfl rfl ?_
        refine r_X12_7 72 hX dX12_load_69 rfl ?_
        refine g_iconst 73 hX 0 dX12_load_72 rfl kc_i_0 ?_
        refine g_callS_v 76 hX (k_X12_copies l g N M6 (kR M6 a0 1) 0 (kR M6 a0 0) 0) lk_X12_copies q_1819 (by omega) rfl (Nat.le_of_ble_eq_true rfl) (Nat.zero_le _) (Nat.zero_le _) dX12_load_73 rfl (fun M12 => ?_)
        refine g_aload_n 77 0 hX dX12_load_76 rfl rfl ?_
        refine r_X12_209 80 hX dX12_load_77 rfl ?_
        exact g_iret hX hr rfl (Nat.le_refl 0) (Nat.le_refl 0) dX12_load_80
    · refine g_aload_n 32 0 hX dX12_load_31 rfl rfl ?_
      refine r_X12_7 35 hX dX12_load_32 rfl ?_
      refine g_iload_n 36 1 hX dX12_load_35 rfl rfl ?_
      refine g_iconst 37 hX 0 dX12_load_36 rfl kc_i_0 ?_
      refine g_iast 38 hX dX12_load_37 rfl ?_
      refine g_klM (fun M13 hM13 => ?_)
      refine g_kl (fun v14 hv14 => ?_)
      refine g_iinc 41 1 1 v14 [(1, .int v14), (0, .ref a0)] hX dX12_load_38 rfl rfl (by rw [hv14, kc_i_1]) (Nat.le_of_ble_eq_true rfl) rfl ?_
      refine g_goto 24 hX dX12_load_41 (by decide) ?_
      refine g_lv [1, 0] rfl ?_
      exact ih M13 a0 v14
set_option maxRecDepth 100000 in
set_option maxHeartbeats 4000000 in
theorem k_X12_load (l : Launch) (g : kG) (N : Nat) (M : kMem) (a0 : Nat) : kMet l g yX12_load cX12_load 2 (some .int) 8 0 0 [.ref a0] M (fun r : Int32 × kMem => (some (.int r.1), r.2)) (F_X12_load N M a0) := by
  refine k_of (lv := [(0, .ref a0)]) RX12 (by decide) rfl rfl (Nat.le_of_ble_eq_true rfl) ?_
  intro p e s m args below meth c hX hr _
  unfold F_X12_load
  refine g_aload_n 1 0 hX dX12_load_0 rfl rfl ?_
  refine g_iconst 2 hX 0 dX12_load_1 rfl kc_i_0 ?_
  refine p_X12_63 5 hX dX12_load_2 rfl ?_
  refine g_klM (fun M1 hM1 => ?_)
  refine g_aload_n 6 0 hX dX12_load_5 rfl rfl ?_
  refine g_callV_v 9 hX (k_X12_takesText l g N M1 a0) lk_X12_takesText rfl (ci := 12) rfl (Nat.le_of_ble_eq_true rfl) q_1815 q_46 (by omega) rfl (Nat.le_of_ble_eq_true rfl) (Nat.zero_le _) (Nat.zero_le _) dX12_load_6 rfl (fun M2 => ?_)
  refine g_aload_n 10 0 hX dX12_load_9 rfl rfl ?_
  refine r_X12_7 13 hX dX12_load_10 rfl ?_
  refine g_iconst 14 hX 0 dX12_load_13 rfl kc_i_0 ?_
  refine g_aload_n 15 0 hX dX12_load_14 rfl rfl ?_
  refine r_X12_13 18 hX dX12_load_15 rfl ?_
  refine g_iconst 19 hX 0 dX12_load_18 rfl kc_i_0 ?_
  refine g_callS_v 22 hX (k_X12_copies l g N M2 (kR M2 a0 0) 0 (kR M2 a0 1) 0) lk_X12_copies q_1819 (by omega) rfl (Nat.le_of_ble_eq_true rfl) (Nat.zero_le _) (Nat.zero_le _) dX12_load_19 rfl (fun M3 => ?_)
  refine g_iconst 23 hX 0 dX12_load_22 rfl kc_i_0 ?_
  refine g_istore_n 24 1 [(1, .int 0), (0, .ref a0)] hX dX12_load_23 rfl rfl (Nat.le_of_ble_eq_true rfl) rfl ?_
  refine g_lv [1, 0] rfl ?_
  exact k_X12_load_24 hX hr N N M3 a0 0
def F_X12_isOrder (N : Nat) (M : kMem) (a0 : Nat) : Option (Int32) :=
    kg (kt M a0 12) <| (F_X12_isWord N M a0 343342).bind fun r1 =>
    if r1 = 0 then (
      kg (kt M a0 12) <| (F_X12_isWord N M a0 2745).bind fun r2 =>
      if r2 = 0 then (
        kg (kt M a0 12) <| (F_X12_isWord N M a0 12748485).bind fun r3 =>
        if r3 = 0 then (
          kg (kt M a0 12) <| (F_X12_isWord N M a0 628108).bind fun r4 =>
          if r4 = 0 then (
            kg (kt M a0 12) <| (F_X12_isWord N M a0 646192).bind fun r5 =>
            if r5 = 0 then (
              kg (kt M a0 12) <| (F_X12_isWord N M a0 754917).bind fun r6 =>
              if r6 = 0 then (
                kg (kt M a0 12) <| (F_X12_isWord N M a0 132915).bind fun r7 =>
                if r7 = 0 then (
                  kg (kt M a0 12) <| (F_X12_isWord N M a0 609752116).bind fun r8 =>
                  if r8 = 0 then (
                    some 0) else
                  some 1) else
                some 1) else
              some 1) else
            some 1) else
          some 1) else
        some 1) else
      some 1) else
    some 1
set_option maxRecDepth 100000 in
set_option maxHeartbeats 4000000 in
theorem k_X12_isOrder (l : Launch) (g : kG) (N : Nat) (M : kMem) (a0 : Nat) : kMet l g yX12_isOrder cX12_isOrder 1 (some .boolean) 2 0 0 [.ref a0] M (fun r : Int32 => (some (.int r), M)) (F_X12_isOrder N M a0) := by
  refine k_of (lv := [(0, .ref a0)]) RX12 (by decide) rfl rfl (Nat.le_of_ble_eq_true rfl) ?_
  intro p e s m args below meth c hX hr _
  unfold F_X12_isOrder
  refine g_aload_n 1 0 hX dX12_isOrder_0 rfl rfl ?_
  refine g_ldc2 4 hX 343342 dX12_isOrder_1 rfl q_1953 ?_
  refine g_callV_ip 7 hX (k_X12_isWord l g N M a0 343342) lk_X12_isWord rfl (ci := 12) rfl (Nat.le_of_ble_eq_true rfl) q_1852 q_51 (by omega) rfl (Nat.le_of_ble_eq_true rfl) (Nat.zero_le _) (Nat.zero_le _) dX12_isOrder_4 rfl (fun r1 => ?_)
  refine g_if_ne 80 10 hX dX12_isOrder_7 (by decide) rfl (fun _ => ?_) (fun _ => ?_)
  · refine g_iconst 81 hX 1 dX12_isOrder_80 rfl kc_i_1 ?_
    refine g_goto 85 hX dX12_isOrder_81 (by decide) ?_
    exact g_zretL hX hr rfl rfl (Nat.le_refl 0) (Nat.le_refl 0) dX12_isOrder_85
  · refine g_aload_n 11 0 hX dX12_isOrder_10 rfl rfl ?_
    refine g_ldc2 14 hX 2745 dX12_isOrder_11 rfl q_1954 ?_
    refine g_callV_ip 17 hX (k_X12_isWord l g N M a0 2745) lk_X12_isWord rfl (ci := 12) rfl (Nat.le_of_ble_eq_true rfl) q_1852 q_51 (by omega) rfl (Nat.le_of_ble_eq_true rfl) (Nat.zero_le _) (Nat.zero_le _) dX12_isOrder_14 rfl (fun r2 => ?_)
    refine g_if_ne 80 20 hX dX12_isOrder_17 (by decide) rfl (fun _ => ?_) (fun _ => ?_)
    · refine g_iconst 81 hX 1 dX12_isOrder_80 rfl kc_i_1 ?_
      refine g_goto 85 hX dX12_isOrder_81 (by decide) ?_
      exact g_zretL hX hr rfl rfl (Nat.le_refl 0) (Nat.le_refl 0) dX12_isOrder_85
    · refine g_aload_n 21 0 hX dX12_isOrder_20 rfl rfl ?_
      refine g_ldc2 24 hX 12748485 dX12_isOrder_21 rfl q_1955 ?_
      refine g_callV_ip 27 hX (k_X12_isWord l g N M a0 12748485) lk_X12_isWord rfl (ci := 12) rfl (Nat.le_of_ble_eq_true rfl) q_1852 q_51 (by omega) rfl (Nat.le_of_ble_eq_true rfl) (Nat.zero_le _) (Nat.zero_le _) dX12_isOrder_24 rfl (fun r3 => ?_)
      refine g_if_ne 80 30 hX dX12_isOrder_27 (by decide) rfl (fun _ => ?_) (fun _ => ?_)
      · refine g_iconst 81 hX 1 dX12_isOrder_80 rfl kc_i_1 ?_
        refine g_goto 85 hX dX12_isOrder_81 (by decide) ?_
        exact g_zretL hX hr rfl rfl (Nat.le_refl 0) (Nat.le_refl 0) dX12_isOrder_85
      · refine g_aload_n 31 0 hX dX12_isOrder_30 rfl rfl ?_
        refine g_ldc2 34 hX 628108 dX12_isOrder_31 rfl q_1956 ?_
        refine g_callV_ip 37 hX (k_X12_isWord l g N M a0 628108) lk_X12_isWord rfl (ci := 12) rfl (Nat.le_of_ble_eq_true rfl) q_1852 q_51 (by omega) rfl (Nat.le_of_ble_eq_true rfl) (Nat.zero_le _) (Nat.zero_le _) dX12_isOrder_34 rfl (fun r4 => ?_)
        refine g_if_ne 80 40 hX dX12_isOrder_37 (by decide) rfl (fun _ => ?_) (fun _ => ?_)
        · refine g_iconst 81 hX 1 dX12_isOrder_80 rfl kc_i_1 ?_
          refine g_goto 85 hX dX12_isOrder_81 (by decide) ?_
          exact g_zretL hX hr rfl rfl (Nat.le_refl 0) (Nat.le_refl 0) dX12_isOrder_85
        · refine g_aload_n 41 0 hX dX12_isOrder_40 rfl rfl ?_
          refine g_ldc2 44 hX 646192 dX12_isOrder_41 rfl q_1957 ?_
          refine g_callV_ip 47 hX (k_X12_isWord l g N M a0 646192) lk_X12_isWord rfl (ci := 12) rfl (Nat.le_of_ble_eq_true rfl) q_1852 q_51 (by omega) rfl (Nat.le_of_ble_eq_true rfl) (Nat.zero_le _) (Nat.zero_le _) dX12_isOrder_44 rfl (fun r5 => ?_)
          refine g_if_ne 80 50 hX dX12_isOrder_47 (by decide) rfl (fun _ => ?_) (fun _ => ?_)
          · refine g_iconst 81 hX 1 dX12_isOrder_80 rfl kc_i_1 ?_
            refine g_goto 85 hX dX12_isOrder_81 (by decide) ?_
            exact g_zretL hX hr rfl rfl (Nat.le_refl 0) (Nat.le_refl 0) dX12_isOrder_85
          · refine g_aload_n 51 0 hX dX12_isOrder_50 rfl rfl ?_
            refine g_ldc2 54 hX 754917 dX12_isOrder_51 rfl q_1958 ?_
            refine g_callV_ip 57 hX (k_X12_isWord l g N M a0 754917) lk_X12_isWord rfl (ci := 12) rfl (Nat.le_of_ble_eq_true rfl) q_1852 q_51 (by omega) rfl (Nat.le_of_ble_eq_true rfl) (Nat.zero_le _) (Nat.zero_le _) dX12_isOrder_54 rfl (fun r6 => ?_)
            refine g_if_ne 80 60 hX dX12_isOrder_57 (by decide) rfl (fun _ => ?_) (fun _ => ?_)
            · refine g_iconst 81 hX 1 dX12_isOrder_80 rfl kc_i_1 ?_
              refine g_goto 85 hX dX12_isOrder_81 (by decide) ?_
              exact g_zretL hX hr rfl rfl (Nat.le_refl 0) (Nat.le_refl 0) dX12_isOrder_85
            · refine g_aload_n 61 0 hX dX12_isOrder_60 rfl rfl ?_
              refine g_ldc2 64 hX 132915 dX12_isOrder_61 rfl q_1959 ?_
              refine g_callV_ip 67 hX (k_X12_isWord l g N M a0 132915) lk_X12_isWord rfl (ci := 12) rfl (Nat.le_of_ble_eq_true rfl) q_1852 q_51 (by omega) rfl (Nat.le_of_ble_eq_true rfl) (Nat.zero_le _) (Nat.zero_le _) dX12_isOrder_64 rfl (fun r7 => ?_)
              refine g_if_ne 80 70 hX dX12_isOrder_67 (by decide) rfl (fun _ => ?_) (fun _ => ?_)
              · refine g_iconst 81 hX 1 dX12_isOrder_80 rfl kc_i_1 ?_
                refine g_goto 85 hX dX12_isOrder_81 (by decide) ?_
                exact g_zretL hX hr rfl rfl (Nat.le_refl 0) (Nat.le_refl 0) dX12_isOrder_85
              · refine g_aload_n 71 0 hX dX12_isOrder_70 rfl rfl ?_
                refine g_ldc2 74 hX 609752116 dX12_isOrder_71 rfl q_1960 ?_
                refine g_callV_ip 77 hX (k_X12_isWord l g N M a0 609752116) lk_X12_isWord rfl (ci := 12) rfl (Nat.le_of_ble_eq_true rfl) q_1852 q_51 (by omega) rfl (Nat.le_of_ble_eq_true rfl) (Nat.zero_le _) (Nat.zero_le _) dX12_isOrder_74 rfl (fun r8 => ?_)
                refine g_if_eq 84 80 hX dX12_isOrder_77 (by decide) rfl (fun _ => ?_) (fun _ => ?_)
                · refine g_iconst 85 hX 0 dX12_isOrder_84 rfl kc_i_0 ?_
                  exact g_zretL hX hr rfl rfl (Nat.le_refl 0) (Nat.le_refl 0) dX12_isOrder_85
                · refine g_iconst 81 hX 1 dX12_isOrder_80 rfl kc_i_1 ?_
                  refine g_goto 85 hX dX12_isOrder_81 (by decide) ?_
                  exact g_zretL hX hr rfl rfl (Nat.le_refl 0) (Nat.le_refl 0) dX12_isOrder_85
def F_X12_isActive (N : Nat) (M : kMem) (a0 : Nat) : Option (Int32) :=
    kg (kt M a0 12) <|
    if (kI M a0 21) = 0 then (
      some 0) else
    kg (kt M a0 12) <|
    if (kI M a0 16) = 0 then (
      kg (kt M a0 12) <|
      if (kI M a0 22) = 0 then (
        some 1) else
      some 0) else
    some 0
set_option maxRecDepth 100000 in
set_option maxHeartbeats 4000000 in
theorem k_X12_isActive (l : Launch) (g : kG) (N : Nat) (M : kMem) (a0 : Nat) : kMet l g yX12_isActive cX12_isActive 1 (some .boolean) 1 0 0 [.ref a0] M (fun r : Int32 => (some (.int r), M)) (F_X12_isActive N M a0) := by
  refine k_of (lv := [(0, .ref a0)]) RX12 (by decide) rfl rfl (Nat.le_of_ble_eq_true rfl) ?_
  intro p e s m args below meth c hX hr _
  unfold F_X12_isActive
  refine g_aload_n 1 0 hX dX12_isActive_0 rfl rfl ?_
  refine r_X12_314 4 hX dX12_isActive_1 rfl ?_
  refine g_if_eq 25 7 hX dX12_isActive_4 (by decide) rfl (fun _ => ?_) (fun _ => ?_)
  · refine g_iconst 26 hX 0 dX12_isActive_25 rfl kc_i_0 ?_
    exact g_zretL hX hr rfl rfl (Nat.le_refl 0) (Nat.le_refl 0) dX12_isActive_26
  · refine g_aload_n 8 0 hX dX12_isActive_7 rfl rfl ?_
    refine r_X12_209 11 hX dX12_isActive_8 rfl ?_
    refine g_if_ne 25 14 hX dX12_isActive_11 (by decide) rfl (fun _ => ?_) (fun _ => ?_)
    · refine g_iconst 26 hX 0 dX12_isActive_25 rfl kc_i_0 ?_
      exact g_zretL hX hr rfl rfl (Nat.le_refl 0) (Nat.le_refl 0) dX12_isActive_26
    · refine g_aload_n 15 0 hX dX12_isActive_14 rfl rfl ?_
      refine r_X12_318 18 hX dX12_isActive_15 rfl ?_
      refine g_if_ne 25 21 hX dX12_isActive_18 (by decide) rfl (fun _ => ?_) (fun _ => ?_)
      · refine g_iconst 26 hX 0 dX12_isActive_25 rfl kc_i_0 ?_
        exact g_zretL hX hr rfl rfl (Nat.le_refl 0) (Nat.le_refl 0) dX12_isActive_26
      · refine g_iconst 22 hX 1 dX12_isActive_21 rfl kc_i_1 ?_
        refine g_goto 26 hX dX12_isActive_22 (by decide) ?_
        exact g_zretL hX hr rfl rfl (Nat.le_refl 0) (Nat.le_refl 0) dX12_isActive_26
def F_X12_came (N : Nat) (M : kMem) (a0 : Nat) (x1 : Int32) : Option (kMem) :=
    kg (kt M a0 12) <|
    (F_X12_flag N M x1).bind fun r1 =>
    kg (kt M a0 12) <| kl (ksI M a0 25 ((kI M a0 25) + r1)) fun M2 =>
    if x1 = 0 then (
      kg (kt M2 a0 12 && ((1 : Int32) == 0 || (1 : Int32) == 1)) <| kl (ksI M2 a0 22 1) fun M3 =>
      some M3) else
    kg (kt M2 a0 12) <|
    if (kI M2 a0 25) = 40 then (
      kg (kt M2 a0 12 && ((1 : Int32) == 0 || (1 : Int32) == 1)) <| kl (ksI M2 a0 22 1) fun M5 =>
      some M5) else
    kg (kt M2 a0 12 && ((0 : Int32) == 0 || (0 : Int32) == 1)) <| kl (ksI M2 a0 22 0) fun M4 =>
    some M4
set_option maxRecDepth 100000 in
set_option maxHeartbeats 4000000 in
theorem k_X12_came (l : Launch) (g : kG) (N : Nat) (M : kMem) (a0 : Nat) (x1 : Int32) : kMet l g yX12_came cX12_came 2 none 2 0 0 [.ref a0, .int x1] M (fun r : kMem => (none, r)) (F_X12_came N M a0 x1) := by
  refine k_of (lv := [(0, .ref a0), (1, .int x1)]) RX12 (by decide) rfl rfl (Nat.le_of_ble_eq_true rfl) ?_
  intro p e s m args below meth c hX hr _
  unfold F_X12_came
  refine g_aload_n 1 0 hX dX12_came_0 rfl rfl ?_
  refine g_dup 2 hX dX12_came_1 rfl rfl ?_
  refine r_X12_321 5 hX dX12_came_2 rfl ?_
  refine g_iload_n 6 1 hX dX12_came_5 rfl rfl ?_
  refine g_callS_ip 9 hX (k_X12_flag l g N M x1) lk_X12_flag q_1989 (by omega) rfl (Nat.le_of_ble_eq_true rfl) (Nat.zero_le _) (Nat.zero_le _) dX12_came_6 rfl (fun r1 => ?_)
  refine g_iadd 10 hX dX12_came_9 rfl ?_
  refine p_X12_321 13 hX dX12_came_10 rfl ?_
  refine g_klM (fun M2 hM2 => ?_)
  refine g_aload_n 14 0 hX dX12_came_13 rfl rfl ?_
  refine g_iload_n 15 1 hX dX12_came_14 rfl rfl ?_
  refine g_if_eq 27 18 hX dX12_came_15 (by decide) rfl (fun _ => ?_) (fun _ => ?_)
  · refine g_iconst 28 hX 1 dX12_came_27 rfl kc_i_1 ?_
    refine g_goto 32 hX dX12_came_28 (by decide) ?_
    refine p_X12_318 35 hX dX12_came_32 rfl ?_
    refine g_klM (fun M3 hM3 => ?_)
    exact g_vret hX hr rfl (Nat.le_refl 0) (Nat.le_refl 0) dX12_came_35
  · refine g_aload_n 19 0 hX dX12_came_18 rfl rfl ?_
    refine r_X12_321 22 hX dX12_came_19 rfl ?_
    refine g_bipush 24 hX 40 dX12_came_22 rfl kc_b_40 ?_
    refine g_icmp_ne 31 27 hX dX12_came_24 (by decide) rfl (fun _ => ?_) (fun _ => ?_)
    · refine g_iconst 32 hX 0 dX12_came_31 rfl kc_i_0 ?_
      refine p_X12_318 35 hX dX12_came_32 rfl ?_
      refine g_klM (fun M4 hM4 => ?_)
      exact g_vret hX hr rfl (Nat.le_refl 0) (Nat.le_refl 0) dX12_came_35
    · refine g_iconst 28 hX 1 dX12_came_27 rfl kc_i_1 ?_
      refine g_goto 32 hX dX12_came_28 (by decide) ?_
      refine p_X12_318 35 hX dX12_came_32 rfl ?_
      refine g_klM (fun M5 hM5 => ?_)
      exact g_vret hX hr rfl (Nat.le_refl 0) (Nat.le_refl 0) dX12_came_35
def F_X12_nameText (N : Nat) (M : kMem) (a0 : Nat) : Option (Int32 × kMem) :=
    kg (kt M a0 12) <| (F_X12_isNameHere N M a0).bind fun r1 =>
    kg (kt M a0 12) <| (F_X12_must N M a0 r1 1).bind fun M2 =>
    kg (kt M2 a0 12) <| (F_X12_isGood N M2 a0).bind fun r3 =>
    if r3 = 0 then (
      kg (kt M2 a0 12) <| (F_X12_goesOn N M2 a0).bind fun M4 =>
      some (0, M4)) else
    kg (kt M2 a0 12) <|
    kl ((kL M2 a0 20).toInt32) fun v5 =>
    kg (kt M2 a0 12) <| (F_X12_goesOn N M2 a0).bind fun M6 =>
    some (v5, M6)
set_option maxRecDepth 100000 in
set_option maxHeartbeats 4000000 in
theorem k_X12_nameText (l : Launch) (g : kG) (N : Nat) (M : kMem) (a0 : Nat) : kMet l g yX12_nameText cX12_nameText 2 (some .int) 5 0 0 [.ref a0] M (fun r : Int32 × kMem => (some (.int r.1), r.2)) (F_X12_nameText N M a0) := by
  refine k_of (lv := [(0, .ref a0)]) RX12 (by decide) rfl rfl (Nat.le_of_ble_eq_true rfl) ?_
  intro p e s m args below meth c hX hr _
  unfold F_X12_nameText
  refine g_aload_n 1 0 hX dX12_nameText_0 rfl rfl ?_
  refine g_aload_n 2 0 hX dX12_nameText_1 rfl rfl ?_
  refine g_callV_ip 5 hX (k_X12_isNameHere l g N M a0) lk_X12_isNameHere rfl (ci := 12) rfl (Nat.le_of_ble_eq_true rfl) q_1891 q_60 (by omega) rfl (Nat.le_of_ble_eq_true rfl) (Nat.zero_le _) (Nat.zero_le _) dX12_nameText_2 rfl (fun r1 => ?_)
  refine g_iconst 6 hX 1 dX12_nameText_5 rfl kc_i_1 ?_
  refine g_callV_v 9 hX (k_X12_must l g N M a0 r1 1) lk_X12_must rfl (ci := 12) rfl (Nat.le_of_ble_eq_true rfl) q_1856 q_52 (by omega) rfl (Nat.le_of_ble_eq_true rfl) (Nat.zero_le _) (Nat.zero_le _) dX12_nameText_6 rfl (fun M2 => ?_)
  refine g_aload_n 10 0 hX dX12_nameText_9 rfl rfl ?_
  refine g_callV_ip 13 hX (k_X12_isGood l g N M2 a0) lk_X12_isGood rfl (ci := 12) rfl (Nat.le_of_ble_eq_true rfl) q_1882 q_58 (by omega) rfl (Nat.le_of_ble_eq_true rfl) (Nat.zero_le _) (Nat.zero_le _) dX12_nameText_10 rfl (fun r3 => ?_)
  refine g_if_eq 24 16 hX dX12_nameText_13 (by decide) rfl (fun _ => ?_) (fun _ => ?_)
  · refine g_iconst 25 hX 0 dX12_nameText_24 rfl kc_i_0 ?_
    refine g_istore_n 26 1 [(1, .int 0), (0, .ref a0)] hX dX12_nameText_25 rfl rfl (Nat.le_of_ble_eq_true rfl) rfl ?_
    refine g_aload_n 27 1 hX dX12_nameText_26 rfl rfl ?_
    refine g_callV_v 30 hX (k_X12_goesOn l g N M2 a0) lk_X12_goesOn rfl (ci := 12) rfl (Nat.le_of_ble_eq_true rfl) q_1860 q_53 (by omega) rfl (Nat.le_of_ble_eq_true rfl) (Nat.zero_le _) (Nat.zero_le _) dX12_nameText_27 rfl (fun M4 => ?_)
    refine g_iload_n 31 0 hX dX12_nameText_30 rfl rfl ?_
    exact g_iret hX hr rfl (Nat.le_refl 0) (Nat.le_refl 0) dX12_nameText_31
  · refine g_aload_n 17 0 hX dX12_nameText_16 rfl rfl ?_
    refine r_X12_194 20 hX dX12_nameText_17 rfl ?_
    refine g_l2i 21 hX dX12_nameText_20 rfl ?_
    refine g_goto 25 hX dX12_nameText_21 (by decide) ?_
    refine g_klI (fun v5 hv5 => ?_)
    refine g_istore_n 26 1 [(1, .int v5), (0, .ref a0)] hX dX12_nameText_25 rfl rfl (Nat.le_of_ble_eq_true rfl) rfl ?_
    refine g_aload_n 27 1 hX dX12_nameText_26 rfl rfl ?_
    refine g_callV_v 30 hX (k_X12_goesOn l g N M2 a0) lk_X12_goesOn rfl (ci := 12) rfl (Nat.le_of_ble_eq_true rfl) q_1860 q_53 (by omega) rfl (Nat.le_of_ble_eq_true rfl) (Nat.zero_le _) (Nat.zero_le _) dX12_nameText_27 rfl (fun M6 => ?_)
    refine g_iload_n 31 0 hX dX12_nameText_30 rfl rfl ?_
    exact g_iret hX hr rfl (Nat.le_refl 0) (Nat.le_refl 0) dX12_nameText_31
def F_X12_otherName (N : Nat) (M : kMem) (a0 : Nat) (x1 : Int32) : Option (Int32 × kMem) :=
    kg (kt M a0 12) <| (F_X12_isNameHere N M a0).bind fun r1 =>
    kg (kt M a0 12) <| (F_X12_must N M a0 r1 1).bind fun M2 =>
    kg (kt M2 a0 12) <| (F_X12_isGood N M2 a0).bind fun r3 =>
    if r3 = 0 then (
      kg (kt M2 a0 12) <| (F_X12_must N M2 a0 1 3).bind fun M4 =>
      kg (kt M4 a0 12) <| (F_X12_nameText N M4 a0).bind fun r5 =>
      some (r5.1, r5.2)) else
    kg (kt M2 a0 12) <|
    if ((kL M2 a0 20).toInt32) = x1 then (
      kg (kt M2 a0 12) <| (F_X12_must N M2 a0 0 3).bind fun M6 =>
      kg (kt M6 a0 12) <| (F_X12_nameText N M6 a0).bind fun r7 =>
      some (r7.1, r7.2)) else
    kg (kt M2 a0 12) <| (F_X12_must N M2 a0 1 3).bind fun M8 =>
    kg (kt M8 a0 12) <| (F_X12_nameText N M8 a0).bind fun r9 =>
    some (r9.1, r9.2)
set_option maxRecDepth 100000 in
set_option maxHeartbeats 4000000 in
theorem k_X12_otherName (l : Launch) (g : kG) (N : Nat) (M : kMem) (a0 : Nat) (x1 : Int32) : kMet l g yX12_otherName cX12_otherName 2 (some .int) 6 0 0 [.ref a0, .int x1] M (fun r : Int32 × kMem => (some (.int r.1), r.2)) (F_X12_otherName N M a0 x1) := by
  refine k_of (lv := [(0, .ref a0), (1, .int x1)]) RX12 (by decide) rfl rfl (Nat.le_of_ble_eq_true rfl) ?_
  intro p e s m args below meth c hX hr _
  unfold F_X12_otherName
  refine g_aload_n 1 0 hX dX12_otherName_0 rfl rfl ?_
  refine g_aload_n 2 0 hX dX12_otherName_1 rfl rfl ?_
  refine g_callV_ip 5 hX (k_X12_isNameHere l g N M a0) lk_X12_isNameHere rfl (ci := 12) rfl (Nat.le_of_ble_eq_true rfl) q_1891 q_60 (by omega) rfl (Nat.le_of_ble_eq_true rfl) (Nat.zero_le _) (Nat.zero_le _) dX12_otherName_2 rfl (fun r1 => ?_)
  refine g_iconst 6 hX 1 dX12_otherName_5 rfl kc_i_1 ?_
  refine g_callV_v 9 hX (k_X12_must l g N M a0 r1 1) lk_X12_must rfl (ci := 12) rfl (Nat.le_of_ble_eq_true rfl) q_1856 q_52 (by omega) rfl (Nat.le_of_ble_eq_true rfl) (Nat.zero_le _) (Nat.zero_le _) dX12_otherName_6 rfl (fun M2 => ?_)
  refine g_aload_n 10 0 hX dX12_otherName_9 rfl rfl ?_
  refine g_aload_n 11 0 hX dX12_otherName_10 rfl rfl ?_
  refine g_callV_ip 14 hX (k_X12_isGood l g N M2 a0) lk_X12_isGood rfl (ci := 12) rfl (Nat.le_of_ble_eq_true rfl) q_1882 q_58 (by omega) rfl (Nat.le_of_ble_eq_true rfl) (Nat.zero_le _) (Nat.zero_le _) dX12_otherName_11 rfl (fun r3 => ?_)
  refine g_if_eq 26 17 hX dX12_otherName_14 (by decide) rfl (fun _ => ?_) (fun _ => ?_)
  · refine g_iconst 27 hX 1 dX12_otherName_26 rfl kc_i_1 ?_
    refine g_goto 31 hX dX12_otherName_27 (by decide) ?_
    refine g_iconst 32 hX 3 dX12_otherName_31 rfl kc_i_3 ?_
    refine g_callV_v 35 hX (k_X12_must l g N M2 a0 1 3) lk_X12_must rfl (ci := 12) rfl (Nat.le_of_ble_eq_true rfl) q_1856 q_52 (by omega) rfl (Nat.le_of_ble_eq_true rfl) (Nat.zero_le _) (Nat.zero_le _) dX12_otherName_32 rfl (fun M4 => ?_)
    refine g_aload_n 36 0 hX dX12_otherName_35 rfl rfl ?_
    refine g_callV_i 39 hX (k_X12_nameText l g N M4 a0) lk_X12_nameText rfl (ci := 12) rfl (Nat.le_of_ble_eq_true rfl) q_1973 q_76 (by omega) rfl (Nat.le_of_ble_eq_true rfl) (Nat.zero_le _) (Nat.zero_le _) dX12_otherName_36 rfl (fun r5 => ?_)
    exact g_iret hX hr rfl (Nat.le_refl 0) (Nat.le_refl 0) dX12_otherName_39
  · refine g_aload_n 18 0 hX dX12_otherName_17 rfl rfl ?_
    refine r_X12_194 21 hX dX12_otherName_18 rfl ?_
    refine g_l2i 22 hX dX12_otherName_21 rfl ?_
    refine g_iload_n 23 1 hX dX12_otherName_22 rfl rfl ?_
    refine g_icmp_eq 30 26 hX dX12_otherName_23 (by decide) rfl (fun _ => ?_) (fun _ => ?_)
    · refine g_iconst 31 hX 0 dX12_otherName_30 rfl kc_i_0 ?_
      refine g_iconst 32 hX 3 dX12_otherName_31 rfl kc_i_3 ?_
      refine g_callV_v 35 hX (k_X12_must l g N M2 a0 0 3) lk_X12_must rfl (ci := 12) rfl (Nat.le_of_ble_eq_true rfl) q_1856 q_52 (by omega) rfl (Nat.le_of_ble_eq_true rfl) (Nat.zero_le _) (Nat.zero_le _) dX12_otherName_32 rfl (fun M6 => ?_)
      refine g_aload_n 36 0 hX dX12_otherName_35 rfl rfl ?_
      refine g_callV_i 39 hX (k_X12_nameText l g N M6 a0) lk_X12_nameText rfl (ci := 12) rfl (Nat.le_of_ble_eq_true rfl) q_1973 q_76 (by omega) rfl (Nat.le_of_ble_eq_true rfl) (Nat.zero_le _) (Nat.zero_le _) dX12_otherName_36 rfl (fun r7 => ?_)
      exact g_iret hX hr rfl (Nat.le_refl 0) (Nat.le_refl 0) dX12_otherName_39
    · refine g_iconst 27 hX 1 dX12_otherName_26 rfl kc_i_1 ?_
      refine g_goto 31 hX dX12_otherName_27 (by decide) ?_
      refine g_iconst 32 hX 3 dX12_otherName_31 rfl kc_i_3 ?_
      refine g_callV_v 35 hX (k_X12_must l g N M2 a0 1 3) lk_X12_must rfl (ci := 12) rfl (Nat.le_of_ble_eq_true rfl) q_1856 q_52 (by omega) rfl (Nat.le_of_ble_eq_true rfl) (Nat.zero_le _) (Nat.zero_le _) dX12_otherName_32 rfl (fun M8 => ?_)
      refine g_aload_n 36 0 hX dX12_otherName_35 rfl rfl ?_
      refine g_callV_i 39 hX (k_X12_nameText l g N M8 a0) lk_X12_nameText rfl (ci := 12) rfl (Nat.le_of_ble_eq_true rfl) q_1973 q_76 (by omega) rfl (Nat.le_of_ble_eq_true rfl) (Nat.zero_le _) (Nat.zero_le _) dX12_otherName_36 rfl (fun r9 => ?_)
      exact g_iret hX hr rfl (Nat.le_refl 0) (Nat.le_refl 0) dX12_otherName_39
def F_X12_joinText_55 (N : Nat) (M : kMem) (a0 : Nat) (x1 : Int32) (x2 : Int32) (x3 : Int32) (y0 : Int32) : Option (kMem) :=
    if y0 = 0 then (
      kg (kt M a0 12) <| (F_X12_came N M a0 y0).bind fun M8 =>
      some M8) else
    kg (kt M a0 12) <| (F_X12_joins N M a0 x1 x2 x3).bind fun r9 =>
    kl r9.1 fun v10 =>
    kg (kt r9.2 a0 12) <| (F_X12_came N r9.2 a0 y0).bind fun M11 =>
    some M11
def F_X12_joinText_54 (N : Nat) (M : kMem) (a0 : Nat) (x1 : Int32) (x2 : Int32) (x3 : Int32) : Option (kMem) :=
    F_X12_joinText_55 N M a0 x1 x2 x3 0
def F_X12_joinText (N : Nat) (M : kMem) (a0 : Nat) : Option (kMem) :=
    kg (kt M a0 12) <| (F_X12_nameText N M a0).bind fun r1 =>
    kl r1.1 fun v2 =>
    kg (kt r1.2 a0 12) <| (F_X12_reads N r1.2 a0 1 99).bind fun r3 =>
    kl r3.1 fun v4 =>
    kg (kt r3.2 a0 12) <| (F_X12_reads N r3.2 a0 0 9999).bind fun r5 =>
    kl r5.1 fun v6 =>
    kg (kt r5.2 a0 12) <| (F_X12_isActive N r5.2 a0).bind fun r7 =>
    if r7 = 0 then (
      some r5.2) else
    kg (kt r5.2 a0 12) <|
    kg (kin r5.2 (kR r5.2 a0 0) 13 8) <|
    if (kI r5.2 (kR r5.2 a0 0) (kx 8)) < 24 then (
      kg (kt r5.2 a0 12) <| (F_X12_traderNamed N r5.2 a0 v2).bind fun r12 =>
      if r12 = (-1) then (
        F_X12_joinText_55 N r5.2 a0 v2 v4 v6 1) else
      F_X12_joinText_54 N r5.2 a0 v2 v4 v6) else
    F_X12_joinText_54 N r5.2 a0 v2 v4 v6
set_option maxRecDepth 100000 in
set_option maxHeartbeats 4000000 in
theorem k_X12_joinText_55 {p : Program} {l : Launch} {e : Env} {s : State} {m : MethodId} {args : Array Value} {below : List Frame} {meth : Method} {c : Code} {g : kG} (hX : Cok (p, l, e, { frames := 2 * 6, cells := 0, slots := 0, locals := 60 * 6 }, s, m, args, below, meth, c, cX12_joinText, 6, RX12, g, 6)) (hr : meth.sig.returnType = none) (N : Nat) : ∀ (M : kMem) (a0 : Nat) (x1 : Int32) (x2 : Int32) (x3 : Int32) (y0 : Int32), GG (p, l, e, { frames := 2 * 6, cells := 0, slots := 0, locals := 60 * 6 }, s, m, args, below, meth, c, cX12_joinText, 6, RX12, g, 6) (fun b => MQ below (kQ g ((fun r : kMem => (none, r)) b)) args s 0 0 (kZ g.2.2.1)) 0 0 (F_X12_joinText_55 N M a0 x1 x2 x3 y0) 55 [(0, .ref a0), (1, .int x1), (2, .int x2), (3, .int x3)] [.int y0] M := by
  intro M a0 x1 x2 x3 y0
  unfold F_X12_joinText_55
  refine g_istore 57 4 [(4, .int y0), (0, .ref a0), (1, .int x1), (2, .int x2), (3, .int x3)] hX dX12_joinText_55 rfl (Nat.le_of_ble_eq_true rfl) rfl ?_
  refine g_iload 59 0 hX dX12_joinText_57 rfl rfl ?_
  refine g_if_eq 72 62 hX dX12_joinText_59 (by decide) rfl (fun _ => ?_) (fun _ => ?_)
  · refine g_iconst 73 hX (-1) dX12_joinText_72 rfl kc_i_m1 ?_
    refine g_istore 75 5 [(5, .int (-1)), (4, .int y0), (0, .ref a0), (1, .int x1), (2, .int x2), (3, .int x3)] hX dX12_joinText_73 rfl (Nat.le_of_ble_eq_true rfl) rfl ?_
    refine g_aload_n 76 2 hX dX12_joinText_75 rfl rfl ?_
    refine g_iload 78 1 hX dX12_joinText_76 rfl rfl ?_
    refine g_callV_v 81 hX (k_X12_came l g N M a0 y0) lk_X12_came rfl (ci := 12) rfl (Nat.le_of_ble_eq_true rfl) q_1985 q_79 (by omega) rfl (Nat.le_of_ble_eq_true rfl) (Nat.zero_le _) (Nat.zero_le _) dX12_joinText_78 rfl (fun M8 => ?_)
    exact g_vret hX hr rfl (Nat.le_refl 0) (Nat.le_refl 0) dX12_joinText_81
  · refine g_aload_n 63 1 hX dX12_joinText_62 rfl rfl ?_
    refine g_iload_n 64 2 hX dX12_joinText_63 rfl rfl ?_
    refine g_iload_n 65 3 hX dX12_joinText_64 rfl rfl ?_
    refine g_iload_n 66 4 hX dX12_joinText_65 rfl rfl ?_
    refine g_callV_i 69 hX (k_X12_joins l g N M a0 x1 x2 x3) lk_X12_joins rfl (ci := 12) rfl (Nat.le_of_ble_eq_true rfl) q_1981 q_78 (by omega) rfl (Nat.le_of_ble_eq_true rfl) (Nat.zero_le _) (Nat.zero_le _) dX12_joinText_66 rfl (fun r9 => ?_)
    refine g_goto 73 hX dX12_joinText_69 (by decide) ?_
    refine g_klI (fun v10 hv10 => ?_)
    refine g_istore 75 5 [(5, .int v10), (4, .int y0), (0, .ref a0), (1, .int x1), (2, .int x2), (3, .int x3)] hX dX12_joinText_73 rfl (Nat.le_of_ble_eq_true rfl) rfl ?_
    refine g_aload_n 76 2 hX dX12_joinText_75 rfl rfl ?_
    refine g_iload 78 1 hX dX12_joinText_76 rfl rfl ?_
    refine g_callV_v 81 hX (k_X12_came l g N r9.2 a0 y0) lk_X12_came rfl (ci := 12) rfl (Nat.le_of_ble_eq_true rfl) q_1985 q_79 (by omega) rfl (Nat.le_of_ble_eq_true rfl) (Nat.zero_le _) (Nat.zero_le _) dX12_joinText_78 rfl (fun M11 => ?_)
    exact g_vret hX hr rfl (Nat.le_refl 0) (Nat.le_refl 0) dX12_joinText_81
set_option maxRecDepth 100000 in
set_option maxHeartbeats 4000000 in
theorem k_X12_joinText_54 {p : Program} {l : Launch} {e : Env} {s : State} {m : MethodId} {args : Array Value} {below : List Frame} {meth : Method} {c : Code} {g : kG} (hX : Cok (p, l, e, { frames := 2 * 6, cells := 0, slots := 0, locals := 60 * 6 }, s, m, args, below, meth, c, cX12_joinText, 6, RX12, g, 6)) (hr : meth.sig.returnType = none) (N : Nat) : ∀ (M : kMem) (a0 : Nat) (x1 : Int32) (x2 : Int32) (x3 : Int32), GG (p, l, e, { frames := 2 * 6, cells := 0, slots := 0, locals := 60 * 6 }, s, m, args, below, meth, c, cX12_joinText, 6, RX12, g, 6) (fun b => MQ below (kQ g ((fun r : kMem => (none, r)) b)) args s 0 0 (kZ g.2.2.1)) 0 0 (F_X12_joinText_54 N M a0 x1 x2 x3) 54 [(0, .ref a0), (1, .int x1), (2, .int x2), (3, .int x3)] [] M := by
  intro M a0 x1 x2 x3
  unfold F_X12_joinText_54
  refine g_iconst 55 hX 0 dX12_joinText_54 rfl kc_i_0 ?_
  exact k_X12_joinText_55 hX hr N M a0 x1 x2 x3 0
set_option maxRecDepth 100000 in
set_option maxHeartbeats 4000000 in
theorem k_X12_joinText (l : Launch) (g : kG) (N : Nat) (M : kMem) (a0 : Nat) : kMet l g yX12_joinText cX12_joinText 6 none 6 0 0 [.ref a0] M (fun r : kMem => (none, r)) (F_X12_joinText N M a0) := by
  refine k_of (lv := [(0, .ref a0)]) RX12 (by decide) rfl rfl (Nat.le_of_ble_eq_true rfl) ?_
  intro p e s m args below meth c hX hr _
  unfold F_X12_joinText
  refine g_aload_n 1 0 hX dX12_joinText_0 rfl rfl ?_
  refine g_callV_i 4 hX (k_X12_nameText l g N M a0) lk_X12_nameText rfl (ci := 12) rfl (Nat.le_of_ble_eq_true rfl) q_1973 q_76 (by omega) rfl (Nat.le_of_ble_eq_true rfl) (Nat.zero_le _) (Nat.zero_le _) dX12_joinText_1 rfl (fun r1 => ?_)
  refine g_klI (fun v2 hv2 => ?_)
  refine g_istore_n 5 1 [(1, .int v2), (0, .ref a0)] hX dX12_joinText_4 rfl rfl (Nat.le_of_ble_eq_true rfl) rfl ?_
  refine g_aload_n 6 1 hX dX12_joinText_5 rfl rfl ?_
  refine g_iconst 7 hX 1 dX12_joinText_6 rfl kc_i_1 ?_
  refine g_bipush 9 hX 99 dX12_joinText_7 rfl kc_b_99 ?_
  refine g_callV_i 12 hX (k_X12_reads l g N r1.2 a0 1 99) lk_X12_reads rfl (ci := 12) rfl (Nat.le_of_ble_eq_true rfl) q_1864 q_54 (by omega) rfl (Nat.le_of_ble_eq_true rfl) (Nat.zero_le _) (Nat.zero_le _) dX12_joinText_9 rfl (fun r3 => ?_)
  refine g_klI (fun v4 hv4 => ?_)
  refine g_istore_n 13 2 [(2, .int v4), (1, .int v2), (0, .ref a0)] hX dX12_joinText_12 rfl rfl (Nat.le_of_ble_eq_true rfl) rfl ?_
  refine g_aload_n 14 2 hX dX12_joinText_13 rfl rfl ?_
  refine g_iconst 15 hX 0 dX12_joinText_14 rfl kc_i_0 ?_
  refine g_sipush 18 hX 9999 dX12_joinText_15 rfl kc_s_9999 ?_
  refine g_callV_i 21 hX (k_X12_reads l g N r3.2 a0 0 9999) lk_X12_reads rfl (ci := 12) rfl (Nat.le_of_ble_eq_true rfl) q_1864 q_54 (by omega) rfl (Nat.le_of_ble_eq_true rfl) (Nat.zero_le _) (Nat.zero_le _) dX12_joinText_18 rfl (fun r5 => ?_)
  refine g_klI (fun v6 hv6 => ?_)
  refine g_istore_n 22 3 [(3, .int v6), (2, .int v4), (1, .int v2), (0, .ref a0)] hX dX12_joinText_21 rfl rfl (Nat.le_of_ble_eq_true rfl) rfl ?_
  refine g_aload_n 23 3 hX dX12_joinText_22 rfl rfl ?_
  refine g_callV_ip 26 hX (k_X12_isActive l g N r5.2 a0) lk_X12_isActive rfl (ci := 12) rfl (Nat.le_of_ble_eq_true rfl) q_1977 q_77 (by omega) rfl (Nat.le_of_ble_eq_true rfl) (Nat.zero_le _) (Nat.zero_le _) dX12_joinText_23 rfl (fun r7 => ?_)
  refine g_if_eq 81 29 hX dX12_joinText_26 (by decide) rfl (fun _ => ?_) (fun _ => ?_)
  · exact g_vret hX hr rfl (Nat.le_refl 0) (Nat.le_refl 0) dX12_joinText_81
  · refine g_aload_n 30 3 hX dX12_joinText_29 rfl rfl ?_
    refine r_X12_7 33 hX dX12_joinText_30 rfl ?_
    refine g_bipush 35 hX 8 dX12_joinText_33 rfl kc_b_8 ?_
    refine g_iald 36 hX dX12_joinText_35 rfl ?_
    refine g_bipush 38 hX 24 dX12_joinText_36 rfl kc_b_24 ?_
    refine g_icmp_ge 54 41 hX dX12_joinText_38 (by decide) rfl (fun _ => ?_) (fun _ => ?_)
    · refine g_lv [3, 2, 1, 0] rfl ?_
      exact k_X12_joinText_54 hX hr N r5.2 a0 v2 v4 v6
    · refine g_aload_n 42 3 hX dX12_joinText_41 rfl rfl ?_
      refine g_iload_n 43 2 hX dX12_joinText_42 rfl rfl ?_
      refine g_callV_ip 46 hX (k_X12_traderNamed l g N r5.2 a0 v2) lk_X12_traderNamed rfl (ci := 12) rfl (Nat.le_of_ble_eq_true rfl) q_1899 q_62 (by omega) rfl (Nat.le_of_ble_eq_true rfl) (Nat.zero_le _) (Nat.zero_le _) dX12_joinText_43 rfl (fun r12 => ?_)
      refine g_iconst 47 hX (-1) dX12_joinText_46 rfl kc_i_m1 ?_
      refine g_icmp_ne 54 50 hX dX12_joinText_47 (by decide) rfl (fun _ => ?_) (fun _ => ?_)
      · refine g_lv [3, 2, 1, 0] rfl ?_
        exact k_X12_joinText_54 hX hr N r5.2 a0 v2 v4 v6
      · refine g_iconst 51 hX 1 dX12_joinText_50 rfl kc_i_1 ?_
        refine g_goto 55 hX dX12_joinText_51 (by decide) ?_
        refine g_lv [3, 2, 1, 0] rfl ?_
        exact k_X12_joinText_55 hX hr N r5.2 a0 v2 v4 v6 1
def F_X12_buyText_76 (N : Nat) (M : kMem) (a0 : Nat) (x1 : Int32) (x2 : Int32) (x3 : Int32) (y0 : Int32) : Option (kMem) :=
    if y0 = 0 then (
      kg (kt M a0 12) <| (F_X12_came N M a0 y0).bind fun M9 =>
      some M9) else
    kg (kt M a0 12) <| (F_X12_buys N M a0 x1 x2 x3).bind fun r10 =>
    kl r10.1 fun v11 =>
    kg (kt r10.2 a0 12) <| (F_X12_came N r10.2 a0 y0).bind fun M12 =>
    some M12
def F_X12_buyText_75 (N : Nat) (M : kMem) (a0 : Nat) (x1 : Int32) (x2 : Int32) (x3 : Int32) : Option (kMem) :=
    F_X12_buyText_76 N M a0 x1 x2 x3 0
def F_X12_buyText (N : Nat) (M : kMem) (a0 : Nat) : Option (kMem) :=
    kg (kt M a0 12) <| (F_X12_nameText N M a0).bind fun r1 =>
    kg (kt r1.2 a0 12) <| (F_X12_traderNamed N r1.2 a0 r1.1).bind fun r2 =>
    kg (kt r1.2 a0 12) <| (F_X12_reads N r1.2 a0 0 4).bind fun r3 =>
    kl r3.1 fun v4 =>
    kg (kt r3.2 a0 12) <| (F_X12_sideText N r3.2 a0).bind fun r5 =>
    kg (kt r5.2 a0 12) <| (F_X12_reads N r5.2 a0 1 6).bind fun r6 =>
    kl (r5.1 * r6.1) fun v7 =>
    kg (kt r6.2 a0 12) <| (F_X12_isActive N r6.2 a0).bind fun r8 =>
    if r8 = 0 then (
      some r6.2) else
    if r2 = (-1) then (
      F_X12_buyText_75 N r6.2 a0 r2 v4 v7) else
    kg (kt r6.2 a0 12) <|
    kg (kin r6.2 (kR r6.2 a0 0) 13 7) <|
    if v4 < (kI r6.2 (kR r6.2 a0 0) (kx 7)) then (
      kg (kt r6.2 a0 12) <| (F_X12_isPosition N r6.2 a0 v4 v7).bind fun r13 =>
      if r13 = 0 then (
        F_X12_buyText_75 N r6.2 a0 r2 v4 v7) else
      kg (kt r6.2 a0 12) <| (F_X12_againstSeat N r6.2 a0 r2 v4 v7).bind fun r14 =>
      if r14 = 0 then (
        F_X12_buyText_76 N r6.2 a0 r2 v4 v7 1) else
      F_X12_buyText_75 N r6.2 a0 r2 v4 v7) else
    F_X12_buyText_75 N r6.2 a0 r2 v4 v7
set_option maxRecDepth 100000 in
set_option maxHeartbeats 4000000 in
theorem k_X12_buyText_76 {p : Program} {l : Launch} {e : Env} {s : State} {m : MethodId} {args : Array Value} {below : List Frame} {meth : Method} {c : Code} {g : kG} (hX : Cok (p, l, e, { frames := 2 * 8, cells := 0, slots := 0, locals := 60 * 8 }, s, m, args, below, meth, c, cX12_buyText, 6, RX12, g, 8)) (hr : meth.sig.returnType = none) (N : Nat) : ∀ (M : kMem) (a0 : Nat) (x1 : Int32) (x2 : Int32) (x3 : Int32) (y0 : Int32), GG (p, l, e, { frames := 2 * 8, cells := 0, slots := 0, locals := 60 * 8 }, s, m, args, below, meth, c, cX12_buyText, 6, RX12, g, 8) (fun b => MQ below (kQ g ((fun r : kMem => (none, r)) b)) args s 0 0 (kZ g.2.2.1)) 0 0 (F_X12_buyText_76 N M a0 x1 x2 x3 y0) 76 [(0, .ref a0), (1, .int x1), (2, .int x2), (3, .int x3)] [.int y0] M := by
  intro M a0 x1 x2 x3 y0
  unfold F_X12_buyText_76
  refine g_istore 78 4 [(4, .int y0), (0, .ref a0), (1, .int x1), (2, .int x2), (3, .int x3)] hX dX12_buyText_76 rfl (Nat.le_of_ble_eq_true rfl) rfl ?_
  refine g_iload 80 0 hX dX12_buyText_78 rfl rfl ?_
  refine g_if_eq 93 83 hX dX12_buyText_80 (by decide) rfl (fun _ => ?_) (fun _ => ?_)
  · refine g_iconst 94 hX 0 dX12_buyText_93 rfl kc_i_0 ?_
    refine g_istore 96 5 [(5, .int 0), (4, .int y0), (0, .ref a0), (1, .int x1), (2, .int x2), (3, .int x3)] hX dX12_buyText_94 rfl (Nat.le_of_ble_eq_true rfl) rfl ?_
    refine g_aload_n 97 2 hX dX12_buyText_96 rfl rfl ?_
    refine g_iload 99 1 hX dX12_buyText_97 rfl rfl ?_
    refine g_callV_v 102 hX (k_X12_came l g N M a0 y0) lk_X12_came rfl (ci := 12) rfl (Nat.le_of_ble_eq_true rfl) q_1985 q_79 (by omega) rfl (Nat.le_of_ble_eq_true rfl) (Nat.zero_le _) (Nat.zero_le _) dX12_buyText_99 rfl (fun M9 => ?_)
    exact g_vret hX hr rfl (Nat.le_refl 0) (Nat.le_refl 0) dX12_buyText_102
  · refine g_aload_n 84 1 hX dX12_buyText_83 rfl rfl ?_
    refine g_iload_n 85 2 hX dX12_buyText_84 rfl rfl ?_
    refine g_iload_n 86 3 hX dX12_buyText_85 rfl rfl ?_
    refine g_iload_n 87 4 hX dX12_buyText_86 rfl rfl ?_
    refine g_callV_i 90 hX (k_X12_buys l g N M a0 x1 x2 x3) lk_X12_buys rfl (ci := 12) rfl (Nat.le_of_ble_eq_true rfl) q_2034 q_89 (by omega) rfl (Nat.le_of_ble_eq_true rfl) (Nat.zero_le _) (Nat.zero_le _) dX12_buyText_87 rfl (fun r10 => ?_)
    refine g_goto 94 hX dX12_buyText_90 (by decide) ?_
    refine g_klI (fun v11 hv11 => ?_)
    refine g_istore 96 5 [(5, .int v11), (4, .int y0), (0, .ref a0), (1, .int x1), (2, .int x2), (3, .int x3)] hX dX12_buyText_94 rfl (Nat.le_of_ble_eq_true rfl) rfl ?_
    refine g_aload_n 97 2 hX dX12_buyText_96 rfl rfl ?_
    refine g_iload 99 1 hX dX12_buyText_97 rfl rfl ?_
    refine g_callV_v 102 hX (k_X12_came l g N r10.2 a0 y0) lk_X12_came rfl (ci := 12) rfl (Nat.le_of_ble_eq_true rfl) q_1985 q_79 (by omega) rfl (Nat.le_of_ble_eq_true rfl) (Nat.zero_le _) (Nat.zero_le _) dX12_buyText_99 rfl (fun M12 => ?_)
    exact g_vret hX hr rfl (Nat.le_refl 0) (Nat.le_refl 0) dX12_buyText_102
set_option maxRecDepth 100000 in
set_option maxHeartbeats 4000000 in
theorem k_X12_buyText_75 {p : Program} {l : Launch} {e : Env} {s : State} {m : MethodId} {args : Array Value} {below : List Frame} {meth : Method} {c : Code} {g : kG} (hX : Cok (p, l, e, { frames := 2 * 8, cells := 0, slots := 0, locals := 60 * 8 }, s, m, args, below, meth, c, cX12_buyText, 6, RX12, g, 8)) (hr : meth.sig.returnType = none) (N : Nat) : ∀ (M : kMem) (a0 : Nat) (x1 : Int32) (x2 : Int32) (x3 : Int32), GG (p, l, e, { frames := 2 * 8, cells := 0, slots := 0, locals := 60 * 8 }, s, m, args, below, meth, c, cX12_buyText, 6, RX12, g, 8) (fun b => MQ below (kQ g ((fun r : kMem => (none, r)) b)) args s 0 0 (kZ g.2.2.1)) 0 0 (F_X12_buyText_75 N M a0 x1 x2 x3) 75 [(0, .ref a0), (1, .int x1), (2, .int x2), (3, .int x3)] [] M := by
  intro M a0 x1 x2 x3
  unfold F_X12_buyText_75
  refine g_iconst 76 hX 0 dX12_buyText_75 rfl kc_i_0 ?_
  exact k_X12_buyText_76 hX hr N M a0 x1 x2 x3 0
set_option maxRecDepth 100000 in
set_option maxHeartbeats 4000000 in
theorem k_X12_buyText (l : Launch) (g : kG) (N : Nat) (M : kMem) (a0 : Nat) : kMet l g yX12_buyText cX12_buyText 6 none 8 0 0 [.ref a0] M (fun r : kMem => (none, r)) (F_X12_buyText N M a0) := by
  refine k_of (lv := [(0, .ref a0)]) RX12 (by decide) rfl rfl (Nat.le_of_ble_eq_true rfl) ?_
  intro p e s m args below meth c hX hr _
  unfold F_X12_buyText
  refine g_aload_n 1 0 hX dX12_buyText_0 rfl rfl ?_
  refine g_aload_n 2 0 hX dX12_buyText_1 rfl rfl ?_
  refine g_callV_i 5 hX (k_X12_nameText l g N M a0) lk_X12_nameText rfl (ci := 12) rfl (Nat.le_of_ble_eq_true rfl) q_1973 q_76 (by omega) rfl (Nat.le_of_ble_eq_true rfl) (Nat.zero_le _) (Nat.zero_le _) dX12_buyText_2 rfl (fun r1 => ?_)
  refine g_callV_ip 8 hX (k_X12_traderNamed l g N r1.2 a0 r1.1) lk_X12_traderNamed rfl (ci := 12) rfl (Nat.le_of_ble_eq_true rfl) q_1899 q_62 (by omega) rfl (Nat.le_of_ble_eq_true rfl) (Nat.zero_le _) (Nat.zero_le _) dX12_buyText_5 rfl (fun r2 => ?_)
  refine g_istore_n 9 1 [(1, .int r2), (0, .ref a0)] hX dX12_buyText_8 rfl rfl (Nat.le_of_ble_eq_true rfl) rfl ?_
  refine g_aload_n 10 1 hX dX12_buyText_9 rfl rfl ?_
  refine g_iconst 11 hX 0 dX12_buyText_10 rfl kc_i_0 ?_
  refine g_iconst 12 hX 4 dX12_buyText_11 rfl kc_i_4 ?_
  refine g_callV_i 15 hX (k_X12_reads l g N r1.2 a0 0 4) lk_X12_reads rfl (ci := 12) rfl (Nat.le_of_ble_eq_true rfl) q_1864 q_54 (by omega) rfl (Nat.le_of_ble_eq_true rfl) (Nat.zero_le _) (Nat.zero_le _) dX12_buyText_12 rfl (fun r3 => ?_)
  refine g_klI (fun v4 hv4 => ?_)
  refine g_istore_n 16 2 [(2, .int v4), (1, .int r2), (0, .ref a0)] hX dX12_buyText_15 rfl rfl (Nat.le_of_ble_eq_true rfl) rfl ?_
  refine g_aload_n 17 2 hX dX12_buyText_16 rfl rfl ?_
  refine g_callV_i 20 hX (k_X12_sideText l g N r3.2 a0) lk_X12_sideText rfl (ci := 12) rfl (Nat.le_of_ble_eq_true rfl) q_1915 q_65 (by omega) rfl (Nat.le_of_ble_eq_true rfl) (Nat.zero_le _) (Nat.zero_le _) dX12_buyText_17 rfl (fun r5 => ?_)
  refine g_aload_n 21 2 hX dX12_buyText_20 rfl rfl ?_
  refine g_iconst 22 hX 1 dX12_buyText_21 rfl kc_i_1 ?_
  refine g_bipush 24 hX 6 dX12_buyText_22 rfl kc_b_6 ?_
  refine g_callV_i 27 hX (k_X12_reads l g N r5.2 a0 1 6) lk_X12_reads rfl (ci := 12) rfl (Nat.le_of_ble_eq_true rfl) q_1864 q_54 (by omega) rfl (Nat.le_of_ble_eq_true rfl) (Nat.zero_le _) (Nat.zero_le _) dX12_buyText_24 rfl (fun r6 => ?_)
  refine g_imul 28 hX dX12_buyText_27 rfl ?_
  refine g_klI (fun v7 hv7 => ?_)
  refine g_istore_n 29 3 [(3, .int v7), (2, .int v4), (1, .int r2), (0, .ref a0)] hX dX12_buyText_28 rfl rfl (Nat.le_of_ble_eq_true rfl) rfl ?_
  refine g_aload_n 30 3 hX dX12_buyText_29 rfl rfl ?_
  refine g_callV_ip 33 hX (k_X12_isActive l g N r6.2 a0) lk_X12_isActive rfl (ci := 12) rfl (Nat.le_of_ble_eq_true rfl) q_1977 q_77 (by omega) rfl (Nat.le_of_ble_eq_true rfl) (Nat.zero_le _) (Nat.zero_le _) dX12_buyText_30 rfl (fun r8 => ?_)
  refine g_if_eq 102 36 hX dX12_buyText_33 (by decide) rfl (fun _ => ?_) (fun _ => ?_)
  · exact g_vret hX hr rfl (Nat.le_refl 0) (Nat.le_refl 0) dX12_buyText_102
  · refine g_iload_n 37 2 hX dX12_buyText_36 rfl rfl ?_
    refine g_iconst 38 hX (-1) dX12_buyText_37 rfl kc_i_m1 ?_
    refine g_icmp_eq 75 41 hX dX12_buyText_38 (by decide) rfl (fun _ => ?_) (fun _ => ?_)
    · refine g_lv [3, 2, 1, 0] rfl ?_
      exact k_X12_buyText_75 hX hr N r6.2 a0 r2 v4 v7
    · refine g_iload_n 42 1 hX dX12_buyText_41 rfl rfl ?_
      refine g_aload_n 43 3 hX dX12_buyText_42 rfl rfl ?_
      refine r_X12_7 46 hX dX12_buyText_43 rfl ?_
      refine g_bipush 48 hX 7 dX12_buyText_46 rfl kc_b_7 ?_
      refine g_iald 49 hX dX12_buyText_48 rfl ?_
      refine g_icmp_ge 75 52 hX dX12_buyText_49 (by decide) rfl (fun _ => ?_) (fun _ => ?_)
      · refine g_lv [3, 2, 1, 0] rfl ?_
        exact k_X12_buyText_75 hX hr N r6.2 a0 r2 v4 v7
      · refine g_aload_n 53 3 hX dX12_buyText_52 rfl rfl ?_
        refine g_iload_n 54 1 hX dX12_buyText_53 rfl rfl ?_
        refine g_iload_n 55 0 hX dX12_buyText_54 rfl rfl ?_
        refine g_callV_ip 58 hX (k_X12_isPosition l g N r6.2 a0 v4 v7) lk_X12_isPosition rfl (ci := 12) rfl (Nat.le_of_ble_eq_true rfl) q_1996 q_81 (by omega) rfl (Nat.le_of_ble_eq_true rfl) (Nat.zero_le _) (Nat.zero_le _) dX12_buyText_55 rfl (fun r13 => ?_)
        refine g_if_eq 75 61 hX dX12_buyText_58 (by decide) rfl (fun _ => ?_) (fun _ => ?_)
        · refine g_lv [3, 2, 1, 0] rfl ?_
          exact k_X12_buyText_75 hX hr N r6.2 a0 r2 v4 v7
        · refine g_aload_n 62 3 hX dX12_buyText_61 rfl rfl ?_
          refine g_iload_n 63 2 hX dX12_buyText_62 rfl rfl ?_
          refine g_iload_n 64 1 hX dX12_buyText_63 rfl rfl ?_
          refine g_iload_n 65 0 hX dX12_buyText_64 rfl rfl ?_
          refine g_callV_ip 68 hX (k_X12_againstSeat l g N r6.2 a0 r2 v4 v7) lk_X12_againstSeat rfl (ci := 12) rfl (Nat.le_of_ble_eq_true rfl) q_2000 q_82 (by omega) rfl (Nat.le_of_ble_eq_true rfl) (Nat.zero_le _) (Nat.zero_le _) dX12_buyText_65 rfl (fun r14 => ?_)
          refine g_if_ne 75 71 hX dX12_buyText_68 (by decide) rfl (fun _ => ?_) (fun _ => ?_)
          · refine g_lv [3, 2, 1, 0] rfl ?_
            exact k_X12_buyText_75 hX hr N r6.2 a0 r2 v4 v7
          · refine g_iconst 72 hX 1 dX12_buyText_71 rfl kc_i_1 ?_
            refine g_goto 76 hX dX12_buyText_72 (by decide) ?_
            refine g_lv [3, 2, 1, 0] rfl ?_
            exact k_X12_buyText_76 hX hr N r6.2 a0 r2 v4 v7 1
def F_X12_leaveText_34 (N : Nat) (M : kMem) (a0 : Nat) (x1 : Int32) (y0 : Int32) : Option (kMem) :=
    if y0 = 0 then (
      kg (kt M a0 12) <| (F_X12_came N M a0 y0).bind fun M4 =>
      some M4) else
    kg (kt M a0 12) <| (F_X12_leaves N M a0 x1).bind fun r5 =>
    kl r5.1 fun v6 =>
    kg (kt r5.2 a0 12) <| (F_X12_came N r5.2 a0 y0).bind fun M7 =>
    some M7
def F_X12_leaveText_33 (N : Nat) (M : kMem) (a0 : Nat) (x1 : Int32) : Option (kMem) :=
    F_X12_leaveText_34 N M a0 x1 0
def F_X12_leaveText (N : Nat) (M : kMem) (a0 : Nat) : Option (kMem) :=
    kg (kt M a0 12) <| (F_X12_nameText N M a0).bind fun r1 =>
    kg (kt r1.2 a0 12) <| (F_X12_traderNamed N r1.2 a0 r1.1).bind fun r2 =>
    kg (kt r1.2 a0 12) <| (F_X12_isActive N r1.2 a0).bind fun r3 =>
    if r3 = 0 then (
      some r1.2) else
    if r2 = (-1) then (
      F_X12_leaveText_33 N r1.2 a0 r2) else
    kg (kt r1.2 a0 12) <| (F_X12_isSeated N r1.2 a0 r2).bind fun r8 =>
    if r8 = 0 then (
      F_X12_leaveText_33 N r1.2 a0 r2) else
    F_X12_leaveText_34 N r1.2 a0 r2 1
set_option maxRecDepth 100000 in
set_option maxHeartbeats 4000000 in
theorem k_X12_leaveText_34 {p : Program} {l : Launch} {e : Env} {s : State} {m : MethodId} {args : Array Value} {below : List Frame} {meth : Method} {c : Code} {g : kG} (hX : Cok (p, l, e, { frames := 2 * 6, cells := 0, slots := 0, locals := 60 * 6 }, s, m, args, below, meth, c, cX12_leaveText, 4, RX12, g, 6)) (hr : meth.sig.returnType = none) (N : Nat) : ∀ (M : kMem) (a0 : Nat) (x1 : Int32) (y0 : Int32), GG (p, l, e, { frames := 2 * 6, cells := 0, slots := 0, locals := 60 * 6 }, s, m, args, below, meth, c, cX12_leaveText, 4, RX12, g, 6) (fun b => MQ below (kQ g ((fun r : kMem => (none, r)) b)) args s 0 0 (kZ g.2.2.1)) 0 0 (F_X12_leaveText_34 N M a0 x1 y0) 34 [(0, .ref a0), (1, .int x1)] [.int y0] M := by
  intro M a0 x1 y0
  unfold F_X12_leaveText_34
  refine g_istore_n 35 2 [(2, .int y0), (0, .ref a0), (1, .int x1)] hX dX12_leaveText_34 rfl rfl (Nat.le_of_ble_eq_true rfl) rfl ?_
  refine g_iload_n 36 0 hX dX12_leaveText_35 rfl rfl ?_
  refine g_if_eq 47 39 hX dX12_leaveText_36 (by decide) rfl (fun _ => ?_) (fun _ => ?_)
  · refine g_iconst 48 hX (-1) dX12_leaveText_47 rfl kc_i_m1 ?_
    refine g_istore_n 49 3 [(3, .int (-1)), (2, .int y0), (0, .ref a0), (1, .int x1)] hX dX12_leaveText_48 rfl rfl (Nat.le_of_ble_eq_true rfl) rfl ?_
    refine g_aload_n 50 2 hX dX12_leaveText_49 rfl rfl ?_
    refine g_iload_n 51 1 hX dX12_leaveText_50 rfl rfl ?_
    refine g_callV_v 54 hX (k_X12_came l g N M a0 y0) lk_X12_came rfl (ci := 12) rfl (Nat.le_of_ble_eq_true rfl) q_1985 q_79 (by omega) rfl (Nat.le_of_ble_eq_true rfl) (Nat.zero_le _) (Nat.zero_le _) dX12_leaveText_51 rfl (fun M4 => ?_)
    exact g_vret hX hr rfl (Nat.le_refl 0) (Nat.le_refl 0) dX12_leaveText_54
  · refine g_aload_n 40 1 hX dX12_leaveText_39 rfl rfl ?_
    refine g_iload_n 41 2 hX dX12_leaveText_40 rfl rfl ?_
    refine g_callV_i 44 hX (k_X12_leaves l g N M a0 x1) lk_X12_leaves rfl (ci := 12) rfl (Nat.le_of_ble_eq_true rfl) q_2050 q_93 (by omega) rfl (Nat.le_of_ble_eq_true rfl) (Nat.zero_le _) (Nat.zero_le _) dX12_leaveText_41 rfl (fun r5 => ?_)
    refine g_goto 48 hX dX12_leaveText_44 (by decide) ?_
    refine g_klI (fun v6 hv6 => ?_)
    refine g_istore_n 49 3 [(3, .int v6), (2, .int y0), (0, .ref a0), (1, .int x1)] hX dX12_leaveText_48 rfl rfl (Nat.le_of_ble_eq_true rfl) rfl ?_
    refine g_aload_n 50 2 hX dX12_leaveText_49 rfl rfl ?_
    refine g_iload_n 51 1 hX dX12_leaveText_50 rfl rfl ?_
    refine g_callV_v 54 hX (k_X12_came l g N r5.2 a0 y0) lk_X12_came rfl (ci := 12) rfl (Nat.le_of_ble_eq_true rfl) q_1985 q_79 (by omega) rfl (Nat.le_of_ble_eq_true rfl) (Nat.zero_le _) (Nat.zero_le _) dX12_leaveText_51 rfl (fun M7 => ?_)
    exact g_vret hX hr rfl (Nat.le_refl 0) (Nat.le_refl 0) dX12_leaveText_54
set_option maxRecDepth 100000 in
set_option maxHeartbeats 4000000 in
theorem k_X12_leaveText_33 {p : Program} {l : Launch} {e : Env} {s : State} {m : MethodId} {args : Array Value} {below : List Frame} {meth : Method} {c : Code} {g : kG} (hX : Cok (p, l, e, { frames := 2 * 6, cells := 0, slots := 0, locals := 60 * 6 }, s, m, args, below, meth, c, cX12_leaveText, 4, RX12, g, 6)) (hr : meth.sig.returnType = none) (N : Nat) : ∀ (M : kMem) (a0 : Nat) (x1 : Int32), GG (p, l, e, { frames := 2 * 6, cells := 0, slots := 0, locals := 60 * 6 }, s, m, args, below, meth, c, cX12_leaveText, 4, RX12, g, 6) (fun b => MQ below (kQ g ((fun r : kMem => (none, r)) b)) args s 0 0 (kZ g.2.2.1)) 0 0 (F_X12_leaveText_33 N M a0 x1) 33 [(0, .ref a0), (1, .int x1)] [] M := by
  intro M a0 x1
  unfold F_X12_leaveText_33
  refine g_iconst 34 hX 0 dX12_leaveText_33 rfl kc_i_0 ?_
  exact k_X12_leaveText_34 hX hr N M a0 x1 0
set_option maxRecDepth 100000 in
set_option maxHeartbeats 4000000 in
theorem k_X12_leaveText (l : Launch) (g : kG) (N : Nat) (M : kMem) (a0 : Nat) : kMet l g yX12_leaveText cX12_leaveText 4 none 6 0 0 [.ref a0] M (fun r : kMem => (none, r)) (F_X12_leaveText N M a0) := by
  refine k_of (lv := [(0, .ref a0)]) RX12 (by decide) rfl rfl (Nat.le_of_ble_eq_true rfl) ?_
  intro p e s m args below meth c hX hr _
  unfold F_X12_leaveText
  refine g_aload_n 1 0 hX dX12_leaveText_0 rfl rfl ?_
  refine g_aload_n 2 0 hX dX12_leaveText_1 rfl rfl ?_
  refine g_callV_i 5 hX (k_X12_nameText l g N M a0) lk_X12_nameText rfl (ci := 12) rfl (Nat.le_of_ble_eq_true rfl) q_1973 q_76 (by omega) rfl (Nat.le_of_ble_eq_true rfl) (Nat.zero_le _) (Nat.zero_le _) dX12_leaveText_2 rfl (fun r1 => ?_)
  refine g_callV_ip 8 hX (k_X12_traderNamed l g N r1.2 a0 r1.1) lk_X12_traderNamed rfl (ci := 12) rfl (Nat.le_of_ble_eq_true rfl) q_1899 q_62 (by omega) rfl (Nat.le_of_ble_eq_true rfl) (Nat.zero_le _) (Nat.zero_le _) dX12_leaveText_5 rfl (fun r2 => ?_)
  refine g_istore_n 9 1 [(1, .int r2), (0, .ref a0)] hX dX12_leaveText_8 rfl rfl (Nat.le_of_ble_eq_true rfl) rfl ?_
  refine g_aload_n 10 1 hX dX12_leaveText_9 rfl rfl ?_
  refine g_callV_ip 13 hX (k_X12_isActive l g N r1.2 a0) lk_X12_isActive rfl (ci := 12) rfl (Nat.le_of_ble_eq_true rfl) q_1977 q_77 (by omega) rfl (Nat.le_of_ble_eq_true rfl) (Nat.zero_le _) (Nat.zero_le _) dX12_leaveText_10 rfl (fun r3 => ?_)
  refine g_if_eq 54 16 hX dX12_leaveText_13 (by decide) rfl (fun _ => ?_) (fun _ => ?_)
  · exact g_vret hX hr rfl (Nat.le_refl 0) (Nat.le_refl 0) dX12_leaveText_54
  · refine g_iload_n 17 0 hX dX12_leaveText_16 rfl rfl ?_
    refine g_iconst 18 hX (-1) dX12_leaveText_17 rfl kc_i_m1 ?_
    refine g_icmp_eq 33 21 hX dX12_leaveText_18 (by decide) rfl (fun _ => ?_) (fun _ => ?_)
    · refine g_lv [1, 0] rfl ?_
      exact k_X12_leaveText_33 hX hr N r1.2 a0 r2
    · refine g_aload_n 22 1 hX dX12_leaveText_21 rfl rfl ?_
      refine g_iload_n 23 0 hX dX12_leaveText_22 rfl rfl ?_
      refine g_callV_ip 26 hX (k_X12_isSeated l g N r1.2 a0 r2) lk_X12_isSeated rfl (ci := 12) rfl (Nat.le_of_ble_eq_true rfl) q_1911 q_64 (by omega) rfl (Nat.le_of_ble_eq_true rfl) (Nat.zero_le _) (Nat.zero_le _) dX12_leaveText_23 rfl (fun r8 => ?_)
      refine g_if_eq 33 29 hX dX12_leaveText_26 (by decide) rfl (fun _ => ?_) (fun _ => ?_)
      · refine g_lv [1, 0] rfl ?_
        exact k_X12_leaveText_33 hX hr N r1.2 a0 r2
      · refine g_iconst 30 hX 1 dX12_leaveText_29 rfl kc_i_1 ?_
        refine g_goto 34 hX dX12_leaveText_30 (by decide) ?_
        refine g_lv [1, 0] rfl ?_
        exact k_X12_leaveText_34 hX hr N r1.2 a0 r2 1
def F_X12_pairText_89 (N : Nat) (M : kMem) (a0 : Nat) (x1 : Int32) (x3 : Int32) (x4 : Int32) (x5 : Int32) (y0 : Int32) : Option (kMem) :=
    if y0 = 0 then (
      kg (kt M a0 12) <| (F_X12_came N M a0 y0).bind fun M13 =>
      some M13) else
    if x1 = 0 then (
      kg (kt M a0 12) <| (F_X12_swaps N M a0 x3 x4).bind fun r7 =>
      kl r7.1 fun v8 =>
      kg (kt r7.2 a0 12) <| (F_X12_came N r7.2 a0 y0).bind fun M9 =>
      some M9) else
    kg (kt M a0 12) <| (F_X12_sells N M a0 x3 x4 x5).bind fun r10 =>
    kl r10.1 fun v11 =>
    kg (kt r10.2 a0 12) <| (F_X12_came N r10.2 a0 y0).bind fun M12 =>
    some M12
def F_X12_pairText_88 (N : Nat) (M : kMem) (a0 : Nat) (x1 : Int32) (x3 : Int32) (x4 : Int32) (x5 : Int32) : Option (kMem) :=
    F_X12_pairText_89 N M a0 x1 x3 x4 x5 0
def F_X12_pairText_81 (N : Nat) (M : kMem) (a0 : Nat) (x1 : Int32) (x3 : Int32) (x4 : Int32) (x5 : Int32) (y0 : Int32) : Option (kMem) :=
    if y0 = 0 then (
      F_X12_pairText_89 N M a0 x1 x3 x4 x5 1) else
    F_X12_pairText_88 N M a0 x1 x3 x4 x5
def F_X12_pairText_37 (N : Nat) (M : kMem) (a0 : Nat) (x1 : Int32) (x3 : Int32) (x4 : Int32) (y0 : Int32) : Option (kMem) :=
    kg (kt M a0 12) <| (F_X12_isActive N M a0).bind fun r6 =>
    if r6 = 0 then (
      some M) else
    if x3 = (-1) then (
      F_X12_pairText_88 N M a0 x1 x3 x4 y0) else
    if x4 = (-1) then (
      F_X12_pairText_88 N M a0 x1 x3 x4 y0) else
    if x1 = 0 then (
      kg (kt M a0 12) <| (F_X12_againstSwap N M a0 x3 x4).bind fun r14 =>
      F_X12_pairText_81 N M a0 x1 x3 x4 y0 r14) else
    kg (kt M a0 12) <| (F_X12_againstSale N M a0 x3 x4 y0).bind fun r15 =>
    F_X12_pairText_81 N M a0 x1 x3 x4 y0 r15
def F_X12_pairText (N : Nat) (M : kMem) (a0 : Nat) (x1 : Int32) : Option (kMem) :=
    kg (kt M a0 12) <| (F_X12_nameText N M a0).bind fun r1 =>
    kl r1.1 fun v2 =>
    kg (kt r1.2 a0 12) <| (F_X12_traderNamed N r1.2 a0 v2).bind fun r3 =>
    kg (kt r1.2 a0 12) <| (F_X12_otherName N r1.2 a0 v2).bind fun r4 =>
    kg (kt r4.2 a0 12) <| (F_X12_traderNamed N r4.2 a0 r4.1).bind fun r5 =>
    if x1 = 0 then (
      F_X12_pairText_37 N r4.2 a0 x1 r3 r5 0) else
    kg (kt r4.2 a0 12) <| (F_X12_reads N r4.2 a0 1 50).bind fun r16 =>
    F_X12_pairText_37 N r16.2 a0 x1 r3 r5 r16.1
set_option maxRecDepth 100000 in
set_option maxHeartbeats 4000000 in
theorem k_X12_pairText_89 {p : Program} {l : Launch} {e : Env} {s : State} {m : MethodId} {args : Array Value} {below : List Frame} {meth : Method} {c : Code} {g : kG} (hX : Cok (p, l, e, { frames := 2 * 9, cells := 0, slots := 0, locals := 60 * 9 }, s, m, args, below, meth, c, cX12_pairText, 8, RX12, g, 9)) (hr : meth.sig.returnType = none) (N : Nat) : ∀ (M : kMem) (a0 : Nat) (x1 : Int32) (x3 : Int32) (x4 : Int32) (x5 : Int32) (y0 : Int32), GG (p, l, e, { frames := 2 * 9, cells := 0, slots := 0, locals := 60 * 9 }, s, m, args, below, meth, c, cX12_pairText, 8, RX12, g, 9) (fun b => MQ below (kQ g ((fun r : kMem => (none, r)) b)) args s 0 0 (kZ g.2.2.1)) 0 0 (F_X12_pairText_89 N M a0 x1 x3 x4 x5 y0) 89 [(0, .ref a0), (1, .int x1), (3, .int x3), (4, .int x4), (5, .int x5)] [.int y0] M := by
  intro M a0 x1 x3 x4 x5 y0
  unfold F_X12_pairText_89
  refine g_istore 91 6 [(6, .int y0), (0, .ref a0), (1, .int x1), (3, .int x3), (4, .int x4), (5, .int x5)] hX dX12_pairText_89 rfl (Nat.le_of_ble_eq_true rfl) rfl ?_
  refine g_iload 93 0 hX dX12_pairText_91 rfl rfl ?_
  refine g_if_ne 100 96 hX dX12_pairText_93 (by decide) rfl (fun _ => ?_) (fun _ => ?_)
  · refine g_iload_n 101 2 hX dX12_pairText_100 rfl rfl ?_
    refine g_if_eq 116 104 hX dX12_pairText_101 (by decide) rfl (fun _ => ?_) (fun _ => ?_)
    · refine g_aload_n 117 1 hX dX12_pairText_116 rfl rfl ?_
      refine g_iload_n 118 3 hX dX12_pairText_117 rfl rfl ?_
      refine g_iload 120 4 hX dX12_pairText_118 rfl rfl ?_
      refine g_callV_i 123 hX (k_X12_swaps l g N M a0 x3 x4) lk_X12_swaps rfl (ci := 12) rfl (Nat.le_of_ble_eq_true rfl) q_2086 q_102 (by omega) rfl (Nat.le_of_ble_eq_true rfl) (Nat.zero_le _) (Nat.zero_le _) dX12_pairText_120 rfl (fun r7 => ?_)
      refine g_klI (fun v8 hv8 => ?_)
      refine g_istore 125 7 [(7, .int v8), (6, .int y0), (0, .ref a0), (1, .int x1), (3, .int x3), (4, .int x4), (5, .int x5)] hX dX12_pairText_123 rfl (Nat.le_of_ble_eq_true rfl) rfl ?_
      refine g_aload_n 126 2 hX dX12_pairText_125 rfl rfl ?_
      refine g_iload 128 1 hX dX12_pairText_126 rfl rfl ?_
      refine g_callV_v 131 hX (k_X12_came l g N r7.2 a0 y0) lk_X12_came rfl (ci := 12) rfl (Nat.le_of_ble_eq_true rfl) q_1985 q_79 (by omega) rfl (Nat.le_of_ble_eq_true rfl) (Nat.zero_le _) (Nat.zero_le _) dX12_pairText_128 rfl (fun M9 => ?_)
      exact g_vret hX hr rfl (Nat.le_refl 0) (Nat.le_refl 0) dX12_pairText_131
    · refine g_aload_n 105 1 hX dX12_pairText_104 rfl rfl ?_
      refine g_iload_n 106 3 hX dX12_pairText_105 rfl rfl ?_
      refine g_iload 108 4 hX dX12_pairText_106 rfl rfl ?_
      refine g_iload 110 5 hX dX12_pairText_108 rfl rfl ?_
      refine g_callV_i 113 hX (k_X12_sells l g N M a0 x3 x4 x5) lk_X12_sells rfl (ci := 12) rfl (Nat.le_of_ble_eq_true rfl) q_2082 q_101 (by omega) rfl (Nat.le_of_ble_eq_true rfl) (Nat.zero_le _) (Nat.zero_le _) dX12_pairText_110 rfl (fun r10 => ?_)
      refine g_goto 123 hX dX12_pairText_113 (by decide) ?_
      refine g_klI (fun v11 hv11 => ?_)
      refine g_istore 125 7 [(7, .int v11), (6, .int y0), (0, .ref a0), (1, .int x1), (3, .int x3), (4, .int x4), (5, .int x5)] hX dX12_pairText_123 rfl (Nat.le_of_ble_eq_true rfl) rfl ?_
      refine g_aload_n 126 2 hX dX12_pairText_125 rfl rfl ?_
      refine g_iload 128 1 hX dX12_pairText_126 rfl rfl ?_
      refine g_callV_v 131 hX (k_X12_came l g N r10.2 a0 y0) lk_X12_came rfl (ci := 12) rfl (Nat.le_of_ble_eq_true rfl) q_1985 q_79 (by omega) rfl (Nat.le_of_ble_eq_true rfl) (Nat.zero_le _) (Nat.zero_le _) dX12_pairText_128 rfl (fun M12 => ?_)
      exact g_vret hX hr rfl (Nat.le_refl 0) (Nat.le_refl 0) dX12_pairText_131
  · refine g_iconst 97 hX 0 dX12_pairText_96 rfl kc_i_0 ?_
    refine g_goto 123 hX dX12_pairText_97 (by decide) ?_
    refine g_istore 125 7 [(7, .int 0), (6, .int y0), (0, .ref a0), (1, .int x1), (3, .int x3), (4, .int x4), (5, .int x5)] hX dX12_pairText_123 rfl (Nat.le_of_ble_eq_true rfl) rfl ?_
    refine g_aload_n 126 2 hX dX12_pairText_125 rfl rfl ?_
    refine g_iload 128 1 hX dX12_pairText_126 rfl rfl ?_
    refine g_callV_v 131 hX (k_X12_came l g N M a0 y0) lk_X12_came rfl (ci := 12) rfl (Nat.le_of_ble_eq_true rfl) q_1985 q_79 (by omega) rfl (Nat.le_of_ble_eq_true rfl) (Nat.zero_le _) (Nat.zero_le _) dX12_pairText_128 rfl (fun M13 => ?_)
    exact g_vret hX hr rfl (Nat.le_refl 0) (Nat.le_refl 0) dX12_pairText_131
set_option maxRecDepth 100000 in
set_option maxHeartbeats 4000000 in
theorem k_X12_pairText_88 {p : Program} {l : Launch} {e : Env} {s : State} {m : MethodId} {args : Array Value} {below : List Frame} {meth : Method} {c : Code} {g : kG} (hX : Cok (p, l, e, { frames := 2 * 9, cells := 0, slots := 0, locals := 60 * 9 }, s, m, args, below, meth, c, cX12_pairText, 8, RX12, g, 9)) (hr : meth.sig.returnType = none) (N : Nat) : ∀ (M : kMem) (a0 : Nat) (x1 : Int32) (x3 : Int32) (x4 : Int32) (x5 : Int32), GG (p, l, e, { frames := 2 * 9, cells := 0, slots := 0, locals := 60 * 9 }, s, m, args, below, meth, c, cX12_pairText, 8, RX12, g, 9) (fun b => MQ below (kQ g ((fun r : kMem => (none, r)) b)) args s 0 0 (kZ g.2.2.1)) 0 0 (F_X12_pairText_88 N M a0 x1 x3 x4 x5) 88 [(0, .ref a0), (1, .int x1), (3, .int x3), (4, .int x4), (5, .int x5)] [] M := by
  intro M a0 x1 x3 x4 x5
  unfold F_X12_pairText_88
  refine g_iconst 89 hX 0 dX12_pairText_88 rfl kc_i_0 ?_
  exact k_X12_pairText_89 hX hr N M a0 x1 x3 x4 x5 0
set_option maxRecDepth 100000 in
set_option maxHeartbeats 4000000 in
theorem k_X12_pairText_81 {p : Program} {l : Launch} {e : Env} {s : State} {m : MethodId} {args : Array Value} {below : List Frame} {meth : Method} {c : Code} {g : kG} (hX : Cok (p, l, e, { frames := 2 * 9, cells := 0, slots := 0, locals := 60 * 9 }, s, m, args, below, meth, c, cX12_pairText, 8, RX12, g, 9)) (hr : meth.sig.returnType = none) (N : Nat) : ∀ (M : kMem) (a0 : Nat) (x1 : Int32) (x3 : Int32) (x4 : Int32) (x5 : Int32) (y0 : Int32), GG (p, l, e, { frames := 2 * 9, cells := 0, slots := 0, locals := 60 * 9 }, s, m, args, below, meth, c, cX12_pairText, 8, RX12, g, 9) (fun b => MQ below (kQ g ((fun r : kMem => (none, r)) b)) args s 0 0 (kZ g.2.2.1)) 0 0 (F_X12_pairText_81 N M a0 x1 x3 x4 x5 y0) 81 [(0, .ref a0), (1, .int x1), (3, .int x3), (4, .int x4), (5, .int x5)] [.int y0] M := by
  intro M a0 x1 x3 x4 x5 y0
  unfold F_X12_pairText_81
  refine g_if_ne 88 84 hX dX12_pairText_81 (by decide) rfl (fun _ => ?_) (fun _ => ?_)
  · exact k_X12_pairText_88 hX hr N M a0 x1 x3 x4 x5
  · refine g_iconst 85 hX 1 dX12_pairText_84 rfl kc_i_1 ?_
    refine g_goto 89 hX dX12_pairText_85 (by decide) ?_
    exact k_X12_pairText_89 hX hr N M a0 x1 x3 x4 x5 1
set_option maxRecDepth 100000 in
set_option maxHeartbeats 4000000 in
theorem k_X12_pairText_37 {p : Program} {l : Launch} {e : Env} {s : State} {m : MethodId} {args : Array Value} {below : List Frame} {meth : Method} {c : Code} {g : kG} (hX : Cok (p, l, e, { frames := 2 * 9, cells := 0, slots := 0, locals := 60 * 9 }, s, m, args, below, meth, c, cX12_pairText, 8, RX12, g, 9)) (hr : meth.sig.returnType = none) (N : Nat) : ∀ (M : kMem) (a0 : Nat) (x1 : Int32) (x3 : Int32) (x4 : Int32) (y0 : Int32), GG (p, l, e, { frames := 2 * 9, cells := 0, slots := 0, locals := 60 * 9 }, s, m, args, below, meth, c, cX12_pairText, 8, RX12, g, 9) (fun b => MQ below (kQ g ((fun r : kMem => (none, r)) b)) args s 0 0 (kZ g.2.2.1)) 0 0 (F_X12_pairText_37 N M a0 x1 x3 x4 y0) 37 [(0, .ref a0), (1, .int x1), (3, .int x3), (4, .int x4)] [.int y0] M := by
  intro M a0 x1 x3 x4 y0
  unfold F_X12_pairText_37
  refine g_istore 39 5 [(5, .int y0), (0, .ref a0), (1, .int x1), (3, .int x3), (4, .int x4)] hX dX12_pairText_37 rfl (Nat.le_of_ble_eq_true rfl) rfl ?_
  refine g_aload_n 40 1 hX dX12_pairText_39 rfl rfl ?_
  refine g_callV_ip 43 hX (k_X12_isActive l g N M a0) lk_X12_isActive rfl (ci := 12) rfl (Nat.le_of_ble_eq_true rfl) q_1977 q_77 (by omega) rfl (Nat.le_of_ble_eq_true rfl) (Nat.zero_le _) (Nat.zero_le _) dX12_pairText_40 rfl (fun r6 => ?_)
  refine g_if_ne 47 46 hX dX12_pairText_43 (by decide) rfl (fun _ => ?_) (fun _ => ?_)
  · refine g_iload_n 48 3 hX dX12_pairText_47 rfl rfl ?_
    refine g_iconst 49 hX (-1) dX12_pairText_48 rfl kc_i_m1 ?_
    refine g_icmp_eq 88 52 hX dX12_pairText_49 (by decide) rfl (fun _ => ?_) (fun _ => ?_)
    · refine g_lv [1, 2, 3, 4, 0] rfl ?_
      exact k_X12_pairText_88 hX hr N M a0 x1 x3 x4 y0
    · refine g_iload 54 4 hX dX12_pairText_52 rfl rfl ?_
      refine g_iconst 55 hX (-1) dX12_pairText_54 rfl kc_i_m1 ?_
      refine g_icmp_eq 88 58 hX dX12_pairText_55 (by decide) rfl (fun _ => ?_) (fun _ => ?_)
      · refine g_lv [1, 2, 3, 4, 0] rfl ?_
        exact k_X12_pairText_88 hX hr N M a0 x1 x3 x4 y0
      · refine g_iload_n 59 2 hX dX12_pairText_58 rfl rfl ?_
        refine g_if_eq 74 62 hX dX12_pairText_59 (by decide) rfl (fun _ => ?_) (fun _ => ?_)
        · refine g_aload_n 75 1 hX dX12_pairText_74 rfl rfl ?_
          refine g_iload_n 76 3 hX dX12_pairText_75 rfl rfl ?_
          refine g_iload 78 4 hX dX12_pairText_76 rfl rfl ?_
          refine g_callV_ip 81 hX (k_X12_againstSwap l g N M a0 x3 x4) lk_X12_againstSwap rfl (ci := 12) rfl (Nat.le_of_ble_eq_true rfl) q_2074 q_99 (by omega) rfl (Nat.le_of_ble_eq_true rfl) (Nat.zero_le _) (Nat.zero_le _) dX12_pairText_78 rfl (fun r14 => ?_)
          refine g_lv [1, 2, 3, 4, 0] rfl ?_
          exact k_X12_pairText_81 hX hr N M a0 x1 x3 x4 y0 r14
        · refine g_aload_n 63 1 hX dX12_pairText_62 rfl rfl ?_
          refine g_iload_n 64 3 hX dX12_pairText_63 rfl rfl ?_
          refine g_iload 66 4 hX dX12_pairText_64 rfl rfl ?_
          refine g_iload 68 0 hX dX12_pairText_66 rfl rfl ?_
          refine g_callV_ip 71 hX (k_X12_againstSale l g N M a0 x3 x4 y0) lk_X12_againstSale rfl (ci := 12) rfl (Nat.le_of_ble_eq_true rfl) q_2062 q_96 (by omega) rfl (Nat.le_of_ble_eq_true rfl) (Nat.zero_le _) (Nat.zero_le _) dX12_pairText_68 rfl (fun r15 => ?_)
          refine g_goto 81 hX dX12_pairText_71 (by decide) ?_
          refine g_lv [1, 2, 3, 4, 0] rfl ?_
          exact k_X12_pairText_81 hX hr N M a0 x1 x3 x4 y0 r15
  · exact g_vret hX hr rfl (Nat.le_refl 0) (Nat.le_refl 0) dX12_pairText_46
set_option maxRecDepth 100000 in
set_option maxHeartbeats 4000000 in
theorem k_X12_pairText (l : Launch) (g : kG) (N : Nat) (M : kMem) (a0 : Nat) (x1 : Int32) : kMet l g yX12_pairText cX12_pairText 8 none 9 0 0 [.ref a0, .int x1] M (fun r : kMem => (none, r)) (F_X12_pairText N M a0 x1) := by
  refine k_of (lv := [(0, .ref a0), (1, .int x1)]) RX12 (by decide) rfl rfl (Nat.le_of_ble_eq_true rfl) ?_
  intro p e s m args below meth c hX hr _
  unfold F_X12_pairText
  refine g_aload_n 1 0 hX dX12_pairText_0 rfl rfl ?_
  refine g_callV_i 4 hX (k_X12_nameText l g N M a0) lk_X12_nameText rfl (ci := 12) rfl (Nat.le_of_ble_eq_true rfl) q_1973 q_76 (by omega) rfl (Nat.le_of_ble_eq_true rfl) (Nat.zero_le _) (Nat.zero_le _) dX12_pairText_1 rfl (fun r1 => ?_)
  refine g_klI (fun v2 hv2 => ?_)
  refine g_istore_n 5 2 [(2, .int v2), (0, .ref a0), (1, .int x1)] hX dX12_pairText_4 rfl rfl (Nat.le_of_ble_eq_true rfl) rfl ?_
  refine g_aload_n 6 1 hX dX12_pairText_5 rfl rfl ?_
  refine g_iload_n 7 0 hX dX12_pairText_6 rfl rfl ?_
  refine g_callV_ip 10 hX (k_X12_traderNamed l g N r1.2 a0 v2) lk_X12_traderNamed rfl (ci := 12) rfl (Nat.le_of_ble_eq_true rfl) q_1899 q_62 (by omega) rfl (Nat.le_of_ble_eq_true rfl) (Nat.zero_le _) (Nat.zero_le _) dX12_pairText_7 rfl (fun r3 => ?_)
  refine g_istore_n 11 3 [(3, .int r3), (2, .int v2), (0, .ref a0), (1, .int x1)] hX dX12_pairText_10 rfl rfl (Nat.le_of_ble_eq_true rfl) rfl ?_
  refine g_aload_n 12 2 hX dX12_pairText_11 rfl rfl ?_
  refine g_aload_n 13 2 hX dX12_pairText_12 rfl rfl ?_
  refine g_iload_n 14 1 hX dX12_pairText_13 rfl rfl ?_
  refine g_callV_i 17 hX (k_X12_otherName l g N r1.2 a0 v2) lk_X12_otherName rfl (ci := 12) rfl (Nat.le_of_ble_eq_true rfl) q_2058 q_95 (by omega) rfl (Nat.le_of_ble_eq_true rfl) (Nat.zero_le _) (Nat.zero_le _) dX12_pairText_14 rfl (fun r4 => ?_)
  refine g_callV_ip 20 hX (k_X12_traderNamed l g N r4.2 a0 r4.1) lk_X12_traderNamed rfl (ci := 12) rfl (Nat.le_of_ble_eq_true rfl) q_1899 q_62 (by omega) rfl (Nat.le_of_ble_eq_true rfl) (Nat.zero_le _) (Nat.zero_le _) dX12_pairText_17 rfl (fun r5 => ?_)
  refine g_istore 22 4 [(4, .int r5), (3, .int r3), (2, .int v2), (0, .ref a0), (1, .int x1)] hX dX12_pairText_20 rfl (Nat.le_of_ble_eq_true rfl) rfl ?_
  refine g_iload_n 23 4 hX dX12_pairText_22 rfl rfl ?_
  refine g_if_eq 36 26 hX dX12_pairText_23 (by decide) rfl (fun _ => ?_) (fun _ => ?_)
  · refine g_iconst 37 hX 0 dX12_pairText_36 rfl kc_i_0 ?_
    refine g_lv [3, 4, 1, 0] rfl ?_
    exact k_X12_pairText_37 hX hr N r4.2 a0 x1 r3 r5 0
  · refine g_aload_n 27 3 hX dX12_pairText_26 rfl rfl ?_
    refine g_iconst 28 hX 1 dX12_pairText_27 rfl kc_i_1 ?_
    refine g_bipush 30 hX 50 dX12_pairText_28 rfl kc_b_50 ?_
    refine g_callV_i 33 hX (k_X12_reads l g N r4.2 a0 1 50) lk_X12_reads rfl (ci := 12) rfl (Nat.le_of_ble_eq_true rfl) q_1864 q_54 (by omega) rfl (Nat.le_of_ble_eq_true rfl) (Nat.zero_le _) (Nat.zero_le _) dX12_pairText_30 rfl (fun r16 => ?_)
    refine g_goto 37 hX dX12_pairText_33 (by decide) ?_
    refine g_lv [3, 4, 1, 0] rfl ?_
    exact k_X12_pairText_37 hX hr N r16.2 a0 x1 r3 r5 r16.1
def F_X12_wholeText_53 (N : Nat) (M : kMem) (a0 : Nat) (x1 : Int32) (x2 : Int32) (y0 : Int32) : Option (kMem) :=
    if y0 = 0 then (
      kg (kt M a0 12) <| (F_X12_came N M a0 y0).bind fun M9 =>
      some M9) else
    if x1 = 0 then (
      kg (kt M a0 12) <| (F_X12_days1 N M a0 x2).bind fun r3 =>
      kl r3.1 fun v4 =>
      kg (kt r3.2 a0 12) <| (F_X12_came N r3.2 a0 y0).bind fun M5 =>
      some M5) else
    kg (kt M a0 12) <| (F_X12_setsWage N M a0 x2).bind fun r6 =>
    kl r6.1 fun v7 =>
    kg (kt r6.2 a0 12) <| (F_X12_came N r6.2 a0 y0).bind fun M8 =>
    some M8
def F_X12_wholeText_48 (N : Nat) (M : kMem) (a0 : Nat) (x1 : Int32) (x2 : Int32) : Option (kMem) :=
    F_X12_wholeText_53 N M a0 x1 x2 1
def F_X12_wholeText_21 (N : Nat) (M : kMem) (a0 : Nat) (x1 : Int32) (y0 : Int32) : Option (kMem) :=
    kg (kt M a0 12) <| (F_X12_isActive N M a0).bind fun r2 =>
    if r2 = 0 then (
      some M) else
    if x1 = 0 then (
      kg (kt M a0 12) <|
      kg (kin M (kR M a0 0) 13 6) <|
      if (9999 : Int32) < ((kI M (kR M a0 0) (kx 6)) + y0) then (
        F_X12_wholeText_53 N M a0 x1 y0 0) else
      F_X12_wholeText_48 N M a0 x1 y0) else
    F_X12_wholeText_48 N M a0 x1 y0
def F_X12_wholeText (N : Nat) (M : kMem) (a0 : Nat) (x1 : Int32) : Option (kMem) :=
    if x1 = 0 then (
      kg (kt M a0 12) <| (F_X12_reads N M a0 1 30).bind fun r1 =>
      F_X12_wholeText_21 N r1.2 a0 x1 r1.1) else
    kg (kt M a0 12) <| (F_X12_reads N M a0 0 20).bind fun r10 =>
    F_X12_wholeText_21 N r10.2 a0 x1 r10.1
set_option maxRecDepth 100000 in
set_option maxHeartbeats 4000000 in
theorem k_X12_wholeText_53 {p : Program} {l : Launch} {e : Env} {s : State} {m : MethodId} {args : Array Value} {below : List Frame} {meth : Method} {c : Code} {g : kG} (hX : Cok (p, l, e, { frames := 2 * 10, cells := 0, slots := 0, locals := 60 * 10 }, s, m, args, below, meth, c, cX12_wholeText, 5, RX12, g, 10)) (hr : meth.sig.returnType = none) (N : Nat) : ∀ (M : kMem) (a0 : Nat) (x1 : Int32) (x2 : Int32) (y0 : Int32), GG (p, l, e, { frames := 2 * 10, cells := 0, slots := 0, locals := 60 * 10 }, s, m, args, below, meth, c, cX12_wholeText, 5, RX12, g, 10) (fun b => MQ below (kQ g ((fun r : kMem => (none, r)) b)) args s 0 0 (kZ g.2.2.1)) 0 0 (F_X12_wholeText_53 N M a0 x1 x2 y0) 53 [(0, .ref a0), (1, .int x1), (2, .int x2)] [.int y0] M := by
  intro M a0 x1 x2 y0
  unfold F_X12_wholeText_53
  refine g_istore_n 54 3 [(3, .int y0), (0, .ref a0), (1, .int x1), (2, .int x2)] hX dX12_wholeText_53 rfl rfl (Nat.le_of_ble_eq_true rfl) rfl ?_
  refine g_iload_n 55 0 hX dX12_wholeText_54 rfl rfl ?_
  refine g_if_ne 62 58 hX dX12_wholeText_55 (by decide) rfl (fun _ => ?_) (fun _ => ?_)
  · refine g_iload_n 63 2 hX dX12_wholeText_62 rfl rfl ?_
    refine g_if_eq 74 66 hX dX12_wholeText_63 (by decide) rfl (fun _ => ?_) (fun _ => ?_)
    · refine g_aload_n 75 1 hX dX12_wholeText_74 rfl rfl ?_
      refine g_iload_n 76 3 hX dX12_wholeText_75 rfl rfl ?_
      refine g_callV_i 79 hX (k_X12_days1 l g N M a0 x2) lk_X12_days1 rfl (ci := 12) rfl (Nat.le_of_ble_eq_true rfl) q_2098 q_105 (by omega) rfl (Nat.le_of_ble_eq_true rfl) (Nat.zero_le _) (Nat.zero_le _) dX12_wholeText_76 rfl (fun r3 => ?_)
      refine g_klI (fun v4 hv4 => ?_)
      refine g_istore 81 4 [(4, .int v4), (3, .int y0), (0, .ref a0), (1, .int x1), (2, .int x2)] hX dX12_wholeText_79 rfl (Nat.le_of_ble_eq_true rfl) rfl ?_
      refine g_aload_n 82 2 hX dX12_wholeText_81 rfl rfl ?_
      refine g_iload_n 83 1 hX dX12_wholeText_82 rfl rfl ?_
      refine g_callV_v 86 hX (k_X12_came l g N r3.2 a0 y0) lk_X12_came rfl (ci := 12) rfl (Nat.le_of_ble_eq_true rfl) q_1985 q_79 (by omega) rfl (Nat.le_of_ble_eq_true rfl) (Nat.zero_le _) (Nat.zero_le _) dX12_wholeText_83 rfl (fun M5 => ?_)
      exact g_vret hX hr rfl (Nat.le_refl 0) (Nat.le_refl 0) dX12_wholeText_86
    · refine g_aload_n 67 1 hX dX12_wholeText_66 rfl rfl ?_
      refine g_iload_n 68 3 hX dX12_wholeText_67 rfl rfl ?_
      refine g_callV_i 71 hX (k_X12_setsWage l g N M a0 x2) lk_X12_setsWage rfl (ci := 12) rfl (Nat.le_of_ble_eq_true rfl) q_2094 q_104 (by omega) rfl (Nat.le_of_ble_eq_true rfl) (Nat.zero_le _) (Nat.zero_le _) dX12_wholeText_68 rfl (fun r6 => ?_)
      refine g_goto 79 hX dX12_wholeText_71 (by decide) ?_
      refine g_klI (fun v7 hv7 => ?_)
      refine g_istore 81 4 [(4, .int v7), (3, .int y0), (0, .ref a0), (1, .int x1), (2, .int x2)] hX dX12_wholeText_79 rfl (Nat.le_of_ble_eq_true rfl) rfl ?_
      refine g_aload_n 82 2 hX dX12_wholeText_81 rfl rfl ?_
      refine g_iload_n 83 1 hX dX12_wholeText_82 rfl rfl ?_
      refine g_callV_v 86 hX (k_X12_came l g N r6.2 a0 y0) lk_X12_came rfl (ci := 12) rfl (Nat.le_of_ble_eq_true rfl) q_1985 q_79 (by omega) rfl (Nat.le_of_ble_eq_true rfl) (Nat.zero_le _) (Nat.zero_le _) dX12_wholeText_83 rfl (fun M8 => ?_)
      exact g_vret hX hr rfl (Nat.le_refl 0) (Nat.le_refl 0) dX12_wholeText_86
  · refine g_iconst 59 hX 0 dX12_wholeText_58 rfl kc_i_0 ?_
    refine g_goto 79 hX dX12_wholeText_59 (by decide) ?_
    refine g_istore 81 4 [(4, .int 0), (3, .int y0), (0, .ref a0), (1, .int x1), (2, .int x2)] hX dX12_wholeText_79 rfl (Nat.le_of_ble_eq_true rfl) rfl ?_
    refine g_aload_n 82 2 hX dX12_wholeText_81 rfl rfl ?_
    refine g_iload_n 83 1 hX dX12_wholeText_82 rfl rfl ?_
    refine g_callV_v 86 hX (k_X12_came l g N M a0 y0) lk_X12_came rfl (ci := 12) rfl (Nat.le_of_ble_eq_true rfl) q_1985 q_79 (by omega) rfl (Nat.le_of_ble_eq_true rfl) (Nat.zero_le _) (Nat.zero_le _) dX12_wholeText_83 rfl (fun M9 => ?_)
    exact g_vret hX hr rfl (Nat.le_refl 0) (Nat.le_refl 0) dX12_wholeText_86
set_option maxRecDepth 100000 in
set_option maxHeartbeats 4000000 in
theorem k_X12_wholeText_48 {p : Program} {l : Launch} {e : Env} {s : State} {m : MethodId} {args : Array Value} {below : List Frame} {meth : Method} {c : Code} {g : kG} (hX : Cok (p, l, e, { frames := 2 * 10, cells := 0, slots := 0, locals := 60 * 10 }, s, m, args, below, meth, c, cX12_wholeText, 5, RX12, g, 10)) (hr : meth.sig.returnType = none) (N : Nat) : ∀ (M : kMem) (a0 : Nat) (x1 : Int32) (x2 : Int32), GG (p, l, e, { frames := 2 * 10, cells := 0, slots := 0, locals := 60 * 10 }, s, m, args, below, meth, c, cX12_wholeText, 5, RX12, g, 10) (fun b => MQ below (kQ g ((fun r : kMem => (none, r)) b)) args s 0 0 (kZ g.2.2.1)) 0 0 (F_X12_wholeText_48 N M a0 x1 x2) 48 [(0, .ref a0), (1, .int x1), (2, .int x2)] [] M := by
  intro M a0 x1 x2
  unfold F_X12_wholeText_48
  refine g_iconst 49 hX 1 dX12_wholeText_48 rfl kc_i_1 ?_
  refine g_goto 53 hX dX12_wholeText_49 (by decide) ?_
  exact k_X12_wholeText_53 hX hr N M a0 x1 x2 1
set_option maxRecDepth 100000 in
set_option maxHeartbeats 4000000 in
theorem k_X12_wholeText_21 {p : Program} {l : Launch} {e : Env} {s : State} {m : MethodId} {args : Array Value} {below : List Frame} {meth : Method} {c : Code} {g : kG} (hX : Cok (p, l, e, { frames := 2 * 10, cells := 0, slots := 0, locals := 60 * 10 }, s, m, args, below, meth, c, cX12_wholeText, 5, RX12, g, 10)) (hr : meth.sig.returnType = none) (N : Nat) : ∀ (M : kMem) (a0 : Nat) (x1 : Int32) (y0 : Int32), GG (p, l, e, { frames := 2 * 10, cells := 0, slots := 0, locals := 60 * 10 }, s, m, args, below, meth, c, cX12_wholeText, 5, RX12, g, 10) (fun b => MQ below (kQ g ((fun r : kMem => (none, r)) b)) args s 0 0 (kZ g.2.2.1)) 0 0 (F_X12_wholeText_21 N M a0 x1 y0) 21 [(0, .ref a0), (1, .int x1)] [.int y0] M := by
  intro M a0 x1 y0
  unfold F_X12_wholeText_21
  refine g_istore_n 22 2 [(2, .int y0), (0, .ref a0), (1, .int x1)] hX dX12_wholeText_21 rfl rfl (Nat.le_of_ble_eq_true rfl) rfl ?_
  refine g_aload_n 23 1 hX dX12_wholeText_22 rfl rfl ?_
  refine g_callV_ip 26 hX (k_X12_isActive l g N M a0) lk_X12_isActive rfl (ci := 12) rfl (Nat.le_of_ble_eq_true rfl) q_1977 q_77 (by omega) rfl (Nat.le_of_ble_eq_true rfl) (Nat.zero_le _) (Nat.zero_le _) dX12_wholeText_23 rfl (fun r2 => ?_)
  refine g_if_eq 86 29 hX dX12_wholeText_26 (by decide) rfl (fun _ => ?_) (fun _ => ?_)
  · exact g_vret hX hr rfl (Nat.le_refl 0) (Nat.le_refl 0) dX12_wholeText_86
  · refine g_iload_n 30 2 hX dX12_wholeText_29 rfl rfl ?_
    refine g_if_ne 48 33 hX dX12_wholeText_30 (by decide) rfl (fun _ => ?_) (fun _ => ?_)
    · refine g_lv [1, 2, 0] rfl ?_
      exact k_X12_wholeText_48 hX hr N M a0 x1 y0
    · refine g_aload_n 34 1 hX dX12_wholeText_33 rfl rfl ?_
      refine r_X12_7 37 hX dX12_wholeText_34 rfl ?_
      refine g_bipush 39 hX 6 dX12_wholeText_37 rfl kc_b_6 ?_
      refine g_iald 40 hX dX12_wholeText_39 rfl ?_
      refine g_iload_n 41 0 hX dX12_wholeText_40 rfl rfl ?_
      refine g_iadd 42 hX dX12_wholeText_41 rfl ?_
      refine g_sipush 45 hX 9999 dX12_wholeText_42 rfl kc_s_9999 ?_
      refine g_icmp_gt 52 48 hX dX12_wholeText_45 (by decide) rfl (fun _ => ?_) (fun _ => ?_)
      · refine g_iconst 53 hX 0 dX12_wholeText_52 rfl kc_i_0 ?_
        refine g_lv [1, 2, 0] rfl ?_
        exact k_X12_wholeText_53 hX hr N M a0 x1 y0 0
      · refine g_lv [1, 2, 0] rfl ?_
        exact k_X12_wholeText_48 hX hr N M a0 x1 y0
set_option maxRecDepth 100000 in
set_option maxHeartbeats 4000000 in
theorem k_X12_wholeText (l : Launch) (g : kG) (N : Nat) (M : kMem) (a0 : Nat) (x1 : Int32) : kMet l g yX12_wholeText cX12_wholeText 5 none 10 0 0 [.ref a0, .int x1] M (fun r : kMem => (none, r)) (F_X12_wholeText N M a0 x1) := by
  refine k_of (lv := [(0, .ref a0), (1, .int x1)]) RX12 (by decide) rfl rfl (Nat.le_of_ble_eq_true rfl) ?_
  intro p e s m args below meth c hX hr _
  unfold F_X12_wholeText
  refine g_iload_n 1 1 hX dX12_wholeText_0 rfl rfl ?_
  refine g_if_eq 14 4 hX dX12_wholeText_1 (by decide) rfl (fun _ => ?_) (fun _ => ?_)
  · refine g_aload_n 15 0 hX dX12_wholeText_14 rfl rfl ?_
    refine g_iconst 16 hX 1 dX12_wholeText_15 rfl kc_i_1 ?_
    refine g_bipush 18 hX 30 dX12_wholeText_16 rfl kc_b_30 ?_
    refine g_callV_i 21 hX (k_X12_reads l g N M a0 1 30) lk_X12_reads rfl (ci := 12) rfl (Nat.le_of_ble_eq_true rfl) q_1864 q_54 (by omega) rfl (Nat.le_of_ble_eq_true rfl) (Nat.zero_le _) (Nat.zero_le _) dX12_wholeText_18 rfl (fun r1 => ?_)
    exact k_X12_wholeText_21 hX hr N r1.2 a0 x1 r1.1
  · refine g_aload_n 5 0 hX dX12_wholeText_4 rfl rfl ?_
    refine g_iconst 6 hX 0 dX12_wholeText_5 rfl kc_i_0 ?_
    refine g_bipush 8 hX 20 dX12_wholeText_6 rfl kc_b_20 ?_
    refine g_callV_i 11 hX (k_X12_reads l g N M a0 0 20) lk_X12_reads rfl (ci := 12) rfl (Nat.le_of_ble_eq_true rfl) q_1864 q_54 (by omega) rfl (Nat.le_of_ble_eq_true rfl) (Nat.zero_le _) (Nat.zero_le _) dX12_wholeText_8 rfl (fun r10 => ?_)
    refine g_goto 21 hX dX12_wholeText_11 (by decide) ?_
    exact k_X12_wholeText_21 hX hr N r10.2 a0 x1 r10.1
def F_X12_againOrder_42 (N : Nat) (M : kMem) (a0 : Nat) (x1 : Int32) (y0 : Nat) (y1 : Int32) : Option (kMem) :=
    kg (kt M y0 12) <| (F_X12_must N M y0 y1 5).bind fun M6 =>
    kg (kt M6 a0 12) <| (F_X12_goesOn N M6 a0).bind fun M7 =>
    kg (kt M7 a0 12) <|
    if (kI M7 a0 16) = 0 then (
      kg (kt M7 a0 12) <|
      kg (kt M7 a0 12) <| kl (ksI M7 a0 24 ((kI M7 a0 24) + 1)) fun M8 =>
      kg (kt M8 a0 12) <|
      kg (kt M8 a0 12) <|
      kg (kt M8 a0 12) <|
      kg (kin M8 (kR M8 a0 26) 13 ((kI M8 a0 24) - 1)) <| kl (ksI M8 (kR M8 a0 26) (kx ((kI M8 a0 24) - 1)) (kI M8 a0 13)) fun M9 =>
      kg (kt M9 a0 12) <|
      kg (kt M9 a0 12) <|
      kg (kin M9 (kR M9 a0 27) 13 ((kI M9 a0 24) - 1)) <| kl (ksI M9 (kR M9 a0 27) (kx ((kI M9 a0 24) - 1)) x1) fun M10 =>
      some M10) else
    some M7
def F_X12_againOrder_37 (N : Nat) (M : kMem) (a0 : Nat) (x1 : Int32) (y0 : Nat) : Option (kMem) :=
    F_X12_againOrder_42 N M a0 x1 y0 1
def F_X12_againOrder (N : Nat) (M : kMem) (a0 : Nat) : Option (kMem) :=
    kg (kt M a0 12) <| (F_X12_reads N M a0 1 20).bind fun r1 =>
    kl r1.1 fun v2 =>
    kg (kt r1.2 a0 12) <| (F_X12_isSign N r1.2 a0 40).bind fun r3 =>
    kg (kt r1.2 a0 12) <| (F_X12_must N r1.2 a0 r3 1).bind fun M4 =>
    kg (kt M4 a0 12) <| (F_X12_isSign N M4 a0 40).bind fun r5 =>
    if r5 = 0 then (
      F_X12_againOrder_37 N M4 a0 v2 a0) else
    kg (kt M4 a0 12) <|
    if (kI M4 a0 24) < 2 then (
      F_X12_againOrder_37 N M4 a0 v2 a0) else
    F_X12_againOrder_42 N M4 a0 v2 a0 0
set_option maxRecDepth 100000 in
set_option maxHeartbeats 4000000 in
theorem k_X12_againOrder_42 {p : Program} {l : Launch} {e : Env} {s : State} {m : MethodId} {args : Array Value} {below : List Frame} {meth : Method} {c : Code} {g : kG} (hX : Cok (p, l, e, { frames := 2 * 6, cells := 0, slots := 0, locals := 60 * 6 }, s, m, args, below, meth, c, cX12_againOrder, 2, RX12, g, 6)) (hr : meth.sig.returnType = none) (N : Nat) : ∀ (M : kMem) (a0 : Nat) (x1 : Int32) (y0 : Nat) (y1 : Int32), GG (p, l, e, { frames := 2 * 6, cells := 0, slots := 0, locals := 60 * 6 }, s, m, args, below, meth, c, cX12_againOrder, 2, RX12, g, 6) (fun b => MQ below (kQ g ((fun r : kMem => (none, r)) b)) args s 0 0 (kZ g.2.2.1)) 0 0 (F_X12_againOrder_42 N M a0 x1 y0 y1) 42 [(0, .ref a0), (1, .int x1)] [.int y1, .ref y0] M := by
  intro M a0 x1 y0 y1
  unfold F_X12_againOrder_42
  refine g_iconst 43 hX 5 dX12_againOrder_42 rfl kc_i_5 ?_
  refine g_callV_v 46 hX (k_X12_must l g N M y0 y1 5) lk_X12_must rfl (ci := 12) rfl (Nat.le_of_ble_eq_true rfl) q_1856 q_52 (by omega) rfl (Nat.le_of_ble_eq_true rfl) (Nat.zero_le _) (Nat.zero_le _) dX12_againOrder_43 rfl (fun M6 => ?_)
  refine g_aload_n 47 0 hX dX12_againOrder_46 rfl rfl ?_
  refine g_callV_v 50 hX (k_X12_goesOn l g N M6 a0) lk_X12_goesOn rfl (ci := 12) rfl (Nat.le_of_ble_eq_true rfl) q_1860 q_53 (by omega) rfl (Nat.le_of_ble_eq_true rfl) (Nat.zero_le _) (Nat.zero_le _) dX12_againOrder_47 rfl (fun M7 => ?_)
  refine g_aload_n 51 0 hX dX12_againOrder_50 rfl rfl ?_
  refine r_X12_209 54 hX dX12_againOrder_51 rfl ?_
  refine g_if_ne 94 57 hX dX12_againOrder_54 (by decide) rfl (fun _ => ?_) (fun _ => ?_)
  · exact g_vret hX hr rfl (Nat.le_refl 0) (Nat.le_refl 0) dX12_againOrder_94
  · refine g_aload_n 58 0 hX dX12_againOrder_57 rfl rfl ?_
    refine g_dup 59 hX dX12_againOrder_58 rfl rfl ?_
    refine r_X12_374 62 hX dX12_againOrder_59 rfl ?_
    refine g_iconst 63 hX 1 dX12_againOrder_62 rfl kc_i_1 ?_
    refine g_iadd 64 hX dX12_againOrder_63 rfl ?_
    refine p_X12_374 67 hX dX12_againOrder_64 rfl ?_
    refine g_klM (fun M8 hM8 => ?_)
    refine g_aload_n 68 0 hX dX12_againOrder_67 rfl rfl ?_
    refine r_X12_39 71 hX dX12_againOrder_68 rfl ?_
    refine g_aload_n 72 0 hX dX12_againOrder_71 rfl rfl ?_
    refine r_X12_374 75 hX dX12_againOrder_72 rfl ?_
    refine g_iconst 76 hX 1 dX12_againOrder_75 rfl kc_i_1 ?_
    refine g_isub 77 hX dX12_againOrder_76 rfl ?_
    refine g_aload_n 78 0 hX dX12_againOrder_77 rfl rfl ?_
    refine r_X12_185 81 hX dX12_againOrder_78 rfl ?_
    refine g_iast 82 hX dX12_againOrder_81 rfl ?_
    refine g_klM (fun M9 hM9 => ?_)
    refine g_aload_n 83 0 hX dX12_againOrder_82 rfl rfl ?_
    refine r_X12_42 86 hX dX12_againOrder_83 rfl ?_
    refine g_aload_n 87 0 hX dX12_againOrder_86 rfl rfl ?_
    refine r_X12_374 90 hX dX12_againOrder_87 rfl ?_
    refine g_iconst 91 hX 1 dX12_againOrder_90 rfl kc_i_1 ?_
    refine g_isub 92 hX dX12_againOrder_91 rfl ?_
    refine g_iload_n 93 1 hX dX12_againOrder_92 rfl rfl ?_
    refine g_iast 94 hX dX12_againOrder_93 rfl ?_
    refine g_klM (fun M10 hM10 => ?_)
    exact g_vret hX hr rfl (Nat.le_refl 0) (Nat.le_refl 0) dX12_againOrder_94
set_option maxRecDepth 100000 in
set_option maxHeartbeats 4000000 in
theorem k_X12_againOrder_37 {p : Program} {l : Launch} {e : Env} {s : State} {m : MethodId} {args : Array Value} {below : List Frame} {meth : Method} {c : Code} {g : kG} (hX : Cok (p, l, e, { frames := 2 * 6, cells := 0, slots := 0, locals := 60 * 6 }, s, m, args, below, meth, c, cX12_againOrder, 2, RX12, g, 6)) (hr : meth.sig.returnType = none) (N : Nat) : ∀ (M : kMem) (a0 : Nat) (x1 : Int32) (y0 : Nat), GG (p, l, e, { frames := 2 * 6, cells := 0, slots := 0, locals := 60 * 6 }, s, m, args, below, meth, c, cX12_againOrder, 2, RX12, g, 6) (fun b => MQ below (kQ g ((fun r : kMem => (none, r)) b)) args s 0 0 (kZ g.2.2.1)) 0 0 (F_X12_againOrder_37 N M a0 x1 y0) 37 [(0, .ref a0), (1, .int x1)] [.ref y0] M := by
  intro M a0 x1 y0
  unfold F_X12_againOrder_37
  refine g_iconst 38 hX 1 dX12_againOrder_37 rfl kc_i_1 ?_
  refine g_goto 42 hX dX12_againOrder_38 (by decide) ?_
  exact k_X12_againOrder_42 hX hr N M a0 x1 y0 1
set_option maxRecDepth 100000 in
set_option maxHeartbeats 4000000 in
theorem k_X12_againOrder (l : Launch) (g : kG) (N : Nat) (M : kMem) (a0 : Nat) : kMet l g yX12_againOrder cX12_againOrder 2 none 6 0 0 [.ref a0] M (fun r : kMem => (none, r)) (F_X12_againOrder N M a0) := by
  refine k_of (lv := [(0, .ref a0)]) RX12 (by decide) rfl rfl (Nat.le_of_ble_eq_true rfl) ?_
  intro p e s m args below meth c hX hr _
  unfold F_X12_againOrder
  refine g_aload_n 1 0 hX dX12_againOrder_0 rfl rfl ?_
  refine g_iconst 2 hX 1 dX12_againOrder_1 rfl kc_i_1 ?_
  refine g_bipush 4 hX 20 dX12_againOrder_2 rfl kc_b_20 ?_
  refine g_callV_i 7 hX (k_X12_reads l g N M a0 1 20) lk_X12_reads rfl (ci := 12) rfl (Nat.le_of_ble_eq_true rfl) q_1864 q_54 (by omega) rfl (Nat.le_of_ble_eq_true rfl) (Nat.zero_le _) (Nat.zero_le _) dX12_againOrder_4 rfl (fun r1 => ?_)
  refine g_klI (fun v2 hv2 => ?_)
  refine g_istore_n 8 1 [(1, .int v2), (0, .ref a0)] hX dX12_againOrder_7 rfl rfl (Nat.le_of_ble_eq_true rfl) rfl ?_
  refine g_aload_n 9 1 hX dX12_againOrder_8 rfl rfl ?_
  refine g_aload_n 10 1 hX dX12_againOrder_9 rfl rfl ?_
  refine g_bipush 12 hX 40 dX12_againOrder_10 rfl kc_b_40 ?_
  refine g_callV_ip 15 hX (k_X12_isSign l g N r1.2 a0 40) lk_X12_isSign rfl (ci := 12) rfl (Nat.le_of_ble_eq_true rfl) q_1873 q_56 (by omega) rfl (Nat.le_of_ble_eq_true rfl) (Nat.zero_le _) (Nat.zero_le _) dX12_againOrder_12 rfl (fun r3 => ?_)
  refine g_iconst 16 hX 1 dX12_againOrder_15 rfl kc_i_1 ?_
  refine g_callV_v 19 hX (k_X12_must l g N r1.2 a0 r3 1) lk_X12_must rfl (ci := 12) rfl (Nat.le_of_ble_eq_true rfl) q_1856 q_52 (by omega) rfl (Nat.le_of_ble_eq_true rfl) (Nat.zero_le _) (Nat.zero_le _) dX12_againOrder_16 rfl (fun M4 => ?_)
  refine g_aload_n 20 1 hX dX12_againOrder_19 rfl rfl ?_
  refine g_aload_n 21 1 hX dX12_againOrder_20 rfl rfl ?_
  refine g_bipush 23 hX 40 dX12_againOrder_21 rfl kc_b_40 ?_
  refine g_callV_ip 26 hX (k_X12_isSign l g N M4 a0 40) lk_X12_isSign rfl (ci := 12) rfl (Nat.le_of_ble_eq_true rfl) q_1873 q_56 (by omega) rfl (Nat.le_of_ble_eq_true rfl) (Nat.zero_le _) (Nat.zero_le _) dX12_againOrder_23 rfl (fun r5 => ?_)
  refine g_if_eq 37 29 hX dX12_againOrder_26 (by decide) rfl (fun _ => ?_) (fun _ => ?_)
  · refine g_lv [1, 0] rfl ?_
    exact k_X12_againOrder_37 hX hr N M4 a0 v2 a0
  · refine g_aload_n 30 1 hX dX12_againOrder_29 rfl rfl ?_
    refine r_X12_374 33 hX dX12_againOrder_30 rfl ?_
    refine g_iconst 34 hX 2 dX12_againOrder_33 rfl kc_i_2 ?_
    refine g_icmp_ge 41 37 hX dX12_againOrder_34 (by decide) rfl (fun _ => ?_) (fun _ => ?_)
    · refine g_iconst 42 hX 0 dX12_againOrder_41 rfl kc_i_0 ?_
      refine g_lv [1, 0] rfl ?_
      exact k_X12_againOrder_42 hX hr N M4 a0 v2 a0 0
    · refine g_lv [1, 0] rfl ?_
      exact k_X12_againOrder_37 hX hr N M4 a0 v2 a0
def F_X12_closes_81 (N : Nat) (M : kMem) (a0 : Nat) : Option (kMem) :=
    kg (kt M a0 12) <|
    kg (kt M a0 12) <| kl (ksI M a0 24 ((kI M a0 24) - 1)) fun M3 =>
    kg (kt M3 a0 12) <| (F_X12_goesOn N M3 a0).bind fun M4 =>
    kg (kt M4 a0 12) <| (F_X12_sign N M4 a0 59).bind fun M5 =>
    some M5
def F_X12_closes_13 (N : Nat) (M : kMem) (a0 : Nat) (y0 : Nat) (y1 : Int32) : Option (kMem) :=
    kg (kt M y0 12) <| (F_X12_must N M y0 y1 1).bind fun M1 =>
    kg (kt M1 a0 12) <|
    if (kI M1 a0 16) = 0 then (
      kg (kt M1 a0 12) <|
      kg (kt M1 a0 12) <|
      kg (kin M1 (kR M1 a0 27) 13 ((kI M1 a0 24) - 1)) <|
      kg (kin M1 (kR M1 a0 27) 13 ((kI M1 a0 24) - 1)) <| kl (ksI M1 (kR M1 a0 27) (kx ((kI M1 a0 24) - 1)) ((kI M1 (kR M1 a0 27) (kx ((kI M1 a0 24) - 1))) - 1)) fun M2 =>
      kg (kt M2 a0 12) <|
      if (kI M2 a0 21) = 0 then (
        F_X12_closes_81 N M2 a0) else
      kg (kt M2 a0 12) <|
      kg (kt M2 a0 12) <|
      kg (kin M2 (kR M2 a0 27) 13 ((kI M2 a0 24) - 1)) <|
      if (0 : Int32) < (kI M2 (kR M2 a0 27) (kx ((kI M2 a0 24) - 1))) then (
        kg (kt M2 a0 12) <|
        kg (kt M2 a0 12) <|
        kg (kin M2 (kR M2 a0 26) 13 ((kI M2 a0 24) - 1)) <|
        kg (kt M2 a0 12) <| kl (ksI M2 a0 12 (kI M2 (kR M2 a0 26) (kx ((kI M2 a0 24) - 1)))) fun M6 =>
        kg (kt M6 a0 12) <| (F_X12_scan N M6 a0).bind fun M7 =>
        some M7) else
      F_X12_closes_81 N M2 a0) else
    some M1
def F_X12_closes (N : Nat) (M : kMem) (a0 : Nat) : Option (kMem) :=
    kg (kt M a0 12) <|
    if (0 : Int32) < (kI M a0 24) then (
      F_X12_closes_13 N M a0 a0 1) else
    F_X12_closes_13 N M a0 a0 0
set_option maxRecDepth 100000 in
set_option maxHeartbeats 4000000 in
theorem k_X12_closes_81 {p : Program} {l : Launch} {e : Env} {s : State} {m : MethodId} {args : Array Value} {below : List Frame} {meth : Method} {c : Code} {g : kG} (hX : Cok (p, l, e, { frames := 2 * 6, cells := 0, slots := 0, locals := 60 * 6 }, s, m, args, below, meth, c, cX12_closes, 1, RX12, g, 6)) (hr : meth.sig.returnType = none) (N : Nat) : ∀ (M : kMem) (a0 : Nat), GG (p, l, e, { frames := 2 * 6, cells := 0, slots := 0, locals := 60 * 6 }, s, m, args, below, meth, c, cX12_closes, 1, RX12, g, 6) (fun b => MQ below (kQ g ((fun r : kMem => (none, r)) b)) args s 0 0 (kZ g.2.2.1)) 0 0 (F_X12_closes_81 N M a0) 81 [(0, .ref a0)] [] M := by
  intro M a0
  unfold F_X12_closes_81
  refine g_aload_n 82 0 hX dX12_closes_81 rfl rfl ?_
  refine g_dup 83 hX dX12_closes_82 rfl rfl ?_
  refine r_X12_374 86 hX dX12_closes_83 rfl ?_
  refine g_iconst 87 hX 1 dX12_closes_86 rfl kc_i_1 ?_
  refine g_isub 88 hX dX12_closes_87 rfl ?_
  refine p_X12_374 91 hX dX12_closes_88 rfl ?_
  refine g_klM (fun M3 hM3 => ?_)
  refine g_aload_n 92 0 hX dX12_closes_91 rfl rfl ?_
  refine g_callV_v 95 hX (k_X12_goesOn l g N M3 a0) lk_X12_goesOn rfl (ci := 12) rfl (Nat.le_of_ble_eq_true rfl) q_1860 q_53 (by omega) rfl (Nat.le_of_ble_eq_true rfl) (Nat.zero_le _) (Nat.zero_le _) dX12_closes_92 rfl (fun M4 => ?_)
  refine g_aload_n 96 0 hX dX12_closes_95 rfl rfl ?_
  refine g_bipush 98 hX 59 dX12_closes_96 rfl kc_b_59 ?_
  refine g_callV_v 101 hX (k_X12_sign l g N M4 a0 59) lk_X12_sign rfl (ci := 12) rfl (Nat.le_of_ble_eq_true rfl) q_1869 q_55 (by omega) rfl (Nat.le_of_ble_eq_true rfl) (Nat.zero_le _) (Nat.zero_le _) dX12_closes_98 rfl (fun M5 => ?_)
  exact g_vret hX hr rfl (Nat.le_refl 0) (Nat.le_refl 0) dX12_closes_101
set_option maxRecDepth 100000 in
set_option maxHeartbeats 4000000 in
theorem k_X12_closes_13 {p : Program} {l : Launch} {e : Env} {s : State} {m : MethodId} {args : Array Value} {below : List Frame} {meth : Method} {c : Code} {g : kG} (hX : Cok (p, l, e, { frames := 2 * 6, cells := 0, slots := 0, locals := 60 * 6 }, s, m, args, below, meth, c, cX12_closes, 1, RX12, g, 6)) (hr : meth.sig.returnType = none) (N : Nat) : ∀ (M : kMem) (a0 : Nat) (y0 : Nat) (y1 : Int32), GG (p, l, e, { frames := 2 * 6, cells := 0, slots := 0, locals := 60 * 6 }, s, m, args, below, meth, c, cX12_closes, 1, RX12, g, 6) (fun b => MQ below (kQ g ((fun r : kMem => (none, r)) b)) args s 0 0 (kZ g.2.2.1)) 0 0 (F_X12_closes_13 N M a0 y0 y1) 13 [(0, .ref a0)] [.int y1, .ref y0] M := by
  intro M a0 y0 y1
  unfold F_X12_closes_13
  refine g_iconst 14 hX 1 dX12_closes_13 rfl kc_i_1 ?_
  refine g_callV_v 17 hX (k_X12_must l g N M y0 y1 1) lk_X12_must rfl (ci := 12) rfl (Nat.le_of_ble_eq_true rfl) q_1856 q_52 (by omega) rfl (Nat.le_of_ble_eq_true rfl) (Nat.zero_le _) (Nat.zero_le _) dX12_closes_14 rfl (fun M1 => ?_)
  refine g_aload_n 18 0 hX dX12_closes_17 rfl rfl ?_
  refine r_X12_209 21 hX dX12_closes_18 rfl ?_
  refine g_if_eq 25 24 hX dX12_closes_21 (by decide) rfl (fun _ => ?_) (fun _ => ?_)
  · refine g_aload_n 26 0 hX dX12_closes_25 rfl rfl ?_
    refine r_X12_42 29 hX dX12_closes_26 rfl ?_
    refine g_aload_n 30 0 hX dX12_closes_29 rfl rfl ?_
    refine r_X12_374 33 hX dX12_closes_30 rfl ?_
    refine g_iconst 34 hX 1 dX12_closes_33 rfl kc_i_1 ?_
    refine g_isub 35 hX dX12_closes_34 rfl ?_
    refine g_dup2 36 hX dX12_closes_35 rfl rfl rfl ?_
    refine g_iald 37 hX dX12_closes_36 rfl ?_
    refine g_iconst 38 hX 1 dX12_closes_37 rfl kc_i_1 ?_
    refine g_isub 39 hX dX12_closes_38 rfl ?_
    refine g_iast 40 hX dX12_closes_39 rfl ?_
    refine g_klM (fun M2 hM2 => ?_)
    refine g_aload_n 41 0 hX dX12_closes_40 rfl rfl ?_
    refine r_X12_314 44 hX dX12_closes_41 rfl ?_
    refine g_if_eq 81 47 hX dX12_closes_44 (by decide) rfl (fun _ => ?_) (fun _ => ?_)
    · exact k_X12_closes_81 hX hr N M2 a0
    · refine g_aload_n 48 0 hX dX12_closes_47 rfl rfl ?_
      refine r_X12_42 51 hX dX12_closes_48 rfl ?_
      refine g_aload_n 52 0 hX dX12_closes_51 rfl rfl ?_
      refine r_X12_374 55 hX dX12_closes_52 rfl ?_
      refine g_iconst 56 hX 1 dX12_closes_55 rfl kc_i_1 ?_
      refine g_isub 57 hX dX12_closes_56 rfl ?_
      refine g_iald 58 hX dX12_closes_57 rfl ?_
      refine g_if_le 81 61 hX dX12_closes_58 (by decide) rfl (fun _ => ?_) (fun _ => ?_)
      · exact k_X12_closes_81 hX hr N M2 a0
      · refine g_aload_n 62 0 hX dX12_closes_61 rfl rfl ?_
        refine g_aload_n 63 0 hX dX12_closes_62 rfl rfl ?_
        refine r_X12_39 66 hX dX12_closes_63 rfl ?_
        refine g_aload_n 67 0 hX dX12_closes_66 rfl rfl ?_
        refine r_X12_374 70 hX dX12_closes_67 rfl ?_
        refine g_iconst 71 hX 1 dX12_closes_70 rfl kc_i_1 ?_
        refine g_isub 72 hX dX12_closes_71 rfl ?_
        refine g_iald 73 hX dX12_closes_72 rfl ?_
        refine p_X12_179 76 hX dX12_closes_73 rfl ?_
        refine g_klM (fun M6 hM6 => ?_)
        refine g_aload_n 77 0 hX dX12_closes_76 rfl rfl ?_
        refine g_callV_v 80 hX (k_X12_scan l g N M6 a0) lk_X12_scan rfl (ci := 12) rfl (Nat.le_of_ble_eq_true rfl) q_1826 q_48 (by omega) rfl (Nat.le_of_ble_eq_true rfl) (Nat.zero_le _) (Nat.zero_le _) dX12_closes_77 rfl (fun M7 => ?_)
        exact g_vret hX hr rfl (Nat.le_refl 0) (Nat.le_refl 0) dX12_closes_80
  · exact g_vret hX hr rfl (Nat.le_refl 0) (Nat.le_refl 0) dX12_closes_24
set_option maxRecDepth 100000 in
set_option maxHeartbeats 4000000 in
theorem k_X12_closes (l : Launch) (g : kG) (N : Nat) (M : kMem) (a0 : Nat) : kMet l g yX12_closes cX12_closes 1 none 6 0 0 [.ref a0] M (fun r : kMem => (none, r)) (F_X12_closes N M a0) := by
  refine k_of (lv := [(0, .ref a0)]) RX12 (by decide) rfl rfl (Nat.le_of_ble_eq_true rfl) ?_
  intro p e s m args below meth c hX hr _
  unfold F_X12_closes
  refine g_aload_n 1 0 hX dX12_closes_0 rfl rfl ?_
  refine g_aload_n 2 0 hX dX12_closes_1 rfl rfl ?_
  refine r_X12_374 5 hX dX12_closes_2 rfl ?_
  refine g_if_le 12 8 hX dX12_closes_5 (by decide) rfl (fun _ => ?_) (fun _ => ?_)
  · refine g_iconst 13 hX 0 dX12_closes_12 rfl kc_i_0 ?_
    exact k_X12_closes_13 hX hr N M a0 a0 0
  · refine g_iconst 9 hX 1 dX12_closes_8 rfl kc_i_1 ?_
    refine g_goto 13 hX dX12_closes_9 (by decide) ?_
    exact k_X12_closes_13 hX hr N M a0 a0 1
def F_X12_does_61 (N : Nat) (M : kMem) (a0 : Nat) (x1 : Int64) : Option (kMem) :=
    if (lg_cmp x1 628108) = 0 then (
      kg (kt M a0 12) <| (F_X12_pairText N M a0 1).bind fun M2 =>
      some M2) else
    kg (kt M a0 12) <| (F_X12_pairText N M a0 0).bind fun M1 =>
    some M1
def F_X12_does (N : Nat) (M : kMem) (a0 : Nat) (x1 : Int64) : Option (kMem) :=
    if (lg_cmp x1 343342) = 0 then (
      kg (kt M a0 12) <| (F_X12_joinText N M a0).bind fun M7 =>
      some M7) else
    if (lg_cmp x1 2745) = 0 then (
      kg (kt M a0 12) <| (F_X12_buyText N M a0).bind fun M6 =>
      some M6) else
    if (lg_cmp x1 12748485) = 0 then (
      kg (kt M a0 12) <| (F_X12_leaveText N M a0).bind fun M5 =>
      some M5) else
    if (lg_cmp x1 628108) = 0 then (
      F_X12_does_61 N M a0 x1) else
    if (lg_cmp x1 646192) = 0 then (
      F_X12_does_61 N M a0 x1) else
    if (lg_cmp x1 754917) = 0 then (
      kg (kt M a0 12) <| (F_X12_wholeText N M a0 1).bind fun M4 =>
      some M4) else
    kg (kt M a0 12) <| (F_X12_wholeText N M a0 0).bind fun M3 =>
    some M3
set_option maxRecDepth 100000 in
set_option maxHeartbeats 4000000 in
theorem k_X12_does_61 {p : Program} {l : Launch} {e : Env} {s : State} {m : MethodId} {args : Array Value} {below : List Frame} {meth : Method} {c : Code} {g : kG} (hX : Cok (p, l, e, { frames := 2 * 11, cells := 0, slots := 0, locals := 60 * 11 }, s, m, args, below, meth, c, cX12_does, 3, RX12, g, 11)) (hr : meth.sig.returnType = none) (N : Nat) : ∀ (M : kMem) (a0 : Nat) (x1 : Int64), GG (p, l, e, { frames := 2 * 11, cells := 0, slots := 0, locals := 60 * 11 }, s, m, args, below, meth, c, cX12_does, 3, RX12, g, 11) (fun b => MQ below (kQ g ((fun r : kMem => (none, r)) b)) args s 0 0 (kZ g.2.2.1)) 0 0 (F_X12_does_61 N M a0 x1) 61 [(0, .ref a0), (1, .long x1)] [] M := by
  intro M a0 x1
  unfold F_X12_does_61
  refine g_aload_n 62 0 hX dX12_does_61 rfl rfl ?_
  refine g_lload_n 63 1 hX dX12_does_62 rfl rfl ?_
  refine g_ldc2 66 hX 628108 dX12_does_63 rfl q_1956 ?_
  refine g_lcmp 67 hX dX12_does_66 rfl ?_
  refine g_if_ne 74 70 hX dX12_does_67 (by decide) rfl (fun _ => ?_) (fun _ => ?_)
  · refine g_iconst 75 hX 0 dX12_does_74 rfl kc_i_0 ?_
    refine g_callV_v 78 hX (k_X12_pairText l g N M a0 0) lk_X12_pairText rfl (ci := 12) rfl (Nat.le_of_ble_eq_true rfl) q_2054 q_94 (by omega) rfl (Nat.le_of_ble_eq_true rfl) (Nat.zero_le _) (Nat.zero_le _) dX12_does_75 rfl (fun M1 => ?_)
    refine g_goto 98 hX dX12_does_78 (by decide) ?_
    exact g_vret hX hr rfl (Nat.le_refl 0) (Nat.le_refl 0) dX12_does_98
  · refine g_iconst 71 hX 1 dX12_does_70 rfl kc_i_1 ?_
    refine g_goto 75 hX dX12_does_71 (by decide) ?_
    refine g_callV_v 78 hX (k_X12_pairText l g N M a0 1) lk_X12_pairText rfl (ci := 12) rfl (Nat.le_of_ble_eq_true rfl) q_2054 q_94 (by omega) rfl (Nat.le_of_ble_eq_true rfl) (Nat.zero_le _) (Nat.zero_le _) dX12_does_75 rfl (fun M2 => ?_)
    refine g_goto 98 hX dX12_does_78 (by decide) ?_
    exact g_vret hX hr rfl (Nat.le_refl 0) (Nat.le_refl 0) dX12_does_98
set_option maxRecDepth 100000 in
set_option maxHeartbeats 4000000 in
theorem k_X12_does (l : Launch) (g : kG) (N : Nat) (M : kMem) (a0 : Nat) (x1 : Int64) : kMet l g yX12_does cX12_does 3 none 11 0 0 [.ref a0, .long x1] M (fun r : kMem => (none, r)) (F_X12_does N M a0 x1) := by
  refine k_of (lv := [(0, .ref a0), (1, .long x1)]) RX12 (by decide) rfl rfl (Nat.le_of_ble_eq_true rfl) ?_
  intro p e s m args below meth c hX hr _
  unfold F_X12_does
  refine g_lload_n 1 1 hX dX12_does_0 rfl rfl ?_
  refine g_ldc2 4 hX 343342 dX12_does_1 rfl q_1953 ?_
  refine g_lcmp 5 hX dX12_does_4 rfl ?_
  refine g_if_ne 15 8 hX dX12_does_5 (by decide) rfl (fun _ => ?_) (fun _ => ?_)
  · refine g_lload_n 16 1 hX dX12_does_15 rfl rfl ?_
    refine g_ldc2 19 hX 2745 dX12_does_16 rfl q_1954 ?_
    refine g_lcmp 20 hX dX12_does_19 rfl ?_
    refine g_if_ne 30 23 hX dX12_does_20 (by decide) rfl (fun _ => ?_) (fun _ => ?_)
    · refine g_lload_n 31 1 hX dX12_does_30 rfl rfl ?_
      refine g_ldc2 34 hX 12748485 dX12_does_31 rfl q_1955 ?_
      refine g_lcmp 35 hX dX12_does_34 rfl ?_
      refine g_if_ne 45 38 hX dX12_does_35 (by decide) rfl (fun _ => ?_) (fun _ => ?_)
      · refine g_lload_n 46 1 hX dX12_does_45 rfl rfl ?_
        refine g_ldc2 49 hX 628108 dX12_does_46 rfl q_1956 ?_
        refine g_lcmp 50 hX dX12_does_49 rfl ?_
        refine g_if_eq 61 53 hX dX12_does_50 (by decide) rfl (fun _ => ?_) (fun _ => ?_)
        · exact k_X12_does_61 hX hr N M a0 x1
        · refine g_lload_n 54 1 hX dX12_does_53 rfl rfl ?_
          refine g_ldc2 57 hX 646192 dX12_does_54 rfl q_1957 ?_
          refine g_lcmp 58 hX dX12_does_57 rfl ?_
          refine g_if_ne 81 61 hX dX12_does_58 (by decide) rfl (fun _ => ?_) (fun _ => ?_)
          · refine g_aload_n 82 0 hX dX12_does_81 rfl rfl ?_
            refine g_lload_n 83 1 hX dX12_does_82 rfl rfl ?_
            refine g_ldc2 86 hX 754917 dX12_does_83 rfl q_1958 ?_
            refine g_lcmp 87 hX dX12_does_86 rfl ?_
            refine g_if_ne 94 90 hX dX12_does_87 (by decide) rfl (fun _ => ?_) (fun _ => ?_)
            · refine g_iconst 95 hX 0 dX12_does_94 rfl kc_i_0 ?_
              refine g_callV_v 98 hX (k_X12_wholeText l g N M a0 0) lk_X12_wholeText rfl (ci := 12) rfl (Nat.le_of_ble_eq_true rfl) q_2090 q_103 (by omega) rfl (Nat.le_of_ble_eq_true rfl) (Nat.zero_le _) (Nat.zero_le _) dX12_does_95 rfl (fun M3 => ?_)
              exact g_vret hX hr rfl (Nat.le_refl 0) (Nat.le_refl 0) dX12_does_98
            · refine g_iconst 91 hX 1 dX12_does_90 rfl kc_i_1 ?_
              refine g_goto 95 hX dX12_does_91 (by decide) ?_
              refine g_callV_v 98 hX (k_X12_wholeText l g N M a0 1) lk_X12_wholeText rfl (ci := 12) rfl (Nat.le_of_ble_eq_true rfl) q_2090 q_103 (by omega) rfl (Nat.le_of_ble_eq_true rfl) (Nat.zero_le _) (Nat.zero_le _) dX12_does_95 rfl (fun M4 => ?_)
              exact g_vret hX hr rfl (Nat.le_refl 0) (Nat.le_refl 0) dX12_does_98
          · exact k_X12_does_61 hX hr N M a0 x1
      · refine g_aload_n 39 0 hX dX12_does_38 rfl rfl ?_
        refine g_callV_v 42 hX (k_X12_leaveText l g N M a0) lk_X12_leaveText rfl (ci := 12) rfl (Nat.le_of_ble_eq_true rfl) q_2046 q_92 (by omega) rfl (Nat.le_of_ble_eq_true rfl) (Nat.zero_le _) (Nat.zero_le _) dX12_does_39 rfl (fun M5 => ?_)
        refine g_goto 98 hX dX12_does_42 (by decide) ?_
        exact g_vret hX hr rfl (Nat.le_refl 0) (Nat.le_refl 0) dX12_does_98
    · refine g_aload_n 24 0 hX dX12_does_23 rfl rfl ?_
      refine g_callV_v 27 hX (k_X12_buyText l g N M a0) lk_X12_buyText rfl (ci := 12) rfl (Nat.le_of_ble_eq_true rfl) q_1992 q_80 (by omega) rfl (Nat.le_of_ble_eq_true rfl) (Nat.zero_le _) (Nat.zero_le _) dX12_does_24 rfl (fun M6 => ?_)
      refine g_goto 98 hX dX12_does_27 (by decide) ?_
      exact g_vret hX hr rfl (Nat.le_refl 0) (Nat.le_refl 0) dX12_does_98
  · refine g_aload_n 9 0 hX dX12_does_8 rfl rfl ?_
    refine g_callV_v 12 hX (k_X12_joinText l g N M a0) lk_X12_joinText rfl (ci := 12) rfl (Nat.le_of_ble_eq_true rfl) q_1969 q_75 (by omega) rfl (Nat.le_of_ble_eq_true rfl) (Nat.zero_le _) (Nat.zero_le _) dX12_does_9 rfl (fun M7 => ?_)
    refine g_goto 98 hX dX12_does_12 (by decide) ?_
    exact g_vret hX hr rfl (Nat.le_refl 0) (Nat.le_refl 0) dX12_does_98
def F_X12_order_45 (N : Nat) (M : kMem) (a0 : Nat) : Option (kMem) :=
    kg (kt M a0 12) <|
    if (kI M a0 16) = 0 then (
      kg (kt M a0 12) <|
      kl (kL M a0 20) fun v3 =>
      kg (kt M a0 12) <| (F_X12_goesOn N M a0).bind fun M4 =>
      if (lg_cmp v3 609752116) = 0 then (
        kg (kt M4 a0 12) <| (F_X12_againOrder N M4 a0).bind fun M7 =>
        some M7) else
      kg (kt M4 a0 12) <| (F_X12_does N M4 a0 v3).bind fun M5 =>
      kg (kt M5 a0 12) <| (F_X12_sign N M5 a0 59).bind fun M6 =>
      some M6) else
    some M
def F_X12_order_31 (N : Nat) (M : kMem) (a0 : Nat) (y0 : Nat) (y1 : Int32) : Option (kMem) :=
    kg (kt M y0 12) <| (F_X12_must N M y0 y1 5).bind fun M8 =>
    kg (kt M8 a0 12) <|
    kg (kt M8 a0 12) <| kl (ksI M8 a0 23 ((kI M8 a0 23) + 1)) fun M9 =>
    F_X12_order_45 N M9 a0
def F_X12_order (N : Nat) (M : kMem) (a0 : Nat) : Option (kMem) :=
    kg (kt M a0 12) <| (F_X12_isOrder N M a0).bind fun r1 =>
    kg (kt M a0 12) <| (F_X12_must N M a0 r1 1).bind fun M2 =>
    kg (kt M2 a0 12) <|
    if (kI M2 a0 21) = 0 then (
      kg (kt M2 a0 12) <|
      if (kI M2 a0 23) < 30 then (
        F_X12_order_31 N M2 a0 a0 1) else
      F_X12_order_31 N M2 a0 a0 0) else
    F_X12_order_45 N M2 a0
set_option maxRecDepth 100000 in
set_option maxHeartbeats 4000000 in
theorem k_X12_order_45 {p : Program} {l : Launch} {e : Env} {s : State} {m : MethodId} {args : Array Value} {below : List Frame} {meth : Method} {c : Code} {g : kG} (hX : Cok (p, l, e, { frames := 2 * 12, cells := 0, slots := 0, locals := 60 * 12 }, s, m, args, below, meth, c, cX12_order, 3, RX12, g, 12)) (hr : meth.sig.returnType = none) (N : Nat) : ∀ (M : kMem) (a0 : Nat), GG (p, l, e, { frames := 2 * 12, cells := 0, slots := 0, locals := 60 * 12 }, s, m, args, below, meth, c, cX12_order, 3, RX12, g, 12) (fun b => MQ below (kQ g ((fun r : kMem => (none, r)) b)) args s 0 0 (kZ g.2.2.1)) 0 0 (F_X12_order_45 N M a0) 45 [(0, .ref a0)] [] M := by
  intro M a0
  unfold F_X12_order_45
  refine g_aload_n 46 0 hX dX12_order_45 rfl rfl ?_
  refine r_X12_209 49 hX dX12_order_46 rfl ?_
  refine g_if_eq 53 52 hX dX12_order_49 (by decide) rfl (fun _ => ?_) (fun _ => ?_)
  · refine g_aload_n 54 0 hX dX12_order_53 rfl rfl ?_
    refine r_X12_194 57 hX dX12_order_54 rfl ?_
    refine g_klL (fun v3 hv3 => ?_)
    refine g_lstore_n 58 1 [(1, .long v3), (0, .ref a0)] hX dX12_order_57 rfl rfl (Nat.le_of_ble_eq_true rfl) rfl ?_
    refine g_aload_n 59 1 hX dX12_order_58 rfl rfl ?_
    refine g_callV_v 62 hX (k_X12_goesOn l g N M a0) lk_X12_goesOn rfl (ci := 12) rfl (Nat.le_of_ble_eq_true rfl) q_1860 q_53 (by omega) rfl (Nat.le_of_ble_eq_true rfl) (Nat.zero_le _) (Nat.zero_le _) dX12_order_59 rfl (fun M4 => ?_)
    refine g_lload_n 63 0 hX dX12_order_62 rfl rfl ?_
    refine g_ldc2 66 hX 609752116 dX12_order_63 rfl q_1960 ?_
    refine g_lcmp 67 hX dX12_order_66 rfl ?_
    refine g_if_ne 75 70 hX dX12_order_67 (by decide) rfl (fun _ => ?_) (fun _ => ?_)
    · refine g_aload_n 76 1 hX dX12_order_75 rfl rfl ?_
      refine g_lload_n 77 0 hX dX12_order_76 rfl rfl ?_
      refine g_callV_v 80 hX (k_X12_does l g N M4 a0 v3) lk_X12_does rfl (ci := 12) rfl (Nat.le_of_ble_eq_true rfl) q_1965 q_74 (by omega) rfl (Nat.le_of_ble_eq_true rfl) (Nat.zero_le _) (Nat.zero_le _) dX12_order_77 rfl (fun M5 => ?_)
      refine g_aload_n 81 1 hX dX12_order_80 rfl rfl ?_
      refine g_bipush 83 hX 59 dX12_order_81 rfl kc_b_59 ?_
      refine g_callV_v 86 hX (k_X12_sign l g N M5 a0 59) lk_X12_sign rfl (ci := 12) rfl (Nat.le_of_ble_eq_true rfl) q_1869 q_55 (by omega) rfl (Nat.le_of_ble_eq_true rfl) (Nat.zero_le _) (Nat.zero_le _) dX12_order_83 rfl (fun M6 => ?_)
      exact g_vret hX hr rfl (Nat.le_refl 0) (Nat.le_refl 0) dX12_order_86
    · refine g_aload_n 71 1 hX dX12_order_70 rfl rfl ?_
      refine g_callV_v 74 hX (k_X12_againOrder l g N M4 a0) lk_X12_againOrder rfl (ci := 12) rfl (Nat.le_of_ble_eq_true rfl) q_1961 q_73 (by omega) rfl (Nat.le_of_ble_eq_true rfl) (Nat.zero_le _) (Nat.zero_le _) dX12_order_71 rfl (fun M7 => ?_)
      exact g_vret hX hr rfl (Nat.le_refl 0) (Nat.le_refl 0) dX12_order_74
  · exact g_vret hX hr rfl (Nat.le_refl 0) (Nat.le_refl 0) dX12_order_52
set_option maxRecDepth 100000 in
set_option maxHeartbeats 4000000 in
theorem k_X12_order_31 {p : Program} {l : Launch} {e : Env} {s : State} {m : MethodId} {args : Array Value} {below : List Frame} {meth : Method} {c : Code} {g : kG} (hX : Cok (p, l, e, { frames := 2 * 12, cells := 0, slots := 0, locals := 60 * 12 }, s, m, args, below, meth, c, cX12_order, 3, RX12, g, 12)) (hr : meth.sig.returnType = none) (N : Nat) : ∀ (M : kMem) (a0 : Nat) (y0 : Nat) (y1 : Int32), GG (p, l, e, { frames := 2 * 12, cells := 0, slots := 0, locals := 60 * 12 }, s, m, args, below, meth, c, cX12_order, 3, RX12, g, 12) (fun b => MQ below (kQ g ((fun r : kMem => (none, r)) b)) args s 0 0 (kZ g.2.2.1)) 0 0 (F_X12_order_31 N M a0 y0 y1) 31 [(0, .ref a0)] [.int y1, .ref y0] M := by
  intro M a0 y0 y1
  unfold F_X12_order_31
  refine g_iconst 32 hX 5 dX12_order_31 rfl kc_i_5 ?_
  refine g_callV_v 35 hX (k_X12_must l g N M y0 y1 5) lk_X12_must rfl (ci := 12) rfl (Nat.le_of_ble_eq_true rfl) q_1856 q_52 (by omega) rfl (Nat.le_of_ble_eq_true rfl) (Nat.zero_le _) (Nat.zero_le _) dX12_order_32 rfl (fun M8 => ?_)
  refine g_aload_n 36 0 hX dX12_order_35 rfl rfl ?_
  refine g_dup 37 hX dX12_order_36 rfl rfl ?_
  refine r_X12_395 40 hX dX12_order_37 rfl ?_
  refine g_iconst 41 hX 1 dX12_order_40 rfl kc_i_1 ?_
  refine g_iadd 42 hX dX12_order_41 rfl ?_
  refine p_X12_395 45 hX dX12_order_42 rfl ?_
  refine g_klM (fun M9 hM9 => ?_)
  exact k_X12_order_45 hX hr N M9 a0
set_option maxRecDepth 100000 in
set_option maxHeartbeats 4000000 in
theorem k_X12_order (l : Launch) (g : kG) (N : Nat) (M : kMem) (a0 : Nat) : kMet l g yX12_order cX12_order 3 none 12 0 0 [.ref a0] M (fun r : kMem => (none, r)) (F_X12_order N M a0) := by
  refine k_of (lv := [(0, .ref a0)]) RX12 (by decide) rfl rfl (Nat.le_of_ble_eq_true rfl) ?_
  intro p e s m args below meth c hX hr _
  unfold F_X12_order
  refine g_aload_n 1 0 hX dX12_order_0 rfl rfl ?_
  refine g_aload_n 2 0 hX dX12_order_1 rfl rfl ?_
  refine g_callV_ip 5 hX (k_X12_isOrder l g N M a0) lk_X12_isOrder rfl (ci := 12) rfl (Nat.le_of_ble_eq_true rfl) q_1949 q_72 (by omega) rfl (Nat.le_of_ble_eq_true rfl) (Nat.zero_le _) (Nat.zero_le _) dX12_order_2 rfl (fun r1 => ?_)
  refine g_iconst 6 hX 1 dX12_order_5 rfl kc_i_1 ?_
  refine g_callV_v 9 hX (k_X12_must l g N M a0 r1 1) lk_X12_must rfl (ci := 12) rfl (Nat.le_of_ble_eq_true rfl) q_1856 q_52 (by omega) rfl (Nat.le_of_ble_eq_true rfl) (Nat.zero_le _) (Nat.zero_le _) dX12_order_6 rfl (fun M2 => ?_)
  refine g_aload_n 10 0 hX dX12_order_9 rfl rfl ?_
  refine r_X12_314 13 hX dX12_order_10 rfl ?_
  refine g_if_ne 45 16 hX dX12_order_13 (by decide) rfl (fun _ => ?_) (fun _ => ?_)
  · exact k_X12_order_45 hX hr N M2 a0
  · refine g_aload_n 17 0 hX dX12_order_16 rfl rfl ?_
    refine g_aload_n 18 0 hX dX12_order_17 rfl rfl ?_
    refine r_X12_395 21 hX dX12_order_18 rfl ?_
    refine g_bipush 23 hX 30 dX12_order_21 rfl kc_b_30 ?_
    refine g_icmp_ge 30 26 hX dX12_order_23 (by decide) rfl (fun _ => ?_) (fun _ => ?_)
    · refine g_iconst 31 hX 0 dX12_order_30 rfl kc_i_0 ?_
      exact k_X12_order_31 hX hr N M2 a0 a0 0
    · refine g_iconst 27 hX 1 dX12_order_26 rfl kc_i_1 ?_
      refine g_goto 31 hX dX12_order_27 (by decide) ?_
      exact k_X12_order_31 hX hr N M2 a0 a0 1
def F_X12_goesThrough_73 (N : Nat) (M : kMem) (a0 : Nat) : Option (kMem) :=
    kg (kt M a0 12) <|
    if (kI M a0 22) = 0 then (
      kg (kt M a0 12) <|
      if (kI M a0 24) = 0 then (
        kg (kt M a0 12) <| (F_X12_must N M a0 1 1).bind fun M9 =>
        some M9) else
      kg (kt M a0 12) <| (F_X12_must N M a0 0 1).bind fun M8 =>
      some M8) else
    kg (kt M a0 12) <| (F_X12_must N M a0 1 1).bind fun M7 =>
    some M7
def F_X12_goesThrough_29 (N : Nat) : Nat → kMem → Nat → Option (kMem)
  | 0, _, _ => none
  | n + 1, M, a0 =>
    kg (kt M a0 12) <|
    if (kI M a0 16) = 0 then (
      kg (kt M a0 12) <|
      if (kI M a0 22) = 0 then (
        kg (kt M a0 12) <|
        if (kI M a0 14) = 0 then (
          F_X12_goesThrough_73 N M a0) else
        kg (kt M a0 12) <| (F_X12_isSign N M a0 41).bind fun r10 =>
        if r10 = 0 then (
          kg (kt M a0 12) <| (F_X12_order N M a0).bind fun M11 =>
          F_X12_goesThrough_29 N n M11 a0) else
        kg (kt M a0 12) <| (F_X12_closes N M a0).bind fun M12 =>
        F_X12_goesThrough_29 N n M12 a0) else
      F_X12_goesThrough_73 N M a0) else
    F_X12_goesThrough_73 N M a0
def F_X12_goesThrough (N : Nat) (M : kMem) (a0 : Nat) (x1 : Int32) : Option (kMem) :=
    kg (kt M a0 12 && (x1 == 0 || x1 == 1)) <| kl (ksI M a0 21 x1) fun M1 =>
    kg (kt M1 a0 12 && ((0 : Int32) == 0 || (0 : Int32) == 1)) <| kl (ksI M1 a0 22 0) fun M2 =>
    kg (kt M2 a0 12) <| kl (ksI M2 a0 23 0) fun M3 =>
    kg (kt M3 a0 12) <| kl (ksI M3 a0 24 0) fun M4 =>
    kg (kt M4 a0 12) <| kl (ksI M4 a0 25 0) fun M5 =>
    kg (kt M5 a0 12) <| (F_X12_starts N M5 a0).bind fun M6 =>
    F_X12_goesThrough_29 N N M6 a0
set_option maxRecDepth 100000 in
set_option maxHeartbeats 4000000 in
theorem k_X12_goesThrough_73 {p : Program} {l : Launch} {e : Env} {s : State} {m : MethodId} {args : Array Value} {below : List Frame} {meth : Method} {c : Code} {g : kG} (hX : Cok (p, l, e, { frames := 2 * 13, cells := 0, slots := 0, locals := 60 * 13 }, s, m, args, below, meth, c, cX12_goesThrough, 2, RX12, g, 13)) (hr : meth.sig.returnType = none) (N : Nat) : ∀ (M : kMem) (a0 : Nat), GG (p, l, e, { frames := 2 * 13, cells := 0, slots := 0, locals := 60 * 13 }, s, m, args, below, meth, c, cX12_goesThrough, 2, RX12, g, 13) (fun b => MQ below (kQ g ((fun r : kMem => (none, r)) b)) args s 0 0 (kZ g.2.2.1)) 0 0 (F_X12_goesThrough_73 N M a0) 73 [(0, .ref a0)] [] M := by
  intro M a0
  unfold F_X12_goesThrough_73
  refine g_aload_n 74 0 hX dX12_goesThrough_73 rfl rfl ?_
  refine g_aload_n 75 0 hX dX12_goesThrough_74 rfl rfl ?_
  refine r_X12_318 78 hX dX12_goesThrough_75 rfl ?_
  refine g_if_ne 88 81 hX dX12_goesThrough_78 (by decide) rfl (fun _ => ?_) (fun _ => ?_)
  · refine g_iconst 89 hX 1 dX12_goesThrough_88 rfl kc_i_1 ?_
    refine g_goto 93 hX dX12_goesThrough_89 (by decide) ?_
    refine g_iconst 94 hX 1 dX12_goesThrough_93 rfl kc_i_1 ?_
    refine g_callV_v 97 hX (k_X12_must l g N M a0 1 1) lk_X12_must rfl (ci := 12) rfl (Nat.le_of_ble_eq_true rfl) q_1856 q_52 (by omega) rfl (Nat.le_of_ble_eq_true rfl) (Nat.zero_le _) (Nat.zero_le _) dX12_goesThrough_94 rfl (fun M7 => ?_)
    exact g_vret hX hr rfl (Nat.le_refl 0) (Nat.le_refl 0) dX12_goesThrough_97
  · refine g_aload_n 82 0 hX dX12_goesThrough_81 rfl rfl ?_
    refine r_X12_374 85 hX dX12_goesThrough_82 rfl ?_
    refine g_if_ne 92 88 hX dX12_goesThrough_85 (by decide) rfl (fun _ => ?_) (fun _ => ?_)
    · refine g_iconst 93 hX 0 dX12_goesThrough_92 rfl kc_i_0 ?_
      refine g_iconst 94 hX 1 dX12_goesThrough_93 rfl kc_i_1 ?_
      refine g_callV_v 97 hX (k_X12_must l g N M a0 0 1) lk_X12_must rfl (ci := 12) rfl (Nat.le_of_ble_eq_true rfl) q_1856 q_52 (by omega) rfl (Nat.le_of_ble_eq_true rfl) (Nat.zero_le _) (Nat.zero_le _) dX12_goesThrough_94 rfl (fun M8 => ?_)
      exact g_vret hX hr rfl (Nat.le_refl 0) (Nat.le_refl 0) dX12_goesThrough_97
    · refine g_iconst 89 hX 1 dX12_goesThrough_88 rfl kc_i_1 ?_
      refine g_goto 93 hX dX12_goesThrough_89 (by decide) ?_
      refine g_iconst 94 hX 1 dX12_goesThrough_93 rfl kc_i_1 ?_
      refine g_callV_v 97 hX (k_X12_must l g N M a0 1 1) lk_X12_must rfl (ci := 12) rfl (Nat.le_of_ble_eq_true rfl) q_1856 q_52 (by omega) rfl (Nat.le_of_ble_eq_true rfl) (Nat.zero_le _) (Nat.zero_le _) dX12_goesThrough_94 rfl (fun M9 => ?_)
      exact g_vret hX hr rfl (Nat.le_refl 0) (Nat.le_refl 0) dX12_goesThrough_97
set_option maxRecDepth 100000 in
set_option maxHeartbeats 4000000 in
theorem k_X12_goesThrough_29 {p : Program} {l : Launch} {e : Env} {s : State} {m : MethodId} {args : Array Value} {below : List Frame} {meth : Method} {c : Code} {g : kG} (hX : Cok (p, l, e, { frames := 2 * 13, cells := 0, slots := 0, locals := 60 * 13 }, s, m, args, below, meth, c, cX12_goesThrough, 2, RX12, g, 13)) (hr : meth.sig.returnType = none) (N : Nat) : ∀ (n : Nat) (M : kMem) (a0 : Nat), GG (p, l, e, { frames := 2 * 13, cells := 0, slots := 0, locals := 60 * 13 }, s, m, args, below, meth, c, cX12_goesThrough, 2, RX12, g, 13) (fun b => MQ below (kQ g ((fun r : kMem => (none, r)) b)) args s 0 0 (kZ g.2.2.1)) 0 0 (F_X12_goesThrough_29 N n M a0) 29 [(0, .ref a0)] [] M := by
  intro n
  induction n with
  | zero => intro _ _; exact g_none
  | succ n ih =>
    intro M a0
    unfold F_X12_goesThrough_29
    refine g_aload_n 30 0 hX dX12_goesThrough_29 rfl rfl ?_
    refine r_X12_209 33 hX dX12_goesThrough_30 rfl ?_
    refine g_if_ne 73 36 hX dX12_goesThrough_33 (by decide) rfl (fun _ => ?_) (fun _ => ?_)
    · exact k_X12_goesThrough_73 hX hr N M a0
    · refine g_aload_n 37 0 hX dX12_goesThrough_36 rfl rfl ?_
      refine r_X12_318 40 hX dX12_goesThrough_37 rfl ?_
      refine g_if_ne 73 43 hX dX12_goesThrough_40 (by decide) rfl (fun _ => ?_) (fun _ => ?_)
      · exact k_X12_goesThrough_73 hX hr N M a0
      · refine g_aload_n 44 0 hX dX12_goesThrough_43 rfl rfl ?_
        refine r_X12_188 47 hX dX12_goesThrough_44 rfl ?_
        refine g_if_eq 73 50 hX dX12_goesThrough_47 (by decide) rfl (fun _ => ?_) (fun _ => ?_)
        · exact k_X12_goesThrough_73 hX hr N M a0
        · refine g_aload_n 51 0 hX dX12_goesThrough_50 rfl rfl ?_
          refine g_bipush 53 hX 41 dX12_goesThrough_51 rfl kc_b_41 ?_
          refine g_callV_ip 56 hX (k_X12_isSign l g N M a0 41) lk_X12_isSign rfl (ci := 12) rfl (Nat.le_of_ble_eq_true rfl) q_1873 q_56 (by omega) rfl (Nat.le_of_ble_eq_true rfl) (Nat.zero_le _) (Nat.zero_le _) dX12_goesThrough_53 rfl (fun r10 => ?_)
          refine g_if_eq 66 59 hX dX12_goesThrough_56 (by decide) rfl (fun _ => ?_) (fun _ => ?_)
          · refine g_aload_n 67 0 hX dX12_goesThrough_66 rfl rfl ?_
            refine g_callV_v 70 hX (k_X12_order l g N M a0) lk_X12_order rfl (ci := 12) rfl (Nat.le_of_ble_eq_true rfl) q_1945 q_71 (by omega) rfl (Nat.le_of_ble_eq_true rfl) (Nat.zero_le _) (Nat.zero_le _) dX12_goesThrough_67 rfl (fun M11 => ?_)
            refine g_goto 29 hX dX12_goesThrough_70 (by decide) ?_
            exact ih M11 a0
          · refine g_aload_n 60 0 hX dX12_goesThrough_59 rfl rfl ?_
            refine g_callV_v 63 hX (k_X12_closes l g N M a0) lk_X12_closes rfl (ci := 12) rfl (Nat.le_of_ble_eq_true rfl) q_1941 q_70 (by omega) rfl (Nat.le_of_ble_eq_true rfl) (Nat.zero_le _) (Nat.zero_le _) dX12_goesThrough_60 rfl (fun M12 => ?_)
            refine g_goto 29 hX dX12_goesThrough_63 (by decide) ?_
            exact ih M12 a0
set_option maxRecDepth 100000 in
set_option maxHeartbeats 4000000 in
theorem k_X12_goesThrough (l : Launch) (g : kG) (N : Nat) (M : kMem) (a0 : Nat) (x1 : Int32) : kMet l g yX12_goesThrough cX12_goesThrough 2 none 13 0 0 [.ref a0, .int x1] M (fun r : kMem => (none, r)) (F_X12_goesThrough N M a0 x1) := by
  refine k_of (lv := [(0, .ref a0), (1, .int x1)]) RX12 (by decide) rfl rfl (Nat.le_of_ble_eq_true rfl) ?_
  intro p e s m args below meth c hX hr _
  unfold F_X12_goesThrough
  refine g_aload_n 1 0 hX dX12_goesThrough_0 rfl rfl ?_
  refine g_iload_n 2 1 hX dX12_goesThrough_1 rfl rfl ?_
  refine p_X12_314 5 hX dX12_goesThrough_2 rfl ?_
  refine g_klM (fun M1 hM1 => ?_)
  refine g_aload_n 6 0 hX dX12_goesThrough_5 rfl rfl ?_
  refine g_iconst 7 hX 0 dX12_goesThrough_6 rfl kc_i_0 ?_
  refine p_X12_318 10 hX dX12_goesThrough_7 rfl ?_
  refine g_klM (fun M2 hM2 => ?_)
  refine g_aload_n 11 0 hX dX12_goesThrough_10 rfl rfl ?_
  refine g_iconst 12 hX 0 dX12_goesThrough_11 rfl kc_i_0 ?_
  refine p_X12_395 15 hX dX12_goesThrough_12 rfl ?_
  refine g_klM (fun M3 hM3 => ?_)
  refine g_aload_n 16 0 hX dX12_goesThrough_15 rfl rfl ?_
  refine g_iconst 17 hX 0 dX12_goesThrough_16 rfl kc_i_0 ?_
  refine p_X12_374 20 hX dX12_goesThrough_17 rfl ?_
  refine g_klM (fun M4 hM4 => ?_)
  refine g_aload_n 21 0 hX dX12_goesThrough_20 rfl rfl ?_
  refine g_iconst 22 hX 0 dX12_goesThrough_21 rfl kc_i_0 ?_
  refine p_X12_321 25 hX dX12_goesThrough_22 rfl ?_
  refine g_klM (fun M5 hM5 => ?_)
  refine g_aload_n 26 0 hX dX12_goesThrough_25 rfl rfl ?_
  refine g_callV_v 29 hX (k_X12_starts l g N M5 a0) lk_X12_starts rfl (ci := 12) rfl (Nat.le_of_ble_eq_true rfl) q_1822 q_47 (by omega) rfl (Nat.le_of_ble_eq_true rfl) (Nat.zero_le _) (Nat.zero_le _) dX12_goesThrough_26 rfl (fun M6 => ?_)
  refine g_lv [0] rfl ?_
  exact k_X12_goesThrough_29 hX hr N N M6 a0
def F_X12_keepsPast_50 (N : Nat) (M : kMem) (a0 : Nat) : Option (kMem) :=
    kg (kt M a0 12) <|
    kg (kt M a0 12) <|
    kg (kt M a0 12) <|
    (F_X12_copies N M (kR M a0 0) 0 (kR M a0 2) (293 * (kI M a0 5))).bind fun M1 =>
    kg (kt M1 a0 12) <|
    kg (kt M1 a0 12) <| kl (ksI M1 a0 5 ((kI M1 a0 5) + 1)) fun M2 =>
    some M2
def F_X12_keepsPast_11 (N : Nat) : Nat → kMem → Nat → Int32 → Option (kMem)
  | 0, _, _, _ => none
  | n + 1, M, a0, x1 =>
    if x1 < 2051 then (
      kg (kt M a0 12) <|
      kg (kt M a0 12) <|
      kg (kin M (kR M a0 2) 13 (x1 + 293)) <|
      kg (kin M (kR M a0 2) 13 x1) <| kl (ksI M (kR M a0 2) (kx x1) (kI M (kR M a0 2) (kx (x1 + 293)))) fun M4 =>
      kl (x1 + 1) fun v5 =>
      F_X12_keepsPast_11 N n M4 a0 v5) else
    kg (kt M a0 12) <|
    kg (kt M a0 12) <| kl (ksI M a0 5 ((kI M a0 5) - 1)) fun M3 =>
    F_X12_keepsPast_50 N M3 a0
def F_X12_keepsPast (N : Nat) (M : kMem) (a0 : Nat) : Option (kMem) :=
    kg (kt M a0 12) <|
    if (kI M a0 5) = 8 then (
      F_X12_keepsPast_11 N N M a0 0) else
    F_X12_keepsPast_50 N M a0
set_option maxRecDepth 100000 in
set_option maxHeartbeats 4000000 in
theorem k_X12_keepsPast_50 {p : Program} {l : Launch} {e : Env} {s : State} {m : MethodId} {args : Array Value} {below : List Frame} {meth : Method} {c : Code} {g : kG} (hX : Cok (p, l, e, { frames := 2 * 2, cells := 0, slots := 0, locals := 60 * 2 }, s, m, args, below, meth, c, cX12_keepsPast, 2, RX12, g, 2)) (hr : meth.sig.returnType = none) (N : Nat) : ∀ (M : kMem) (a0 : Nat), GG (p, l, e, { frames := 2 * 2, cells := 0, slots := 0, locals := 60 * 2 }, s, m, args, below, meth, c, cX12_keepsPast, 2, RX12, g, 2) (fun b => MQ below (kQ g ((fun r : kMem => (none, r)) b)) args s 0 0 (kZ g.2.2.1)) 0 0 (F_X12_keepsPast_50 N M a0) 50 [(0, .ref a0)] [] M := by
  intro M a0
  unfold F_X12_keepsPast_50
  refine g_aload_n 51 0 hX dX12_keepsPast_50 rfl rfl ?_
  refine r_X12_7 54 hX dX12_keepsPast_51 rfl ?_
  refine g_iconst 55 hX 0 dX12_keepsPast_54 rfl kc_i_0 ?_
  refine g_aload_n 56 0 hX dX12_keepsPast_55 rfl rfl ?_
  refine r_X12_16 59 hX dX12_keepsPast_56 rfl ?_
  refine g_sipush 62 hX 293 dX12_keepsPast_59 rfl kc_s_293 ?_
  refine g_aload_n 63 0 hX dX12_keepsPast_62 rfl rfl ?_
  refine r_X12_295 66 hX dX12_keepsPast_63 rfl ?_
  refine g_imul 67 hX dX12_keepsPast_66 rfl ?_
  refine g_callS_v 70 hX (k_X12_copies l g N M (kR M a0 0) 0 (kR M a0 2) (293 * (kI M a0 5))) lk_X12_copies q_1819 (by omega) rfl (Nat.le_of_ble_eq_true rfl) (Nat.zero_le _) (Nat.zero_le _) dX12_keepsPast_67 rfl (fun M1 => ?_)
  refine g_aload_n 71 0 hX dX12_keepsPast_70 rfl rfl ?_
  refine g_dup 72 hX dX12_keepsPast_71 rfl rfl ?_
  refine r_X12_295 75 hX dX12_keepsPast_72 rfl ?_
  refine g_iconst 76 hX 1 dX12_keepsPast_75 rfl kc_i_1 ?_
  refine g_iadd 77 hX dX12_keepsPast_76 rfl ?_
  refine p_X12_295 80 hX dX12_keepsPast_77 rfl ?_
  refine g_klM (fun M2 hM2 => ?_)
  exact g_vret hX hr rfl (Nat.le_refl 0) (Nat.le_refl 0) dX12_keepsPast_80
set_option maxRecDepth 100000 in
set_option maxHeartbeats 4000000 in
theorem k_X12_keepsPast_11 {p : Program} {l : Launch} {e : Env} {s : State} {m : MethodId} {args : Array Value} {below : List Frame} {meth : Method} {c : Code} {g : kG} (hX : Cok (p, l, e, { frames := 2 * 2, cells := 0, slots := 0, locals := 60 * 2 }, s, m, args, below, meth, c, cX12_keepsPast, 2, RX12, g, 2)) (hr : meth.sig.returnType = none) (N : Nat) : ∀ (n : Nat) (M : kMem) (a0 : Nat) (x1 : Int32), GG (p, l, e, { frames := 2 * 2, cells := 0, slots := 0, locals := 60 * 2 }, s, m, args, below, meth, c, cX12_keepsPast, 2, RX12, g, 2) (fun b => MQ below (kQ g ((fun r : kMem => (none, r)) b)) args s 0 0 (kZ g.2.2.1)) 0 0 (F_X12_keepsPast_11 N n M a0 x1) 11 [(0, .ref a0), (1, .int x1)] [] M := by
  intro n
  induction n with
  | zero => intro _ _ _; exact g_none
  | succ n ih =>
    intro M a0 x1
    unfold F_X12_keepsPast_11
    refine g_iload_n 12 1 hX dX12_keepsPast_11 rfl rfl ?_
    refine g_sipush 15 hX 2051 dX12_keepsPast_12 rfl kc_s_2051 ?_
    refine g_icmp_ge 40 18 hX dX12_keepsPast_15 (by decide) rfl (fun _ => ?_) (fun _ => ?_)
    · refine g_aload_n 41 0 hX dX12_keepsPast_40 rfl rfl ?_
      refine g_dup 42 hX dX12_keepsPast_41 rfl rfl ?_
      refine r_X12_295 45 hX dX12_keepsPast_42 rfl ?_
      refine g_iconst 46 hX 1 dX12_keepsPast_45 rfl kc_i_1 ?_
      refine g_isub 47 hX dX12_keepsPast_46 rfl ?_
      refine p_X12_295 50 hX dX12_keepsPast_47 rfl ?_
      refine g_klM (fun M3 hM3 => ?_)
      refine g_lv [0] rfl ?_
      exact k_X12_keepsPast_50 hX hr N M3 a0
    · refine g_aload_n 19 0 hX dX12_keepsPast_18 rfl rfl ?_
      refine r_X12_16 22 hX dX12_keepsPast_19 rfl ?_
      refine g_iload_n 23 1 hX dX12_keepsPast_22 rfl rfl ?_
      refine g_aload_n 24 0 hX dX12_keepsPast_23 rfl rfl ?_
      refine r_X12_16 27 hX dX12_keepsPast_24 rfl ?_
      refine g_iload_n 28 1 hX dX12_keepsPast_27 rfl rfl ?_
      refine g_sipush 31 hX 293 dX12_keepsPast_28 rfl kc_s_293 ?_
      refine g_iadd 32 hX dX12_keepsPast_31 rfl ?_
      refine g_iald 33 hX dX12_keepsPast_32 rfl ?_
      refine g_iast 34 hX dX12_keepsPast_33 rfl ?_
      refine g_klM (fun M4 hM4 => ?_)
      refine g_kl (fun v5 hv5 => ?_)
      refine g_iinc 37 1 1 v5 [(1, .int v5), (0, .ref a0)] hX dX12_keepsPast_34 rfl rfl (by rw [hv5, kc_i_1]) (Nat.le_of_ble_eq_true rfl) rfl ?_
      refine g_goto 11 hX dX12_keepsPast_37 (by decide) ?_
      refine g_lv [1, 0] rfl ?_
      exact ih M4 a0 v5
set_option maxRecDepth 100000 in
set_option maxHeartbeats 4000000 in
theorem k_X12_keepsPast (l : Launch) (g : kG) (N : Nat) (M : kMem) (a0 : Nat) : kMet l g yX12_keepsPast cX12_keepsPast 2 none 2 0 0 [.ref a0] M (fun r : kMem => (none, r)) (F_X12_keepsPast N M a0) := by
  refine k_of (lv := [(0, .ref a0)]) RX12 (by decide) rfl rfl (Nat.le_of_ble_eq_true rfl) ?_
  intro p e s m args below meth c hX hr _
  unfold F_X12_keepsPast
  refine g_aload_n 1 0 hX dX12_keepsPast_0 rfl rfl ?_
  refine r_X12_295 4 hX dX12_keepsPast_1 rfl ?_
  refine g_bipush 6 hX 8 dX12_keepsPast_4 rfl kc_b_8 ?_
  refine g_icmp_ne 50 9 hX dX12_keepsPast_6 (by decide) rfl (fun _ => ?_) (fun _ => ?_)
  · exact k_X12_keepsPast_50 hX hr N M a0
  · refine g_iconst 10 hX 0 dX12_keepsPast_9 rfl kc_i_0 ?_
    refine g_istore_n 11 1 [(1, .int 0), (0, .ref a0)] hX dX12_keepsPast_10 rfl rfl (Nat.le_of_ble_eq_true rfl) rfl ?_
    refine g_lv [1, 0] rfl ?_
    exact k_X12_keepsPast_11 hX hr N N M a0 0
def F_X12_runScript (N : Nat) (M : kMem) (a0 : Nat) : Option (Int32 × kMem) :=
    kg (kt M a0 12) <| kl (ksI M a0 6 0) fun M1 =>
    kg (kt M1 a0 12) <| (F_X12_takesText N M1 a0).bind fun M2 =>
    kg (kt M2 a0 12) <| (F_X12_goesThrough N M2 a0 0).bind fun M3 =>
    kg (kt M3 a0 12) <| (F_X12_tellsError N M3 a0).bind fun M4 =>
    kg (kt M4 a0 12) <|
    if (kI M4 a0 16) = 0 then (
      kg (kt M4 a0 12) <| (F_X12_keepsPast N M4 a0).bind fun M5 =>
      kg (kt M5 a0 12) <| (F_X12_goesThrough N M5 a0 1).bind fun M6 =>
      kg (kt M6 a0 12) <|
      some (kI M6 a0 25, M6)) else
    some ((-1), M4)
set_option maxRecDepth 100000 in
set_option maxHeartbeats 4000000 in
theorem k_X12_runScript (l : Launch) (g : kG) (N : Nat) (M : kMem) (a0 : Nat) : kMet l g yX12_runScript cX12_runScript 1 (some .int) 14 0 0 [.ref a0] M (fun r : Int32 × kMem => (some (.int r.1), r.2)) (F_X12_runScript N M a0) := by
  refine k_of (lv := [(0, .ref a0)]) RX12 (by decide) rfl rfl (Nat.le_of_ble_eq_true rfl) ?_
  intro p e s m args below meth c hX hr _
  unfold F_X12_runScript
  refine g_aload_n 1 0 hX dX12_runScript_0 rfl rfl ?_
  refine g_iconst 2 hX 0 dX12_runScript_1 rfl kc_i_0 ?_
  refine p_X12_63 5 hX dX12_runScript_2 rfl ?_
  refine g_klM (fun M1 hM1 => ?_)
  refine g_aload_n 6 0 hX dX12_runScript_5 rfl rfl ?_
  refine g_callV_v 9 hX (k_X12_takesText l g N M1 a0) lk_X12_takesText rfl (ci := 12) rfl (Nat.le_of_ble_eq_true rfl) q_1815 q_46 (by omega) rfl (Nat.le_of_ble_eq_true rfl) (Nat.zero_le _) (Nat.zero_le _) dX12_runScript_6 rfl (fun M2 => ?_)
  refine g_aload_n 10 0 hX dX12_runScript_9 rfl rfl ?_
  refine g_iconst 11 hX 0 dX12_runScript_10 rfl kc_i_0 ?_
  refine g_callV_v 14 hX (k_X12_goesThrough l g N M2 a0 0) lk_X12_goesThrough rfl (ci := 12) rfl (Nat.le_of_ble_eq_true rfl) q_1937 q_69 (by omega) rfl (Nat.le_of_ble_eq_true rfl) (Nat.zero_le _) (Nat.zero_le _) dX12_runScript_11 rfl (fun M3 => ?_)
  refine g_aload_n 15 0 hX dX12_runScript_14 rfl rfl ?_
  refine g_callV_v 18 hX (k_X12_tellsError l g N M3 a0) lk_X12_tellsError rfl (ci := 12) rfl (Nat.le_of_ble_eq_true rfl) q_1929 q_68 (by omega) rfl (Nat.le_of_ble_eq_true rfl) (Nat.zero_le _) (Nat.zero_le _) dX12_runScript_15 rfl (fun M4 => ?_)
  refine g_aload_n 19 0 hX dX12_runScript_18 rfl rfl ?_
  refine r_X12_209 22 hX dX12_runScript_19 rfl ?_
  refine g_if_eq 27 25 hX dX12_runScript_22 (by decide) rfl (fun _ => ?_) (fun _ => ?_)
  · refine g_aload_n 28 0 hX dX12_runScript_27 rfl rfl ?_
    refine g_callV_v 31 hX (k_X12_keepsPast l g N M4 a0) lk_X12_keepsPast rfl (ci := 12) rfl (Nat.le_of_ble_eq_true rfl) q_2122 q_111 (by omega) rfl (Nat.le_of_ble_eq_true rfl) (Nat.zero_le _) (Nat.zero_le _) dX12_runScript_28 rfl (fun M5 => ?_)
    refine g_aload_n 32 0 hX dX12_runScript_31 rfl rfl ?_
    refine g_iconst 33 hX 1 dX12_runScript_32 rfl kc_i_1 ?_
    refine g_callV_v 36 hX (k_X12_goesThrough l g N M5 a0 1) lk_X12_goesThrough rfl (ci := 12) rfl (Nat.le_of_ble_eq_true rfl) q_1937 q_69 (by omega) rfl (Nat.le_of_ble_eq_true rfl) (Nat.zero_le _) (Nat.zero_le _) dX12_runScript_33 rfl (fun M6 => ?_)
    refine g_aload_n 37 0 hX dX12_runScript_36 rfl rfl ?_
    refine r_X12_321 40 hX dX12_runScript_37 rfl ?_
    exact g_iret hX hr rfl (Nat.le_refl 0) (Nat.le_refl 0) dX12_runScript_40
  · refine g_iconst 26 hX (-1) dX12_runScript_25 rfl kc_i_m1 ?_
    exact g_iret hX hr rfl (Nat.le_refl 0) (Nat.le_refl 0) dX12_runScript_26
def F_X12_errorCode (N : Nat) (M : kMem) (a0 : Nat) : Option (Int32 × kMem) :=
    kg (kt M a0 12) <| kl (ksI M a0 6 0) fun M1 =>
    kg (kt M1 a0 12) <|
    some (kI M1 a0 18, M1)
set_option maxRecDepth 100000 in
set_option maxHeartbeats 4000000 in
theorem k_X12_errorCode (l : Launch) (g : kG) (N : Nat) (M : kMem) (a0 : Nat) : kMet l g yX12_errorCode cX12_errorCode 1 (some .int) 1 0 0 [.ref a0] M (fun r : Int32 × kMem => (some (.int r.1), r.2)) (F_X12_errorCode N M a0) := by
  refine k_of (lv := [(0, .ref a0)]) RX12 (by decide) rfl rfl (Nat.le_of_ble_eq_true rfl) ?_
  intro p e s m args below meth c hX hr _
  unfold F_X12_errorCode
  refine g_aload_n 1 0 hX dX12_errorCode_0 rfl rfl ?_
  refine g_iconst 2 hX 0 dX12_errorCode_1 rfl kc_i_0 ?_
  refine p_X12_63 5 hX dX12_errorCode_2 rfl ?_
  refine g_klM (fun M1 hM1 => ?_)
  refine g_aload_n 6 0 hX dX12_errorCode_5 rfl rfl ?_
  refine r_X12_276 9 hX dX12_errorCode_6 rfl ?_
  exact g_iret hX hr rfl (Nat.le_refl 0) (Nat.le_refl 0) dX12_errorCode_9
def F_X12_errorPosition (N : Nat) (M : kMem) (a0 : Nat) : Option (Int32 × kMem) :=
    kg (kt M a0 12) <| kl (ksI M a0 6 0) fun M1 =>
    kg (kt M1 a0 12) <|
    some (kI M1 a0 19, M1)
set_option maxRecDepth 100000 in
set_option maxHeartbeats 4000000 in
theorem k_X12_errorPosition (l : Launch) (g : kG) (N : Nat) (M : kMem) (a0 : Nat) : kMet l g yX12_errorPosition cX12_errorPosition 1 (some .int) 1 0 0 [.ref a0] M (fun r : Int32 × kMem => (some (.int r.1), r.2)) (F_X12_errorPosition N M a0) := by
  refine k_of (lv := [(0, .ref a0)]) RX12 (by decide) rfl rfl (Nat.le_of_ble_eq_true rfl) ?_
  intro p e s m args below meth c hX hr _
  unfold F_X12_errorPosition
  refine g_aload_n 1 0 hX dX12_errorPosition_0 rfl rfl ?_
  refine g_iconst 2 hX 0 dX12_errorPosition_1 rfl kc_i_0 ?_
  refine p_X12_63 5 hX dX12_errorPosition_2 rfl ?_
  refine g_klM (fun M1 hM1 => ?_)
  refine g_aload_n 6 0 hX dX12_errorPosition_5 rfl rfl ?_
  refine r_X12_35 9 hX dX12_errorPosition_6 rfl ?_
  exact g_iret hX hr rfl (Nat.le_refl 0) (Nat.le_refl 0) dX12_errorPosition_9
def F_X12_noTrader (N : Nat) (M : kMem) (a0 : Nat) (x1 : Int32) : Option (Int32 × kMem) :=
    kg (kt M a0 12) <|
    kg (kin M (kR M a0 0) 13 8) <|
    (F_X12_in N M x1.toInt64 0 (((kI M (kR M a0 0) (kx 8)) - 1).toInt64)).bind fun r1 =>
    if r1 = 0 then (
      kg (kt M a0 12) <| (F_X12_stops N M a0 1 1).bind fun r3 =>
      kg (r3.1 == 0 || r3.1 == 1) <| some (r3.1, r3.2)) else
    kg (kt M a0 12) <| (F_X12_stops N M a0 0 1).bind fun r2 =>
    kg (r2.1 == 0 || r2.1 == 1) <| some (r2.1, r2.2)
set_option maxRecDepth 100000 in
set_option maxHeartbeats 4000000 in
theorem k_X12_noTrader (l : Launch) (g : kG) (N : Nat) (M : kMem) (a0 : Nat) (x1 : Int32) : kMet l g yX12_noTrader cX12_noTrader 2 (some .boolean) 2 0 0 [.ref a0, .int x1] M (fun r : Int32 × kMem => (some (.int r.1), r.2)) (F_X12_noTrader N M a0 x1) := by
  refine k_of (lv := [(0, .ref a0), (1, .int x1)]) RX12 (by decide) rfl rfl (Nat.le_of_ble_eq_true rfl) ?_
  intro p e s m args below meth c hX hr _
  unfold F_X12_noTrader
  refine g_aload_n 1 0 hX dX12_noTrader_0 rfl rfl ?_
  refine g_iload_n 2 1 hX dX12_noTrader_1 rfl rfl ?_
  refine g_i2l 3 hX dX12_noTrader_2 rfl ?_
  refine g_lconst 4 hX 0 dX12_noTrader_3 rfl rfl ?_
  refine g_aload_n 5 0 hX dX12_noTrader_4 rfl rfl ?_
  refine r_X12_7 8 hX dX12_noTrader_5 rfl ?_
  refine g_bipush 10 hX 8 dX12_noTrader_8 rfl kc_b_8 ?_
  refine g_iald 11 hX dX12_noTrader_10 rfl ?_
  refine g_iconst 12 hX 1 dX12_noTrader_11 rfl kc_i_1 ?_
  refine g_isub 13 hX dX12_noTrader_12 rfl ?_
  refine g_i2l 14 hX dX12_noTrader_13 rfl ?_
  refine g_callS_ip 17 hX (k_X12_in l g N M x1.toInt64 0 (((kI M (kR M a0 0) (kx 8)) - 1).toInt64)) lk_X12_in q_1808 (by omega) rfl (Nat.le_of_ble_eq_true rfl) (Nat.zero_le _) (Nat.zero_le _) dX12_noTrader_14 rfl (fun r1 => ?_)
  refine g_if_ne 24 20 hX dX12_noTrader_17 (by decide) rfl (fun _ => ?_) (fun _ => ?_)
  · refine g_iconst 25 hX 0 dX12_noTrader_24 rfl kc_i_0 ?_
    refine g_iconst 26 hX 1 dX12_noTrader_25 rfl kc_i_1 ?_
    refine g_callV_i 29 hX (k_X12_stops l g N M a0 0 1) lk_X12_stops rfl (ci := 12) rfl (Nat.le_of_ble_eq_true rfl) q_1796 q_44 (by omega) rfl (Nat.le_of_ble_eq_true rfl) (Nat.zero_le _) (Nat.zero_le _) dX12_noTrader_26 rfl (fun r2 => ?_)
    exact g_zret hX hr rfl (Nat.le_refl 0) (Nat.le_refl 0) dX12_noTrader_29
  · refine g_iconst 21 hX 1 dX12_noTrader_20 rfl kc_i_1 ?_
    refine g_goto 25 hX dX12_noTrader_21 (by decide) ?_
    refine g_iconst 26 hX 1 dX12_noTrader_25 rfl kc_i_1 ?_
    refine g_callV_i 29 hX (k_X12_stops l g N M a0 1 1) lk_X12_stops rfl (ci := 12) rfl (Nat.le_of_ble_eq_true rfl) q_1796 q_44 (by omega) rfl (Nat.le_of_ble_eq_true rfl) (Nat.zero_le _) (Nat.zero_le _) dX12_noTrader_26 rfl (fun r3 => ?_)
    exact g_zret hX hr rfl (Nat.le_refl 0) (Nat.le_refl 0) dX12_noTrader_29
def F_X12_noBoard (N : Nat) (M : kMem) (a0 : Nat) (x1 : Int32) : Option (Int32 × kMem) :=
    kg (kt M a0 12) <|
    kg (kin M (kR M a0 0) 13 7) <|
    (F_X12_in N M x1.toInt64 0 (((kI M (kR M a0 0) (kx 7)) - 1).toInt64)).bind fun r1 =>
    if r1 = 0 then (
      kg (kt M a0 12) <| (F_X12_stops N M a0 1 1).bind fun r3 =>
      kg (r3.1 == 0 || r3.1 == 1) <| some (r3.1, r3.2)) else
    kg (kt M a0 12) <| (F_X12_stops N M a0 0 1).bind fun r2 =>
    kg (r2.1 == 0 || r2.1 == 1) <| some (r2.1, r2.2)
set_option maxRecDepth 100000 in
set_option maxHeartbeats 4000000 in
theorem k_X12_noBoard (l : Launch) (g : kG) (N : Nat) (M : kMem) (a0 : Nat) (x1 : Int32) : kMet l g yX12_noBoard cX12_noBoard 2 (some .boolean) 2 0 0 [.ref a0, .int x1] M (fun r : Int32 × kMem => (some (.int r.1), r.2)) (F_X12_noBoard N M a0 x1) := by
  refine k_of (lv := [(0, .ref a0), (1, .int x1)]) RX12 (by decide) rfl rfl (Nat.le_of_ble_eq_true rfl) ?_
  intro p e s m args below meth c hX hr _
  unfold F_X12_noBoard
  refine g_aload_n 1 0 hX dX12_noBoard_0 rfl rfl ?_
  refine g_iload_n 2 1 hX dX12_noBoard_1 rfl rfl ?_
  refine g_i2l 3 hX dX12_noBoard_2 rfl ?_
  refine g_lconst 4 hX 0 dX12_noBoard_3 rfl rfl ?_
  refine g_aload_n 5 0 hX dX12_noBoard_4 rfl rfl ?_
  refine r_X12_7 8 hX dX12_noBoard_5 rfl ?_
  refine g_bipush 10 hX 7 dX12_noBoard_8 rfl kc_b_7 ?_
  refine g_iald 11 hX dX12_noBoard_10 rfl ?_
  refine g_iconst 12 hX 1 dX12_noBoard_11 rfl kc_i_1 ?_
  refine g_isub 13 hX dX12_noBoard_12 rfl ?_
  refine g_i2l 14 hX dX12_noBoard_13 rfl ?_
  refine g_callS_ip 17 hX (k_X12_in l g N M x1.toInt64 0 (((kI M (kR M a0 0) (kx 7)) - 1).toInt64)) lk_X12_in q_1808 (by omega) rfl (Nat.le_of_ble_eq_true rfl) (Nat.zero_le _) (Nat.zero_le _) dX12_noBoard_14 rfl (fun r1 => ?_)
  refine g_if_ne 24 20 hX dX12_noBoard_17 (by decide) rfl (fun _ => ?_) (fun _ => ?_)
  · refine g_iconst 25 hX 0 dX12_noBoard_24 rfl kc_i_0 ?_
    refine g_iconst 26 hX 1 dX12_noBoard_25 rfl kc_i_1 ?_
    refine g_callV_i 29 hX (k_X12_stops l g N M a0 0 1) lk_X12_stops rfl (ci := 12) rfl (Nat.le_of_ble_eq_true rfl) q_1796 q_44 (by omega) rfl (Nat.le_of_ble_eq_true rfl) (Nat.zero_le _) (Nat.zero_le _) dX12_noBoard_26 rfl (fun r2 => ?_)
    exact g_zret hX hr rfl (Nat.le_refl 0) (Nat.le_refl 0) dX12_noBoard_29
  · refine g_iconst 21 hX 1 dX12_noBoard_20 rfl kc_i_1 ?_
    refine g_goto 25 hX dX12_noBoard_21 (by decide) ?_
    refine g_iconst 26 hX 1 dX12_noBoard_25 rfl kc_i_1 ?_
    refine g_callV_i 29 hX (k_X12_stops l g N M a0 1 1) lk_X12_stops rfl (ci := 12) rfl (Nat.le_of_ble_eq_true rfl) q_1796 q_44 (by omega) rfl (Nat.le_of_ble_eq_true rfl) (Nat.zero_le _) (Nat.zero_le _) dX12_noBoard_26 rfl (fun r3 => ?_)
    exact g_zret hX hr rfl (Nat.le_refl 0) (Nat.le_refl 0) dX12_noBoard_29
def F_X12_noSeat (N : Nat) (M : kMem) (a0 : Nat) (x1 : Int32) (x2 : Int32) : Option (Int32 × kMem) :=
    kg (kt M a0 12) <| (F_X12_noBoard N M a0 x1).bind fun r1 =>
    if r1.1 = 0 then (
      kg (kt r1.2 a0 12) <| (F_X12_isPosition N r1.2 a0 x1 x2).bind fun r2 =>
      if r2 = 0 then (
        kg (kt r1.2 a0 12) <| (F_X12_stops N r1.2 a0 1 1).bind fun r4 =>
        if r4.1 = 0 then (
          some (0, r4.2)) else
        some (1, r4.2)) else
      kg (kt r1.2 a0 12) <| (F_X12_stops N r1.2 a0 0 1).bind fun r3 =>
      if r3.1 = 0 then (
        some (0, r3.2)) else
      some (1, r3.2)) else
    some (1, r1.2)
set_option maxRecDepth 100000 in
set_option maxHeartbeats 4000000 in
theorem k_X12_noSeat (l : Launch) (g : kG) (N : Nat) (M : kMem) (a0 : Nat) (x1 : Int32) (x2 : Int32) : kMet l g yX12_noSeat cX12_noSeat 3 (some .boolean) 4 0 0 [.ref a0, .int x1, .int x2] M (fun r : Int32 × kMem => (some (.int r.1), r.2)) (F_X12_noSeat N M a0 x1 x2) := by
  refine k_of (lv := [(0, .ref a0), (1, .int x1), (2, .int x2)]) RX12 (by decide) rfl rfl (Nat.le_of_ble_eq_true rfl) ?_
  intro p e s m args below meth c hX hr _
  unfold F_X12_noSeat
  refine g_aload_n 1 0 hX dX12_noSeat_0 rfl rfl ?_
  refine g_iload_n 2 1 hX dX12_noSeat_1 rfl rfl ?_
  refine g_callV_i 5 hX (k_X12_noBoard l g N M a0 x1) lk_X12_noBoard rfl (ci := 12) rfl (Nat.le_of_ble_eq_true rfl) q_2156 q_115 (by omega) rfl (Nat.le_of_ble_eq_true rfl) (Nat.zero_le _) (Nat.zero_le _) dX12_noSeat_2 rfl (fun r1 => ?_)
  refine g_if_ne 30 8 hX dX12_noSeat_5 (by decide) rfl (fun _ => ?_) (fun _ => ?_)
  · refine g_iconst 31 hX 1 dX12_noSeat_30 rfl kc_i_1 ?_
    refine g_goto 35 hX dX12_noSeat_31 (by decide) ?_
    exact g_zretL hX hr rfl rfl (Nat.le_refl 0) (Nat.le_refl 0) dX12_noSeat_35
  · refine g_aload_n 9 0 hX dX12_noSeat_8 rfl rfl ?_
    refine g_aload_n 10 0 hX dX12_noSeat_9 rfl rfl ?_
    refine g_iload_n 11 1 hX dX12_noSeat_10 rfl rfl ?_
    refine g_iload_n 12 2 hX dX12_noSeat_11 rfl rfl ?_
    refine g_callV_ip 15 hX (k_X12_isPosition l g N r1.2 a0 x1 x2) lk_X12_isPosition rfl (ci := 12) rfl (Nat.le_of_ble_eq_true rfl) q_1996 q_81 (by omega) rfl (Nat.le_of_ble_eq_true rfl) (Nat.zero_le _) (Nat.zero_le _) dX12_noSeat_12 rfl (fun r2 => ?_)
    refine g_if_ne 22 18 hX dX12_noSeat_15 (by decide) rfl (fun _ => ?_) (fun _ => ?_)
    · refine g_iconst 23 hX 0 dX12_noSeat_22 rfl kc_i_0 ?_
      refine g_iconst 24 hX 1 dX12_noSeat_23 rfl kc_i_1 ?_
      refine g_callV_i 27 hX (k_X12_stops l g N r1.2 a0 0 1) lk_X12_stops rfl (ci := 12) rfl (Nat.le_of_ble_eq_true rfl) q_1796 q_44 (by omega) rfl (Nat.le_of_ble_eq_true rfl) (Nat.zero_le _) (Nat.zero_le _) dX12_noSeat_24 rfl (fun r3 => ?_)
      refine g_if_eq 34 30 hX dX12_noSeat_27 (by decide) rfl (fun _ => ?_) (fun _ => ?_)
      · refine g_iconst 35 hX 0 dX12_noSeat_34 rfl kc_i_0 ?_
        exact g_zretL hX hr rfl rfl (Nat.le_refl 0) (Nat.le_refl 0) dX12_noSeat_35
      · refine g_iconst 31 hX 1 dX12_noSeat_30 rfl kc_i_1 ?_
        refine g_goto 35 hX dX12_noSeat_31 (by decide) ?_
        exact g_zretL hX hr rfl rfl (Nat.le_refl 0) (Nat.le_refl 0) dX12_noSeat_35
    · refine g_iconst 19 hX 1 dX12_noSeat_18 rfl kc_i_1 ?_
      refine g_goto 23 hX dX12_noSeat_19 (by decide) ?_
      refine g_iconst 24 hX 1 dX12_noSeat_23 rfl kc_i_1 ?_
      refine g_callV_i 27 hX (k_X12_stops l g N r1.2 a0 1 1) lk_X12_stops rfl (ci := 12) rfl (Nat.le_of_ble_eq_true rfl) q_1796 q_44 (by omega) rfl (Nat.le_of_ble_eq_true rfl) (Nat.zero_le _) (Nat.zero_le _) dX12_noSeat_24 rfl (fun r4 => ?_)
      refine g_if_eq 34 30 hX dX12_noSeat_27 (by decide) rfl (fun _ => ?_) (fun _ => ?_)
      · refine g_iconst 35 hX 0 dX12_noSeat_34 rfl kc_i_0 ?_
        exact g_zretL hX hr rfl rfl (Nat.le_refl 0) (Nat.le_refl 0) dX12_noSeat_35
      · refine g_iconst 31 hX 1 dX12_noSeat_30 rfl kc_i_1 ?_
        refine g_goto 35 hX dX12_noSeat_31 (by decide) ?_
        exact g_zretL hX hr rfl rfl (Nat.le_refl 0) (Nat.le_refl 0) dX12_noSeat_35
def F_X12_wholeName_4 (N : Nat) (M : kMem) : Nat → Nat → Int32 → Int32 → Option (Int32)
  | 0, _, _, _ => none
  | n + 1, a0, x1, x2 =>
    kg (kt M a0 12) <|
    if x2 < (kI M a0 10) then (
      kg (kt M a0 12) <|
      kg (kin M (kR M a0 8) 13 x2) <|
      (F_X12_isSmall N M (kI M (kR M a0 8) (kx x2))).bind fun r1 =>
      if r1 = 0 then (
        some 0) else
      if x2 = 6 then (
        some 0) else
      kg (kt M a0 12) <|
      kg (kin M (kR M a0 8) 13 x2) <|
      kl (((32 * x1) + (kI M (kR M a0 8) (kx x2))) - 96) fun v2 =>
      kl (x2 + 1) fun v3 =>
      F_X12_wholeName_4 N M n a0 v2 v3) else
    some x1
def F_X12_wholeName (N : Nat) (M : kMem) (a0 : Nat) : Option (Int32) :=
    F_X12_wholeName_4 N M N a0 0 0
set_option maxRecDepth 100000 in
set_option maxHeartbeats 4000000 in
theorem k_X12_wholeName_4 {p : Program} {l : Launch} {e : Env} {s : State} {m : MethodId} {args : Array Value} {below : List Frame} {meth : Method} {c : Code} {g : kG} (hX : Cok (p, l, e, { frames := 2 * 3, cells := 0, slots := 0, locals := 60 * 3 }, s, m, args, below, meth, c, cX12_wholeName, 3, RX12, g, 3)) (hr : meth.sig.returnType = (some .int)) (N : Nat) (M : kMem) : ∀ (n : Nat) (a0 : Nat) (x1 : Int32) (x2 : Int32), GG (p, l, e, { frames := 2 * 3, cells := 0, slots := 0, locals := 60 * 3 }, s, m, args, below, meth, c, cX12_wholeName, 3, RX12, g, 3) (fun b => MQ below (kQ g ((fun r : Int32 => (some (.int r), M)) b)) args s 0 0 (kZ g.2.2.1)) 0 0 (F_X12_wholeName_4 N M n a0 x1 x2) 4 [(0, .ref a0), (1, .int x1), (2, .int x2)] [] M := by
  intro n
  induction n with
  | zero => intro _ _ _; exact g_none
  | succ n ih =>
    intro a0 x1 x2
    unfold F_X12_wholeName_4
    refine g_iload_n 5 2 hX dX12_wholeName_4 rfl rfl ?_
    refine g_aload_n 6 0 hX dX12_wholeName_5 rfl rfl ?_
    refine r_X12_155 9 hX dX12_wholeName_6 rfl ?_
    refine g_icmp_ge 53 12 hX dX12_wholeName_9 (by decide) rfl (fun _ => ?_) (fun _ => ?_)
    · refine g_iload_n 54 1 hX dX12_wholeName_53 rfl rfl ?_
      exact g_iret hX hr rfl (Nat.le_refl 0) (Nat.le_refl 0) dX12_wholeName_54
    · refine g_aload_n 13 0 hX dX12_wholeName_12 rfl rfl ?_
      refine r_X12_29 16 hX dX12_wholeName_13 rfl ?_
      refine g_iload_n 17 2 hX dX12_wholeName_16 rfl rfl ?_
      refine g_iald 18 hX dX12_wholeName_17 rfl ?_
      refine g_callS_ip 21 hX (k_X12_isSmall l g N M (kI M (kR M a0 8) (kx x2))) lk_X12_isSmall q_1834 (by omega) rfl (Nat.le_of_ble_eq_true rfl) (Nat.zero_le _) (Nat.zero_le _) dX12_wholeName_18 rfl (fun r1 => ?_)
      refine g_if_eq 30 24 hX dX12_wholeName_21 (by decide) rfl (fun _ => ?_) (fun _ => ?_)
      · refine g_iconst 31 hX 0 dX12_wholeName_30 rfl kc_i_0 ?_
        exact g_iret hX hr rfl (Nat.le_refl 0) (Nat.le_refl 0) dX12_wholeName_31
      · refine g_iload_n 25 2 hX dX12_wholeName_24 rfl rfl ?_
        refine g_bipush 27 hX 6 dX12_wholeName_25 rfl kc_b_6 ?_
        refine g_icmp_ne 32 30 hX dX12_wholeName_27 (by decide) rfl (fun _ => ?_) (fun _ => ?_)
        · refine g_bipush 34 hX 32 dX12_wholeName_32 rfl kc_b_32 ?_
          refine g_iload_n 35 1 hX dX12_wholeName_34 rfl rfl ?_
          refine g_imul 36 hX dX12_wholeName_35 rfl ?_
          refine g_aload_n 37 0 hX dX12_wholeName_36 rfl rfl ?_
          refine r_X12_29 40 hX dX12_wholeName_37 rfl ?_
          refine g_iload_n 41 2 hX dX12_wholeName_40 rfl rfl ?_
          refine g_iald 42 hX dX12_wholeName_41 rfl ?_
          refine g_iadd 43 hX dX12_wholeName_42 rfl ?_
          refine g_bipush 45 hX 96 dX12_wholeName_43 rfl kc_b_96 ?_
          refine g_isub 46 hX dX12_wholeName_45 rfl ?_
          refine g_klI (fun v2 hv2 => ?_)
          refine g_istore_n 47 1 [(1, .int v2), (0, .ref a0), (2, .int x2)] hX dX12_wholeName_46 rfl rfl (Nat.le_of_ble_eq_true rfl) rfl ?_
          refine g_kl (fun v3 hv3 => ?_)
          refine g_iinc 50 2 2 v3 [(2, .int v3), (1, .int v2), (0, .ref a0)] hX dX12_wholeName_47 rfl rfl (by rw [hv3, kc_i_1]) (Nat.le_of_ble_eq_true rfl) rfl ?_
          refine g_goto 4 hX dX12_wholeName_50 (by decide) ?_
          refine g_lv [2, 1, 0] rfl ?_
          exact ih a0 v2 v3
        · refine g_iconst 31 hX 0 dX12_wholeName_30 rfl kc_i_0 ?_
          exact g_iret hX hr rfl (Nat.le_refl 0) (Nat.le_refl 0) dX12_wholeName_31
set_option maxRecDepth 100000 in
set_option maxHeartbeats 4000000 in
theorem k_X12_wholeName (l : Launch) (g : kG) (N : Nat) (M : kMem) (a0 : Nat) : kMet l g yX12_wholeName cX12_wholeName 3 (some .int) 3 0 0 [.ref a0] M (fun r : Int32 => (some (.int r), M)) (F_X12_wholeName N M a0) := by
  refine k_of (lv := [(0, .ref a0)]) RX12 (by decide) rfl rfl (Nat.le_of_ble_eq_true rfl) ?_
  intro p e s m args below meth c hX hr _
  unfold F_X12_wholeName
  refine g_iconst 1 hX 0 dX12_wholeName_0 rfl kc_i_0 ?_
  refine g_istore_n 2 1 [(1, .int 0), (0, .ref a0)] hX dX12_wholeName_1 rfl rfl (Nat.le_of_ble_eq_true rfl) rfl ?_
  refine g_iconst 3 hX 0 dX12_wholeName_2 rfl kc_i_0 ?_
  refine g_istore_n 4 2 [(2, .int 0), (1, .int 0), (0, .ref a0)] hX dX12_wholeName_3 rfl rfl (Nat.le_of_ble_eq_true rfl) rfl ?_
  refine g_lv [2, 1, 0] rfl ?_
  exact k_X12_wholeName_4 hX hr N M N a0 0 0
def F_X12_join_80 (N : Nat) (M : kMem) (a0 : Nat) (x1 : Int32) (x2 : Int32) (x3 : Int32) (y0 : Nat) (y1 : Int32) : Option (Int32 × kMem) :=
    kg (kt M y0 12) <| (F_X12_stops N M y0 y1 2).bind fun r5 =>
    if r5.1 = 0 then (
      kg (kt r5.2 a0 12) <| (F_X12_keepsPast N r5.2 a0).bind fun M6 =>
      kg (kt M6 a0 12) <| kl (ksI M6 a0 10 0) fun M7 =>
      kg (kt M7 a0 12) <| (F_X12_joins N M7 a0 x3 x1 x2).bind fun r8 =>
      some (r8.1, r8.2)) else
    some (0, r5.2)
def F_X12_join_75 (N : Nat) (M : kMem) (a0 : Nat) (x1 : Int32) (x2 : Int32) (x3 : Int32) (y0 : Nat) : Option (Int32 × kMem) :=
    F_X12_join_80 N M a0 x1 x2 x3 y0 1
def F_X12_join_35 (N : Nat) (M : kMem) (a0 : Nat) (x1 : Int32) (x2 : Int32) (y0 : Nat) (y1 : Int32) : Option (Int32 × kMem) :=
    kg (kt M y0 12) <| (F_X12_stops N M y0 y1 1).bind fun r3 =>
    if r3.1 = 0 then (
      kg (kt r3.2 a0 12) <| (F_X12_wholeName N r3.2 a0).bind fun r4 =>
      kg (kt r3.2 a0 12) <|
      kg (kin r3.2 (kR r3.2 a0 0) 13 8) <|
      if (kI r3.2 (kR r3.2 a0 0) (kx 8)) = 24 then (
        F_X12_join_75 N r3.2 a0 x1 x2 r4 a0) else
      if r4 = 0 then (
        F_X12_join_75 N r3.2 a0 x1 x2 r4 a0) else
      kg (kt r3.2 a0 12) <| (F_X12_traderNamed N r3.2 a0 r4).bind fun r9 =>
      if r9 = (-1) then (
        F_X12_join_80 N r3.2 a0 x1 x2 r4 a0 0) else
      F_X12_join_75 N r3.2 a0 x1 x2 r4 a0) else
    some (0, r3.2)
def F_X12_join_30 (N : Nat) (M : kMem) (a0 : Nat) (x1 : Int32) (x2 : Int32) (y0 : Nat) : Option (Int32 × kMem) :=
    F_X12_join_35 N M a0 x1 x2 y0 1
def F_X12_join (N : Nat) (M : kMem) (a0 : Nat) (x1 : Int32) (x2 : Int32) : Option (Int32 × kMem) :=
    kg (kt M a0 12) <| kl (ksI M a0 6 0) fun M1 =>
    (F_X12_in N M1 x1.toInt64 1 99).bind fun r2 =>
    if r2 = 0 then (
      F_X12_join_30 N M1 a0 x1 x2 a0) else
    (F_X12_in N M1 x2.toInt64 0 9999).bind fun r10 =>
    if r10 = 0 then (
      F_X12_join_30 N M1 a0 x1 x2 a0) else
    F_X12_join_35 N M1 a0 x1 x2 a0 0
set_option maxRecDepth 100000 in
set_option maxHeartbeats 4000000 in
theorem k_X12_join_80 {p : Program} {l : Launch} {e : Env} {s : State} {m : MethodId} {args : Array Value} {below : List Frame} {meth : Method} {c : Code} {g : kG} (hX : Cok (p, l, e, { frames := 2 * 4, cells := 0, slots := 0, locals := 60 * 4 }, s, m, args, below, meth, c, cX12_join, 4, RX12, g, 4)) (hr : meth.sig.returnType = (some .int)) (N : Nat) : ∀ (M : kMem) (a0 : Nat) (x1 : Int32) (x2 : Int32) (x3 : Int32) (y0 : Nat) (y1 : Int32), GG (p, l, e, { frames := 2 * 4, cells := 0, slots := 0, locals := 60 * 4 }, s, m, args, below, meth, c, cX12_join, 4, RX12, g, 4) (fun b => MQ below (kQ g ((fun r : Int32 × kMem => (some (.int r.1), r.2)) b)) args s 0 0 (kZ g.2.2.1)) 0 0 (F_X12_join_80 N M a0 x1 x2 x3 y0 y1) 80 [(0, .ref a0), (1, .int x1), (2, .int x2), (3, .int x3)] [.int y1, .ref y0] M := by
  intro M a0 x1 x2 x3 y0 y1
  unfold F_X12_join_80
  refine g_iconst 81 hX 2 dX12_join_80 rfl kc_i_2 ?_
  refine g_callV_i 84 hX (k_X12_stops l g N M y0 y1 2) lk_X12_stops rfl (ci := 12) rfl (Nat.le_of_ble_eq_true rfl) q_1796 q_44 (by omega) rfl (Nat.le_of_ble_eq_true rfl) (Nat.zero_le _) (Nat.zero_le _) dX12_join_81 rfl (fun r5 => ?_)
  refine g_if_eq 89 87 hX dX12_join_84 (by decide) rfl (fun _ => ?_) (fun _ => ?_)
  · refine g_aload_n 90 0 hX dX12_join_89 rfl rfl ?_
    refine g_callV_v 93 hX (k_X12_keepsPast l g N r5.2 a0) lk_X12_keepsPast rfl (ci := 12) rfl (Nat.le_of_ble_eq_true rfl) q_2122 q_111 (by omega) rfl (Nat.le_of_ble_eq_true rfl) (Nat.zero_le _) (Nat.zero_le _) dX12_join_90 rfl (fun M6 => ?_)
    refine g_aload_n 94 0 hX dX12_join_93 rfl rfl ?_
    refine g_iconst 95 hX 0 dX12_join_94 rfl kc_i_0 ?_
    refine p_X12_155 98 hX dX12_join_95 rfl ?_
    refine g_klM (fun M7 hM7 => ?_)
    refine g_aload_n 99 0 hX dX12_join_98 rfl rfl ?_
    refine g_iload_n 100 3 hX dX12_join_99 rfl rfl ?_
    refine g_iload_n 101 1 hX dX12_join_100 rfl rfl ?_
    refine g_iload_n 102 2 hX dX12_join_101 rfl rfl ?_
    refine g_callV_i 105 hX (k_X12_joins l g N M7 a0 x3 x1 x2) lk_X12_joins rfl (ci := 12) rfl (Nat.le_of_ble_eq_true rfl) q_1981 q_78 (by omega) rfl (Nat.le_of_ble_eq_true rfl) (Nat.zero_le _) (Nat.zero_le _) dX12_join_102 rfl (fun r8 => ?_)
    exact g_iret hX hr rfl (Nat.le_refl 0) (Nat.le_refl 0) dX12_join_105
  · refine g_iconst 88 hX 0 dX12_join_87 rfl kc_i_0 ?_
    exact g_iret hX hr rfl (Nat.le_refl 0) (Nat.le_refl 0) dX12_join_88
set_option maxRecDepth 100000 in
set_option maxHeartbeats 4000000 in
theorem k_X12_join_75 {p : Program} {l : Launch} {e : Env} {s : State} {m : MethodId} {args : Array Value} {below : List Frame} {meth : Method} {c : Code} {g : kG} (hX : Cok (p, l, e, { frames := 2 * 4, cells := 0, slots := 0, locals := 60 * 4 }, s, m, args, below, meth, c, cX12_join, 4, RX12, g, 4)) (hr : meth.sig.returnType = (some .int)) (N : Nat) : ∀ (M : kMem) (a0 : Nat) (x1 : Int32) (x2 : Int32) (x3 : Int32) (y0 : Nat), GG (p, l, e, { frames := 2 * 4, cells := 0, slots := 0, locals := 60 * 4 }, s, m, args, below, meth, c, cX12_join, 4, RX12, g, 4) (fun b => MQ below (kQ g ((fun r : Int32 × kMem => (some (.int r.1), r.2)) b)) args s 0 0 (kZ g.2.2.1)) 0 0 (F_X12_join_75 N M a0 x1 x2 x3 y0) 75 [(0, .ref a0), (1, .int x1), (2, .int x2), (3, .int x3)] [.ref y0] M := by
  intro M a0 x1 x2 x3 y0
  unfold F_X12_join_75
  refine g_iconst 76 hX 1 dX12_join_75 rfl kc_i_1 ?_
  refine g_goto 80 hX dX12_join_76 (by decide) ?_
  exact k_X12_join_80 hX hr N M a0 x1 x2 x3 y0 1
set_option maxRecDepth 100000 in
set_option maxHeartbeats 4000000 in
theorem k_X12_join_35 {p : Program} {l : Launch} {e : Env} {s : State} {m : MethodId} {args : Array Value} {below : List Frame} {meth : Method} {c : Code} {g : kG} (hX : Cok (p, l, e, { frames := 2 * 4, cells := 0, slots := 0, locals := 60 * 4 }, s, m, args, below, meth, c, cX12_join, 4, RX12, g, 4)) (hr : meth.sig.returnType = (some .int)) (N : Nat) : ∀ (M : kMem) (a0 : Nat) (x1 : Int32) (x2 : Int32) (y0 : Nat) (y1 : Int32), GG (p, l, e, { frames := 2 * 4, cells := 0, slots := 0, locals := 60 * 4 }, s, m, args, below, meth, c, cX12_join, 4, RX12, g, 4) (fun b => MQ below (kQ g ((fun r : Int32 × kMem => (some (.int r.1), r.2)) b)) args s 0 0 (kZ g.2.2.1)) 0 0 (F_X12_join_35 N M a0 x1 x2 y0 y1) 35 [(0, .ref a0), (1, .int x1), (2, .int x2)] [.int y1, .ref y0] M := by
  intro M a0 x1 x2 y0 y1
  unfold F_X12_join_35
  refine g_iconst 36 hX 1 dX12_join_35 rfl kc_i_1 ?_
  refine g_callV_i 39 hX (k_X12_stops l g N M y0 y1 1) lk_X12_stops rfl (ci := 12) rfl (Nat.le_of_ble_eq_true rfl) q_1796 q_44 (by omega) rfl (Nat.le_of_ble_eq_true rfl) (Nat.zero_le _) (Nat.zero_le _) dX12_join_36 rfl (fun r3 => ?_)
  refine g_if_eq 44 42 hX dX12_join_39 (by decide) rfl (fun _ => ?_) (fun _ => ?_)
  · refine g_aload_n 45 0 hX dX12_join_44 rfl rfl ?_
    refine g_callV_ip 48 hX (k_X12_wholeName l g N r3.2 a0) lk_X12_wholeName rfl (ci := 12) rfl (Nat.le_of_ble_eq_true rfl) q_2140 q_112 (by omega) rfl (Nat.le_of_ble_eq_true rfl) (Nat.zero_le _) (Nat.zero_le _) dX12_join_45 rfl (fun r4 => ?_)
    refine g_istore_n 49 3 [(3, .int r4), (0, .ref a0), (1, .int x1), (2, .int x2)] hX dX12_join_48 rfl rfl (Nat.le_of_ble_eq_true rfl) rfl ?_
    refine g_aload_n 50 1 hX dX12_join_49 rfl rfl ?_
    refine g_aload_n 51 1 hX dX12_join_50 rfl rfl ?_
    refine r_X12_7 54 hX dX12_join_51 rfl ?_
    refine g_bipush 56 hX 8 dX12_join_54 rfl kc_b_8 ?_
    refine g_iald 57 hX dX12_join_56 rfl ?_
    refine g_bipush 59 hX 24 dX12_join_57 rfl kc_b_24 ?_
    refine g_icmp_eq 75 62 hX dX12_join_59 (by decide) rfl (fun _ => ?_) (fun _ => ?_)
    · refine g_lv [1, 2, 3, 0] rfl ?_
      exact k_X12_join_75 hX hr N r3.2 a0 x1 x2 r4 a0
    · refine g_iload_n 63 0 hX dX12_join_62 rfl rfl ?_
      refine g_if_eq 75 66 hX dX12_join_63 (by decide) rfl (fun _ => ?_) (fun _ => ?_)
      · refine g_lv [1, 2, 3, 0] rfl ?_
        exact k_X12_join_75 hX hr N r3.2 a0 x1 x2 r4 a0
      · refine g_aload_n 67 1 hX dX12_join_66 rfl rfl ?_
        refine g_iload_n 68 0 hX dX12_join_67 rfl rfl ?_
        refine g_callV_ip 71 hX (k_X12_traderNamed l g N r3.2 a0 r4) lk_X12_traderNamed rfl (ci := 12) rfl (Nat.le_of_ble_eq_true rfl) q_1899 q_62 (by omega) rfl (Nat.le_of_ble_eq_true rfl) (Nat.zero_le _) (Nat.zero_le _) dX12_join_68 rfl (fun r9 => ?_)
        refine g_iconst 72 hX (-1) dX12_join_71 rfl kc_i_m1 ?_
        refine g_icmp_eq 79 75 hX dX12_join_72 (by decide) rfl (fun _ => ?_) (fun _ => ?_)
        · refine g_iconst 80 hX 0 dX12_join_79 rfl kc_i_0 ?_
          refine g_lv [1, 2, 3, 0] rfl ?_
          exact k_X12_join_80 hX hr N r3.2 a0 x1 x2 r4 a0 0
        · refine g_lv [1, 2, 3, 0] rfl ?_
          exact k_X12_join_75 hX hr N r3.2 a0 x1 x2 r4 a0
  · refine g_iconst 43 hX 0 dX12_join_42 rfl kc_i_0 ?_
    exact g_iret hX hr rfl (Nat.le_refl 0) (Nat.le_refl 0) dX12_join_43
set_option maxRecDepth 100000 in
set_option maxHeartbeats 4000000 in
theorem k_X12_join_30 {p : Program} {l : Launch} {e : Env} {s : State} {m : MethodId} {args : Array Value} {below : List Frame} {meth : Method} {c : Code} {g : kG} (hX : Cok (p, l, e, { frames := 2 * 4, cells := 0, slots := 0, locals := 60 * 4 }, s, m, args, below, meth, c, cX12_join, 4, RX12, g, 4)) (hr : meth.sig.returnType = (some .int)) (N : Nat) : ∀ (M : kMem) (a0 : Nat) (x1 : Int32) (x2 : Int32) (y0 : Nat), GG (p, l, e, { frames := 2 * 4, cells := 0, slots := 0, locals := 60 * 4 }, s, m, args, below, meth, c, cX12_join, 4, RX12, g, 4) (fun b => MQ below (kQ g ((fun r : Int32 × kMem => (some (.int r.1), r.2)) b)) args s 0 0 (kZ g.2.2.1)) 0 0 (F_X12_join_30 N M a0 x1 x2 y0) 30 [(0, .ref a0), (1, .int x1), (2, .int x2)] [.ref y0] M := by
  intro M a0 x1 x2 y0
  unfold F_X12_join_30
  refine g_iconst 31 hX 1 dX12_join_30 rfl kc_i_1 ?_
  refine g_goto 35 hX dX12_join_31 (by decide) ?_
  exact k_X12_join_35 hX hr N M a0 x1 x2 y0 1
set_option maxRecDepth 100000 in
set_option maxHeartbeats 4000000 in
theorem k_X12_join (l : Launch) (g : kG) (N : Nat) (M : kMem) (a0 : Nat) (x1 : Int32) (x2 : Int32) : kMet l g yX12_join cX12_join 4 (some .int) 4 0 0 [.ref a0, .int x1, .int x2] M (fun r : Int32 × kMem => (some (.int r.1), r.2)) (F_X12_join N M a0 x1 x2) := by
  refine k_of (lv := [(0, .ref a0), (1, .int x1), (2, .int x2)]) RX12 (by decide) rfl rfl (Nat.le_of_ble_eq_true rfl) ?_
  intro p e s m args below meth c hX hr _
  unfold F_X12_join
  refine g_aload_n 1 0 hX dX12_join_0 rfl rfl ?_
  refine g_iconst 2 hX 0 dX12_join_1 rfl kc_i_0 ?_
  refine p_X12_63 5 hX dX12_join_2 rfl ?_
  refine g_klM (fun M1 hM1 => ?_)
  refine g_aload_n 6 0 hX dX12_join_5 rfl rfl ?_
  refine g_iload_n 7 1 hX dX12_join_6 rfl rfl ?_
  refine g_i2l 8 hX dX12_join_7 rfl ?_
  refine g_lconst 9 hX 1 dX12_join_8 rfl rfl ?_
  refine g_ldc2 12 hX 99 dX12_join_9 rfl q_2138 ?_
  refine g_callS_ip 15 hX (k_X12_in l g N M1 x1.toInt64 1 99) lk_X12_in q_1808 (by omega) rfl (Nat.le_of_ble_eq_true rfl) (Nat.zero_le _) (Nat.zero_le _) dX12_join_12 rfl (fun r2 => ?_)
  refine g_if_eq 30 18 hX dX12_join_15 (by decide) rfl (fun _ => ?_) (fun _ => ?_)
  · exact k_X12_join_30 hX hr N M1 a0 x1 x2 a0
  · refine g_iload_n 19 2 hX dX12_join_18 rfl rfl ?_
    refine g_i2l 20 hX dX12_join_19 rfl ?_
    refine g_lconst 21 hX 0 dX12_join_20 rfl rfl ?_
    refine g_ldc2 24 hX 9999 dX12_join_21 rfl q_2139 ?_
    refine g_callS_ip 27 hX (k_X12_in l g N M1 x2.toInt64 0 9999) lk_X12_in q_1808 (by omega) rfl (Nat.le_of_ble_eq_true rfl) (Nat.zero_le _) (Nat.zero_le _) dX12_join_24 rfl (fun r10 => ?_)
    refine g_if_ne 34 30 hX dX12_join_27 (by decide) rfl (fun _ => ?_) (fun _ => ?_)
    · refine g_iconst 35 hX 0 dX12_join_34 rfl kc_i_0 ?_
      exact k_X12_join_35 hX hr N M1 a0 x1 x2 a0 0
    · exact k_X12_join_30 hX hr N M1 a0 x1 x2 a0
def F_X12_buySeat_38 (N : Nat) (M : kMem) (a0 : Nat) (x1 : Int32) (x2 : Int32) (x3 : Int32) (y0 : Nat) (y1 : Int32) : Option (Int32 × kMem) :=
    kg (kt M y0 12) <| (F_X12_stops N M y0 y1 2).bind fun r5 =>
    if r5.1 = 0 then (
      kg (kt r5.2 a0 12) <| (F_X12_keepsPast N r5.2 a0).bind fun M6 =>
      kg (kt M6 a0 12) <| (F_X12_buys N M6 a0 x1 x2 x3).bind fun r7 =>
      some (r7.1, r7.2)) else
    some (0, r5.2)
def F_X12_buySeat (N : Nat) (M : kMem) (a0 : Nat) (x1 : Int32) (x2 : Int32) (x3 : Int32) : Option (Int32 × kMem) :=
    kg (kt M a0 12) <| kl (ksI M a0 6 0) fun M1 =>
    kg (kt M1 a0 12) <| (F_X12_noTrader N M1 a0 x1).bind fun r2 =>
    if r2.1 = 0 then (
      kg (kt r2.2 a0 12) <| (F_X12_noSeat N r2.2 a0 x2 x3).bind fun r3 =>
      if r3.1 = 0 then (
        kg (kt r3.2 a0 12) <| (F_X12_againstSeat N r3.2 a0 x1 x2 x3).bind fun r4 =>
        if r4 = 0 then (
          F_X12_buySeat_38 N r3.2 a0 x1 x2 x3 a0 0) else
        F_X12_buySeat_38 N r3.2 a0 x1 x2 x3 a0 1) else
      some (0, r3.2)) else
    some (0, r2.2)
set_option maxRecDepth 100000 in
set_option maxHeartbeats 4000000 in
theorem k_X12_buySeat_38 {p : Program} {l : Launch} {e : Env} {s : State} {m : MethodId} {args : Array Value} {below : List Frame} {meth : Method} {c : Code} {g : kG} (hX : Cok (p, l, e, { frames := 2 * 8, cells := 0, slots := 0, locals := 60 * 8 }, s, m, args, below, meth, c, cX12_buySeat, 4, RX12, g, 8)) (hr : meth.sig.returnType = (some .int)) (N : Nat) : ∀ (M : kMem) (a0 : Nat) (x1 : Int32) (x2 : Int32) (x3 : Int32) (y0 : Nat) (y1 : Int32), GG (p, l, e, { frames := 2 * 8, cells := 0, slots := 0, locals := 60 * 8 }, s, m, args, below, meth, c, cX12_buySeat, 4, RX12, g, 8) (fun b => MQ below (kQ g ((fun r : Int32 × kMem => (some (.int r.1), r.2)) b)) args s 0 0 (kZ g.2.2.1)) 0 0 (F_X12_buySeat_38 N M a0 x1 x2 x3 y0 y1) 38 [(0, .ref a0), (1, .int x1), (2, .int x2), (3, .int x3)] [.int y1, .ref y0] M := by
  intro M a0 x1 x2 x3 y0 y1
  unfold F_X12_buySeat_38
  refine g_iconst 39 hX 2 dX12_buySeat_38 rfl kc_i_2 ?_
  refine g_callV_i 42 hX (k_X12_stops l g N M y0 y1 2) lk_X12_stops rfl (ci := 12) rfl (Nat.le_of_ble_eq_true rfl) q_1796 q_44 (by omega) rfl (Nat.le_of_ble_eq_true rfl) (Nat.zero_le _) (Nat.zero_le _) dX12_buySeat_39 rfl (fun r5 => ?_)
  refine g_if_eq 47 45 hX dX12_buySeat_42 (by decide) rfl (fun _ => ?_) (fun _ => ?_)
  · refine g_aload_n 48 0 hX dX12_buySeat_47 rfl rfl ?_
    refine g_callV_v 51 hX (k_X12_keepsPast l g N r5.2 a0) lk_X12_keepsPast rfl (ci := 12) rfl (Nat.le_of_ble_eq_true rfl) q_2122 q_111 (by omega) rfl (Nat.le_of_ble_eq_true rfl) (Nat.zero_le _) (Nat.zero_le _) dX12_buySeat_48 rfl (fun M6 => ?_)
    refine g_aload_n 52 0 hX dX12_buySeat_51 rfl rfl ?_
    refine g_iload_n 53 1 hX dX12_buySeat_52 rfl rfl ?_
    refine g_iload_n 54 2 hX dX12_buySeat_53 rfl rfl ?_
    refine g_iload_n 55 3 hX dX12_buySeat_54 rfl rfl ?_
    refine g_callV_i 58 hX (k_X12_buys l g N M6 a0 x1 x2 x3) lk_X12_buys rfl (ci := 12) rfl (Nat.le_of_ble_eq_true rfl) q_2034 q_89 (by omega) rfl (Nat.le_of_ble_eq_true rfl) (Nat.zero_le _) (Nat.zero_le _) dX12_buySeat_55 rfl (fun r7 => ?_)
    exact g_iret hX hr rfl (Nat.le_refl 0) (Nat.le_refl 0) dX12_buySeat_58
  · refine g_iconst 46 hX 0 dX12_buySeat_45 rfl kc_i_0 ?_
    exact g_iret hX hr rfl (Nat.le_refl 0) (Nat.le_refl 0) dX12_buySeat_46
set_option maxRecDepth 100000 in
set_option maxHeartbeats 4000000 in
theorem k_X12_buySeat (l : Launch) (g : kG) (N : Nat) (M : kMem) (a0 : Nat) (x1 : Int32) (x2 : Int32) (x3 : Int32) : kMet l g yX12_buySeat cX12_buySeat 4 (some .int) 8 0 0 [.ref a0, .int x1, .int x2, .int x3] M (fun r : Int32 × kMem => (some (.int r.1), r.2)) (F_X12_buySeat N M a0 x1 x2 x3) := by
  refine k_of (lv := [(0, .ref a0), (1, .int x1), (2, .int x2), (3, .int x3)]) RX12 (by decide) rfl rfl (Nat.le_of_ble_eq_true rfl) ?_
  intro p e s m args below meth c hX hr _
  unfold F_X12_buySeat
  refine g_aload_n 1 0 hX dX12_buySeat_0 rfl rfl ?_
  refine g_iconst 2 hX 0 dX12_buySeat_1 rfl kc_i_0 ?_
  refine p_X12_63 5 hX dX12_buySeat_2 rfl ?_
  refine g_klM (fun M1 hM1 => ?_)
  refine g_aload_n 6 0 hX dX12_buySeat_5 rfl rfl ?_
  refine g_iload_n 7 1 hX dX12_buySeat_6 rfl rfl ?_
  refine g_callV_i 10 hX (k_X12_noTrader l g N M1 a0 x1) lk_X12_noTrader rfl (ci := 12) rfl (Nat.le_of_ble_eq_true rfl) q_2148 q_113 (by omega) rfl (Nat.le_of_ble_eq_true rfl) (Nat.zero_le _) (Nat.zero_le _) dX12_buySeat_7 rfl (fun r2 => ?_)
  refine g_if_ne 45 13 hX dX12_buySeat_10 (by decide) rfl (fun _ => ?_) (fun _ => ?_)
  · refine g_iconst 46 hX 0 dX12_buySeat_45 rfl kc_i_0 ?_
    exact g_iret hX hr rfl (Nat.le_refl 0) (Nat.le_refl 0) dX12_buySeat_46
  · refine g_aload_n 14 0 hX dX12_buySeat_13 rfl rfl ?_
    refine g_iload_n 15 2 hX dX12_buySeat_14 rfl rfl ?_
    refine g_iload_n 16 3 hX dX12_buySeat_15 rfl rfl ?_
    refine g_callV_i 19 hX (k_X12_noSeat l g N r2.2 a0 x2 x3) lk_X12_noSeat rfl (ci := 12) rfl (Nat.le_of_ble_eq_true rfl) q_2152 q_114 (by omega) rfl (Nat.le_of_ble_eq_true rfl) (Nat.zero_le _) (Nat.zero_le _) dX12_buySeat_16 rfl (fun r3 => ?_)
    refine g_if_ne 45 22 hX dX12_buySeat_19 (by decide) rfl (fun _ => ?_) (fun _ => ?_)
    · refine g_iconst 46 hX 0 dX12_buySeat_45 rfl kc_i_0 ?_
      exact g_iret hX hr rfl (Nat.le_refl 0) (Nat.le_refl 0) dX12_buySeat_46
    · refine g_aload_n 23 0 hX dX12_buySeat_22 rfl rfl ?_
      refine g_aload_n 24 0 hX dX12_buySeat_23 rfl rfl ?_
      refine g_iload_n 25 1 hX dX12_buySeat_24 rfl rfl ?_
      refine g_iload_n 26 2 hX dX12_buySeat_25 rfl rfl ?_
      refine g_iload_n 27 3 hX dX12_buySeat_26 rfl rfl ?_
      refine g_callV_ip 30 hX (k_X12_againstSeat l g N r3.2 a0 x1 x2 x3) lk_X12_againstSeat rfl (ci := 12) rfl (Nat.le_of_ble_eq_true rfl) q_2000 q_82 (by omega) rfl (Nat.le_of_ble_eq_true rfl) (Nat.zero_le _) (Nat.zero_le _) dX12_buySeat_27 rfl (fun r4 => ?_)
      refine g_if_eq 37 33 hX dX12_buySeat_30 (by decide) rfl (fun _ => ?_) (fun _ => ?_)
      · refine g_iconst 38 hX 0 dX12_buySeat_37 rfl kc_i_0 ?_
        exact k_X12_buySeat_38 hX hr N r3.2 a0 x1 x2 x3 a0 0
      · refine g_iconst 34 hX 1 dX12_buySeat_33 rfl kc_i_1 ?_
        refine g_goto 38 hX dX12_buySeat_34 (by decide) ?_
        exact k_X12_buySeat_38 hX hr N r3.2 a0 x1 x2 x3 a0 1
def F_X12_leaveSeat_27 (N : Nat) (M : kMem) (a0 : Nat) (x1 : Int32) (y0 : Nat) (y1 : Int32) : Option (Int32 × kMem) :=
    kg (kt M y0 12) <| (F_X12_stops N M y0 y1 2).bind fun r4 =>
    if r4.1 = 0 then (
      kg (kt r4.2 a0 12) <| (F_X12_keepsPast N r4.2 a0).bind fun M5 =>
      kg (kt M5 a0 12) <| (F_X12_leaves N M5 a0 x1).bind fun r6 =>
      some (r6.1, r6.2)) else
    some (0, r4.2)
def F_X12_leaveSeat (N : Nat) (M : kMem) (a0 : Nat) (x1 : Int32) : Option (Int32 × kMem) :=
    kg (kt M a0 12) <| kl (ksI M a0 6 0) fun M1 =>
    kg (kt M1 a0 12) <| (F_X12_noTrader N M1 a0 x1).bind fun r2 =>
    if r2.1 = 0 then (
      kg (kt r2.2 a0 12) <| (F_X12_isSeated N r2.2 a0 x1).bind fun r3 =>
      if r3 = 0 then (
        F_X12_leaveSeat_27 N r2.2 a0 x1 a0 1) else
      F_X12_leaveSeat_27 N r2.2 a0 x1 a0 0) else
    some (0, r2.2)
set_option maxRecDepth 100000 in
set_option maxHeartbeats 4000000 in
theorem k_X12_leaveSeat_27 {p : Program} {l : Launch} {e : Env} {s : State} {m : MethodId} {args : Array Value} {below : List Frame} {meth : Method} {c : Code} {g : kG} (hX : Cok (p, l, e, { frames := 2 * 6, cells := 0, slots := 0, locals := 60 * 6 }, s, m, args, below, meth, c, cX12_leaveSeat, 2, RX12, g, 6)) (hr : meth.sig.returnType = (some .int)) (N : Nat) : ∀ (M : kMem) (a0 : Nat) (x1 : Int32) (y0 : Nat) (y1 : Int32), GG (p, l, e, { frames := 2 * 6, cells := 0, slots := 0, locals := 60 * 6 }, s, m, args, below, meth, c, cX12_leaveSeat, 2, RX12, g, 6) (fun b => MQ below (kQ g ((fun r : Int32 × kMem => (some (.int r.1), r.2)) b)) args s 0 0 (kZ g.2.2.1)) 0 0 (F_X12_leaveSeat_27 N M a0 x1 y0 y1) 27 [(0, .ref a0), (1, .int x1)] [.int y1, .ref y0] M := by
  intro M a0 x1 y0 y1
  unfold F_X12_leaveSeat_27
  refine g_iconst 28 hX 2 dX12_leaveSeat_27 rfl kc_i_2 ?_
  refine g_callV_i 31 hX (k_X12_stops l g N M y0 y1 2) lk_X12_stops rfl (ci := 12) rfl (Nat.le_of_ble_eq_true rfl) q_1796 q_44 (by omega) rfl (Nat.le_of_ble_eq_true rfl) (Nat.zero_le _) (Nat.zero_le _) dX12_leaveSeat_28 rfl (fun r4 => ?_)
  refine g_if_eq 36 34 hX dX12_leaveSeat_31 (by decide) rfl (fun _ => ?_) (fun _ => ?_)
  · refine g_aload_n 37 0 hX dX12_leaveSeat_36 rfl rfl ?_
    refine g_callV_v 40 hX (k_X12_keepsPast l g N r4.2 a0) lk_X12_keepsPast rfl (ci := 12) rfl (Nat.le_of_ble_eq_true rfl) q_2122 q_111 (by omega) rfl (Nat.le_of_ble_eq_true rfl) (Nat.zero_le _) (Nat.zero_le _) dX12_leaveSeat_37 rfl (fun M5 => ?_)
    refine g_aload_n 41 0 hX dX12_leaveSeat_40 rfl rfl ?_
    refine g_iload_n 42 1 hX dX12_leaveSeat_41 rfl rfl ?_
    refine g_callV_i 45 hX (k_X12_leaves l g N M5 a0 x1) lk_X12_leaves rfl (ci := 12) rfl (Nat.le_of_ble_eq_true rfl) q_2050 q_93 (by omega) rfl (Nat.le_of_ble_eq_true rfl) (Nat.zero_le _) (Nat.zero_le _) dX12_leaveSeat_42 rfl (fun r6 => ?_)
    exact g_iret hX hr rfl (Nat.le_refl 0) (Nat.le_refl 0) dX12_leaveSeat_45
  · refine g_iconst 35 hX 0 dX12_leaveSeat_34 rfl kc_i_0 ?_
    exact g_iret hX hr rfl (Nat.le_refl 0) (Nat.le_refl 0) dX12_leaveSeat_35
set_option maxRecDepth 100000 in
set_option maxHeartbeats 4000000 in
theorem k_X12_leaveSeat (l : Launch) (g : kG) (N : Nat) (M : kMem) (a0 : Nat) (x1 : Int32) : kMet l g yX12_leaveSeat cX12_leaveSeat 2 (some .int) 6 0 0 [.ref a0, .int x1] M (fun r : Int32 × kMem => (some (.int r.1), r.2)) (F_X12_leaveSeat N M a0 x1) := by
  refine k_of (lv := [(0, .ref a0), (1, .int x1)]) RX12 (by decide) rfl rfl (Nat.le_of_ble_eq_true rfl) ?_
  intro p e s m args below meth c hX hr _
  unfold F_X12_leaveSeat
  refine g_aload_n 1 0 hX dX12_leaveSeat_0 rfl rfl ?_
  refine g_iconst 2 hX 0 dX12_leaveSeat_1 rfl kc_i_0 ?_
  refine p_X12_63 5 hX dX12_leaveSeat_2 rfl ?_
  refine g_klM (fun M1 hM1 => ?_)
  refine g_aload_n 6 0 hX dX12_leaveSeat_5 rfl rfl ?_
  refine g_iload_n 7 1 hX dX12_leaveSeat_6 rfl rfl ?_
  refine g_callV_i 10 hX (k_X12_noTrader l g N M1 a0 x1) lk_X12_noTrader rfl (ci := 12) rfl (Nat.le_of_ble_eq_true rfl) q_2148 q_113 (by omega) rfl (Nat.le_of_ble_eq_true rfl) (Nat.zero_le _) (Nat.zero_le _) dX12_leaveSeat_7 rfl (fun r2 => ?_)
  refine g_if_ne 34 13 hX dX12_leaveSeat_10 (by decide) rfl (fun _ => ?_) (fun _ => ?_)
  · refine g_iconst 35 hX 0 dX12_leaveSeat_34 rfl kc_i_0 ?_
    exact g_iret hX hr rfl (Nat.le_refl 0) (Nat.le_refl 0) dX12_leaveSeat_35
  · refine g_aload_n 14 0 hX dX12_leaveSeat_13 rfl rfl ?_
    refine g_aload_n 15 0 hX dX12_leaveSeat_14 rfl rfl ?_
    refine g_iload_n 16 1 hX dX12_leaveSeat_15 rfl rfl ?_
    refine g_callV_ip 19 hX (k_X12_isSeated l g N r2.2 a0 x1) lk_X12_isSeated rfl (ci := 12) rfl (Nat.le_of_ble_eq_true rfl) q_1911 q_64 (by omega) rfl (Nat.le_of_ble_eq_true rfl) (Nat.zero_le _) (Nat.zero_le _) dX12_leaveSeat_16 rfl (fun r3 => ?_)
    refine g_if_ne 26 22 hX dX12_leaveSeat_19 (by decide) rfl (fun _ => ?_) (fun _ => ?_)
    · refine g_iconst 27 hX 0 dX12_leaveSeat_26 rfl kc_i_0 ?_
      exact k_X12_leaveSeat_27 hX hr N r2.2 a0 x1 a0 0
    · refine g_iconst 23 hX 1 dX12_leaveSeat_22 rfl kc_i_1 ?_
      refine g_goto 27 hX dX12_leaveSeat_23 (by decide) ?_
      exact k_X12_leaveSeat_27 hX hr N r2.2 a0 x1 a0 1
def F_X12_noSale (N : Nat) (M : kMem) (a0 : Nat) (x1 : Int32) (x2 : Int32) (x3 : Int32) : Option (Int32 × kMem) :=
    kg (kt M a0 12) <| (F_X12_noTrader N M a0 x1).bind fun r1 =>
    if r1.1 = 0 then (
      kg (kt r1.2 a0 12) <| (F_X12_noTrader N r1.2 a0 x2).bind fun r2 =>
      if r2.1 = 0 then (
        if x1 = x2 then (
          kg (kt r2.2 a0 12) <| (F_X12_stops N r2.2 a0 1 2).bind fun r3 =>
          if r3.1 = 0 then (
            some (0, r3.2)) else
          some (1, r3.2)) else
        (F_X12_in N r2.2 x3.toInt64 1 50).bind fun r4 =>
        if r4 = 0 then (
          kg (kt r2.2 a0 12) <| (F_X12_stops N r2.2 a0 1 2).bind fun r6 =>
          if r6.1 = 0 then (
            some (0, r6.2)) else
          some (1, r6.2)) else
        kg (kt r2.2 a0 12) <| (F_X12_stops N r2.2 a0 0 2).bind fun r5 =>
        if r5.1 = 0 then (
          some (0, r5.2)) else
        some (1, r5.2)) else
      some (1, r2.2)) else
    some (1, r1.2)
set_option maxRecDepth 100000 in
set_option maxHeartbeats 4000000 in
theorem k_X12_noSale (l : Launch) (g : kG) (N : Nat) (M : kMem) (a0 : Nat) (x1 : Int32) (x2 : Int32) (x3 : Int32) : kMet l g yX12_noSale cX12_noSale 4 (some .boolean) 3 0 0 [.ref a0, .int x1, .int x2, .int x3] M (fun r : Int32 × kMem => (some (.int r.1), r.2)) (F_X12_noSale N M a0 x1 x2 x3) := by
  refine k_of (lv := [(0, .ref a0), (1, .int x1), (2, .int x2), (3, .int x3)]) RX12 (by decide) rfl rfl (Nat.le_of_ble_eq_true rfl) ?_
  intro p e s m args below meth c hX hr _
  unfold F_X12_noSale
  refine g_aload_n 1 0 hX dX12_noSale_0 rfl rfl ?_
  refine g_iload_n 2 1 hX dX12_noSale_1 rfl rfl ?_
  refine g_callV_i 5 hX (k_X12_noTrader l g N M a0 x1) lk_X12_noTrader rfl (ci := 12) rfl (Nat.le_of_ble_eq_true rfl) q_2148 q_113 (by omega) rfl (Nat.le_of_ble_eq_true rfl) (Nat.zero_le _) (Nat.zero_le _) dX12_noSale_2 rfl (fun r1 => ?_)
  refine g_if_ne 46 8 hX dX12_noSale_5 (by decide) rfl (fun _ => ?_) (fun _ => ?_)
  · refine g_iconst 47 hX 1 dX12_noSale_46 rfl kc_i_1 ?_
    refine g_goto 51 hX dX12_noSale_47 (by decide) ?_
    exact g_zretL hX hr rfl rfl (Nat.le_refl 0) (Nat.le_refl 0) dX12_noSale_51
  · refine g_aload_n 9 0 hX dX12_noSale_8 rfl rfl ?_
    refine g_iload_n 10 2 hX dX12_noSale_9 rfl rfl ?_
    refine g_callV_i 13 hX (k_X12_noTrader l g N r1.2 a0 x2) lk_X12_noTrader rfl (ci := 12) rfl (Nat.le_of_ble_eq_true rfl) q_2148 q_113 (by omega) rfl (Nat.le_of_ble_eq_true rfl) (Nat.zero_le _) (Nat.zero_le _) dX12_noSale_10 rfl (fun r2 => ?_)
    refine g_if_ne 46 16 hX dX12_noSale_13 (by decide) rfl (fun _ => ?_) (fun _ => ?_)
    · refine g_iconst 47 hX 1 dX12_noSale_46 rfl kc_i_1 ?_
      refine g_goto 51 hX dX12_noSale_47 (by decide) ?_
      exact g_zretL hX hr rfl rfl (Nat.le_refl 0) (Nat.le_refl 0) dX12_noSale_51
    · refine g_aload_n 17 0 hX dX12_noSale_16 rfl rfl ?_
      refine g_iload_n 18 1 hX dX12_noSale_17 rfl rfl ?_
      refine g_iload_n 19 2 hX dX12_noSale_18 rfl rfl ?_
      refine g_icmp_eq 34 22 hX dX12_noSale_19 (by decide) rfl (fun _ => ?_) (fun _ => ?_)
      · refine g_iconst 35 hX 1 dX12_noSale_34 rfl kc_i_1 ?_
        refine g_goto 39 hX dX12_noSale_35 (by decide) ?_
        refine g_iconst 40 hX 2 dX12_noSale_39 rfl kc_i_2 ?_
        refine g_callV_i 43 hX (k_X12_stops l g N r2.2 a0 1 2) lk_X12_stops rfl (ci := 12) rfl (Nat.le_of_ble_eq_true rfl) q_1796 q_44 (by omega) rfl (Nat.le_of_ble_eq_true rfl) (Nat.zero_le _) (Nat.zero_le _) dX12_noSale_40 rfl (fun r3 => ?_)
        refine g_if_eq 50 46 hX dX12_noSale_43 (by decide) rfl (fun _ => ?_) (fun _ => ?_)
        · refine g_iconst 51 hX 0 dX12_noSale_50 rfl kc_i_0 ?_
          exact g_zretL hX hr rfl rfl (Nat.le_refl 0) (Nat.le_refl 0) dX12_noSale_51
        · refine g_iconst 47 hX 1 dX12_noSale_46 rfl kc_i_1 ?_
          refine g_goto 51 hX dX12_noSale_47 (by decide) ?_
          exact g_zretL hX hr rfl rfl (Nat.le_refl 0) (Nat.le_refl 0) dX12_noSale_51
      · refine g_iload_n 23 3 hX dX12_noSale_22 rfl rfl ?_
        refine g_i2l 24 hX dX12_noSale_23 rfl ?_
        refine g_lconst 25 hX 1 dX12_noSale_24 rfl rfl ?_
        refine g_ldc2 28 hX 50 dX12_noSale_25 rfl q_2172 ?_
        refine g_callS_ip 31 hX (k_X12_in l g N r2.2 x3.toInt64 1 50) lk_X12_in q_1808 (by omega) rfl (Nat.le_of_ble_eq_true rfl) (Nat.zero_le _) (Nat.zero_le _) dX12_noSale_28 rfl (fun r4 => ?_)
        refine g_if_ne 38 34 hX dX12_noSale_31 (by decide) rfl (fun _ => ?_) (fun _ => ?_)
        · refine g_iconst 39 hX 0 dX12_noSale_38 rfl kc_i_0 ?_
          refine g_iconst 40 hX 2 dX12_noSale_39 rfl kc_i_2 ?_
          refine g_callV_i 43 hX (k_X12_stops l g N r2.2 a0 0 2) lk_X12_stops rfl (ci := 12) rfl (Nat.le_of_ble_eq_true rfl) q_1796 q_44 (by omega) rfl (Nat.le_of_ble_eq_true rfl) (Nat.zero_le _) (Nat.zero_le _) dX12_noSale_40 rfl (fun r5 => ?_)
          refine g_if_eq 50 46 hX dX12_noSale_43 (by decide) rfl (fun _ => ?_) (fun _ => ?_)
          · refine g_iconst 51 hX 0 dX12_noSale_50 rfl kc_i_0 ?_
            exact g_zretL hX hr rfl rfl (Nat.le_refl 0) (Nat.le_refl 0) dX12_noSale_51
          · refine g_iconst 47 hX 1 dX12_noSale_46 rfl kc_i_1 ?_
            refine g_goto 51 hX dX12_noSale_47 (by decide) ?_
            exact g_zretL hX hr rfl rfl (Nat.le_refl 0) (Nat.le_refl 0) dX12_noSale_51
        · refine g_iconst 35 hX 1 dX12_noSale_34 rfl kc_i_1 ?_
          refine g_goto 39 hX dX12_noSale_35 (by decide) ?_
          refine g_iconst 40 hX 2 dX12_noSale_39 rfl kc_i_2 ?_
          refine g_callV_i 43 hX (k_X12_stops l g N r2.2 a0 1 2) lk_X12_stops rfl (ci := 12) rfl (Nat.le_of_ble_eq_true rfl) q_1796 q_44 (by omega) rfl (Nat.le_of_ble_eq_true rfl) (Nat.zero_le _) (Nat.zero_le _) dX12_noSale_40 rfl (fun r6 => ?_)
          refine g_if_eq 50 46 hX dX12_noSale_43 (by decide) rfl (fun _ => ?_) (fun _ => ?_)
          · refine g_iconst 51 hX 0 dX12_noSale_50 rfl kc_i_0 ?_
            exact g_zretL hX hr rfl rfl (Nat.le_refl 0) (Nat.le_refl 0) dX12_noSale_51
          · refine g_iconst 47 hX 1 dX12_noSale_46 rfl kc_i_1 ?_
            refine g_goto 51 hX dX12_noSale_47 (by decide) ?_
            exact g_zretL hX hr rfl rfl (Nat.le_refl 0) (Nat.le_refl 0) dX12_noSale_51
def F_X12_sellWeight_31 (N : Nat) (M : kMem) (a0 : Nat) (x1 : Int32) (x2 : Int32) (x3 : Int32) (y0 : Nat) (y1 : Int32) : Option (Int32 × kMem) :=
    kg (kt M y0 12) <| (F_X12_stops N M y0 y1 3).bind fun r4 =>
    if r4.1 = 0 then (
      kg (kt r4.2 a0 12) <| (F_X12_keepsPast N r4.2 a0).bind fun M5 =>
      kg (kt M5 a0 12) <| (F_X12_sells N M5 a0 x1 x2 x3).bind fun r6 =>
      some (r6.1, r6.2)) else
    some (0, r4.2)
def F_X12_sellWeight (N : Nat) (M : kMem) (a0 : Nat) (x1 : Int32) (x2 : Int32) (x3 : Int32) : Option (Int32 × kMem) :=
    kg (kt M a0 12) <| kl (ksI M a0 6 0) fun M1 =>
    kg (kt M1 a0 12) <| (F_X12_noSale N M1 a0 x1 x2 x3).bind fun r2 =>
    if r2.1 = 0 then (
      kg (kt r2.2 a0 12) <| (F_X12_againstSale N r2.2 a0 x1 x2 x3).bind fun r3 =>
      if r3 = 0 then (
        F_X12_sellWeight_31 N r2.2 a0 x1 x2 x3 a0 0) else
      F_X12_sellWeight_31 N r2.2 a0 x1 x2 x3 a0 1) else
    some (0, r2.2)
set_option maxRecDepth 100000 in
set_option maxHeartbeats 4000000 in
theorem k_X12_sellWeight_31 {p : Program} {l : Launch} {e : Env} {s : State} {m : MethodId} {args : Array Value} {below : List Frame} {meth : Method} {c : Code} {g : kG} (hX : Cok (p, l, e, { frames := 2 * 9, cells := 0, slots := 0, locals := 60 * 9 }, s, m, args, below, meth, c, cX12_sellWeight, 4, RX12, g, 9)) (hr : meth.sig.returnType = (some .int)) (N : Nat) : ∀ (M : kMem) (a0 : Nat) (x1 : Int32) (x2 : Int32) (x3 : Int32) (y0 : Nat) (y1 : Int32), GG (p, l, e, { frames := 2 * 9, cells := 0, slots := 0, locals := 60 * 9 }, s, m, args, below, meth, c, cX12_sellWeight, 4, RX12, g, 9) (fun b => MQ below (kQ g ((fun r : Int32 × kMem => (some (.int r.1), r.2)) b)) args s 0 0 (kZ g.2.2.1)) 0 0 (F_X12_sellWeight_31 N M a0 x1 x2 x3 y0 y1) 31 [(0, .ref a0), (1, .int x1), (2, .int x2), (3, .int x3)] [.int y1, .ref y0] M := by
  intro M a0 x1 x2 x3 y0 y1
  unfold F_X12_sellWeight_31
  refine g_iconst 32 hX 3 dX12_sellWeight_31 rfl kc_i_3 ?_
  refine g_callV_i 35 hX (k_X12_stops l g N M y0 y1 3) lk_X12_stops rfl (ci := 12) rfl (Nat.le_of_ble_eq_true rfl) q_1796 q_44 (by omega) rfl (Nat.le_of_ble_eq_true rfl) (Nat.zero_le _) (Nat.zero_le _) dX12_sellWeight_32 rfl (fun r4 => ?_)
  refine g_if_eq 40 38 hX dX12_sellWeight_35 (by decide) rfl (fun _ => ?_) (fun _ => ?_)
  · refine g_aload_n 41 0 hX dX12_sellWeight_40 rfl rfl ?_
    refine g_callV_v 44 hX (k_X12_keepsPast l g N r4.2 a0) lk_X12_keepsPast rfl (ci := 12) rfl (Nat.le_of_ble_eq_true rfl) q_2122 q_111 (by omega) rfl (Nat.le_of_ble_eq_true rfl) (Nat.zero_le _) (Nat.zero_le _) dX12_sellWeight_41 rfl (fun M5 => ?_)
    refine g_aload_n 45 0 hX dX12_sellWeight_44 rfl rfl ?_
    refine g_iload_n 46 1 hX dX12_sellWeight_45 rfl rfl ?_
    refine g_iload_n 47 2 hX dX12_sellWeight_46 rfl rfl ?_
    refine g_iload_n 48 3 hX dX12_sellWeight_47 rfl rfl ?_
    refine g_callV_i 51 hX (k_X12_sells l g N M5 a0 x1 x2 x3) lk_X12_sells rfl (ci := 12) rfl (Nat.le_of_ble_eq_true rfl) q_2082 q_101 (by omega) rfl (Nat.le_of_ble_eq_true rfl) (Nat.zero_le _) (Nat.zero_le _) dX12_sellWeight_48 rfl (fun r6 => ?_)
    exact g_iret hX hr rfl (Nat.le_refl 0) (Nat.le_refl 0) dX12_sellWeight_51
  · refine g_iconst 39 hX 0 dX12_sellWeight_38 rfl kc_i_0 ?_
    exact g_iret hX hr rfl (Nat.le_refl 0) (Nat.le_refl 0) dX12_sellWeight_39
set_option maxRecDepth 100000 in
set_option maxHeartbeats 4000000 in
theorem k_X12_sellWeight (l : Launch) (g : kG) (N : Nat) (M : kMem) (a0 : Nat) (x1 : Int32) (x2 : Int32) (x3 : Int32) : kMet l g yX12_sellWeight cX12_sellWeight 4 (some .int) 9 0 0 [.ref a0, .int x1, .int x2, .int x3] M (fun r : Int32 × kMem => (some (.int r.1), r.2)) (F_X12_sellWeight N M a0 x1 x2 x3) := by
  refine k_of (lv := [(0, .ref a0), (1, .int x1), (2, .int x2), (3, .int x3)]) RX12 (by decide) rfl rfl (Nat.le_of_ble_eq_true rfl) ?_
  intro p e s m args below meth c hX hr _
  unfold F_X12_sellWeight
  refine g_aload_n 1 0 hX dX12_sellWeight_0 rfl rfl ?_
  refine g_iconst 2 hX 0 dX12_sellWeight_1 rfl kc_i_0 ?_
  refine p_X12_63 5 hX dX12_sellWeight_2 rfl ?_
  refine g_klM (fun M1 hM1 => ?_)
  refine g_aload_n 6 0 hX dX12_sellWeight_5 rfl rfl ?_
  refine g_iload_n 7 1 hX dX12_sellWeight_6 rfl rfl ?_
  refine g_iload_n 8 2 hX dX12_sellWeight_7 rfl rfl ?_
  refine g_iload_n 9 3 hX dX12_sellWeight_8 rfl rfl ?_
  refine g_callV_i 12 hX (k_X12_noSale l g N M1 a0 x1 x2 x3) lk_X12_noSale rfl (ci := 12) rfl (Nat.le_of_ble_eq_true rfl) q_2168 q_116 (by omega) rfl (Nat.le_of_ble_eq_true rfl) (Nat.zero_le _) (Nat.zero_le _) dX12_sellWeight_9 rfl (fun r2 => ?_)
  refine g_if_ne 38 15 hX dX12_sellWeight_12 (by decide) rfl (fun _ => ?_) (fun _ => ?_)
  · refine g_iconst 39 hX 0 dX12_sellWeight_38 rfl kc_i_0 ?_
    exact g_iret hX hr rfl (Nat.le_refl 0) (Nat.le_refl 0) dX12_sellWeight_39
  · refine g_aload_n 16 0 hX dX12_sellWeight_15 rfl rfl ?_
    refine g_aload_n 17 0 hX dX12_sellWeight_16 rfl rfl ?_
    refine g_iload_n 18 1 hX dX12_sellWeight_17 rfl rfl ?_
    refine g_iload_n 19 2 hX dX12_sellWeight_18 rfl rfl ?_
    refine g_iload_n 20 3 hX dX12_sellWeight_19 rfl rfl ?_
    refine g_callV_ip 23 hX (k_X12_againstSale l g N r2.2 a0 x1 x2 x3) lk_X12_againstSale rfl (ci := 12) rfl (Nat.le_of_ble_eq_true rfl) q_2062 q_96 (by omega) rfl (Nat.le_of_ble_eq_true rfl) (Nat.zero_le _) (Nat.zero_le _) dX12_sellWeight_20 rfl (fun r3 => ?_)
    refine g_if_eq 30 26 hX dX12_sellWeight_23 (by decide) rfl (fun _ => ?_) (fun _ => ?_)
    · refine g_iconst 31 hX 0 dX12_sellWeight_30 rfl kc_i_0 ?_
      exact k_X12_sellWeight_31 hX hr N r2.2 a0 x1 x2 x3 a0 0
    · refine g_iconst 27 hX 1 dX12_sellWeight_26 rfl kc_i_1 ?_
      refine g_goto 31 hX dX12_sellWeight_27 (by decide) ?_
      exact k_X12_sellWeight_31 hX hr N r2.2 a0 x1 x2 x3 a0 1
def F_X12_noPair (N : Nat) (M : kMem) (a0 : Nat) (x1 : Int32) (x2 : Int32) : Option (Int32 × kMem) :=
    kg (kt M a0 12) <| (F_X12_noTrader N M a0 x1).bind fun r1 =>
    if r1.1 = 0 then (
      kg (kt r1.2 a0 12) <| (F_X12_noTrader N r1.2 a0 x2).bind fun r2 =>
      if r2.1 = 0 then (
        if x1 = x2 then (
          kg (kt r2.2 a0 12) <| (F_X12_stops N r2.2 a0 1 2).bind fun r4 =>
          if r4.1 = 0 then (
            some (0, r4.2)) else
          some (1, r4.2)) else
        kg (kt r2.2 a0 12) <| (F_X12_stops N r2.2 a0 0 2).bind fun r3 =>
        if r3.1 = 0 then (
          some (0, r3.2)) else
        some (1, r3.2)) else
      some (1, r2.2)) else
    some (1, r1.2)
set_option maxRecDepth 100000 in
set_option maxHeartbeats 4000000 in
theorem k_X12_noPair (l : Launch) (g : kG) (N : Nat) (M : kMem) (a0 : Nat) (x1 : Int32) (x2 : Int32) : kMet l g yX12_noPair cX12_noPair 3 (some .boolean) 3 0 0 [.ref a0, .int x1, .int x2] M (fun r : Int32 × kMem => (some (.int r.1), r.2)) (F_X12_noPair N M a0 x1 x2) := by
  refine k_of (lv := [(0, .ref a0), (1, .int x1), (2, .int x2)]) RX12 (by decide) rfl rfl (Nat.le_of_ble_eq_true rfl) ?_
  intro p e s m args below meth c hX hr _
  unfold F_X12_noPair
  refine g_aload_n 1 0 hX dX12_noPair_0 rfl rfl ?_
  refine g_iload_n 2 1 hX dX12_noPair_1 rfl rfl ?_
  refine g_callV_i 5 hX (k_X12_noTrader l g N M a0 x1) lk_X12_noTrader rfl (ci := 12) rfl (Nat.le_of_ble_eq_true rfl) q_2148 q_113 (by omega) rfl (Nat.le_of_ble_eq_true rfl) (Nat.zero_le _) (Nat.zero_le _) dX12_noPair_2 rfl (fun r1 => ?_)
  refine g_if_ne 34 8 hX dX12_noPair_5 (by decide) rfl (fun _ => ?_) (fun _ => ?_)
  · refine g_iconst 35 hX 1 dX12_noPair_34 rfl kc_i_1 ?_
    refine g_goto 39 hX dX12_noPair_35 (by decide) ?_
    exact g_zretL hX hr rfl rfl (Nat.le_refl 0) (Nat.le_refl 0) dX12_noPair_39
  · refine g_aload_n 9 0 hX dX12_noPair_8 rfl rfl ?_
    refine g_iload_n 10 2 hX dX12_noPair_9 rfl rfl ?_
    refine g_callV_i 13 hX (k_X12_noTrader l g N r1.2 a0 x2) lk_X12_noTrader rfl (ci := 12) rfl (Nat.le_of_ble_eq_true rfl) q_2148 q_113 (by omega) rfl (Nat.le_of_ble_eq_true rfl) (Nat.zero_le _) (Nat.zero_le _) dX12_noPair_10 rfl (fun r2 => ?_)
    refine g_if_ne 34 16 hX dX12_noPair_13 (by decide) rfl (fun _ => ?_) (fun _ => ?_)
    · refine g_iconst 35 hX 1 dX12_noPair_34 rfl kc_i_1 ?_
      refine g_goto 39 hX dX12_noPair_35 (by decide) ?_
      exact g_zretL hX hr rfl rfl (Nat.le_refl 0) (Nat.le_refl 0) dX12_noPair_39
    · refine g_aload_n 17 0 hX dX12_noPair_16 rfl rfl ?_
      refine g_iload_n 18 1 hX dX12_noPair_17 rfl rfl ?_
      refine g_iload_n 19 2 hX dX12_noPair_18 rfl rfl ?_
      refine g_icmp_ne 26 22 hX dX12_noPair_19 (by decide) rfl (fun _ => ?_) (fun _ => ?_)
      · refine g_iconst 27 hX 0 dX12_noPair_26 rfl kc_i_0 ?_
        refine g_iconst 28 hX 2 dX12_noPair_27 rfl kc_i_2 ?_
        refine g_callV_i 31 hX (k_X12_stops l g N r2.2 a0 0 2) lk_X12_stops rfl (ci := 12) rfl (Nat.le_of_ble_eq_true rfl) q_1796 q_44 (by omega) rfl (Nat.le_of_ble_eq_true rfl) (Nat.zero_le _) (Nat.zero_le _) dX12_noPair_28 rfl (fun r3 => ?_)
        refine g_if_eq 38 34 hX dX12_noPair_31 (by decide) rfl (fun _ => ?_) (fun _ => ?_)
        · refine g_iconst 39 hX 0 dX12_noPair_38 rfl kc_i_0 ?_
          exact g_zretL hX hr rfl rfl (Nat.le_refl 0) (Nat.le_refl 0) dX12_noPair_39
        · refine g_iconst 35 hX 1 dX12_noPair_34 rfl kc_i_1 ?_
          refine g_goto 39 hX dX12_noPair_35 (by decide) ?_
          exact g_zretL hX hr rfl rfl (Nat.le_refl 0) (Nat.le_refl 0) dX12_noPair_39
      · refine g_iconst 23 hX 1 dX12_noPair_22 rfl kc_i_1 ?_
        refine g_goto 27 hX dX12_noPair_23 (by decide) ?_
        refine g_iconst 28 hX 2 dX12_noPair_27 rfl kc_i_2 ?_
        refine g_callV_i 31 hX (k_X12_stops l g N r2.2 a0 1 2) lk_X12_stops rfl (ci := 12) rfl (Nat.le_of_ble_eq_true rfl) q_1796 q_44 (by omega) rfl (Nat.le_of_ble_eq_true rfl) (Nat.zero_le _) (Nat.zero_le _) dX12_noPair_28 rfl (fun r4 => ?_)
        refine g_if_eq 38 34 hX dX12_noPair_31 (by decide) rfl (fun _ => ?_) (fun _ => ?_)
        · refine g_iconst 39 hX 0 dX12_noPair_38 rfl kc_i_0 ?_
          exact g_zretL hX hr rfl rfl (Nat.le_refl 0) (Nat.le_refl 0) dX12_noPair_39
        · refine g_iconst 35 hX 1 dX12_noPair_34 rfl kc_i_1 ?_
          refine g_goto 39 hX dX12_noPair_35 (by decide) ?_
          exact g_zretL hX hr rfl rfl (Nat.le_refl 0) (Nat.le_refl 0) dX12_noPair_39
def F_X12_swapSeats_29 (N : Nat) (M : kMem) (a0 : Nat) (x1 : Int32) (x2 : Int32) (y0 : Nat) (y1 : Int32) : Option (Int32 × kMem) :=
    kg (kt M y0 12) <| (F_X12_stops N M y0 y1 3).bind fun r4 =>
    if r4.1 = 0 then (
      kg (kt r4.2 a0 12) <| (F_X12_keepsPast N r4.2 a0).bind fun M5 =>
      kg (kt M5 a0 12) <| (F_X12_swaps N M5 a0 x1 x2).bind fun r6 =>
      some (r6.1, r6.2)) else
    some (0, r4.2)
def F_X12_swapSeats (N : Nat) (M : kMem) (a0 : Nat) (x1 : Int32) (x2 : Int32) : Option (Int32 × kMem) :=
    kg (kt M a0 12) <| kl (ksI M a0 6 0) fun M1 =>
    kg (kt M1 a0 12) <| (F_X12_noPair N M1 a0 x1 x2).bind fun r2 =>
    if r2.1 = 0 then (
      kg (kt r2.2 a0 12) <| (F_X12_againstSwap N r2.2 a0 x1 x2).bind fun r3 =>
      if r3 = 0 then (
        F_X12_swapSeats_29 N r2.2 a0 x1 x2 a0 0) else
      F_X12_swapSeats_29 N r2.2 a0 x1 x2 a0 1) else
    some (0, r2.2)
set_option maxRecDepth 100000 in
set_option maxHeartbeats 4000000 in
theorem k_X12_swapSeats_29 {p : Program} {l : Launch} {e : Env} {s : State} {m : MethodId} {args : Array Value} {below : List Frame} {meth : Method} {c : Code} {g : kG} (hX : Cok (p, l, e, { frames := 2 * 8, cells := 0, slots := 0, locals := 60 * 8 }, s, m, args, below, meth, c, cX12_swapSeats, 3, RX12, g, 8)) (hr : meth.sig.returnType = (some .int)) (N : Nat) : ∀ (M : kMem) (a0 : Nat) (x1 : Int32) (x2 : Int32) (y0 : Nat) (y1 : Int32), GG (p, l, e, { frames := 2 * 8, cells := 0, slots := 0, locals := 60 * 8 }, s, m, args, below, meth, c, cX12_swapSeats, 3, RX12, g, 8) (fun b => MQ below (kQ g ((fun r : Int32 × kMem => (some (.int r.1), r.2)) b)) args s 0 0 (kZ g.2.2.1)) 0 0 (F_X12_swapSeats_29 N M a0 x1 x2 y0 y1) 29 [(0, .ref a0), (1, .int x1), (2, .int x2)] [.int y1, .ref y0] M := by
  intro M a0 x1 x2 y0 y1
  unfold F_X12_swapSeats_29
  refine g_iconst 30 hX 3 dX12_swapSeats_29 rfl kc_i_3 ?_
  refine g_callV_i 33 hX (k_X12_stops l g N M y0 y1 3) lk_X12_stops rfl (ci := 12) rfl (Nat.le_of_ble_eq_true rfl) q_1796 q_44 (by omega) rfl (Nat.le_of_ble_eq_true rfl) (Nat.zero_le _) (Nat.zero_le _) dX12_swapSeats_30 rfl (fun r4 => ?_)
  refine g_if_eq 38 36 hX dX12_swapSeats_33 (by decide) rfl (fun _ => ?_) (fun _ => ?_)
  · refine g_aload_n 39 0 hX dX12_swapSeats_38 rfl rfl ?_
    refine g_callV_v 42 hX (k_X12_keepsPast l g N r4.2 a0) lk_X12_keepsPast rfl (ci := 12) rfl (Nat.le_of_ble_eq_true rfl) q_2122 q_111 (by omega) rfl (Nat.le_of_ble_eq_true rfl) (Nat.zero_le _) (Nat.zero_le _) dX12_swapSeats_39 rfl (fun M5 => ?_)
    refine g_aload_n 43 0 hX dX12_swapSeats_42 rfl rfl ?_
    refine g_iload_n 44 1 hX dX12_swapSeats_43 rfl rfl ?_
    refine g_iload_n 45 2 hX dX12_swapSeats_44 rfl rfl ?_
    refine g_callV_i 48 hX (k_X12_swaps l g N M5 a0 x1 x2) lk_X12_swaps rfl (ci := 12) rfl (Nat.le_of_ble_eq_true rfl) q_2086 q_102 (by omega) rfl (Nat.le_of_ble_eq_true rfl) (Nat.zero_le _) (Nat.zero_le _) dX12_swapSeats_45 rfl (fun r6 => ?_)
    exact g_iret hX hr rfl (Nat.le_refl 0) (Nat.le_refl 0) dX12_swapSeats_48
  · refine g_iconst 37 hX 0 dX12_swapSeats_36 rfl kc_i_0 ?_
    exact g_iret hX hr rfl (Nat.le_refl 0) (Nat.le_refl 0) dX12_swapSeats_37
set_option maxRecDepth 100000 in
set_option maxHeartbeats 4000000 in
theorem k_X12_swapSeats (l : Launch) (g : kG) (N : Nat) (M : kMem) (a0 : Nat) (x1 : Int32) (x2 : Int32) : kMet l g yX12_swapSeats cX12_swapSeats 3 (some .int) 8 0 0 [.ref a0, .int x1, .int x2] M (fun r : Int32 × kMem => (some (.int r.1), r.2)) (F_X12_swapSeats N M a0 x1 x2) := by
  refine k_of (lv := [(0, .ref a0), (1, .int x1), (2, .int x2)]) RX12 (by decide) rfl rfl (Nat.le_of_ble_eq_true rfl) ?_
  intro p e s m args below meth c hX hr _
  unfold F_X12_swapSeats
  refine g_aload_n 1 0 hX dX12_swapSeats_0 rfl rfl ?_
  refine g_iconst 2 hX 0 dX12_swapSeats_1 rfl kc_i_0 ?_
  refine p_X12_63 5 hX dX12_swapSeats_2 rfl ?_
  refine g_klM (fun M1 hM1 => ?_)
  refine g_aload_n 6 0 hX dX12_swapSeats_5 rfl rfl ?_
  refine g_iload_n 7 1 hX dX12_swapSeats_6 rfl rfl ?_
  refine g_iload_n 8 2 hX dX12_swapSeats_7 rfl rfl ?_
  refine g_callV_i 11 hX (k_X12_noPair l g N M1 a0 x1 x2) lk_X12_noPair rfl (ci := 12) rfl (Nat.le_of_ble_eq_true rfl) q_2177 q_117 (by omega) rfl (Nat.le_of_ble_eq_true rfl) (Nat.zero_le _) (Nat.zero_le _) dX12_swapSeats_8 rfl (fun r2 => ?_)
  refine g_if_ne 36 14 hX dX12_swapSeats_11 (by decide) rfl (fun _ => ?_) (fun _ => ?_)
  · refine g_iconst 37 hX 0 dX12_swapSeats_36 rfl kc_i_0 ?_
    exact g_iret hX hr rfl (Nat.le_refl 0) (Nat.le_refl 0) dX12_swapSeats_37
  · refine g_aload_n 15 0 hX dX12_swapSeats_14 rfl rfl ?_
    refine g_aload_n 16 0 hX dX12_swapSeats_15 rfl rfl ?_
    refine g_iload_n 17 1 hX dX12_swapSeats_16 rfl rfl ?_
    refine g_iload_n 18 2 hX dX12_swapSeats_17 rfl rfl ?_
    refine g_callV_ip 21 hX (k_X12_againstSwap l g N r2.2 a0 x1 x2) lk_X12_againstSwap rfl (ci := 12) rfl (Nat.le_of_ble_eq_true rfl) q_2074 q_99 (by omega) rfl (Nat.le_of_ble_eq_true rfl) (Nat.zero_le _) (Nat.zero_le _) dX12_swapSeats_18 rfl (fun r3 => ?_)
    refine g_if_eq 28 24 hX dX12_swapSeats_21 (by decide) rfl (fun _ => ?_) (fun _ => ?_)
    · refine g_iconst 29 hX 0 dX12_swapSeats_28 rfl kc_i_0 ?_
      exact k_X12_swapSeats_29 hX hr N r2.2 a0 x1 x2 a0 0
    · refine g_iconst 25 hX 1 dX12_swapSeats_24 rfl kc_i_1 ?_
      refine g_goto 29 hX dX12_swapSeats_25 (by decide) ?_
      exact k_X12_swapSeats_29 hX hr N r2.2 a0 x1 x2 a0 1
def F_X12_setWage_23 (N : Nat) (M : kMem) (a0 : Nat) (x1 : Int32) (y0 : Nat) (y1 : Int32) : Option (Int32 × kMem) :=
    kg (kt M y0 12) <| (F_X12_stops N M y0 y1 1).bind fun r3 =>
    if r3.1 = 0 then (
      kg (kt r3.2 a0 12) <| (F_X12_keepsPast N r3.2 a0).bind fun M4 =>
      kg (kt M4 a0 12) <| (F_X12_setsWage N M4 a0 x1).bind fun r5 =>
      some (r5.1, r5.2)) else
    some (0, r3.2)
def F_X12_setWage (N : Nat) (M : kMem) (a0 : Nat) (x1 : Int32) : Option (Int32 × kMem) :=
    kg (kt M a0 12) <| kl (ksI M a0 6 0) fun M1 =>
    (F_X12_in N M1 x1.toInt64 0 20).bind fun r2 =>
    if r2 = 0 then (
      F_X12_setWage_23 N M1 a0 x1 a0 1) else
    F_X12_setWage_23 N M1 a0 x1 a0 0
set_option maxRecDepth 100000 in
set_option maxHeartbeats 4000000 in
theorem k_X12_setWage_23 {p : Program} {l : Launch} {e : Env} {s : State} {m : MethodId} {args : Array Value} {below : List Frame} {meth : Method} {c : Code} {g : kG} (hX : Cok (p, l, e, { frames := 2 * 3, cells := 0, slots := 0, locals := 60 * 3 }, s, m, args, below, meth, c, cX12_setWage, 2, RX12, g, 3)) (hr : meth.sig.returnType = (some .int)) (N : Nat) : ∀ (M : kMem) (a0 : Nat) (x1 : Int32) (y0 : Nat) (y1 : Int32), GG (p, l, e, { frames := 2 * 3, cells := 0, slots := 0, locals := 60 * 3 }, s, m, args, below, meth, c, cX12_setWage, 2, RX12, g, 3) (fun b => MQ below (kQ g ((fun r : Int32 × kMem => (some (.int r.1), r.2)) b)) args s 0 0 (kZ g.2.2.1)) 0 0 (F_X12_setWage_23 N M a0 x1 y0 y1) 23 [(0, .ref a0), (1, .int x1)] [.int y1, .ref y0] M := by
  intro M a0 x1 y0 y1
  unfold F_X12_setWage_23
  refine g_iconst 24 hX 1 dX12_setWage_23 rfl kc_i_1 ?_
  refine g_callV_i 27 hX (k_X12_stops l g N M y0 y1 1) lk_X12_stops rfl (ci := 12) rfl (Nat.le_of_ble_eq_true rfl) q_1796 q_44 (by omega) rfl (Nat.le_of_ble_eq_true rfl) (Nat.zero_le _) (Nat.zero_le _) dX12_setWage_24 rfl (fun r3 => ?_)
  refine g_if_eq 32 30 hX dX12_setWage_27 (by decide) rfl (fun _ => ?_) (fun _ => ?_)
  · refine g_aload_n 33 0 hX dX12_setWage_32 rfl rfl ?_
    refine g_callV_v 36 hX (k_X12_keepsPast l g N r3.2 a0) lk_X12_keepsPast rfl (ci := 12) rfl (Nat.le_of_ble_eq_true rfl) q_2122 q_111 (by omega) rfl (Nat.le_of_ble_eq_true rfl) (Nat.zero_le _) (Nat.zero_le _) dX12_setWage_33 rfl (fun M4 => ?_)
    refine g_aload_n 37 0 hX dX12_setWage_36 rfl rfl ?_
    refine g_iload_n 38 1 hX dX12_setWage_37 rfl rfl ?_
    refine g_callV_i 41 hX (k_X12_setsWage l g N M4 a0 x1) lk_X12_setsWage rfl (ci := 12) rfl (Nat.le_of_ble_eq_true rfl) q_2094 q_104 (by omega) rfl (Nat.le_of_ble_eq_true rfl) (Nat.zero_le _) (Nat.zero_le _) dX12_setWage_38 rfl (fun r5 => ?_)
    exact g_iret hX hr rfl (Nat.le_refl 0) (Nat.le_refl 0) dX12_setWage_41
  · refine g_iconst 31 hX 0 dX12_setWage_30 rfl kc_i_0 ?_
    exact g_iret hX hr rfl (Nat.le_refl 0) (Nat.le_refl 0) dX12_setWage_31
set_option maxRecDepth 100000 in
set_option maxHeartbeats 4000000 in
theorem k_X12_setWage (l : Launch) (g : kG) (N : Nat) (M : kMem) (a0 : Nat) (x1 : Int32) : kMet l g yX12_setWage cX12_setWage 2 (some .int) 3 0 0 [.ref a0, .int x1] M (fun r : Int32 × kMem => (some (.int r.1), r.2)) (F_X12_setWage N M a0 x1) := by
  refine k_of (lv := [(0, .ref a0), (1, .int x1)]) RX12 (by decide) rfl rfl (Nat.le_of_ble_eq_true rfl) ?_
  intro p e s m args below meth c hX hr _
  unfold F_X12_setWage
  refine g_aload_n 1 0 hX dX12_setWage_0 rfl rfl ?_
  refine g_iconst 2 hX 0 dX12_setWage_1 rfl kc_i_0 ?_
  refine p_X12_63 5 hX dX12_setWage_2 rfl ?_
  refine g_klM (fun M1 hM1 => ?_)
  refine g_aload_n 6 0 hX dX12_setWage_5 rfl rfl ?_
  refine g_iload_n 7 1 hX dX12_setWage_6 rfl rfl ?_
  refine g_i2l 8 hX dX12_setWage_7 rfl ?_
  refine g_lconst 9 hX 0 dX12_setWage_8 rfl rfl ?_
  refine g_ldc2 12 hX 20 dX12_setWage_9 rfl q_2185 ?_
  refine g_callS_ip 15 hX (k_X12_in l g N M1 x1.toInt64 0 20) lk_X12_in q_1808 (by omega) rfl (Nat.le_of_ble_eq_true rfl) (Nat.zero_le _) (Nat.zero_le _) dX12_setWage_12 rfl (fun r2 => ?_)
  refine g_if_ne 22 18 hX dX12_setWage_15 (by decide) rfl (fun _ => ?_) (fun _ => ?_)
  · refine g_iconst 23 hX 0 dX12_setWage_22 rfl kc_i_0 ?_
    exact k_X12_setWage_23 hX hr N M1 a0 x1 a0 0
  · refine g_iconst 19 hX 1 dX12_setWage_18 rfl kc_i_1 ?_
    refine g_goto 23 hX dX12_setWage_19 (by decide) ?_
    exact k_X12_setWage_23 hX hr N M1 a0 x1 a0 1
def F_X12_advance_51 (N : Nat) (M : kMem) (a0 : Nat) (x1 : Int32) (y0 : Nat) (y1 : Int32) : Option (Int32 × kMem) :=
    kg (kt M y0 12) <| (F_X12_stops N M y0 y1 2).bind fun r4 =>
    if r4.1 = 0 then (
      kg (kt r4.2 a0 12) <| (F_X12_keepsPast N r4.2 a0).bind fun M5 =>
      kg (kt M5 a0 12) <| (F_X12_days1 N M5 a0 x1).bind fun r6 =>
      some (r6.1, r6.2)) else
    some (0, r4.2)
def F_X12_advance_23 (N : Nat) (M : kMem) (a0 : Nat) (x1 : Int32) (y0 : Nat) (y1 : Int32) : Option (Int32 × kMem) :=
    kg (kt M y0 12) <| (F_X12_stops N M y0 y1 1).bind fun r3 =>
    if r3.1 = 0 then (
      kg (kt r3.2 a0 12) <|
      kg (kin r3.2 (kR r3.2 a0 0) 13 6) <|
      if (9999 : Int32) < ((kI r3.2 (kR r3.2 a0 0) (kx 6)) + x1) then (
        F_X12_advance_51 N r3.2 a0 x1 a0 1) else
      F_X12_advance_51 N r3.2 a0 x1 a0 0) else
    some (0, r3.2)
def F_X12_advance (N : Nat) (M : kMem) (a0 : Nat) (x1 : Int32) : Option (Int32 × kMem) :=
    kg (kt M a0 12) <| kl (ksI M a0 6 0) fun M1 =>
    (F_X12_in N M1 x1.toInt64 1 30).bind fun r2 =>
    if r2 = 0 then (
      F_X12_advance_23 N M1 a0 x1 a0 1) else
    F_X12_advance_23 N M1 a0 x1 a0 0
set_option maxRecDepth 100000 in
set_option maxHeartbeats 4000000 in
theorem k_X12_advance_51 {p : Program} {l : Launch} {e : Env} {s : State} {m : MethodId} {args : Array Value} {below : List Frame} {meth : Method} {c : Code} {g : kG} (hX : Cok (p, l, e, { frames := 2 * 10, cells := 0, slots := 0, locals := 60 * 10 }, s, m, args, below, meth, c, cX12_advance, 2, RX12, g, 10)) (hr : meth.sig.returnType = (some .int)) (N : Nat) : ∀ (M : kMem) (a0 : Nat) (x1 : Int32) (y0 : Nat) (y1 : Int32), GG (p, l, e, { frames := 2 * 10, cells := 0, slots := 0, locals := 60 * 10 }, s, m, args, below, meth, c, cX12_advance, 2, RX12, g, 10) (fun b => MQ below (kQ g ((fun r : Int32 × kMem => (some (.int r.1), r.2)) b)) args s 0 0 (kZ g.2.2.1)) 0 0 (F_X12_advance_51 N M a0 x1 y0 y1) 51 [(0, .ref a0), (1, .int x1)] [.int y1, .ref y0] M := by
  intro M a0 x1 y0 y1
  unfold F_X12_advance_51
  refine g_iconst 52 hX 2 dX12_advance_51 rfl kc_i_2 ?_
  refine g_callV_i 55 hX (k_X12_stops l g N M y0 y1 2) lk_X12_stops rfl (ci := 12) rfl (Nat.le_of_ble_eq_true rfl) q_1796 q_44 (by omega) rfl (Nat.le_of_ble_eq_true rfl) (Nat.zero_le _) (Nat.zero_le _) dX12_advance_52 rfl (fun r4 => ?_)
  refine g_if_eq 60 58 hX dX12_advance_55 (by decide) rfl (fun _ => ?_) (fun _ => ?_)
  · refine g_aload_n 61 0 hX dX12_advance_60 rfl rfl ?_
    refine g_callV_v 64 hX (k_X12_keepsPast l g N r4.2 a0) lk_X12_keepsPast rfl (ci := 12) rfl (Nat.le_of_ble_eq_true rfl) q_2122 q_111 (by omega) rfl (Nat.le_of_ble_eq_true rfl) (Nat.zero_le _) (Nat.zero_le _) dX12_advance_61 rfl (fun M5 => ?_)
    refine g_aload_n 65 0 hX dX12_advance_64 rfl rfl ?_
    refine g_iload_n 66 1 hX dX12_advance_65 rfl rfl ?_
    refine g_callV_i 69 hX (k_X12_days1 l g N M5 a0 x1) lk_X12_days1 rfl (ci := 12) rfl (Nat.le_of_ble_eq_true rfl) q_2098 q_105 (by omega) rfl (Nat.le_of_ble_eq_true rfl) (Nat.zero_le _) (Nat.zero_le _) dX12_advance_66 rfl (fun r6 => ?_)
    exact g_iret hX hr rfl (Nat.le_refl 0) (Nat.le_refl 0) dX12_advance_69
  · refine g_iconst 59 hX 0 dX12_advance_58 rfl kc_i_0 ?_
    exact g_iret hX hr rfl (Nat.le_refl 0) (Nat.le_refl 0) dX12_advance_59
set_option maxRecDepth 100000 in
set_option maxHeartbeats 4000000 in
theorem k_X12_advance_23 {p : Program} {l : Launch} {e : Env} {s : State} {m : MethodId} {args : Array Value} {below : List Frame} {meth : Method} {c : Code} {g : kG} (hX : Cok (p, l, e, { frames := 2 * 10, cells := 0, slots := 0, locals := 60 * 10 }, s, m, args, below, meth, c, cX12_advance, 2, RX12, g, 10)) (hr : meth.sig.returnType = (some .int)) (N : Nat) : ∀ (M : kMem) (a0 : Nat) (x1 : Int32) (y0 : Nat) (y1 : Int32), GG (p, l, e, { frames := 2 * 10, cells := 0, slots := 0, locals := 60 * 10 }, s, m, args, below, meth, c, cX12_advance, 2, RX12, g, 10) (fun b => MQ below (kQ g ((fun r : Int32 × kMem => (some (.int r.1), r.2)) b)) args s 0 0 (kZ g.2.2.1)) 0 0 (F_X12_advance_23 N M a0 x1 y0 y1) 23 [(0, .ref a0), (1, .int x1)] [.int y1, .ref y0] M := by
  intro M a0 x1 y0 y1
  unfold F_X12_advance_23
  refine g_iconst 24 hX 1 dX12_advance_23 rfl kc_i_1 ?_
  refine g_callV_i 27 hX (k_X12_stops l g N M y0 y1 1) lk_X12_stops rfl (ci := 12) rfl (Nat.le_of_ble_eq_true rfl) q_1796 q_44 (by omega) rfl (Nat.le_of_ble_eq_true rfl) (Nat.zero_le _) (Nat.zero_le _) dX12_advance_24 rfl (fun r3 => ?_)
  refine g_if_ne 58 30 hX dX12_advance_27 (by decide) rfl (fun _ => ?_) (fun _ => ?_)
  · refine g_iconst 59 hX 0 dX12_advance_58 rfl kc_i_0 ?_
    exact g_iret hX hr rfl (Nat.le_refl 0) (Nat.le_refl 0) dX12_advance_59
  · refine g_aload_n 31 0 hX dX12_advance_30 rfl rfl ?_
    refine g_aload_n 32 0 hX dX12_advance_31 rfl rfl ?_
    refine r_X12_7 35 hX dX12_advance_32 rfl ?_
    refine g_bipush 37 hX 6 dX12_advance_35 rfl kc_b_6 ?_
    refine g_iald 38 hX dX12_advance_37 rfl ?_
    refine g_iload_n 39 1 hX dX12_advance_38 rfl rfl ?_
    refine g_iadd 40 hX dX12_advance_39 rfl ?_
    refine g_sipush 43 hX 9999 dX12_advance_40 rfl kc_s_9999 ?_
    refine g_icmp_le 50 46 hX dX12_advance_43 (by decide) rfl (fun _ => ?_) (fun _ => ?_)
    · refine g_iconst 51 hX 0 dX12_advance_50 rfl kc_i_0 ?_
      exact k_X12_advance_51 hX hr N r3.2 a0 x1 a0 0
    · refine g_iconst 47 hX 1 dX12_advance_46 rfl kc_i_1 ?_
      refine g_goto 51 hX dX12_advance_47 (by decide) ?_
      exact k_X12_advance_51 hX hr N r3.2 a0 x1 a0 1
set_option maxRecDepth 100000 in
set_option maxHeartbeats 4000000 in
theorem k_X12_advance (l : Launch) (g : kG) (N : Nat) (M : kMem) (a0 : Nat) (x1 : Int32) : kMet l g yX12_advance cX12_advance 2 (some .int) 10 0 0 [.ref a0, .int x1] M (fun r : Int32 × kMem => (some (.int r.1), r.2)) (F_X12_advance N M a0 x1) := by
  refine k_of (lv := [(0, .ref a0), (1, .int x1)]) RX12 (by decide) rfl rfl (Nat.le_of_ble_eq_true rfl) ?_
  intro p e s m args below meth c hX hr _
  unfold F_X12_advance
  refine g_aload_n 1 0 hX dX12_advance_0 rfl rfl ?_
  refine g_iconst 2 hX 0 dX12_advance_1 rfl kc_i_0 ?_
  refine p_X12_63 5 hX dX12_advance_2 rfl ?_
  refine g_klM (fun M1 hM1 => ?_)
  refine g_aload_n 6 0 hX dX12_advance_5 rfl rfl ?_
  refine g_iload_n 7 1 hX dX12_advance_6 rfl rfl ?_
  refine g_i2l 8 hX dX12_advance_7 rfl ?_
  refine g_lconst 9 hX 1 dX12_advance_8 rfl rfl ?_
  refine g_ldc2 12 hX 30 dX12_advance_9 rfl q_2190 ?_
  refine g_callS_ip 15 hX (k_X12_in l g N M1 x1.toInt64 1 30) lk_X12_in q_1808 (by omega) rfl (Nat.le_of_ble_eq_true rfl) (Nat.zero_le _) (Nat.zero_le _) dX12_advance_12 rfl (fun r2 => ?_)
  refine g_if_ne 22 18 hX dX12_advance_15 (by decide) rfl (fun _ => ?_) (fun _ => ?_)
  · refine g_iconst 23 hX 0 dX12_advance_22 rfl kc_i_0 ?_
    exact k_X12_advance_23 hX hr N M1 a0 x1 a0 0
  · refine g_iconst 19 hX 1 dX12_advance_18 rfl kc_i_1 ?_
    refine g_goto 23 hX dX12_advance_19 (by decide) ?_
    exact k_X12_advance_23 hX hr N M1 a0 x1 a0 1
def F_X12_undoCount (N : Nat) (M : kMem) (a0 : Nat) : Option (Int32 × kMem) :=
    kg (kt M a0 12) <| kl (ksI M a0 6 0) fun M1 =>
    kg (kt M1 a0 12) <|
    some (kI M1 a0 5, M1)
set_option maxRecDepth 100000 in
set_option maxHeartbeats 4000000 in
theorem k_X12_undoCount (l : Launch) (g : kG) (N : Nat) (M : kMem) (a0 : Nat) : kMet l g yX12_undoCount cX12_undoCount 1 (some .int) 1 0 0 [.ref a0] M (fun r : Int32 × kMem => (some (.int r.1), r.2)) (F_X12_undoCount N M a0) := by
  refine k_of (lv := [(0, .ref a0)]) RX12 (by decide) rfl rfl (Nat.le_of_ble_eq_true rfl) ?_
  intro p e s m args below meth c hX hr _
  unfold F_X12_undoCount
  refine g_aload_n 1 0 hX dX12_undoCount_0 rfl rfl ?_
  refine g_iconst 2 hX 0 dX12_undoCount_1 rfl kc_i_0 ?_
  refine p_X12_63 5 hX dX12_undoCount_2 rfl ?_
  refine g_klM (fun M1 hM1 => ?_)
  refine g_aload_n 6 0 hX dX12_undoCount_5 rfl rfl ?_
  refine r_X12_295 9 hX dX12_undoCount_6 rfl ?_
  exact g_iret hX hr rfl (Nat.le_refl 0) (Nat.le_refl 0) dX12_undoCount_9
def F_X12_undo_18 (N : Nat) (M : kMem) (a0 : Nat) (y0 : Nat) (y1 : Int32) : Option (Int32 × kMem) :=
    kg (kt M y0 12) <| (F_X12_stops N M y0 y1 1).bind fun r2 =>
    if r2.1 = 0 then (
      kg (kt r2.2 a0 12) <|
      kg (kt r2.2 a0 12) <| kl (ksI r2.2 a0 5 ((kI r2.2 a0 5) - 1)) fun M3 =>
      kg (kt M3 a0 12) <|
      kg (kt M3 a0 12) <|
      kg (kt M3 a0 12) <|
      (F_X12_copies N M3 (kR M3 a0 2) (293 * (kI M3 a0 5)) (kR M3 a0 0) 0).bind fun M4 =>
      kg (kt M4 a0 12) <|
      some (kI M4 a0 5, M4)) else
    some (0, r2.2)
def F_X12_undo (N : Nat) (M : kMem) (a0 : Nat) : Option (Int32 × kMem) :=
    kg (kt M a0 12) <| kl (ksI M a0 6 0) fun M1 =>
    kg (kt M1 a0 12) <|
    if (kI M1 a0 5) = 0 then (
      F_X12_undo_18 N M1 a0 a0 1) else
    F_X12_undo_18 N M1 a0 a0 0
set_option maxRecDepth 100000 in
set_option maxHeartbeats 4000000 in
theorem k_X12_undo_18 {p : Program} {l : Launch} {e : Env} {s : State} {m : MethodId} {args : Array Value} {below : List Frame} {meth : Method} {c : Code} {g : kG} (hX : Cok (p, l, e, { frames := 2 * 2, cells := 0, slots := 0, locals := 60 * 2 }, s, m, args, below, meth, c, cX12_undo, 1, RX12, g, 2)) (hr : meth.sig.returnType = (some .int)) (N : Nat) : ∀ (M : kMem) (a0 : Nat) (y0 : Nat) (y1 : Int32), GG (p, l, e, { frames := 2 * 2, cells := 0, slots := 0, locals := 60 * 2 }, s, m, args, below, meth, c, cX12_undo, 1, RX12, g, 2) (fun b => MQ below (kQ g ((fun r : Int32 × kMem => (some (.int r.1), r.2)) b)) args s 0 0 (kZ g.2.2.1)) 0 0 (F_X12_undo_18 N M a0 y0 y1) 18 [(0, .ref a0)] [.int y1, .ref y0] M := by
  intro M a0 y0 y1
  unfold F_X12_undo_18
  refine g_iconst 19 hX 1 dX12_undo_18 rfl kc_i_1 ?_
  refine g_callV_i 22 hX (k_X12_stops l g N M y0 y1 1) lk_X12_stops rfl (ci := 12) rfl (Nat.le_of_ble_eq_true rfl) q_1796 q_44 (by omega) rfl (Nat.le_of_ble_eq_true rfl) (Nat.zero_le _) (Nat.zero_le _) dX12_undo_19 rfl (fun r2 => ?_)
  refine g_if_eq 27 25 hX dX12_undo_22 (by decide) rfl (fun _ => ?_) (fun _ => ?_)
  · refine g_aload_n 28 0 hX dX12_undo_27 rfl rfl ?_
    refine g_dup 29 hX dX12_undo_28 rfl rfl ?_
    refine r_X12_295 32 hX dX12_undo_29 rfl ?_
    refine g_iconst 33 hX 1 dX12_undo_32 rfl kc_i_1 ?_
    refine g_isub 34 hX dX12_undo_33 rfl ?_
    refine p_X12_295 37 hX dX12_undo_34 rfl ?_
    refine g_klM (fun M3 hM3 => ?_)
    refine g_aload_n 38 0 hX dX12_undo_37 rfl rfl ?_
    refine r_X12_16 41 hX dX12_undo_38 rfl ?_
    refine g_sipush 44 hX 293 dX12_undo_41 rfl kc_s_293 ?_
    refine g_aload_n 45 0 hX dX12_undo_44 rfl rfl ?_
    refine r_X12_295 48 hX dX12_undo_45 rfl ?_
    refine g_imul 49 hX dX12_undo_48 rfl ?_
    refine g_aload_n 50 0 hX dX12_undo_49 rfl rfl ?_
    refine r_X12_7 53 hX dX12_undo_50 rfl ?_
    refine g_iconst 54 hX 0 dX12_undo_53 rfl kc_i_0 ?_
    refine g_callS_v 57 hX (k_X12_copies l g N M3 (kR M3 a0 2) (293 * (kI M3 a0 5)) (kR M3 a0 0) 0) lk_X12_copies q_1819 (by omega) rfl (Nat.le_of_ble_eq_true rfl) (Nat.zero_le _) (Nat.zero_le _) dX12_undo_54 rfl (fun M4 => ?_)
    refine g_aload_n 58 0 hX dX12_undo_57 rfl rfl ?_
    refine r_X12_295 61 hX dX12_undo_58 rfl ?_
    exact g_iret hX hr rfl (Nat.le_refl 0) (Nat.le_refl 0) dX12_undo_61
  · refine g_iconst 26 hX 0 dX12_undo_25 rfl kc_i_0 ?_
    exact g_iret hX hr rfl (Nat.le_refl 0) (Nat.le_refl 0) dX12_undo_26
set_option maxRecDepth 100000 in
set_option maxHeartbeats 4000000 in
theorem k_X12_undo (l : Launch) (g : kG) (N : Nat) (M : kMem) (a0 : Nat) : kMet l g yX12_undo cX12_undo 1 (some .int) 2 0 0 [.ref a0] M (fun r : Int32 × kMem => (some (.int r.1), r.2)) (F_X12_undo N M a0) := by
  refine k_of (lv := [(0, .ref a0)]) RX12 (by decide) rfl rfl (Nat.le_of_ble_eq_true rfl) ?_
  intro p e s m args below meth c hX hr _
  unfold F_X12_undo
  refine g_aload_n 1 0 hX dX12_undo_0 rfl rfl ?_
  refine g_iconst 2 hX 0 dX12_undo_1 rfl kc_i_0 ?_
  refine p_X12_63 5 hX dX12_undo_2 rfl ?_
  refine g_klM (fun M1 hM1 => ?_)
  refine g_aload_n 6 0 hX dX12_undo_5 rfl rfl ?_
  refine g_aload_n 7 0 hX dX12_undo_6 rfl rfl ?_
  refine r_X12_295 10 hX dX12_undo_7 rfl ?_
  refine g_if_ne 17 13 hX dX12_undo_10 (by decide) rfl (fun _ => ?_) (fun _ => ?_)
  · refine g_iconst 18 hX 0 dX12_undo_17 rfl kc_i_0 ?_
    exact k_X12_undo_18 hX hr N M1 a0 a0 0
  · refine g_iconst 14 hX 1 dX12_undo_13 rfl kc_i_1 ?_
    refine g_goto 18 hX dX12_undo_14 (by decide) ?_
    exact k_X12_undo_18 hX hr N M1 a0 a0 1
def F_X12_noSlot (N : Nat) (M : kMem) (a0 : Nat) (x1 : Int32) : Option (Int32 × kMem) :=
    (F_X12_in N M x1.toInt64 0 1).bind fun r1 =>
    if r1 = 0 then (
      kg (kt M a0 12) <| (F_X12_stops N M a0 1 1).bind fun r3 =>
      kg (r3.1 == 0 || r3.1 == 1) <| some (r3.1, r3.2)) else
    kg (kt M a0 12) <| (F_X12_stops N M a0 0 1).bind fun r2 =>
    kg (r2.1 == 0 || r2.1 == 1) <| some (r2.1, r2.2)
set_option maxRecDepth 100000 in
set_option maxHeartbeats 4000000 in
theorem k_X12_noSlot (l : Launch) (g : kG) (N : Nat) (M : kMem) (a0 : Nat) (x1 : Int32) : kMet l g yX12_noSlot cX12_noSlot 2 (some .boolean) 2 0 0 [.ref a0, .int x1] M (fun r : Int32 × kMem => (some (.int r.1), r.2)) (F_X12_noSlot N M a0 x1) := by
  refine k_of (lv := [(0, .ref a0), (1, .int x1)]) RX12 (by decide) rfl rfl (Nat.le_of_ble_eq_true rfl) ?_
  intro p e s m args below meth c hX hr _
  unfold F_X12_noSlot
  refine g_aload_n 1 0 hX dX12_noSlot_0 rfl rfl ?_
  refine g_iload_n 2 1 hX dX12_noSlot_1 rfl rfl ?_
  refine g_i2l 3 hX dX12_noSlot_2 rfl ?_
  refine g_lconst 4 hX 0 dX12_noSlot_3 rfl rfl ?_
  refine g_lconst 5 hX 1 dX12_noSlot_4 rfl rfl ?_
  refine g_callS_ip 8 hX (k_X12_in l g N M x1.toInt64 0 1) lk_X12_in q_1808 (by omega) rfl (Nat.le_of_ble_eq_true rfl) (Nat.zero_le _) (Nat.zero_le _) dX12_noSlot_5 rfl (fun r1 => ?_)
  refine g_if_ne 15 11 hX dX12_noSlot_8 (by decide) rfl (fun _ => ?_) (fun _ => ?_)
  · refine g_iconst 16 hX 0 dX12_noSlot_15 rfl kc_i_0 ?_
    refine g_iconst 17 hX 1 dX12_noSlot_16 rfl kc_i_1 ?_
    refine g_callV_i 20 hX (k_X12_stops l g N M a0 0 1) lk_X12_stops rfl (ci := 12) rfl (Nat.le_of_ble_eq_true rfl) q_1796 q_44 (by omega) rfl (Nat.le_of_ble_eq_true rfl) (Nat.zero_le _) (Nat.zero_le _) dX12_noSlot_17 rfl (fun r2 => ?_)
    exact g_zret hX hr rfl (Nat.le_refl 0) (Nat.le_refl 0) dX12_noSlot_20
  · refine g_iconst 12 hX 1 dX12_noSlot_11 rfl kc_i_1 ?_
    refine g_goto 16 hX dX12_noSlot_12 (by decide) ?_
    refine g_iconst 17 hX 1 dX12_noSlot_16 rfl kc_i_1 ?_
    refine g_callV_i 20 hX (k_X12_stops l g N M a0 1 1) lk_X12_stops rfl (ci := 12) rfl (Nat.le_of_ble_eq_true rfl) q_1796 q_44 (by omega) rfl (Nat.le_of_ble_eq_true rfl) (Nat.zero_le _) (Nat.zero_le _) dX12_noSlot_17 rfl (fun r3 => ?_)
    exact g_zret hX hr rfl (Nat.le_refl 0) (Nat.le_refl 0) dX12_noSlot_20
def F_X12_save (N : Nat) (M : kMem) (a0 : Nat) (x1 : Int32) : Option (Int32 × kMem) :=
    kg (kt M a0 12) <| kl (ksI M a0 6 0) fun M1 =>
    kg (kt M1 a0 12) <| (F_X12_noSlot N M1 a0 x1).bind fun r2 =>
    if r2.1 = 0 then (
      kg (kt r2.2 a0 12) <|
      kg (kt r2.2 a0 12) <|
      (F_X12_copies N r2.2 (kR r2.2 a0 0) 0 (kR r2.2 a0 3) (293 * x1)).bind fun M3 =>
      kg (kt M3 a0 12) <|
      kg (kin M3 (kR M3 a0 4) 14 x1 && ((1 : Int32) == 0 || (1 : Int32) == 1)) <| kl (ksI M3 (kR M3 a0 4) (kx x1) 1) fun M4 =>
      kg (kt M4 a0 12) <|
      kg (kin M4 (kR M4 a0 0) 13 6) <|
      some (kI M4 (kR M4 a0 0) (kx 6), M4)) else
    some (0, r2.2)
set_option maxRecDepth 100000 in
set_option maxHeartbeats 4000000 in
theorem k_X12_save (l : Launch) (g : kG) (N : Nat) (M : kMem) (a0 : Nat) (x1 : Int32) : kMet l g yX12_save cX12_save 2 (some .int) 3 0 0 [.ref a0, .int x1] M (fun r : Int32 × kMem => (some (.int r.1), r.2)) (F_X12_save N M a0 x1) := by
  refine k_of (lv := [(0, .ref a0), (1, .int x1)]) RX12 (by decide) rfl rfl (Nat.le_of_ble_eq_true rfl) ?_
  intro p e s m args below meth c hX hr _
  unfold F_X12_save
  refine g_aload_n 1 0 hX dX12_save_0 rfl rfl ?_
  refine g_iconst 2 hX 0 dX12_save_1 rfl kc_i_0 ?_
  refine p_X12_63 5 hX dX12_save_2 rfl ?_
  refine g_klM (fun M1 hM1 => ?_)
  refine g_aload_n 6 0 hX dX12_save_5 rfl rfl ?_
  refine g_iload_n 7 1 hX dX12_save_6 rfl rfl ?_
  refine g_callV_i 10 hX (k_X12_noSlot l g N M1 a0 x1) lk_X12_noSlot rfl (ci := 12) rfl (Nat.le_of_ble_eq_true rfl) q_2203 q_118 (by omega) rfl (Nat.le_of_ble_eq_true rfl) (Nat.zero_le _) (Nat.zero_le _) dX12_save_7 rfl (fun r2 => ?_)
  refine g_if_eq 15 13 hX dX12_save_10 (by decide) rfl (fun _ => ?_) (fun _ => ?_)
  · refine g_aload_n 16 0 hX dX12_save_15 rfl rfl ?_
    refine r_X12_7 19 hX dX12_save_16 rfl ?_
    refine g_iconst 20 hX 0 dX12_save_19 rfl kc_i_0 ?_
    refine g_aload_n 21 0 hX dX12_save_20 rfl rfl ?_
    refine r_X12_19 24 hX dX12_save_21 rfl ?_
    refine g_sipush 27 hX 293 dX12_save_24 rfl kc_s_293 ?_
    refine g_iload_n 28 1 hX dX12_save_27 rfl rfl ?_
    refine g_imul 29 hX dX12_save_28 rfl ?_
    refine g_callS_v 32 hX (k_X12_copies l g N r2.2 (kR r2.2 a0 0) 0 (kR r2.2 a0 3) (293 * x1)) lk_X12_copies q_1819 (by omega) rfl (Nat.le_of_ble_eq_true rfl) (Nat.zero_le _) (Nat.zero_le _) dX12_save_29 rfl (fun M3 => ?_)
    refine g_aload_n 33 0 hX dX12_save_32 rfl rfl ?_
    refine r_X12_22 36 hX dX12_save_33 rfl ?_
    refine g_iload_n 37 1 hX dX12_save_36 rfl rfl ?_
    refine g_iconst 38 hX 1 dX12_save_37 rfl kc_i_1 ?_
    refine g_zast 39 hX dX12_save_38 rfl ?_
    refine g_klM (fun M4 hM4 => ?_)
    refine g_aload_n 40 0 hX dX12_save_39 rfl rfl ?_
    refine r_X12_7 43 hX dX12_save_40 rfl ?_
    refine g_bipush 45 hX 6 dX12_save_43 rfl kc_b_6 ?_
    refine g_iald 46 hX dX12_save_45 rfl ?_
    exact g_iret hX hr rfl (Nat.le_refl 0) (Nat.le_refl 0) dX12_save_46
  · refine g_iconst 14 hX 0 dX12_save_13 rfl kc_i_0 ?_
    exact g_iret hX hr rfl (Nat.le_refl 0) (Nat.le_refl 0) dX12_save_14
def F_X12_restore_28 (N : Nat) (M : kMem) (a0 : Nat) (x1 : Int32) (y0 : Nat) (y1 : Int32) : Option (Int32 × kMem) :=
    kg (kt M y0 12) <| (F_X12_stops N M y0 y1 2).bind fun r3 =>
    if r3.1 = 0 then (
      kg (kt r3.2 a0 12) <|
      kg (kt r3.2 a0 12) <|
      (F_X12_copies N r3.2 (kR r3.2 a0 3) (293 * x1) (kR r3.2 a0 0) 0).bind fun M4 =>
      kg (kt M4 a0 12) <| kl (ksI M4 a0 5 0) fun M5 =>
      kg (kt M5 a0 12) <|
      kg (kin M5 (kR M5 a0 0) 13 6) <|
      some (kI M5 (kR M5 a0 0) (kx 6), M5)) else
    some (0, r3.2)
def F_X12_restore (N : Nat) (M : kMem) (a0 : Nat) (x1 : Int32) : Option (Int32 × kMem) :=
    kg (kt M a0 12) <| kl (ksI M a0 6 0) fun M1 =>
    kg (kt M1 a0 12) <| (F_X12_noSlot N M1 a0 x1).bind fun r2 =>
    if r2.1 = 0 then (
      kg (kt r2.2 a0 12) <|
      kg (kin r2.2 (kR r2.2 a0 4) 14 x1) <|
      if (kI r2.2 (kR r2.2 a0 4) (kx x1)) = 0 then (
        F_X12_restore_28 N r2.2 a0 x1 a0 1) else
      F_X12_restore_28 N r2.2 a0 x1 a0 0) else
    some (0, r2.2)
set_option maxRecDepth 100000 in
set_option maxHeartbeats 4000000 in
theorem k_X12_restore_28 {p : Program} {l : Launch} {e : Env} {s : State} {m : MethodId} {args : Array Value} {below : List Frame} {meth : Method} {c : Code} {g : kG} (hX : Cok (p, l, e, { frames := 2 * 3, cells := 0, slots := 0, locals := 60 * 3 }, s, m, args, below, meth, c, cX12_restore, 2, RX12, g, 3)) (hr : meth.sig.returnType = (some .int)) (N : Nat) : ∀ (M : kMem) (a0 : Nat) (x1 : Int32) (y0 : Nat) (y1 : Int32), GG (p, l, e, { frames := 2 * 3, cells := 0, slots := 0, locals := 60 * 3 }, s, m, args, below, meth, c, cX12_restore, 2, RX12, g, 3) (fun b => MQ below (kQ g ((fun r : Int32 × kMem => (some (.int r.1), r.2)) b)) args s 0 0 (kZ g.2.2.1)) 0 0 (F_X12_restore_28 N M a0 x1 y0 y1) 28 [(0, .ref a0), (1, .int x1)] [.int y1, .ref y0] M := by
  intro M a0 x1 y0 y1
  unfold F_X12_restore_28
  refine g_iconst 29 hX 2 dX12_restore_28 rfl kc_i_2 ?_
  refine g_callV_i 32 hX (k_X12_stops l g N M y0 y1 2) lk_X12_stops rfl (ci := 12) rfl (Nat.le_of_ble_eq_true rfl) q_1796 q_44 (by omega) rfl (Nat.le_of_ble_eq_true rfl) (Nat.zero_le _) (Nat.zero_le _) dX12_restore_29 rfl (fun r3 => ?_)
  refine g_if_eq 37 35 hX dX12_restore_32 (by decide) rfl (fun _ => ?_) (fun _ => ?_)
  · refine g_aload_n 38 0 hX dX12_restore_37 rfl rfl ?_
    refine r_X12_19 41 hX dX12_restore_38 rfl ?_
    refine g_sipush 44 hX 293 dX12_restore_41 rfl kc_s_293 ?_
    refine g_iload_n 45 1 hX dX12_restore_44 rfl rfl ?_
    refine g_imul 46 hX dX12_restore_45 rfl ?_
    refine g_aload_n 47 0 hX dX12_restore_46 rfl rfl ?_
    refine r_X12_7 50 hX dX12_restore_47 rfl ?_
    refine g_iconst 51 hX 0 dX12_restore_50 rfl kc_i_0 ?_
    refine g_callS_v 54 hX (k_X12_copies l g N r3.2 (kR r3.2 a0 3) (293 * x1) (kR r3.2 a0 0) 0) lk_X12_copies q_1819 (by omega) rfl (Nat.le_of_ble_eq_true rfl) (Nat.zero_le _) (Nat.zero_le _) dX12_restore_51 rfl (fun M4 => ?_)
    refine g_aload_n 55 0 hX dX12_restore_54 rfl rfl ?_
    refine g_iconst 56 hX 0 dX12_restore_55 rfl kc_i_0 ?_
    refine p_X12_295 59 hX dX12_restore_56 rfl ?_
    refine g_klM (fun M5 hM5 => ?_)
    refine g_aload_n 60 0 hX dX12_restore_59 rfl rfl ?_
    refine r_X12_7 63 hX dX12_restore_60 rfl ?_
    refine g_bipush 65 hX 6 dX12_restore_63 rfl kc_b_6 ?_
    refine g_iald 66 hX dX12_restore_65 rfl ?_
    exact g_iret hX hr rfl (Nat.le_refl 0) (Nat.le_refl 0) dX12_restore_66
  · refine g_iconst 36 hX 0 dX12_restore_35 rfl kc_i_0 ?_
    exact g_iret hX hr rfl (Nat.le_refl 0) (Nat.le_refl 0) dX12_restore_36
set_option maxRecDepth 100000 in
set_option maxHeartbeats 4000000 in
theorem k_X12_restore (l : Launch) (g : kG) (N : Nat) (M : kMem) (a0 : Nat) (x1 : Int32) : kMet l g yX12_restore cX12_restore 2 (some .int) 3 0 0 [.ref a0, .int x1] M (fun r : Int32 × kMem => (some (.int r.1), r.2)) (F_X12_restore N M a0 x1) := by
  refine k_of (lv := [(0, .ref a0), (1, .int x1)]) RX12 (by decide) rfl rfl (Nat.le_of_ble_eq_true rfl) ?_
  intro p e s m args below meth c hX hr _
  unfold F_X12_restore
  refine g_aload_n 1 0 hX dX12_restore_0 rfl rfl ?_
  refine g_iconst 2 hX 0 dX12_restore_1 rfl kc_i_0 ?_
  refine p_X12_63 5 hX dX12_restore_2 rfl ?_
  refine g_klM (fun M1 hM1 => ?_)
  refine g_aload_n 6 0 hX dX12_restore_5 rfl rfl ?_
  refine g_iload_n 7 1 hX dX12_restore_6 rfl rfl ?_
  refine g_callV_i 10 hX (k_X12_noSlot l g N M1 a0 x1) lk_X12_noSlot rfl (ci := 12) rfl (Nat.le_of_ble_eq_true rfl) q_2203 q_118 (by omega) rfl (Nat.le_of_ble_eq_true rfl) (Nat.zero_le _) (Nat.zero_le _) dX12_restore_7 rfl (fun r2 => ?_)
  refine g_if_ne 35 13 hX dX12_restore_10 (by decide) rfl (fun _ => ?_) (fun _ => ?_)
  · refine g_iconst 36 hX 0 dX12_restore_35 rfl kc_i_0 ?_
    exact g_iret hX hr rfl (Nat.le_refl 0) (Nat.le_refl 0) dX12_restore_36
  · refine g_aload_n 14 0 hX dX12_restore_13 rfl rfl ?_
    refine g_aload_n 15 0 hX dX12_restore_14 rfl rfl ?_
    refine r_X12_22 18 hX dX12_restore_15 rfl ?_
    refine g_iload_n 19 1 hX dX12_restore_18 rfl rfl ?_
    refine g_zald 20 hX dX12_restore_19 rfl ?_
    refine g_if_ne 27 23 hX dX12_restore_20 (by decide) rfl (fun _ => ?_) (fun _ => ?_)
    · refine g_iconst 28 hX 0 dX12_restore_27 rfl kc_i_0 ?_
      exact k_X12_restore_28 hX hr N r2.2 a0 x1 a0 0
    · refine g_iconst 24 hX 1 dX12_restore_23 rfl kc_i_1 ?_
      refine g_goto 28 hX dX12_restore_24 (by decide) ?_
      exact k_X12_restore_28 hX hr N r2.2 a0 x1 a0 1
def F_X12_day (N : Nat) (M : kMem) (a0 : Nat) : Option (Int32 × kMem) :=
    kg (kt M a0 12) <| kl (ksI M a0 6 0) fun M1 =>
    kg (kt M1 a0 12) <|
    kg (kin M1 (kR M1 a0 0) 13 6) <|
    some (kI M1 (kR M1 a0 0) (kx 6), M1)
set_option maxRecDepth 100000 in
set_option maxHeartbeats 4000000 in
theorem k_X12_day (l : Launch) (g : kG) (N : Nat) (M : kMem) (a0 : Nat) : kMet l g yX12_day cX12_day 1 (some .int) 1 0 0 [.ref a0] M (fun r : Int32 × kMem => (some (.int r.1), r.2)) (F_X12_day N M a0) := by
  refine k_of (lv := [(0, .ref a0)]) RX12 (by decide) rfl rfl (Nat.le_of_ble_eq_true rfl) ?_
  intro p e s m args below meth c hX hr _
  unfold F_X12_day
  refine g_aload_n 1 0 hX dX12_day_0 rfl rfl ?_
  refine g_iconst 2 hX 0 dX12_day_1 rfl kc_i_0 ?_
  refine p_X12_63 5 hX dX12_day_2 rfl ?_
  refine g_klM (fun M1 hM1 => ?_)
  refine g_aload_n 6 0 hX dX12_day_5 rfl rfl ?_
  refine r_X12_7 9 hX dX12_day_6 rfl ?_
  refine g_bipush 11 hX 6 dX12_day_9 rfl kc_b_6 ?_
  refine g_iald 12 hX dX12_day_11 rfl ?_
  exact g_iret hX hr rfl (Nat.le_refl 0) (Nat.le_refl 0) dX12_day_12
def F_X12_bank (N : Nat) (M : kMem) (a0 : Nat) : Option (Int32 × kMem) :=
    kg (kt M a0 12) <| kl (ksI M a0 6 0) fun M1 =>
    kg (kt M1 a0 12) <|
    kg (kin M1 (kR M1 a0 0) 13 5) <|
    some (kI M1 (kR M1 a0 0) (kx 5), M1)
set_option maxRecDepth 100000 in
set_option maxHeartbeats 4000000 in
theorem k_X12_bank (l : Launch) (g : kG) (N : Nat) (M : kMem) (a0 : Nat) : kMet l g yX12_bank cX12_bank 1 (some .int) 1 0 0 [.ref a0] M (fun r : Int32 × kMem => (some (.int r.1), r.2)) (F_X12_bank N M a0) := by
  refine k_of (lv := [(0, .ref a0)]) RX12 (by decide) rfl rfl (Nat.le_of_ble_eq_true rfl) ?_
  intro p e s m args below meth c hX hr _
  unfold F_X12_bank
  refine g_aload_n 1 0 hX dX12_bank_0 rfl rfl ?_
  refine g_iconst 2 hX 0 dX12_bank_1 rfl kc_i_0 ?_
  refine p_X12_63 5 hX dX12_bank_2 rfl ?_
  refine g_klM (fun M1 hM1 => ?_)
  refine g_aload_n 6 0 hX dX12_bank_5 rfl rfl ?_
  refine r_X12_7 9 hX dX12_bank_6 rfl ?_
  refine g_iconst 10 hX 5 dX12_bank_9 rfl kc_i_5 ?_
  refine g_iald 11 hX dX12_bank_10 rfl ?_
  exact g_iret hX hr rfl (Nat.le_refl 0) (Nat.le_refl 0) dX12_bank_11
def F_X12_wage (N : Nat) (M : kMem) (a0 : Nat) : Option (Int32 × kMem) :=
    kg (kt M a0 12) <| kl (ksI M a0 6 0) fun M1 =>
    kg (kt M1 a0 12) <|
    kg (kin M1 (kR M1 a0 0) 13 0) <|
    some (kI M1 (kR M1 a0 0) (kx 0), M1)
set_option maxRecDepth 100000 in
set_option maxHeartbeats 4000000 in
theorem k_X12_wage (l : Launch) (g : kG) (N : Nat) (M : kMem) (a0 : Nat) : kMet l g yX12_wage cX12_wage 1 (some .int) 1 0 0 [.ref a0] M (fun r : Int32 × kMem => (some (.int r.1), r.2)) (F_X12_wage N M a0) := by
  refine k_of (lv := [(0, .ref a0)]) RX12 (by decide) rfl rfl (Nat.le_of_ble_eq_true rfl) ?_
  intro p e s m args below meth c hX hr _
  unfold F_X12_wage
  refine g_aload_n 1 0 hX dX12_wage_0 rfl rfl ?_
  refine g_iconst 2 hX 0 dX12_wage_1 rfl kc_i_0 ?_
  refine p_X12_63 5 hX dX12_wage_2 rfl ?_
  refine g_klM (fun M1 hM1 => ?_)
  refine g_aload_n 6 0 hX dX12_wage_5 rfl rfl ?_
  refine r_X12_7 9 hX dX12_wage_6 rfl ?_
  refine g_iconst 10 hX 0 dX12_wage_9 rfl kc_i_0 ?_
  refine g_iald 11 hX dX12_wage_10 rfl ?_
  exact g_iret hX hr rfl (Nat.le_refl 0) (Nat.le_refl 0) dX12_wage_11
def F_X12_basePrice (N : Nat) (M : kMem) (a0 : Nat) : Option (Int32 × kMem) :=
    kg (kt M a0 12) <| kl (ksI M a0 6 0) fun M1 =>
    kg (kt M1 a0 12) <|
    kg (kin M1 (kR M1 a0 0) 13 1) <|
    some (kI M1 (kR M1 a0 0) (kx 1), M1)
set_option maxRecDepth 100000 in
set_option maxHeartbeats 4000000 in
theorem k_X12_basePrice (l : Launch) (g : kG) (N : Nat) (M : kMem) (a0 : Nat) : kMet l g yX12_basePrice cX12_basePrice 1 (some .int) 1 0 0 [.ref a0] M (fun r : Int32 × kMem => (some (.int r.1), r.2)) (F_X12_basePrice N M a0) := by
  refine k_of (lv := [(0, .ref a0)]) RX12 (by decide) rfl rfl (Nat.le_of_ble_eq_true rfl) ?_
  intro p e s m args below meth c hX hr _
  unfold F_X12_basePrice
  refine g_aload_n 1 0 hX dX12_basePrice_0 rfl rfl ?_
  refine g_iconst 2 hX 0 dX12_basePrice_1 rfl kc_i_0 ?_
  refine p_X12_63 5 hX dX12_basePrice_2 rfl ?_
  refine g_klM (fun M1 hM1 => ?_)
  refine g_aload_n 6 0 hX dX12_basePrice_5 rfl rfl ?_
  refine r_X12_7 9 hX dX12_basePrice_6 rfl ?_
  refine g_iconst 10 hX 1 dX12_basePrice_9 rfl kc_i_1 ?_
  refine g_iald 11 hX dX12_basePrice_10 rfl ?_
  exact g_iret hX hr rfl (Nat.le_refl 0) (Nat.le_refl 0) dX12_basePrice_11
def F_X12_retirementAge (N : Nat) (M : kMem) (a0 : Nat) : Option (Int32 × kMem) :=
    kg (kt M a0 12) <| kl (ksI M a0 6 0) fun M1 =>
    kg (kt M1 a0 12) <|
    kg (kin M1 (kR M1 a0 0) 13 3) <|
    some (kI M1 (kR M1 a0 0) (kx 3), M1)
set_option maxRecDepth 100000 in
set_option maxHeartbeats 4000000 in
theorem k_X12_retirementAge (l : Launch) (g : kG) (N : Nat) (M : kMem) (a0 : Nat) : kMet l g yX12_retirementAge cX12_retirementAge 1 (some .int) 1 0 0 [.ref a0] M (fun r : Int32 × kMem => (some (.int r.1), r.2)) (F_X12_retirementAge N M a0) := by
  refine k_of (lv := [(0, .ref a0)]) RX12 (by decide) rfl rfl (Nat.le_of_ble_eq_true rfl) ?_
  intro p e s m args below meth c hX hr _
  unfold F_X12_retirementAge
  refine g_aload_n 1 0 hX dX12_retirementAge_0 rfl rfl ?_
  refine g_iconst 2 hX 0 dX12_retirementAge_1 rfl kc_i_0 ?_
  refine p_X12_63 5 hX dX12_retirementAge_2 rfl ?_
  refine g_klM (fun M1 hM1 => ?_)
  refine g_aload_n 6 0 hX dX12_retirementAge_5 rfl rfl ?_
  refine r_X12_7 9 hX dX12_retirementAge_6 rfl ?_
  refine g_iconst 10 hX 3 dX12_retirementAge_9 rfl kc_i_3 ?_
  refine g_iald 11 hX dX12_retirementAge_10 rfl ?_
  exact g_iret hX hr rfl (Nat.le_refl 0) (Nat.le_refl 0) dX12_retirementAge_11
def F_X12_boardCount (N : Nat) (M : kMem) (a0 : Nat) : Option (Int32 × kMem) :=
    kg (kt M a0 12) <| kl (ksI M a0 6 0) fun M1 =>
    kg (kt M1 a0 12) <|
    kg (kin M1 (kR M1 a0 0) 13 7) <|
    some (kI M1 (kR M1 a0 0) (kx 7), M1)
set_option maxRecDepth 100000 in
set_option maxHeartbeats 4000000 in
theorem k_X12_boardCount (l : Launch) (g : kG) (N : Nat) (M : kMem) (a0 : Nat) : kMet l g yX12_boardCount cX12_boardCount 1 (some .int) 1 0 0 [.ref a0] M (fun r : Int32 × kMem => (some (.int r.1), r.2)) (F_X12_boardCount N M a0) := by
  refine k_of (lv := [(0, .ref a0)]) RX12 (by decide) rfl rfl (Nat.le_of_ble_eq_true rfl) ?_
  intro p e s m args below meth c hX hr _
  unfold F_X12_boardCount
  refine g_aload_n 1 0 hX dX12_boardCount_0 rfl rfl ?_
  refine g_iconst 2 hX 0 dX12_boardCount_1 rfl kc_i_0 ?_
  refine p_X12_63 5 hX dX12_boardCount_2 rfl ?_
  refine g_klM (fun M1 hM1 => ?_)
  refine g_aload_n 6 0 hX dX12_boardCount_5 rfl rfl ?_
  refine r_X12_7 9 hX dX12_boardCount_6 rfl ?_
  refine g_bipush 11 hX 7 dX12_boardCount_9 rfl kc_b_7 ?_
  refine g_iald 12 hX dX12_boardCount_11 rfl ?_
  exact g_iret hX hr rfl (Nat.le_refl 0) (Nat.le_refl 0) dX12_boardCount_12
def F_X12_armLength (N : Nat) (M : kMem) (a0 : Nat) (x1 : Int32) : Option (Int32 × kMem) :=
    kg (kt M a0 12) <| kl (ksI M a0 6 0) fun M1 =>
    kg (kt M1 a0 12) <| (F_X12_noBoard N M1 a0 x1).bind fun r2 =>
    if r2.1 = 0 then (
      kg (kt r2.2 a0 12) <| (F_X12_ofBoard N r2.2 a0 x1 0).bind fun r3 =>
      some (r3, r2.2)) else
    some (0, r2.2)
set_option maxRecDepth 100000 in
set_option maxHeartbeats 4000000 in
theorem k_X12_armLength (l : Launch) (g : kG) (N : Nat) (M : kMem) (a0 : Nat) (x1 : Int32) : kMet l g yX12_armLength cX12_armLength 2 (some .int) 3 0 0 [.ref a0, .int x1] M (fun r : Int32 × kMem => (some (.int r.1), r.2)) (F_X12_armLength N M a0 x1) := by
  refine k_of (lv := [(0, .ref a0), (1, .int x1)]) RX12 (by decide) rfl rfl (Nat.le_of_ble_eq_true rfl) ?_
  intro p e s m args below meth c hX hr _
  unfold F_X12_armLength
  refine g_aload_n 1 0 hX dX12_armLength_0 rfl rfl ?_
  refine g_iconst 2 hX 0 dX12_armLength_1 rfl kc_i_0 ?_
  refine p_X12_63 5 hX dX12_armLength_2 rfl ?_
  refine g_klM (fun M1 hM1 => ?_)
  refine g_aload_n 6 0 hX dX12_armLength_5 rfl rfl ?_
  refine g_iload_n 7 1 hX dX12_armLength_6 rfl rfl ?_
  refine g_callV_i 10 hX (k_X12_noBoard l g N M1 a0 x1) lk_X12_noBoard rfl (ci := 12) rfl (Nat.le_of_ble_eq_true rfl) q_2156 q_115 (by omega) rfl (Nat.le_of_ble_eq_true rfl) (Nat.zero_le _) (Nat.zero_le _) dX12_armLength_7 rfl (fun r2 => ?_)
  refine g_if_eq 17 13 hX dX12_armLength_10 (by decide) rfl (fun _ => ?_) (fun _ => ?_)
  · refine g_aload_n 18 0 hX dX12_armLength_17 rfl rfl ?_
    refine g_iload_n 19 1 hX dX12_armLength_18 rfl rfl ?_
    refine g_iconst 20 hX 0 dX12_armLength_19 rfl kc_i_0 ?_
    refine g_callV_ip 23 hX (k_X12_ofBoard l g N r2.2 a0 x1 0) lk_X12_ofBoard rfl (ci := 12) rfl (Nat.le_of_ble_eq_true rfl) q_1921 q_66 (by omega) rfl (Nat.le_of_ble_eq_true rfl) (Nat.zero_le _) (Nat.zero_le _) dX12_armLength_20 rfl (fun r3 => ?_)
    exact g_iret hX hr rfl (Nat.le_refl 0) (Nat.le_refl 0) dX12_armLength_23
  · refine g_iconst 14 hX 0 dX12_armLength_13 rfl kc_i_0 ?_
    refine g_goto 23 hX dX12_armLength_14 (by decide) ?_
    exact g_iret hX hr rfl (Nat.le_refl 0) (Nat.le_refl 0) dX12_armLength_23
def F_X12_stiffness (N : Nat) (M : kMem) (a0 : Nat) (x1 : Int32) : Option (Int32 × kMem) :=
    kg (kt M a0 12) <| kl (ksI M a0 6 0) fun M1 =>
    kg (kt M1 a0 12) <| (F_X12_noBoard N M1 a0 x1).bind fun r2 =>
    if r2.1 = 0 then (
      kg (kt r2.2 a0 12) <| (F_X12_ofBoard N r2.2 a0 x1 1).bind fun r3 =>
      some (r3, r2.2)) else
    some (0, r2.2)
set_option maxRecDepth 100000 in
set_option maxHeartbeats 4000000 in
theorem k_X12_stiffness (l : Launch) (g : kG) (N : Nat) (M : kMem) (a0 : Nat) (x1 : Int32) : kMet l g yX12_stiffness cX12_stiffness 2 (some .int) 3 0 0 [.ref a0, .int x1] M (fun r : Int32 × kMem => (some (.int r.1), r.2)) (F_X12_stiffness N M a0 x1) := by
  refine k_of (lv := [(0, .ref a0), (1, .int x1)]) RX12 (by decide) rfl rfl (Nat.le_of_ble_eq_true rfl) ?_
  intro p e s m args below meth c hX hr _
  unfold F_X12_stiffness
  refine g_aload_n 1 0 hX dX12_stiffness_0 rfl rfl ?_
  refine g_iconst 2 hX 0 dX12_stiffness_1 rfl kc_i_0 ?_
  refine p_X12_63 5 hX dX12_stiffness_2 rfl ?_
  refine g_klM (fun M1 hM1 => ?_)
  refine g_aload_n 6 0 hX dX12_stiffness_5 rfl rfl ?_
  refine g_iload_n 7 1 hX dX12_stiffness_6 rfl rfl ?_
  refine g_callV_i 10 hX (k_X12_noBoard l g N M1 a0 x1) lk_X12_noBoard rfl (ci := 12) rfl (Nat.le_of_ble_eq_true rfl) q_2156 q_115 (by omega) rfl (Nat.le_of_ble_eq_true rfl) (Nat.zero_le _) (Nat.zero_le _) dX12_stiffness_7 rfl (fun r2 => ?_)
  refine g_if_eq 17 13 hX dX12_stiffness_10 (by decide) rfl (fun _ => ?_) (fun _ => ?_)
  · refine g_aload_n 18 0 hX dX12_stiffness_17 rfl rfl ?_
    refine g_iload_n 19 1 hX dX12_stiffness_18 rfl rfl ?_
    refine g_iconst 20 hX 1 dX12_stiffness_19 rfl kc_i_1 ?_
    refine g_callV_ip 23 hX (k_X12_ofBoard l g N r2.2 a0 x1 1) lk_X12_ofBoard rfl (ci := 12) rfl (Nat.le_of_ble_eq_true rfl) q_1921 q_66 (by omega) rfl (Nat.le_of_ble_eq_true rfl) (Nat.zero_le _) (Nat.zero_le _) dX12_stiffness_20 rfl (fun r3 => ?_)
    exact g_iret hX hr rfl (Nat.le_refl 0) (Nat.le_refl 0) dX12_stiffness_23
  · refine g_iconst 14 hX 0 dX12_stiffness_13 rfl kc_i_0 ?_
    refine g_goto 23 hX dX12_stiffness_14 (by decide) ?_
    exact g_iret hX hr rfl (Nat.le_refl 0) (Nat.le_refl 0) dX12_stiffness_23
def F_X12_torque (N : Nat) (M : kMem) (a0 : Nat) (x1 : Int32) : Option (Int32 × kMem) :=
    kg (kt M a0 12) <| kl (ksI M a0 6 0) fun M1 =>
    kg (kt M1 a0 12) <| (F_X12_noBoard N M1 a0 x1).bind fun r2 =>
    if r2.1 = 0 then (
      kg (kt r2.2 a0 12) <| (F_X12_torqueOf N r2.2 a0 x1).bind fun r3 =>
      some (r3, r2.2)) else
    some (0, r2.2)
set_option maxRecDepth 100000 in
set_option maxHeartbeats 4000000 in
theorem k_X12_torque (l : Launch) (g : kG) (N : Nat) (M : kMem) (a0 : Nat) (x1 : Int32) : kMet l g yX12_torque cX12_torque 2 (some .int) 5 0 0 [.ref a0, .int x1] M (fun r : Int32 × kMem => (some (.int r.1), r.2)) (F_X12_torque N M a0 x1) := by
  refine k_of (lv := [(0, .ref a0), (1, .int x1)]) RX12 (by decide) rfl rfl (Nat.le_of_ble_eq_true rfl) ?_
  intro p e s m args below meth c hX hr _
  unfold F_X12_torque
  refine g_aload_n 1 0 hX dX12_torque_0 rfl rfl ?_
  refine g_iconst 2 hX 0 dX12_torque_1 rfl kc_i_0 ?_
  refine p_X12_63 5 hX dX12_torque_2 rfl ?_
  refine g_klM (fun M1 hM1 => ?_)
  refine g_aload_n 6 0 hX dX12_torque_5 rfl rfl ?_
  refine g_iload_n 7 1 hX dX12_torque_6 rfl rfl ?_
  refine g_callV_i 10 hX (k_X12_noBoard l g N M1 a0 x1) lk_X12_noBoard rfl (ci := 12) rfl (Nat.le_of_ble_eq_true rfl) q_2156 q_115 (by omega) rfl (Nat.le_of_ble_eq_true rfl) (Nat.zero_le _) (Nat.zero_le _) dX12_torque_7 rfl (fun r2 => ?_)
  refine g_if_eq 17 13 hX dX12_torque_10 (by decide) rfl (fun _ => ?_) (fun _ => ?_)
  · refine g_aload_n 18 0 hX dX12_torque_17 rfl rfl ?_
    refine g_iload_n 19 1 hX dX12_torque_18 rfl rfl ?_
    refine g_callV_ip 22 hX (k_X12_torqueOf l g N r2.2 a0 x1) lk_X12_torqueOf rfl (ci := 12) rfl (Nat.le_of_ble_eq_true rfl) q_2015 q_85 (by omega) rfl (Nat.le_of_ble_eq_true rfl) (Nat.zero_le _) (Nat.zero_le _) dX12_torque_19 rfl (fun r3 => ?_)
    exact g_iret hX hr rfl (Nat.le_refl 0) (Nat.le_refl 0) dX12_torque_22
  · refine g_iconst 14 hX 0 dX12_torque_13 rfl kc_i_0 ?_
    refine g_goto 22 hX dX12_torque_14 (by decide) ?_
    exact g_iret hX hr rfl (Nat.le_refl 0) (Nat.le_refl 0) dX12_torque_22
def F_X12_tilt (N : Nat) (M : kMem) (a0 : Nat) (x1 : Int32) : Option (Int32 × kMem) :=
    kg (kt M a0 12) <| kl (ksI M a0 6 0) fun M1 =>
    kg (kt M1 a0 12) <| (F_X12_noBoard N M1 a0 x1).bind fun r2 =>
    if r2.1 = 0 then (
      kg (kt r2.2 a0 12) <| (F_X12_torqueOf N r2.2 a0 x1).bind fun r3 =>
      kg (kt r2.2 a0 12) <| (F_X12_tiltBy N r2.2 a0 x1 r3).bind fun r4 =>
      some (r4, r2.2)) else
    some (0, r2.2)
set_option maxRecDepth 100000 in
set_option maxHeartbeats 4000000 in
theorem k_X12_tilt (l : Launch) (g : kG) (N : Nat) (M : kMem) (a0 : Nat) (x1 : Int32) : kMet l g yX12_tilt cX12_tilt 2 (some .int) 5 0 0 [.ref a0, .int x1] M (fun r : Int32 × kMem => (some (.int r.1), r.2)) (F_X12_tilt N M a0 x1) := by
  refine k_of (lv := [(0, .ref a0), (1, .int x1)]) RX12 (by decide) rfl rfl (Nat.le_of_ble_eq_true rfl) ?_
  intro p e s m args below meth c hX hr _
  unfold F_X12_tilt
  refine g_aload_n 1 0 hX dX12_tilt_0 rfl rfl ?_
  refine g_iconst 2 hX 0 dX12_tilt_1 rfl kc_i_0 ?_
  refine p_X12_63 5 hX dX12_tilt_2 rfl ?_
  refine g_klM (fun M1 hM1 => ?_)
  refine g_aload_n 6 0 hX dX12_tilt_5 rfl rfl ?_
  refine g_iload_n 7 1 hX dX12_tilt_6 rfl rfl ?_
  refine g_callV_i 10 hX (k_X12_noBoard l g N M1 a0 x1) lk_X12_noBoard rfl (ci := 12) rfl (Nat.le_of_ble_eq_true rfl) q_2156 q_115 (by omega) rfl (Nat.le_of_ble_eq_true rfl) (Nat.zero_le _) (Nat.zero_le _) dX12_tilt_7 rfl (fun r2 => ?_)
  refine g_if_eq 17 13 hX dX12_tilt_10 (by decide) rfl (fun _ => ?_) (fun _ => ?_)
  · refine g_aload_n 18 0 hX dX12_tilt_17 rfl rfl ?_
    refine g_iload_n 19 1 hX dX12_tilt_18 rfl rfl ?_
    refine g_aload_n 20 0 hX dX12_tilt_19 rfl rfl ?_
    refine g_iload_n 21 1 hX dX12_tilt_20 rfl rfl ?_
    refine g_callV_ip 24 hX (k_X12_torqueOf l g N r2.2 a0 x1) lk_X12_torqueOf rfl (ci := 12) rfl (Nat.le_of_ble_eq_true rfl) q_2015 q_85 (by omega) rfl (Nat.le_of_ble_eq_true rfl) (Nat.zero_le _) (Nat.zero_le _) dX12_tilt_21 rfl (fun r3 => ?_)
    refine g_callV_ip 27 hX (k_X12_tiltBy l g N r2.2 a0 x1 r3) lk_X12_tiltBy rfl (ci := 12) rfl (Nat.le_of_ble_eq_true rfl) q_2019 q_86 (by omega) rfl (Nat.le_of_ble_eq_true rfl) (Nat.zero_le _) (Nat.zero_le _) dX12_tilt_24 rfl (fun r4 => ?_)
    exact g_iret hX hr rfl (Nat.le_refl 0) (Nat.le_refl 0) dX12_tilt_27
  · refine g_iconst 14 hX 0 dX12_tilt_13 rfl kc_i_0 ?_
    refine g_goto 27 hX dX12_tilt_14 (by decide) ?_
    exact g_iret hX hr rfl (Nat.le_refl 0) (Nat.le_refl 0) dX12_tilt_27
def F_X12_isBalanced (N : Nat) (M : kMem) (a0 : Nat) (x1 : Int32) : Option (Int32 × kMem) :=
    kg (kt M a0 12) <| kl (ksI M a0 6 0) fun M1 =>
    kg (kt M1 a0 12) <| (F_X12_noBoard N M1 a0 x1).bind fun r2 =>
    if r2.1 = 0 then (
      kg (kt r2.2 a0 12) <| (F_X12_torqueOf N r2.2 a0 x1).bind fun r3 =>
      if r3 = 0 then (
        some (1, r2.2)) else
      some (0, r2.2)) else
    some (0, r2.2)
set_option maxRecDepth 100000 in
set_option maxHeartbeats 4000000 in
theorem k_X12_isBalanced (l : Launch) (g : kG) (N : Nat) (M : kMem) (a0 : Nat) (x1 : Int32) : kMet l g yX12_isBalanced cX12_isBalanced 2 (some .boolean) 5 0 0 [.ref a0, .int x1] M (fun r : Int32 × kMem => (some (.int r.1), r.2)) (F_X12_isBalanced N M a0 x1) := by
  refine k_of (lv := [(0, .ref a0), (1, .int x1)]) RX12 (by decide) rfl rfl (Nat.le_of_ble_eq_true rfl) ?_
  intro p e s m args below meth c hX hr _
  unfold F_X12_isBalanced
  refine g_aload_n 1 0 hX dX12_isBalanced_0 rfl rfl ?_
  refine g_iconst 2 hX 0 dX12_isBalanced_1 rfl kc_i_0 ?_
  refine p_X12_63 5 hX dX12_isBalanced_2 rfl ?_
  refine g_klM (fun M1 hM1 => ?_)
  refine g_aload_n 6 0 hX dX12_isBalanced_5 rfl rfl ?_
  refine g_iload_n 7 1 hX dX12_isBalanced_6 rfl rfl ?_
  refine g_callV_i 10 hX (k_X12_noBoard l g N M1 a0 x1) lk_X12_noBoard rfl (ci := 12) rfl (Nat.le_of_ble_eq_true rfl) q_2156 q_115 (by omega) rfl (Nat.le_of_ble_eq_true rfl) (Nat.zero_le _) (Nat.zero_le _) dX12_isBalanced_7 rfl (fun r2 => ?_)
  refine g_if_ne 25 13 hX dX12_isBalanced_10 (by decide) rfl (fun _ => ?_) (fun _ => ?_)
  · refine g_iconst 26 hX 0 dX12_isBalanced_25 rfl kc_i_0 ?_
    exact g_zretL hX hr rfl rfl (Nat.le_refl 0) (Nat.le_refl 0) dX12_isBalanced_26
  · refine g_aload_n 14 0 hX dX12_isBalanced_13 rfl rfl ?_
    refine g_iload_n 15 1 hX dX12_isBalanced_14 rfl rfl ?_
    refine g_callV_ip 18 hX (k_X12_torqueOf l g N r2.2 a0 x1) lk_X12_torqueOf rfl (ci := 12) rfl (Nat.le_of_ble_eq_true rfl) q_2015 q_85 (by omega) rfl (Nat.le_of_ble_eq_true rfl) (Nat.zero_le _) (Nat.zero_le _) dX12_isBalanced_15 rfl (fun r3 => ?_)
    refine g_if_ne 25 21 hX dX12_isBalanced_18 (by decide) rfl (fun _ => ?_) (fun _ => ?_)
    · refine g_iconst 26 hX 0 dX12_isBalanced_25 rfl kc_i_0 ?_
      exact g_zretL hX hr rfl rfl (Nat.le_refl 0) (Nat.le_refl 0) dX12_isBalanced_26
    · refine g_iconst 22 hX 1 dX12_isBalanced_21 rfl kc_i_1 ?_
      refine g_goto 26 hX dX12_isBalanced_22 (by decide) ?_
      exact g_zretL hX hr rfl rfl (Nat.le_refl 0) (Nat.le_refl 0) dX12_isBalanced_26
def F_X12_seatOwner (N : Nat) (M : kMem) (a0 : Nat) (x1 : Int32) (x2 : Int32) : Option (Int32 × kMem) :=
    kg (kt M a0 12) <| kl (ksI M a0 6 0) fun M1 =>
    kg (kt M1 a0 12) <| (F_X12_noSeat N M1 a0 x1 x2).bind fun r2 =>
    if r2.1 = 0 then (
      kg (kt r2.2 a0 12) <| (F_X12_onSeat N r2.2 a0 x1 x2).bind fun r3 =>
      some (r3, r2.2)) else
    some (0, r2.2)
set_option maxRecDepth 100000 in
set_option maxHeartbeats 4000000 in
theorem k_X12_seatOwner (l : Launch) (g : kG) (N : Nat) (M : kMem) (a0 : Nat) (x1 : Int32) (x2 : Int32) : kMet l g yX12_seatOwner cX12_seatOwner 3 (some .int) 5 0 0 [.ref a0, .int x1, .int x2] M (fun r : Int32 × kMem => (some (.int r.1), r.2)) (F_X12_seatOwner N M a0 x1 x2) := by
  refine k_of (lv := [(0, .ref a0), (1, .int x1), (2, .int x2)]) RX12 (by decide) rfl rfl (Nat.le_of_ble_eq_true rfl) ?_
  intro p e s m args below meth c hX hr _
  unfold F_X12_seatOwner
  refine g_aload_n 1 0 hX dX12_seatOwner_0 rfl rfl ?_
  refine g_iconst 2 hX 0 dX12_seatOwner_1 rfl kc_i_0 ?_
  refine p_X12_63 5 hX dX12_seatOwner_2 rfl ?_
  refine g_klM (fun M1 hM1 => ?_)
  refine g_aload_n 6 0 hX dX12_seatOwner_5 rfl rfl ?_
  refine g_iload_n 7 1 hX dX12_seatOwner_6 rfl rfl ?_
  refine g_iload_n 8 2 hX dX12_seatOwner_7 rfl rfl ?_
  refine g_callV_i 11 hX (k_X12_noSeat l g N M1 a0 x1 x2) lk_X12_noSeat rfl (ci := 12) rfl (Nat.le_of_ble_eq_true rfl) q_2152 q_114 (by omega) rfl (Nat.le_of_ble_eq_true rfl) (Nat.zero_le _) (Nat.zero_le _) dX12_seatOwner_8 rfl (fun r2 => ?_)
  refine g_if_eq 18 14 hX dX12_seatOwner_11 (by decide) rfl (fun _ => ?_) (fun _ => ?_)
  · refine g_aload_n 19 0 hX dX12_seatOwner_18 rfl rfl ?_
    refine g_iload_n 20 1 hX dX12_seatOwner_19 rfl rfl ?_
    refine g_iload_n 21 2 hX dX12_seatOwner_20 rfl rfl ?_
    refine g_callV_ip 24 hX (k_X12_onSeat l g N r2.2 a0 x1 x2) lk_X12_onSeat rfl (ci := 12) rfl (Nat.le_of_ble_eq_true rfl) q_1925 q_67 (by omega) rfl (Nat.le_of_ble_eq_true rfl) (Nat.zero_le _) (Nat.zero_le _) dX12_seatOwner_21 rfl (fun r3 => ?_)
    exact g_iret hX hr rfl (Nat.le_refl 0) (Nat.le_refl 0) dX12_seatOwner_24
  · refine g_iconst 15 hX 0 dX12_seatOwner_14 rfl kc_i_0 ?_
    refine g_goto 24 hX dX12_seatOwner_15 (by decide) ?_
    exact g_iret hX hr rfl (Nat.le_refl 0) (Nat.le_refl 0) dX12_seatOwner_24
def F_X12_seatHeight (N : Nat) (M : kMem) (a0 : Nat) (x1 : Int32) (x2 : Int32) : Option (Int32 × kMem) :=
    kg (kt M a0 12) <| kl (ksI M a0 6 0) fun M1 =>
    kg (kt M1 a0 12) <| (F_X12_noSeat N M1 a0 x1 x2).bind fun r2 =>
    if r2.1 = 0 then (
      kg (kt r2.2 a0 12) <| (F_X12_height N r2.2 a0 x1 x2).bind fun r3 =>
      some (r3, r2.2)) else
    some (0, r2.2)
set_option maxRecDepth 100000 in
set_option maxHeartbeats 4000000 in
theorem k_X12_seatHeight (l : Launch) (g : kG) (N : Nat) (M : kMem) (a0 : Nat) (x1 : Int32) (x2 : Int32) : kMet l g yX12_seatHeight cX12_seatHeight 3 (some .int) 6 0 0 [.ref a0, .int x1, .int x2] M (fun r : Int32 × kMem => (some (.int r.1), r.2)) (F_X12_seatHeight N M a0 x1 x2) := by
  refine k_of (lv := [(0, .ref a0), (1, .int x1), (2, .int x2)]) RX12 (by decide) rfl rfl (Nat.le_of_ble_eq_true rfl) ?_
  intro p e s m args below meth c hX hr _
  unfold F_X12_seatHeight
  refine g_aload_n 1 0 hX dX12_seatHeight_0 rfl rfl ?_
  refine g_iconst 2 hX 0 dX12_seatHeight_1 rfl kc_i_0 ?_
  refine p_X12_63 5 hX dX12_seatHeight_2 rfl ?_
  refine g_klM (fun M1 hM1 => ?_)
  refine g_aload_n 6 0 hX dX12_seatHeight_5 rfl rfl ?_
  refine g_iload_n 7 1 hX dX12_seatHeight_6 rfl rfl ?_
  refine g_iload_n 8 2 hX dX12_seatHeight_7 rfl rfl ?_
  refine g_callV_i 11 hX (k_X12_noSeat l g N M1 a0 x1 x2) lk_X12_noSeat rfl (ci := 12) rfl (Nat.le_of_ble_eq_true rfl) q_2152 q_114 (by omega) rfl (Nat.le_of_ble_eq_true rfl) (Nat.zero_le _) (Nat.zero_le _) dX12_seatHeight_8 rfl (fun r2 => ?_)
  refine g_if_eq 18 14 hX dX12_seatHeight_11 (by decide) rfl (fun _ => ?_) (fun _ => ?_)
  · refine g_aload_n 19 0 hX dX12_seatHeight_18 rfl rfl ?_
    refine g_iload_n 20 1 hX dX12_seatHeight_19 rfl rfl ?_
    refine g_iload_n 21 2 hX dX12_seatHeight_20 rfl rfl ?_
    refine g_callV_ip 24 hX (k_X12_height l g N r2.2 a0 x1 x2) lk_X12_height rfl (ci := 12) rfl (Nat.le_of_ble_eq_true rfl) q_2011 q_84 (by omega) rfl (Nat.le_of_ble_eq_true rfl) (Nat.zero_le _) (Nat.zero_le _) dX12_seatHeight_21 rfl (fun r3 => ?_)
    exact g_iret hX hr rfl (Nat.le_refl 0) (Nat.le_refl 0) dX12_seatHeight_24
  · refine g_iconst 15 hX 0 dX12_seatHeight_14 rfl kc_i_0 ?_
    refine g_goto 24 hX dX12_seatHeight_15 (by decide) ?_
    exact g_iret hX hr rfl (Nat.le_refl 0) (Nat.le_refl 0) dX12_seatHeight_24
def F_X12_seatPrice (N : Nat) (M : kMem) (a0 : Nat) (x1 : Int32) (x2 : Int32) : Option (Int32 × kMem) :=
    kg (kt M a0 12) <| kl (ksI M a0 6 0) fun M1 =>
    kg (kt M1 a0 12) <| (F_X12_noSeat N M1 a0 x1 x2).bind fun r2 =>
    if r2.1 = 0 then (
      kg (kt r2.2 a0 12) <| (F_X12_price N r2.2 a0 x1 x2).bind fun r3 =>
      some (r3, r2.2)) else
    some (0, r2.2)
set_option maxRecDepth 100000 in
set_option maxHeartbeats 4000000 in
theorem k_X12_seatPrice (l : Launch) (g : kG) (N : Nat) (M : kMem) (a0 : Nat) (x1 : Int32) (x2 : Int32) : kMet l g yX12_seatPrice cX12_seatPrice 3 (some .int) 7 0 0 [.ref a0, .int x1, .int x2] M (fun r : Int32 × kMem => (some (.int r.1), r.2)) (F_X12_seatPrice N M a0 x1 x2) := by
  refine k_of (lv := [(0, .ref a0), (1, .int x1), (2, .int x2)]) RX12 (by decide) rfl rfl (Nat.le_of_ble_eq_true rfl) ?_
  intro p e s m args below meth c hX hr _
  unfold F_X12_seatPrice
  refine g_aload_n 1 0 hX dX12_seatPrice_0 rfl rfl ?_
  refine g_iconst 2 hX 0 dX12_seatPrice_1 rfl kc_i_0 ?_
  refine p_X12_63 5 hX dX12_seatPrice_2 rfl ?_
  refine g_klM (fun M1 hM1 => ?_)
  refine g_aload_n 6 0 hX dX12_seatPrice_5 rfl rfl ?_
  refine g_iload_n 7 1 hX dX12_seatPrice_6 rfl rfl ?_
  refine g_iload_n 8 2 hX dX12_seatPrice_7 rfl rfl ?_
  refine g_callV_i 11 hX (k_X12_noSeat l g N M1 a0 x1 x2) lk_X12_noSeat rfl (ci := 12) rfl (Nat.le_of_ble_eq_true rfl) q_2152 q_114 (by omega) rfl (Nat.le_of_ble_eq_true rfl) (Nat.zero_le _) (Nat.zero_le _) dX12_seatPrice_8 rfl (fun r2 => ?_)
  refine g_if_eq 18 14 hX dX12_seatPrice_11 (by decide) rfl (fun _ => ?_) (fun _ => ?_)
  · refine g_aload_n 19 0 hX dX12_seatPrice_18 rfl rfl ?_
    refine g_iload_n 20 1 hX dX12_seatPrice_19 rfl rfl ?_
    refine g_iload_n 21 2 hX dX12_seatPrice_20 rfl rfl ?_
    refine g_callV_ip 24 hX (k_X12_price l g N r2.2 a0 x1 x2) lk_X12_price rfl (ci := 12) rfl (Nat.le_of_ble_eq_true rfl) q_2004 q_83 (by omega) rfl (Nat.le_of_ble_eq_true rfl) (Nat.zero_le _) (Nat.zero_le _) dX12_seatPrice_21 rfl (fun r3 => ?_)
    exact g_iret hX hr rfl (Nat.le_refl 0) (Nat.le_refl 0) dX12_seatPrice_24
  · refine g_iconst 15 hX 0 dX12_seatPrice_14 rfl kc_i_0 ?_
    refine g_goto 24 hX dX12_seatPrice_15 (by decide) ?_
    exact g_iret hX hr rfl (Nat.le_refl 0) (Nat.le_refl 0) dX12_seatPrice_24
def F_X12_balancingSeat_90 (N : Nat) (k58 : kMem → Nat → Int32 → Int32 → Int32 → Int32 → Int32 → Option (Int32 × kMem)) (M : kMem) (a0 : Nat) (x1 : Int32) (x2 : Int32) (x3 : Int32) (x4 : Int32) (x5 : Int32) (y0 : Int32) : Option (Int32 × kMem) :=
    if y0 = 0 then (
      kl (x5 + 1) fun v9 =>
      k58 M a0 x1 x2 x3 x4 v9) else
    if x3 = 0 then (
      kl (x5 + 1) fun v10 =>
      k58 M a0 x1 x2 x5 x4 v10) else
    (F_X12_bare N M (x4 + (x5 * x2))).bind fun r11 =>
    (F_X12_bare N M (x4 + (x3 * x2))).bind fun r12 =>
    if r11 < r12 then (
      kl (x5 + 1) fun v14 =>
      k58 M a0 x1 x2 x5 x4 v14) else
    kl (x5 + 1) fun v13 =>
    k58 M a0 x1 x2 x3 x4 v13
def F_X12_balancingSeat_89 (N : Nat) (k58 : kMem → Nat → Int32 → Int32 → Int32 → Int32 → Int32 → Option (Int32 × kMem)) (M : kMem) (a0 : Nat) (x1 : Int32) (x2 : Int32) (x3 : Int32) (x4 : Int32) (x5 : Int32) : Option (Int32 × kMem) :=
    F_X12_balancingSeat_90 N k58 M a0 x1 x2 x3 x4 x5 0
def F_X12_balancingSeat_58 (N : Nat) : Nat → kMem → Nat → Int32 → Int32 → Int32 → Int32 → Int32 → Option (Int32 × kMem)
  | 0, _, _, _, _, _, _, _ => none
  | n + 1, M, a0, x1, x2, x3, x4, x5 =>
    kg (kt M a0 12) <| (F_X12_ofBoard N M a0 x1 0).bind fun r8 =>
    if r8 < x5 then (
      some (x3, M)) else
    if x5 = 0 then (
      F_X12_balancingSeat_89 N (fun M a0 x1 x2 x3 x4 x5 => F_X12_balancingSeat_58 N n M a0 x1 x2 x3 x4 x5) M a0 x1 x2 x3 x4 x5) else
    kg (kt M a0 12) <| (F_X12_onSeat N M a0 x1 x5).bind fun r15 =>
    if r15 = (-1) then (
      F_X12_balancingSeat_90 N (fun M a0 x1 x2 x3 x4 x5 => F_X12_balancingSeat_58 N n M a0 x1 x2 x3 x4 x5) M a0 x1 x2 x3 x4 x5 1) else
    F_X12_balancingSeat_89 N (fun M a0 x1 x2 x3 x4 x5 => F_X12_balancingSeat_58 N n M a0 x1 x2 x3 x4 x5) M a0 x1 x2 x3 x4 x5
def F_X12_balancingSeat_31 (N : Nat) (M : kMem) (a0 : Nat) (x1 : Int32) (x2 : Int32) (y0 : Nat) (y1 : Int32) : Option (Int32 × kMem) :=
    kg (kt M y0 12) <| (F_X12_stops N M y0 y1 2).bind fun r4 =>
    if r4.1 = 0 then (
      kg (kt r4.2 a0 12) <| (F_X12_torqueOf N r4.2 a0 x1).bind fun r5 =>
      kg (kt r4.2 a0 12) <| (F_X12_ofBoard N r4.2 a0 x1 0).bind fun r6 =>
      kl (-r6) fun v7 =>
      F_X12_balancingSeat_58 N N r4.2 a0 x1 x2 0 r5 v7) else
    some (0, r4.2)
def F_X12_balancingSeat (N : Nat) (M : kMem) (a0 : Nat) (x1 : Int32) (x2 : Int32) : Option (Int32 × kMem) :=
    kg (kt M a0 12) <| kl (ksI M a0 6 0) fun M1 =>
    kg (kt M1 a0 12) <| (F_X12_noBoard N M1 a0 x1).bind fun r2 =>
    if r2.1 = 0 then (
      (F_X12_in N r2.2 x2.toInt64 1 99).bind fun r3 =>
      if r3 = 0 then (
        F_X12_balancingSeat_31 N r2.2 a0 x1 x2 a0 1) else
      F_X12_balancingSeat_31 N r2.2 a0 x1 x2 a0 0) else
    some (0, r2.2)
set_option maxRecDepth 100000 in
set_option maxHeartbeats 4000000 in
theorem k_X12_balancingSeat_90 {p : Program} {l : Launch} {e : Env} {s : State} {m : MethodId} {args : Array Value} {below : List Frame} {meth : Method} {c : Code} {g : kG} (hX : Cok (p, l, e, { frames := 2 * 5, cells := 0, slots := 0, locals := 60 * 5 }, s, m, args, below, meth, c, cX12_balancingSeat, 7, RX12, g, 5)) (hr : meth.sig.returnType = (some .int)) (N : Nat) (k58 : kMem → Nat → Int32 → Int32 → Int32 → Int32 → Int32 → Option (Int32 × kMem)) (h58 : ∀ (M : kMem) (a0 : Nat) (x1 : Int32) (x2 : Int32) (x3 : Int32) (x4 : Int32) (x5 : Int32), GG (p, l, e, { frames := 2 * 5, cells := 0, slots := 0, locals := 60 * 5 }, s, m, args, below, meth, c, cX12_balancingSeat, 7, RX12, g, 5) (fun b => MQ below (kQ g ((fun r : Int32 × kMem => (some (.int r.1), r.2)) b)) args s 0 0 (kZ g.2.2.1)) 0 0 (k58 M a0 x1 x2 x3 x4 x5) 58 [(0, .ref a0), (1, .int x1), (2, .int x2), (3, .int x3), (4, .int x4), (5, .int x5)] [] M) : ∀ (M : kMem) (a0 : Nat) (x1 : Int32) (x2 : Int32) (x3 : Int32) (x4 : Int32) (x5 : Int32) (y0 : Int32), GG (p, l, e, { frames := 2 * 5, cells := 0, slots := 0, locals := 60 * 5 }, s, m, args, below, meth, c, cX12_balancingSeat, 7, RX12, g, 5) (fun b => MQ below (kQ g ((fun r : Int32 × kMem => (some (.int r.1), r.2)) b)) args s 0 0 (kZ g.2.2.1)) 0 0 (F_X12_balancingSeat_90 N k58 M a0 x1 x2 x3 x4 x5 y0) 90 [(0, .ref a0), (1, .int x1), (2, .int x2), (3, .int x3), (4, .int x4), (5, .int x5)] [.int y0] M := by
  intro M a0 x1 x2 x3 x4 x5 y0
  unfold F_X12_balancingSeat_90
  refine g_istore 92 6 [(6, .int y0), (0, .ref a0), (1, .int x1), (2, .int x2), (3, .int x3), (4, .int x4), (5, .int x5)] hX dX12_balancingSeat_90 rfl (Nat.le_of_ble_eq_true rfl) rfl ?_
  refine g_iload 94 0 hX dX12_balancingSeat_92 rfl rfl ?_
  refine g_if_eq 126 97 hX dX12_balancingSeat_94 (by decide) rfl (fun _ => ?_) (fun _ => ?_)
  · refine g_kl (fun v9 hv9 => ?_)
    refine g_iinc 129 5 6 v9 [(5, .int v9), (6, .int y0), (0, .ref a0), (1, .int x1), (2, .int x2), (3, .int x3), (4, .int x4)] hX dX12_balancingSeat_126 rfl rfl (by rw [hv9, kc_i_1]) (Nat.le_of_ble_eq_true rfl) rfl ?_
    refine g_goto 58 hX dX12_balancingSeat_129 (by decide) ?_
    refine g_lv [2, 3, 4, 5, 6, 0] rfl ?_
    exact h58 M a0 x1 x2 x3 x4 v9
  · refine g_iload_n 98 4 hX dX12_balancingSeat_97 rfl rfl ?_
    refine g_if_eq 123 101 hX dX12_balancingSeat_98 (by decide) rfl (fun _ => ?_) (fun _ => ?_)
    · refine g_iload 125 6 hX dX12_balancingSeat_123 rfl rfl ?_
      refine g_istore_n 126 3 [(3, .int x5), (6, .int y0), (0, .ref a0), (1, .int x1), (2, .int x2), (4, .int x4), (5, .int x5)] hX dX12_balancingSeat_125 rfl rfl (Nat.le_of_ble_eq_true rfl) rfl ?_
      refine g_kl (fun v10 hv10 => ?_)
      refine g_iinc 129 5 6 v10 [(5, .int v10), (3, .int x5), (6, .int y0), (0, .ref a0), (1, .int x1), (2, .int x2), (4, .int x4)] hX dX12_balancingSeat_126 rfl rfl (by rw [hv10, kc_i_1]) (Nat.le_of_ble_eq_true rfl) rfl ?_
      refine g_goto 58 hX dX12_balancingSeat_129 (by decide) ?_
      refine g_lv [3, 4, 5, 1, 6, 0] rfl ?_
      exact h58 M a0 x1 x2 x5 x4 v10
    · refine g_iload 103 5 hX dX12_balancingSeat_101 rfl rfl ?_
      refine g_iload 105 6 hX dX12_balancingSeat_103 rfl rfl ?_
      refine g_iload_n 106 3 hX dX12_balancingSeat_105 rfl rfl ?_
      refine g_imul 107 hX dX12_balancingSeat_106 rfl ?_
      refine g_iadd 108 hX dX12_balancingSeat_107 rfl ?_
      refine g_callS_ip 111 hX (k_X12_bare l g N M (x4 + (x5 * x2))) lk_X12_bare q_2008 (by omega) rfl (Nat.le_of_ble_eq_true rfl) (Nat.zero_le _) (Nat.zero_le _) dX12_balancingSeat_108 rfl (fun r11 => ?_)
      refine g_iload 113 5 hX dX12_balancingSeat_111 rfl rfl ?_
      refine g_iload_n 114 4 hX dX12_balancingSeat_113 rfl rfl ?_
      refine g_iload_n 115 3 hX dX12_balancingSeat_114 rfl rfl ?_
      refine g_imul 116 hX dX12_balancingSeat_115 rfl ?_
      refine g_iadd 117 hX dX12_balancingSeat_116 rfl ?_
      refine g_callS_ip 120 hX (k_X12_bare l g N M (x4 + (x3 * x2))) lk_X12_bare q_2008 (by omega) rfl (Nat.le_of_ble_eq_true rfl) (Nat.zero_le _) (Nat.zero_le _) dX12_balancingSeat_117 rfl (fun r12 => ?_)
      refine g_icmp_ge 126 123 hX dX12_balancingSeat_120 (by decide) rfl (fun _ => ?_) (fun _ => ?_)
      · refine g_kl (fun v13 hv13 => ?_)
        refine g_iinc 129 5 6 v13 [(5, .int v13), (6, .int y0), (0, .ref a0), (1, .int x1), (2, .int x2), (3, .int x3), (4, .int x4)] hX dX12_balancingSeat_126 rfl rfl (by rw [hv13, kc_i_1]) (Nat.le_of_ble_eq_true rfl) rfl ?_
        refine g_goto 58 hX dX12_balancingSeat_129 (by decide) ?_
        refine g_lv [2, 3, 4, 5, 6, 0] rfl ?_
        exact h58 M a0 x1 x2 x3 x4 v13
      · refine g_iload 125 6 hX dX12_balancingSeat_123 rfl rfl ?_
        refine g_istore_n 126 3 [(3, .int x5), (6, .int y0), (0, .ref a0), (1, .int x1), (2, .int x2), (4, .int x4), (5, .int x5)] hX dX12_balancingSeat_125 rfl rfl (Nat.le_of_ble_eq_true rfl) rfl ?_
        refine g_kl (fun v14 hv14 => ?_)
        refine g_iinc 129 5 6 v14 [(5, .int v14), (3, .int x5), (6, .int y0), (0, .ref a0), (1, .int x1), (2, .int x2), (4, .int x4)] hX dX12_balancingSeat_126 rfl rfl (by rw [hv14, kc_i_1]) (Nat.le_of_ble_eq_true rfl) rfl ?_
        refine g_goto 58 hX dX12_balancingSeat_129 (by decide) ?_
        refine g_lv [3, 4, 5, 1, 6, 0] rfl ?_
        exact h58 M a0 x1 x2 x5 x4 v14
set_option maxRecDepth 100000 in
set_option maxHeartbeats 4000000 in
theorem k_X12_balancingSeat_89 {p : Program} {l : Launch} {e : Env} {s : State} {m : MethodId} {args : Array Value} {below : List Frame} {meth : Method} {c : Code} {g : kG} (hX : Cok (p, l, e, { frames := 2 * 5, cells := 0, slots := 0, locals := 60 * 5 }, s, m, args, below, meth, c, cX12_balancingSeat, 7, RX12, g, 5)) (hr : meth.sig.returnType = (some .int)) (N : Nat) (k58 : kMem → Nat → Int32 → Int32 → Int32 → Int32 → Int32 → Option (Int32 × kMem)) (h58 : ∀ (M : kMem) (a0 : Nat) (x1 : Int32) (x2 : Int32) (x3 : Int32) (x4 : Int32) (x5 : Int32), GG (p, l, e, { frames := 2 * 5, cells := 0, slots := 0, locals := 60 * 5 }, s, m, args, below, meth, c, cX12_balancingSeat, 7, RX12, g, 5) (fun b => MQ below (kQ g ((fun r : Int32 × kMem => (some (.int r.1), r.2)) b)) args s 0 0 (kZ g.2.2.1)) 0 0 (k58 M a0 x1 x2 x3 x4 x5) 58 [(0, .ref a0), (1, .int x1), (2, .int x2), (3, .int x3), (4, .int x4), (5, .int x5)] [] M) : ∀ (M : kMem) (a0 : Nat) (x1 : Int32) (x2 : Int32) (x3 : Int32) (x4 : Int32) (x5 : Int32), GG (p, l, e, { frames := 2 * 5, cells := 0, slots := 0, locals := 60 * 5 }, s, m, args, below, meth, c, cX12_balancingSeat, 7, RX12, g, 5) (fun b => MQ below (kQ g ((fun r : Int32 × kMem => (some (.int r.1), r.2)) b)) args s 0 0 (kZ g.2.2.1)) 0 0 (F_X12_balancingSeat_89 N k58 M a0 x1 x2 x3 x4 x5) 89 [(0, .ref a0), (1, .int x1), (2, .int x2), (3, .int x3), (4, .int x4), (5, .int x5)] [] M := by
  intro M a0 x1 x2 x3 x4 x5
  unfold F_X12_balancingSeat_89
  refine g_iconst 90 hX 0 dX12_balancingSeat_89 rfl kc_i_0 ?_
  exact k_X12_balancingSeat_90 hX hr N k58 h58 M a0 x1 x2 x3 x4 x5 0
set_option maxRecDepth 100000 in
set_option maxHeartbeats 4000000 in
theorem k_X12_balancingSeat_58 {p : Program} {l : Launch} {e : Env} {s : State} {m : MethodId} {args : Array Value} {below : List Frame} {meth : Method} {c : Code} {g : kG} (hX : Cok (p, l, e, { frames := 2 * 5, cells := 0, slots := 0, locals := 60 * 5 }, s, m, args, below, meth, c, cX12_balancingSeat, 7, RX12, g, 5)) (hr : meth.sig.returnType = (some .int)) (N : Nat) : ∀ (n : Nat) (M : kMem) (a0 : Nat) (x1 : Int32) (x2 : Int32) (x3 : Int32) (x4 : Int32) (x5 : Int32), GG (p, l, e, { frames := 2 * 5, cells := 0, slots := 0, locals := 60 * 5 }, s, m, args, below, meth, c, cX12_balancingSeat, 7, RX12, g, 5) (fun b => MQ below (kQ g ((fun r : Int32 × kMem => (some (.int r.1), r.2)) b)) args s 0 0 (kZ g.2.2.1)) 0 0 (F_X12_balancingSeat_58 N n M a0 x1 x2 x3 x4 x5) 58 [(0, .ref a0), (1, .int x1), (2, .int x2), (3, .int x3), (4, .int x4), (5, .int x5)] [] M := by
  intro n
  induction n with
  | zero => intro _ _ _ _ _ _ _; exact g_none
  | succ n ih =>
    intro M a0 x1 x2 x3 x4 x5
    unfold F_X12_balancingSeat_58
    refine g_iload 60 5 hX dX12_balancingSeat_58 rfl rfl ?_
    refine g_aload_n 61 0 hX dX12_balancingSeat_60 rfl rfl ?_
    refine g_iload_n 62 1 hX dX12_balancingSeat_61 rfl rfl ?_
    refine g_iconst 63 hX 0 dX12_balancingSeat_62 rfl kc_i_0 ?_
    refine g_callV_ip 66 hX (k_X12_ofBoard l g N M a0 x1 0) lk_X12_ofBoard rfl (ci := 12) rfl (Nat.le_of_ble_eq_true rfl) q_1921 q_66 (by omega) rfl (Nat.le_of_ble_eq_true rfl) (Nat.zero_le _) (Nat.zero_le _) dX12_balancingSeat_63 rfl (fun r8 => ?_)
    refine g_icmp_gt 132 69 hX dX12_balancingSeat_66 (by decide) rfl (fun _ => ?_) (fun _ => ?_)
    · refine g_iload_n 133 3 hX dX12_balancingSeat_132 rfl rfl ?_
      exact g_iret hX hr rfl (Nat.le_refl 0) (Nat.le_refl 0) dX12_balancingSeat_133
    · refine g_iload 71 5 hX dX12_balancingSeat_69 rfl rfl ?_
      refine g_if_eq 89 74 hX dX12_balancingSeat_71 (by decide) rfl (fun _ => ?_) (fun _ => ?_)
      · exact k_X12_balancingSeat_89 hX hr N (fun M a0 x1 x2 x3 x4 x5 => F_X12_balancingSeat_58 N n M a0 x1 x2 x3 x4 x5) ih M a0 x1 x2 x3 x4 x5
      · refine g_aload_n 75 0 hX dX12_balancingSeat_74 rfl rfl ?_
        refine g_iload_n 76 1 hX dX12_balancingSeat_75 rfl rfl ?_
        refine g_iload 78 5 hX dX12_balancingSeat_76 rfl rfl ?_
        refine g_callV_ip 81 hX (k_X12_onSeat l g N M a0 x1 x5) lk_X12_onSeat rfl (ci := 12) rfl (Nat.le_of_ble_eq_true rfl) q_1925 q_67 (by omega) rfl (Nat.le_of_ble_eq_true rfl) (Nat.zero_le _) (Nat.zero_le _) dX12_balancingSeat_78 rfl (fun r15 => ?_)
        refine g_iconst 82 hX (-1) dX12_balancingSeat_81 rfl kc_i_m1 ?_
        refine g_icmp_ne 89 85 hX dX12_balancingSeat_82 (by decide) rfl (fun _ => ?_) (fun _ => ?_)
        · exact k_X12_balancingSeat_89 hX hr N (fun M a0 x1 x2 x3 x4 x5 => F_X12_balancingSeat_58 N n M a0 x1 x2 x3 x4 x5) ih M a0 x1 x2 x3 x4 x5
        · refine g_iconst 86 hX 1 dX12_balancingSeat_85 rfl kc_i_1 ?_
          refine g_goto 90 hX dX12_balancingSeat_86 (by decide) ?_
          exact k_X12_balancingSeat_90 hX hr N (fun M a0 x1 x2 x3 x4 x5 => F_X12_balancingSeat_58 N n M a0 x1 x2 x3 x4 x5) ih M a0 x1 x2 x3 x4 x5 1
set_option maxRecDepth 100000 in
set_option maxHeartbeats 4000000 in
theorem k_X12_balancingSeat_31 {p : Program} {l : Launch} {e : Env} {s : State} {m : MethodId} {args : Array Value} {below : List Frame} {meth : Method} {c : Code} {g : kG} (hX : Cok (p, l, e, { frames := 2 * 5, cells := 0, slots := 0, locals := 60 * 5 }, s, m, args, below, meth, c, cX12_balancingSeat, 7, RX12, g, 5)) (hr : meth.sig.returnType = (some .int)) (N : Nat) : ∀ (M : kMem) (a0 : Nat) (x1 : Int32) (x2 : Int32) (y0 : Nat) (y1 : Int32), GG (p, l, e, { frames := 2 * 5, cells := 0, slots := 0, locals := 60 * 5 }, s, m, args, below, meth, c, cX12_balancingSeat, 7, RX12, g, 5) (fun b => MQ below (kQ g ((fun r : Int32 × kMem => (some (.int r.1), r.2)) b)) args s 0 0 (kZ g.2.2.1)) 0 0 (F_X12_balancingSeat_31 N M a0 x1 x2 y0 y1) 31 [(0, .ref a0), (1, .int x1), (2, .int x2)] [.int y1, .ref y0] M := by
  intro M a0 x1 x2 y0 y1
  unfold F_X12_balancingSeat_31
  refine g_iconst 32 hX 2 dX12_balancingSeat_31 rfl kc_i_2 ?_
  refine g_callV_i 35 hX (k_X12_stops l g N M y0 y1 2) lk_X12_stops rfl (ci := 12) rfl (Nat.le_of_ble_eq_true rfl) q_1796 q_44 (by omega) rfl (Nat.le_of_ble_eq_true rfl) (Nat.zero_le _) (Nat.zero_le _) dX12_balancingSeat_32 rfl (fun r4 => ?_)
  refine g_if_eq 40 38 hX dX12_balancingSeat_35 (by decide) rfl (fun _ => ?_) (fun _ => ?_)
  · refine g_iconst 41 hX 0 dX12_balancingSeat_40 rfl kc_i_0 ?_
    refine g_istore_n 42 3 [(3, .int 0), (0, .ref a0), (1, .int x1), (2, .int x2)] hX dX12_balancingSeat_41 rfl rfl (Nat.le_of_ble_eq_true rfl) rfl ?_
    refine g_aload_n 43 1 hX dX12_balancingSeat_42 rfl rfl ?_
    refine g_iload_n 44 2 hX dX12_balancingSeat_43 rfl rfl ?_
    refine g_callV_ip 47 hX (k_X12_torqueOf l g N r4.2 a0 x1) lk_X12_torqueOf rfl (ci := 12) rfl (Nat.le_of_ble_eq_true rfl) q_2015 q_85 (by omega) rfl (Nat.le_of_ble_eq_true rfl) (Nat.zero_le _) (Nat.zero_le _) dX12_balancingSeat_44 rfl (fun r5 => ?_)
    refine g_istore 49 4 [(4, .int r5), (3, .int 0), (0, .ref a0), (1, .int x1), (2, .int x2)] hX dX12_balancingSeat_47 rfl (Nat.le_of_ble_eq_true rfl) rfl ?_
    refine g_aload_n 50 2 hX dX12_balancingSeat_49 rfl rfl ?_
    refine g_iload_n 51 3 hX dX12_balancingSeat_50 rfl rfl ?_
    refine g_iconst 52 hX 0 dX12_balancingSeat_51 rfl kc_i_0 ?_
    refine g_callV_ip 55 hX (k_X12_ofBoard l g N r4.2 a0 x1 0) lk_X12_ofBoard rfl (ci := 12) rfl (Nat.le_of_ble_eq_true rfl) q_1921 q_66 (by omega) rfl (Nat.le_of_ble_eq_true rfl) (Nat.zero_le _) (Nat.zero_le _) dX12_balancingSeat_52 rfl (fun r6 => ?_)
    refine g_ineg 56 hX dX12_balancingSeat_55 rfl ?_
    refine g_klI (fun v7 hv7 => ?_)
    refine g_istore 58 5 [(5, .int v7), (4, .int r5), (3, .int 0), (0, .ref a0), (1, .int x1), (2, .int x2)] hX dX12_balancingSeat_56 rfl (Nat.le_of_ble_eq_true rfl) rfl ?_
    refine g_lv [3, 4, 5, 2, 1, 0] rfl ?_
    exact k_X12_balancingSeat_58 hX hr N N r4.2 a0 x1 x2 0 r5 v7
  · refine g_iconst 39 hX 0 dX12_balancingSeat_38 rfl kc_i_0 ?_
    exact g_iret hX hr rfl (Nat.le_refl 0) (Nat.le_refl 0) dX12_balancingSeat_39
set_option maxRecDepth 100000 in
set_option maxHeartbeats 4000000 in
theorem k_X12_balancingSeat (l : Launch) (g : kG) (N : Nat) (M : kMem) (a0 : Nat) (x1 : Int32) (x2 : Int32) : kMet l g yX12_balancingSeat cX12_balancingSeat 7 (some .int) 5 0 0 [.ref a0, .int x1, .int x2] M (fun r : Int32 × kMem => (some (.int r.1), r.2)) (F_X12_balancingSeat N M a0 x1 x2) := by
  refine k_of (lv := [(0, .ref a0), (1, .int x1), (2, .int x2)]) RX12 (by decide) rfl rfl (Nat.le_of_ble_eq_true rfl) ?_
  intro p e s m args below meth c hX hr _
  unfold F_X12_balancingSeat
  refine g_aload_n 1 0 hX dX12_balancingSeat_0 rfl rfl ?_
  refine g_iconst 2 hX 0 dX12_balancingSeat_1 rfl kc_i_0 ?_
  refine p_X12_63 5 hX dX12_balancingSeat_2 rfl ?_
  refine g_klM (fun M1 hM1 => ?_)
  refine g_aload_n 6 0 hX dX12_balancingSeat_5 rfl rfl ?_
  refine g_iload_n 7 1 hX dX12_balancingSeat_6 rfl rfl ?_
  refine g_callV_i 10 hX (k_X12_noBoard l g N M1 a0 x1) lk_X12_noBoard rfl (ci := 12) rfl (Nat.le_of_ble_eq_true rfl) q_2156 q_115 (by omega) rfl (Nat.le_of_ble_eq_true rfl) (Nat.zero_le _) (Nat.zero_le _) dX12_balancingSeat_7 rfl (fun r2 => ?_)
  refine g_if_ne 38 13 hX dX12_balancingSeat_10 (by decide) rfl (fun _ => ?_) (fun _ => ?_)
  · refine g_iconst 39 hX 0 dX12_balancingSeat_38 rfl kc_i_0 ?_
    exact g_iret hX hr rfl (Nat.le_refl 0) (Nat.le_refl 0) dX12_balancingSeat_39
  · refine g_aload_n 14 0 hX dX12_balancingSeat_13 rfl rfl ?_
    refine g_iload_n 15 2 hX dX12_balancingSeat_14 rfl rfl ?_
    refine g_i2l 16 hX dX12_balancingSeat_15 rfl ?_
    refine g_lconst 17 hX 1 dX12_balancingSeat_16 rfl rfl ?_
    refine g_ldc2 20 hX 99 dX12_balancingSeat_17 rfl q_2138 ?_
    refine g_callS_ip 23 hX (k_X12_in l g N r2.2 x2.toInt64 1 99) lk_X12_in q_1808 (by omega) rfl (Nat.le_of_ble_eq_true rfl) (Nat.zero_le _) (Nat.zero_le _) dX12_balancingSeat_20 rfl (fun r3 => ?_)
    refine g_if_ne 30 26 hX dX12_balancingSeat_23 (by decide) rfl (fun _ => ?_) (fun _ => ?_)
    · refine g_iconst 31 hX 0 dX12_balancingSeat_30 rfl kc_i_0 ?_
      exact k_X12_balancingSeat_31 hX hr N r2.2 a0 x1 x2 a0 0
    · refine g_iconst 27 hX 1 dX12_balancingSeat_26 rfl kc_i_1 ?_
      refine g_goto 31 hX dX12_balancingSeat_27 (by decide) ?_
      exact k_X12_balancingSeat_31 hX hr N r2.2 a0 x1 x2 a0 1
def F_X12_traderCount (N : Nat) (M : kMem) (a0 : Nat) : Option (Int32 × kMem) :=
    kg (kt M a0 12) <| kl (ksI M a0 6 0) fun M1 =>
    kg (kt M1 a0 12) <|
    kg (kin M1 (kR M1 a0 0) 13 8) <|
    some (kI M1 (kR M1 a0 0) (kx 8), M1)
set_option maxRecDepth 100000 in
set_option maxHeartbeats 4000000 in
theorem k_X12_traderCount (l : Launch) (g : kG) (N : Nat) (M : kMem) (a0 : Nat) : kMet l g yX12_traderCount cX12_traderCount 1 (some .int) 1 0 0 [.ref a0] M (fun r : Int32 × kMem => (some (.int r.1), r.2)) (F_X12_traderCount N M a0) := by
  refine k_of (lv := [(0, .ref a0)]) RX12 (by decide) rfl rfl (Nat.le_of_ble_eq_true rfl) ?_
  intro p e s m args below meth c hX hr _
  unfold F_X12_traderCount
  refine g_aload_n 1 0 hX dX12_traderCount_0 rfl rfl ?_
  refine g_iconst 2 hX 0 dX12_traderCount_1 rfl kc_i_0 ?_
  refine p_X12_63 5 hX dX12_traderCount_2 rfl ?_
  refine g_klM (fun M1 hM1 => ?_)
  refine g_aload_n 6 0 hX dX12_traderCount_5 rfl rfl ?_
  refine r_X12_7 9 hX dX12_traderCount_6 rfl ?_
  refine g_bipush 11 hX 8 dX12_traderCount_9 rfl kc_b_8 ?_
  refine g_iald 12 hX dX12_traderCount_11 rfl ?_
  exact g_iret hX hr rfl (Nat.le_refl 0) (Nat.le_refl 0) dX12_traderCount_12
def F_X12_findTrader (N : Nat) (M : kMem) (a0 : Nat) : Option (Int32 × kMem) :=
    kg (kt M a0 12) <| kl (ksI M a0 6 0) fun M1 =>
    kg (kt M1 a0 12) <| (F_X12_wholeName N M1 a0).bind fun r2 =>
    if r2 = 0 then (
      some ((-1), M1)) else
    kg (kt M1 a0 12) <| (F_X12_traderNamed N M1 a0 r2).bind fun r3 =>
    some (r3, M1)
set_option maxRecDepth 100000 in
set_option maxHeartbeats 4000000 in
theorem k_X12_findTrader (l : Launch) (g : kG) (N : Nat) (M : kMem) (a0 : Nat) : kMet l g yX12_findTrader cX12_findTrader 2 (some .int) 4 0 0 [.ref a0] M (fun r : Int32 × kMem => (some (.int r.1), r.2)) (F_X12_findTrader N M a0) := by
  refine k_of (lv := [(0, .ref a0)]) RX12 (by decide) rfl rfl (Nat.le_of_ble_eq_true rfl) ?_
  intro p e s m args below meth c hX hr _
  unfold F_X12_findTrader
  refine g_aload_n 1 0 hX dX12_findTrader_0 rfl rfl ?_
  refine g_iconst 2 hX 0 dX12_findTrader_1 rfl kc_i_0 ?_
  refine p_X12_63 5 hX dX12_findTrader_2 rfl ?_
  refine g_klM (fun M1 hM1 => ?_)
  refine g_aload_n 6 0 hX dX12_findTrader_5 rfl rfl ?_
  refine g_callV_ip 9 hX (k_X12_wholeName l g N M1 a0) lk_X12_wholeName rfl (ci := 12) rfl (Nat.le_of_ble_eq_true rfl) q_2140 q_112 (by omega) rfl (Nat.le_of_ble_eq_true rfl) (Nat.zero_le _) (Nat.zero_le _) dX12_findTrader_6 rfl (fun r2 => ?_)
  refine g_istore_n 10 1 [(1, .int r2), (0, .ref a0)] hX dX12_findTrader_9 rfl rfl (Nat.le_of_ble_eq_true rfl) rfl ?_
  refine g_iload_n 11 0 hX dX12_findTrader_10 rfl rfl ?_
  refine g_if_ne 18 14 hX dX12_findTrader_11 (by decide) rfl (fun _ => ?_) (fun _ => ?_)
  · refine g_aload_n 19 1 hX dX12_findTrader_18 rfl rfl ?_
    refine g_iload_n 20 0 hX dX12_findTrader_19 rfl rfl ?_
    refine g_callV_ip 23 hX (k_X12_traderNamed l g N M1 a0 r2) lk_X12_traderNamed rfl (ci := 12) rfl (Nat.le_of_ble_eq_true rfl) q_1899 q_62 (by omega) rfl (Nat.le_of_ble_eq_true rfl) (Nat.zero_le _) (Nat.zero_le _) dX12_findTrader_20 rfl (fun r3 => ?_)
    exact g_iret hX hr rfl (Nat.le_refl 0) (Nat.le_refl 0) dX12_findTrader_23
  · refine g_iconst 15 hX (-1) dX12_findTrader_14 rfl kc_i_m1 ?_
    refine g_goto 23 hX dX12_findTrader_15 (by decide) ?_
    exact g_iret hX hr rfl (Nat.le_refl 0) (Nat.le_refl 0) dX12_findTrader_23
def F_X12_lettersOf_4 (N : Nat) (M : kMem) : Nat → Int32 → Int32 → Option (Int32)
  | 0, _, _ => none
  | n + 1, x1, x2 =>
    if (0 : Int32) < x2 then (
      kl (x1 + 1) fun v1 =>
      kl (x2 >>> (5 &&& 31)) fun v2 =>
      F_X12_lettersOf_4 N M n v1 v2) else
    some x1
def F_X12_lettersOf (N : Nat) (M : kMem) (x0 : Int32) : Option (Int32) :=
    F_X12_lettersOf_4 N M N 0 x0
set_option maxRecDepth 100000 in
set_option maxHeartbeats 4000000 in
theorem k_X12_lettersOf_4 {p : Program} {l : Launch} {e : Env} {s : State} {m : MethodId} {args : Array Value} {below : List Frame} {meth : Method} {c : Code} {g : kG} (hX : Cok (p, l, e, { frames := 2 * 1, cells := 0, slots := 0, locals := 60 * 1 }, s, m, args, below, meth, c, cX12_lettersOf, 3, RX12, g, 1)) (hr : meth.sig.returnType = (some .int)) (N : Nat) (M : kMem) : ∀ (n : Nat) (x1 : Int32) (x2 : Int32), GG (p, l, e, { frames := 2 * 1, cells := 0, slots := 0, locals := 60 * 1 }, s, m, args, below, meth, c, cX12_lettersOf, 3, RX12, g, 1) (fun b => MQ below (kQ g ((fun r : Int32 => (some (.int r), M)) b)) args s 0 0 (kZ g.2.2.1)) 0 0 (F_X12_lettersOf_4 N M n x1 x2) 4 [(1, .int x1), (2, .int x2)] [] M := by
  intro n
  induction n with
  | zero => intro _ _; exact g_none
  | succ n ih =>
    intro x1 x2
    unfold F_X12_lettersOf_4
    refine g_iload_n 5 1 hX dX12_lettersOf_4 rfl rfl ?_
    refine g_if_le 18 8 hX dX12_lettersOf_5 (by decide) rfl (fun _ => ?_) (fun _ => ?_)
    · refine g_iload_n 19 0 hX dX12_lettersOf_18 rfl rfl ?_
      exact g_iret hX hr rfl (Nat.le_refl 0) (Nat.le_refl 0) dX12_lettersOf_19
    · refine g_kl (fun v1 hv1 => ?_)
      refine g_iinc 11 1 0 v1 [(1, .int v1), (2, .int x2)] hX dX12_lettersOf_8 rfl rfl (by rw [hv1, kc_i_1]) (Nat.le_of_ble_eq_true rfl) rfl ?_
      refine g_iload_n 12 1 hX dX12_lettersOf_11 rfl rfl ?_
      refine g_iconst 13 hX 5 dX12_lettersOf_12 rfl kc_i_5 ?_
      refine g_ishr 14 hX dX12_lettersOf_13 rfl ?_
      refine g_klI (fun v2 hv2 => ?_)
      refine g_istore_n 15 2 [(2, .int v2), (1, .int v1)] hX dX12_lettersOf_14 rfl rfl (Nat.le_of_ble_eq_true rfl) rfl ?_
      refine g_goto 4 hX dX12_lettersOf_15 (by decide) ?_
      refine g_lv [1, 0] rfl ?_
      exact ih v1 v2
set_option maxRecDepth 100000 in
set_option maxHeartbeats 4000000 in
theorem k_X12_lettersOf (l : Launch) (g : kG) (N : Nat) (M : kMem) (x0 : Int32) : kMet l g yX12_lettersOf cX12_lettersOf 3 (some .int) 1 0 0 [.int x0] M (fun r : Int32 => (some (.int r), M)) (F_X12_lettersOf N M x0) := by
  refine k_of (lv := [(0, .int x0)]) RX12 (by decide) rfl rfl (Nat.le_of_ble_eq_true rfl) ?_
  intro p e s m args below meth c hX hr _
  unfold F_X12_lettersOf
  refine g_iconst 1 hX 0 dX12_lettersOf_0 rfl kc_i_0 ?_
  refine g_istore_n 2 1 [(1, .int 0), (0, .int x0)] hX dX12_lettersOf_1 rfl rfl (Nat.le_of_ble_eq_true rfl) rfl ?_
  refine g_iload_n 3 1 hX dX12_lettersOf_2 rfl rfl ?_
  refine g_istore_n 4 2 [(2, .int x0), (1, .int 0), (0, .int x0)] hX dX12_lettersOf_3 rfl rfl (Nat.le_of_ble_eq_true rfl) rfl ?_
  refine g_lv [1, 0] rfl ?_
  exact k_X12_lettersOf_4 hX hr N M N 0 x0
def F_X12_letterOf (N : Nat) (M : kMem) (x0 : Int32) (x1 : Int32) : Option (Int32) :=
    (F_X12_lettersOf N M x0).bind fun r1 =>
    (F_X12_in N M x1.toInt64 0 ((r1 - 1).toInt64)).bind fun r2 =>
    if r2 = 0 then (
      some (-1)) else
    some (((x0 >>> ((5 * ((r1 - 1) - x1)) &&& 31)) &&& 31) + 96)
set_option maxRecDepth 100000 in
set_option maxHeartbeats 4000000 in
theorem k_X12_letterOf (l : Launch) (g : kG) (N : Nat) (M : kMem) (x0 : Int32) (x1 : Int32) : kMet l g yX12_letterOf cX12_letterOf 3 (some .int) 2 0 0 [.int x0, .int x1] M (fun r : Int32 => (some (.int r), M)) (F_X12_letterOf N M x0 x1) := by
  refine k_of (lv := [(0, .int x0), (1, .int x1)]) RX12 (by decide) rfl rfl (Nat.le_of_ble_eq_true rfl) ?_
  intro p e s m args below meth c hX hr _
  unfold F_X12_letterOf
  refine g_iload_n 1 0 hX dX12_letterOf_0 rfl rfl ?_
  refine g_callS_ip 4 hX (k_X12_lettersOf l g N M x0) lk_X12_lettersOf q_2286 (by omega) rfl (Nat.le_of_ble_eq_true rfl) (Nat.zero_le _) (Nat.zero_le _) dX12_letterOf_1 rfl (fun r1 => ?_)
  refine g_istore_n 5 2 [(2, .int r1), (0, .int x0), (1, .int x1)] hX dX12_letterOf_4 rfl rfl (Nat.le_of_ble_eq_true rfl) rfl ?_
  refine g_iload_n 6 2 hX dX12_letterOf_5 rfl rfl ?_
  refine g_i2l 7 hX dX12_letterOf_6 rfl ?_
  refine g_lconst 8 hX 0 dX12_letterOf_7 rfl rfl ?_
  refine g_iload_n 9 0 hX dX12_letterOf_8 rfl rfl ?_
  refine g_iconst 10 hX 1 dX12_letterOf_9 rfl kc_i_1 ?_
  refine g_isub 11 hX dX12_letterOf_10 rfl ?_
  refine g_i2l 12 hX dX12_letterOf_11 rfl ?_
  refine g_callS_ip 15 hX (k_X12_in l g N M x1.toInt64 0 ((r1 - 1).toInt64)) lk_X12_in q_1808 (by omega) rfl (Nat.le_of_ble_eq_true rfl) (Nat.zero_le _) (Nat.zero_le _) dX12_letterOf_12 rfl (fun r2 => ?_)
  refine g_if_eq 36 18 hX dX12_letterOf_15 (by decide) rfl (fun _ => ?_) (fun _ => ?_)
  · refine g_iconst 37 hX (-1) dX12_letterOf_36 rfl kc_i_m1 ?_
    exact g_iret hX hr rfl (Nat.le_refl 0) (Nat.le_refl 0) dX12_letterOf_37
  · refine g_iload_n 19 1 hX dX12_letterOf_18 rfl rfl ?_
    refine g_iconst 20 hX 5 dX12_letterOf_19 rfl kc_i_5 ?_
    refine g_iload_n 21 0 hX dX12_letterOf_20 rfl rfl ?_
    refine g_iconst 22 hX 1 dX12_letterOf_21 rfl kc_i_1 ?_
    refine g_isub 23 hX dX12_letterOf_22 rfl ?_
    refine g_iload_n 24 2 hX dX12_letterOf_23 rfl rfl ?_
    refine g_isub 25 hX dX12_letterOf_24 rfl ?_
    refine g_imul 26 hX dX12_letterOf_25 rfl ?_
    refine g_ishr 27 hX dX12_letterOf_26 rfl ?_
    refine g_bipush 29 hX 31 dX12_letterOf_27 rfl kc_b_31 ?_
    refine g_iand 30 hX dX12_letterOf_29 rfl ?_
    refine g_bipush 32 hX 96 dX12_letterOf_30 rfl kc_b_96 ?_
    refine g_iadd 33 hX dX12_letterOf_32 rfl ?_
    refine g_goto 37 hX dX12_letterOf_33 (by decide) ?_
    exact g_iret hX hr rfl (Nat.le_refl 0) (Nat.le_refl 0) dX12_letterOf_37
def F_X12_nameLetter (N : Nat) (M : kMem) (a0 : Nat) (x1 : Int32) (x2 : Int32) : Option (Int32 × kMem) :=
    kg (kt M a0 12) <| kl (ksI M a0 6 0) fun M1 =>
    kg (kt M1 a0 12) <| (F_X12_noTrader N M1 a0 x1).bind fun r2 =>
    if r2.1 = 0 then (
      kg (kt r2.2 a0 12) <| (F_X12_has N r2.2 a0 x1 0).bind fun r3 =>
      (F_X12_letterOf N r2.2 r3 x2).bind fun r4 =>
      some (r4, r2.2)) else
    some (0, r2.2)
set_option maxRecDepth 100000 in
set_option maxHeartbeats 4000000 in
theorem k_X12_nameLetter (l : Launch) (g : kG) (N : Nat) (M : kMem) (a0 : Nat) (x1 : Int32) (x2 : Int32) : kMet l g yX12_nameLetter cX12_nameLetter 3 (some .int) 3 0 0 [.ref a0, .int x1, .int x2] M (fun r : Int32 × kMem => (some (.int r.1), r.2)) (F_X12_nameLetter N M a0 x1 x2) := by
  refine k_of (lv := [(0, .ref a0), (1, .int x1), (2, .int x2)]) RX12 (by decide) rfl rfl (Nat.le_of_ble_eq_true rfl) ?_
  intro p e s m args below meth c hX hr _
  unfold F_X12_nameLetter
  refine g_aload_n 1 0 hX dX12_nameLetter_0 rfl rfl ?_
  refine g_iconst 2 hX 0 dX12_nameLetter_1 rfl kc_i_0 ?_
  refine p_X12_63 5 hX dX12_nameLetter_2 rfl ?_
  refine g_klM (fun M1 hM1 => ?_)
  refine g_aload_n 6 0 hX dX12_nameLetter_5 rfl rfl ?_
  refine g_iload_n 7 1 hX dX12_nameLetter_6 rfl rfl ?_
  refine g_callV_i 10 hX (k_X12_noTrader l g N M1 a0 x1) lk_X12_noTrader rfl (ci := 12) rfl (Nat.le_of_ble_eq_true rfl) q_2148 q_113 (by omega) rfl (Nat.le_of_ble_eq_true rfl) (Nat.zero_le _) (Nat.zero_le _) dX12_nameLetter_7 rfl (fun r2 => ?_)
  refine g_if_eq 17 13 hX dX12_nameLetter_10 (by decide) rfl (fun _ => ?_) (fun _ => ?_)
  · refine g_aload_n 18 0 hX dX12_nameLetter_17 rfl rfl ?_
    refine g_iload_n 19 1 hX dX12_nameLetter_18 rfl rfl ?_
    refine g_iconst 20 hX 0 dX12_nameLetter_19 rfl kc_i_0 ?_
    refine g_callV_ip 23 hX (k_X12_has l g N r2.2 a0 x1 0) lk_X12_has rfl (ci := 12) rfl (Nat.le_of_ble_eq_true rfl) q_1689 q_42 (by omega) rfl (Nat.le_of_ble_eq_true rfl) (Nat.zero_le _) (Nat.zero_le _) dX12_nameLetter_20 rfl (fun r3 => ?_)
    refine g_iload_n 24 2 hX dX12_nameLetter_23 rfl rfl ?_
    refine g_callS_ip 27 hX (k_X12_letterOf l g N r2.2 r3 x2) lk_X12_letterOf q_2283 (by omega) rfl (Nat.le_of_ble_eq_true rfl) (Nat.zero_le _) (Nat.zero_le _) dX12_nameLetter_24 rfl (fun r4 => ?_)
    exact g_iret hX hr rfl (Nat.le_refl 0) (Nat.le_refl 0) dX12_nameLetter_27
  · refine g_iconst 14 hX 0 dX12_nameLetter_13 rfl kc_i_0 ?_
    refine g_goto 27 hX dX12_nameLetter_14 (by decide) ?_
    exact g_iret hX hr rfl (Nat.le_refl 0) (Nat.le_refl 0) dX12_nameLetter_27
def F_X12_asked (N : Nat) (M : kMem) (a0 : Nat) (x1 : Int32) (x2 : Int32) : Option (Int32 × kMem) :=
    kg (kt M a0 12) <| kl (ksI M a0 6 0) fun M1 =>
    kg (kt M1 a0 12) <| (F_X12_noTrader N M1 a0 x1).bind fun r2 =>
    if r2.1 = 0 then (
      kg (kt r2.2 a0 12) <| (F_X12_has N r2.2 a0 x1 x2).bind fun r3 =>
      some (r3, r2.2)) else
    some (0, r2.2)
set_option maxRecDepth 100000 in
set_option maxHeartbeats 4000000 in
theorem k_X12_asked (l : Launch) (g : kG) (N : Nat) (M : kMem) (a0 : Nat) (x1 : Int32) (x2 : Int32) : kMet l g yX12_asked cX12_asked 3 (some .int) 3 0 0 [.ref a0, .int x1, .int x2] M (fun r : Int32 × kMem => (some (.int r.1), r.2)) (F_X12_asked N M a0 x1 x2) := by
  refine k_of (lv := [(0, .ref a0), (1, .int x1), (2, .int x2)]) RX12 (by decide) rfl rfl (Nat.le_of_ble_eq_true rfl) ?_
  intro p e s m args below meth c hX hr _
  unfold F_X12_asked
  refine g_aload_n 1 0 hX dX12_asked_0 rfl rfl ?_
  refine g_iconst 2 hX 0 dX12_asked_1 rfl kc_i_0 ?_
  refine p_X12_63 5 hX dX12_asked_2 rfl ?_
  refine g_klM (fun M1 hM1 => ?_)
  refine g_aload_n 6 0 hX dX12_asked_5 rfl rfl ?_
  refine g_iload_n 7 1 hX dX12_asked_6 rfl rfl ?_
  refine g_callV_i 10 hX (k_X12_noTrader l g N M1 a0 x1) lk_X12_noTrader rfl (ci := 12) rfl (Nat.le_of_ble_eq_true rfl) q_2148 q_113 (by omega) rfl (Nat.le_of_ble_eq_true rfl) (Nat.zero_le _) (Nat.zero_le _) dX12_asked_7 rfl (fun r2 => ?_)
  refine g_if_eq 17 13 hX dX12_asked_10 (by decide) rfl (fun _ => ?_) (fun _ => ?_)
  · refine g_aload_n 18 0 hX dX12_asked_17 rfl rfl ?_
    refine g_iload_n 19 1 hX dX12_asked_18 rfl rfl ?_
    refine g_iload_n 20 2 hX dX12_asked_19 rfl rfl ?_
    refine g_callV_ip 23 hX (k_X12_has l g N r2.2 a0 x1 x2) lk_X12_has rfl (ci := 12) rfl (Nat.le_of_ble_eq_true rfl) q_1689 q_42 (by omega) rfl (Nat.le_of_ble_eq_true rfl) (Nat.zero_le _) (Nat.zero_le _) dX12_asked_20 rfl (fun r3 => ?_)
    exact g_iret hX hr rfl (Nat.le_refl 0) (Nat.le_refl 0) dX12_asked_23
  · refine g_iconst 14 hX 0 dX12_asked_13 rfl kc_i_0 ?_
    refine g_goto 23 hX dX12_asked_14 (by decide) ?_
    exact g_iret hX hr rfl (Nat.le_refl 0) (Nat.le_refl 0) dX12_asked_23
def F_X12_weightOf (N : Nat) (M : kMem) (a0 : Nat) (x1 : Int32) : Option (Int32 × kMem) :=
    kg (kt M a0 12) <| (F_X12_asked N M a0 x1 1).bind fun r1 =>
    some (r1.1, r1.2)
set_option maxRecDepth 100000 in
set_option maxHeartbeats 4000000 in
theorem k_X12_weightOf (l : Launch) (g : kG) (N : Nat) (M : kMem) (a0 : Nat) (x1 : Int32) : kMet l g yX12_weightOf cX12_weightOf 2 (some .int) 4 0 0 [.ref a0, .int x1] M (fun r : Int32 × kMem => (some (.int r.1), r.2)) (F_X12_weightOf N M a0 x1) := by
  refine k_of (lv := [(0, .ref a0), (1, .int x1)]) RX12 (by decide) rfl rfl (Nat.le_of_ble_eq_true rfl) ?_
  intro p e s m args below meth c hX hr _
  unfold F_X12_weightOf
  refine g_aload_n 1 0 hX dX12_weightOf_0 rfl rfl ?_
  refine g_iload_n 2 1 hX dX12_weightOf_1 rfl rfl ?_
  refine g_iconst 3 hX 1 dX12_weightOf_2 rfl kc_i_1 ?_
  refine g_callV_i 6 hX (k_X12_asked l g N M a0 x1 1) lk_X12_asked rfl (ci := 12) rfl (Nat.le_of_ble_eq_true rfl) q_2293 q_119 (by omega) rfl (Nat.le_of_ble_eq_true rfl) (Nat.zero_le _) (Nat.zero_le _) dX12_weightOf_3 rfl (fun r1 => ?_)
  exact g_iret hX hr rfl (Nat.le_refl 0) (Nat.le_refl 0) dX12_weightOf_6
def F_X12_purseOf (N : Nat) (M : kMem) (a0 : Nat) (x1 : Int32) : Option (Int32 × kMem) :=
    kg (kt M a0 12) <| (F_X12_asked N M a0 x1 2).bind fun r1 =>
    some (r1.1, r1.2)
set_option maxRecDepth 100000 in
set_option maxHeartbeats 4000000 in
theorem k_X12_purseOf (l : Launch) (g : kG) (N : Nat) (M : kMem) (a0 : Nat) (x1 : Int32) : kMet l g yX12_purseOf cX12_purseOf 2 (some .int) 4 0 0 [.ref a0, .int x1] M (fun r : Int32 × kMem => (some (.int r.1), r.2)) (F_X12_purseOf N M a0 x1) := by
  refine k_of (lv := [(0, .ref a0), (1, .int x1)]) RX12 (by decide) rfl rfl (Nat.le_of_ble_eq_true rfl) ?_
  intro p e s m args below meth c hX hr _
  unfold F_X12_purseOf
  refine g_aload_n 1 0 hX dX12_purseOf_0 rfl rfl ?_
  refine g_iload_n 2 1 hX dX12_purseOf_1 rfl rfl ?_
  refine g_iconst 3 hX 2 dX12_purseOf_2 rfl kc_i_2 ?_
  refine g_callV_i 6 hX (k_X12_asked l g N M a0 x1 2) lk_X12_asked rfl (ci := 12) rfl (Nat.le_of_ble_eq_true rfl) q_2293 q_119 (by omega) rfl (Nat.le_of_ble_eq_true rfl) (Nat.zero_le _) (Nat.zero_le _) dX12_purseOf_3 rfl (fun r1 => ?_)
  exact g_iret hX hr rfl (Nat.le_refl 0) (Nat.le_refl 0) dX12_purseOf_6
def F_X12_ageOf (N : Nat) (M : kMem) (a0 : Nat) (x1 : Int32) : Option (Int32 × kMem) :=
    kg (kt M a0 12) <| (F_X12_asked N M a0 x1 3).bind fun r1 =>
    some (r1.1, r1.2)
set_option maxRecDepth 100000 in
set_option maxHeartbeats 4000000 in
theorem k_X12_ageOf (l : Launch) (g : kG) (N : Nat) (M : kMem) (a0 : Nat) (x1 : Int32) : kMet l g yX12_ageOf cX12_ageOf 2 (some .int) 4 0 0 [.ref a0, .int x1] M (fun r : Int32 × kMem => (some (.int r.1), r.2)) (F_X12_ageOf N M a0 x1) := by
  refine k_of (lv := [(0, .ref a0), (1, .int x1)]) RX12 (by decide) rfl rfl (Nat.le_of_ble_eq_true rfl) ?_
  intro p e s m args below meth c hX hr _
  unfold F_X12_ageOf
  refine g_aload_n 1 0 hX dX12_ageOf_0 rfl rfl ?_
  refine g_iload_n 2 1 hX dX12_ageOf_1 rfl rfl ?_
  refine g_iconst 3 hX 3 dX12_ageOf_2 rfl kc_i_3 ?_
  refine g_callV_i 6 hX (k_X12_asked l g N M a0 x1 3) lk_X12_asked rfl (ci := 12) rfl (Nat.le_of_ble_eq_true rfl) q_2293 q_119 (by omega) rfl (Nat.le_of_ble_eq_true rfl) (Nat.zero_le _) (Nat.zero_le _) dX12_ageOf_3 rfl (fun r1 => ?_)
  exact g_iret hX hr rfl (Nat.le_refl 0) (Nat.le_refl 0) dX12_ageOf_6
def F_X12_isPresent (N : Nat) (M : kMem) (a0 : Nat) (x1 : Int32) : Option (Int32 × kMem) :=
    kg (kt M a0 12) <| kl (ksI M a0 6 0) fun M1 =>
    kg (kt M1 a0 12) <| (F_X12_noTrader N M1 a0 x1).bind fun r2 =>
    if r2.1 = 0 then (
      kg (kt r2.2 a0 12) <| (F_X12_has N r2.2 a0 x1 4).bind fun r3 =>
      if r3 = 1 then (
        some (1, r2.2)) else
      some (0, r2.2)) else
    some (0, r2.2)
set_option maxRecDepth 100000 in
set_option maxHeartbeats 4000000 in
theorem k_X12_isPresent (l : Launch) (g : kG) (N : Nat) (M : kMem) (a0 : Nat) (x1 : Int32) : kMet l g yX12_isPresent cX12_isPresent 2 (some .boolean) 3 0 0 [.ref a0, .int x1] M (fun r : Int32 × kMem => (some (.int r.1), r.2)) (F_X12_isPresent N M a0 x1) := by
  refine k_of (lv := [(0, .ref a0), (1, .int x1)]) RX12 (by decide) rfl rfl (Nat.le_of_ble_eq_true rfl) ?_
  intro p e s m args below meth c hX hr _
  unfold F_X12_isPresent
  refine g_aload_n 1 0 hX dX12_isPresent_0 rfl rfl ?_
  refine g_iconst 2 hX 0 dX12_isPresent_1 rfl kc_i_0 ?_
  refine p_X12_63 5 hX dX12_isPresent_2 rfl ?_
  refine g_klM (fun M1 hM1 => ?_)
  refine g_aload_n 6 0 hX dX12_isPresent_5 rfl rfl ?_
  refine g_iload_n 7 1 hX dX12_isPresent_6 rfl rfl ?_
  refine g_callV_i 10 hX (k_X12_noTrader l g N M1 a0 x1) lk_X12_noTrader rfl (ci := 12) rfl (Nat.le_of_ble_eq_true rfl) q_2148 q_113 (by omega) rfl (Nat.le_of_ble_eq_true rfl) (Nat.zero_le _) (Nat.zero_le _) dX12_isPresent_7 rfl (fun r2 => ?_)
  refine g_if_ne 27 13 hX dX12_isPresent_10 (by decide) rfl (fun _ => ?_) (fun _ => ?_)
  · refine g_iconst 28 hX 0 dX12_isPresent_27 rfl kc_i_0 ?_
    exact g_zretL hX hr rfl rfl (Nat.le_refl 0) (Nat.le_refl 0) dX12_isPresent_28
  · refine g_aload_n 14 0 hX dX12_isPresent_13 rfl rfl ?_
    refine g_iload_n 15 1 hX dX12_isPresent_14 rfl rfl ?_
    refine g_iconst 16 hX 4 dX12_isPresent_15 rfl kc_i_4 ?_
    refine g_callV_ip 19 hX (k_X12_has l g N r2.2 a0 x1 4) lk_X12_has rfl (ci := 12) rfl (Nat.le_of_ble_eq_true rfl) q_1689 q_42 (by omega) rfl (Nat.le_of_ble_eq_true rfl) (Nat.zero_le _) (Nat.zero_le _) dX12_isPresent_16 rfl (fun r3 => ?_)
    refine g_iconst 20 hX 1 dX12_isPresent_19 rfl kc_i_1 ?_
    refine g_icmp_ne 27 23 hX dX12_isPresent_20 (by decide) rfl (fun _ => ?_) (fun _ => ?_)
    · refine g_iconst 28 hX 0 dX12_isPresent_27 rfl kc_i_0 ?_
      exact g_zretL hX hr rfl rfl (Nat.le_refl 0) (Nat.le_refl 0) dX12_isPresent_28
    · refine g_iconst 24 hX 1 dX12_isPresent_23 rfl kc_i_1 ?_
      refine g_goto 28 hX dX12_isPresent_24 (by decide) ?_
      exact g_zretL hX hr rfl rfl (Nat.le_refl 0) (Nat.le_refl 0) dX12_isPresent_28
def F_X12_boardOf (N : Nat) (M : kMem) (a0 : Nat) (x1 : Int32) : Option (Int32 × kMem) :=
    kg (kt M a0 12) <| (F_X12_asked N M a0 x1 5).bind fun r1 =>
    some (r1.1, r1.2)
set_option maxRecDepth 100000 in
set_option maxHeartbeats 4000000 in
theorem k_X12_boardOf (l : Launch) (g : kG) (N : Nat) (M : kMem) (a0 : Nat) (x1 : Int32) : kMet l g yX12_boardOf cX12_boardOf 2 (some .int) 4 0 0 [.ref a0, .int x1] M (fun r : Int32 × kMem => (some (.int r.1), r.2)) (F_X12_boardOf N M a0 x1) := by
  refine k_of (lv := [(0, .ref a0), (1, .int x1)]) RX12 (by decide) rfl rfl (Nat.le_of_ble_eq_true rfl) ?_
  intro p e s m args below meth c hX hr _
  unfold F_X12_boardOf
  refine g_aload_n 1 0 hX dX12_boardOf_0 rfl rfl ?_
  refine g_iload_n 2 1 hX dX12_boardOf_1 rfl rfl ?_
  refine g_iconst 3 hX 5 dX12_boardOf_2 rfl kc_i_5 ?_
  refine g_callV_i 6 hX (k_X12_asked l g N M a0 x1 5) lk_X12_asked rfl (ci := 12) rfl (Nat.le_of_ble_eq_true rfl) q_2293 q_119 (by omega) rfl (Nat.le_of_ble_eq_true rfl) (Nat.zero_le _) (Nat.zero_le _) dX12_boardOf_3 rfl (fun r1 => ?_)
  exact g_iret hX hr rfl (Nat.le_refl 0) (Nat.le_refl 0) dX12_boardOf_6
def F_X12_positionOf (N : Nat) (M : kMem) (a0 : Nat) (x1 : Int32) : Option (Int32 × kMem) :=
    kg (kt M a0 12) <| (F_X12_asked N M a0 x1 6).bind fun r1 =>
    some (r1.1, r1.2)
set_option maxRecDepth 100000 in
set_option maxHeartbeats 4000000 in
theorem k_X12_positionOf (l : Launch) (g : kG) (N : Nat) (M : kMem) (a0 : Nat) (x1 : Int32) : kMet l g yX12_positionOf cX12_positionOf 2 (some .int) 4 0 0 [.ref a0, .int x1] M (fun r : Int32 × kMem => (some (.int r.1), r.2)) (F_X12_positionOf N M a0 x1) := by
  refine k_of (lv := [(0, .ref a0), (1, .int x1)]) RX12 (by decide) rfl rfl (Nat.le_of_ble_eq_true rfl) ?_
  intro p e s m args below meth c hX hr _
  unfold F_X12_positionOf
  refine g_aload_n 1 0 hX dX12_positionOf_0 rfl rfl ?_
  refine g_iload_n 2 1 hX dX12_positionOf_1 rfl rfl ?_
  refine g_bipush 4 hX 6 dX12_positionOf_2 rfl kc_b_6 ?_
  refine g_callV_i 7 hX (k_X12_asked l g N M a0 x1 6) lk_X12_asked rfl (ci := 12) rfl (Nat.le_of_ble_eq_true rfl) q_2293 q_119 (by omega) rfl (Nat.le_of_ble_eq_true rfl) (Nat.zero_le _) (Nat.zero_le _) dX12_positionOf_4 rfl (fun r1 => ?_)
  exact g_iret hX hr rfl (Nat.le_refl 0) (Nat.le_refl 0) dX12_positionOf_7
def F_X12_incomeOf (N : Nat) (M : kMem) (a0 : Nat) (x1 : Int32) : Option (Int32 × kMem) :=
    kg (kt M a0 12) <| kl (ksI M a0 6 0) fun M1 =>
    kg (kt M1 a0 12) <| (F_X12_noTrader N M1 a0 x1).bind fun r2 =>
    if r2.1 = 0 then (
      kg (kt r2.2 a0 12) <| (F_X12_isSeated N r2.2 a0 x1).bind fun r3 =>
      if r3 = 0 then (
        some (0, r2.2)) else
      kg (kt r2.2 a0 12) <|
      kg (kin r2.2 (kR r2.2 a0 0) 13 0) <|
      kg (kt r2.2 a0 12) <| (F_X12_ownHeight N r2.2 a0 x1).bind fun r4 =>
      some ((kI r2.2 (kR r2.2 a0 0) (kx 0)) + r4, r2.2)) else
    some (0, r2.2)
set_option maxRecDepth 100000 in
set_option maxHeartbeats 4000000 in
theorem k_X12_incomeOf (l : Launch) (g : kG) (N : Nat) (M : kMem) (a0 : Nat) (x1 : Int32) : kMet l g yX12_incomeOf cX12_incomeOf 2 (some .int) 7 0 0 [.ref a0, .int x1] M (fun r : Int32 × kMem => (some (.int r.1), r.2)) (F_X12_incomeOf N M a0 x1) := by
  refine k_of (lv := [(0, .ref a0), (1, .int x1)]) RX12 (by decide) rfl rfl (Nat.le_of_ble_eq_true rfl) ?_
  intro p e s m args below meth c hX hr _
  unfold F_X12_incomeOf
  refine g_aload_n 1 0 hX dX12_incomeOf_0 rfl rfl ?_
  refine g_iconst 2 hX 0 dX12_incomeOf_1 rfl kc_i_0 ?_
  refine p_X12_63 5 hX dX12_incomeOf_2 rfl ?_
  refine g_klM (fun M1 hM1 => ?_)
  refine g_aload_n 6 0 hX dX12_incomeOf_5 rfl rfl ?_
  refine g_iload_n 7 1 hX dX12_incomeOf_6 rfl rfl ?_
  refine g_callV_i 10 hX (k_X12_noTrader l g N M1 a0 x1) lk_X12_noTrader rfl (ci := 12) rfl (Nat.le_of_ble_eq_true rfl) q_2148 q_113 (by omega) rfl (Nat.le_of_ble_eq_true rfl) (Nat.zero_le _) (Nat.zero_le _) dX12_incomeOf_7 rfl (fun r2 => ?_)
  refine g_if_ne 21 13 hX dX12_incomeOf_10 (by decide) rfl (fun _ => ?_) (fun _ => ?_)
  · refine g_iconst 22 hX 0 dX12_incomeOf_21 rfl kc_i_0 ?_
    refine g_goto 37 hX dX12_incomeOf_22 (by decide) ?_
    exact g_iret hX hr rfl (Nat.le_refl 0) (Nat.le_refl 0) dX12_incomeOf_37
  · refine g_aload_n 14 0 hX dX12_incomeOf_13 rfl rfl ?_
    refine g_iload_n 15 1 hX dX12_incomeOf_14 rfl rfl ?_
    refine g_callV_ip 18 hX (k_X12_isSeated l g N r2.2 a0 x1) lk_X12_isSeated rfl (ci := 12) rfl (Nat.le_of_ble_eq_true rfl) q_1911 q_64 (by omega) rfl (Nat.le_of_ble_eq_true rfl) (Nat.zero_le _) (Nat.zero_le _) dX12_incomeOf_15 rfl (fun r3 => ?_)
    refine g_if_ne 25 21 hX dX12_incomeOf_18 (by decide) rfl (fun _ => ?_) (fun _ => ?_)
    · refine g_aload_n 26 0 hX dX12_incomeOf_25 rfl rfl ?_
      refine r_X12_7 29 hX dX12_incomeOf_26 rfl ?_
      refine g_iconst 30 hX 0 dX12_incomeOf_29 rfl kc_i_0 ?_
      refine g_iald 31 hX dX12_incomeOf_30 rfl ?_
      refine g_aload_n 32 0 hX dX12_incomeOf_31 rfl rfl ?_
      refine g_iload_n 33 1 hX dX12_incomeOf_32 rfl rfl ?_
      refine g_callV_ip 36 hX (k_X12_ownHeight l g N r2.2 a0 x1) lk_X12_ownHeight rfl (ci := 12) rfl (Nat.le_of_ble_eq_true rfl) q_2070 q_98 (by omega) rfl (Nat.le_of_ble_eq_true rfl) (Nat.zero_le _) (Nat.zero_le _) dX12_incomeOf_33 rfl (fun r4 => ?_)
      refine g_iadd 37 hX dX12_incomeOf_36 rfl ?_
      exact g_iret hX hr rfl (Nat.le_refl 0) (Nat.le_refl 0) dX12_incomeOf_37
    · refine g_iconst 22 hX 0 dX12_incomeOf_21 rfl kc_i_0 ?_
      refine g_goto 37 hX dX12_incomeOf_22 (by decide) ?_
      exact g_iret hX hr rfl (Nat.le_refl 0) (Nat.le_refl 0) dX12_incomeOf_37
def F_X12_isRicher (N : Nat) (M : kMem) (a0 : Nat) (x1 : Int32) (x2 : Int32) : Option (Int32) :=
    kg (kt M a0 12) <| (F_X12_has N M a0 x1 2).bind fun r1 =>
    kg (kt M a0 12) <| (F_X12_has N M a0 x2 2).bind fun r2 =>
    if r2 < r1 then (
      some 1) else
    kg (kt M a0 12) <| (F_X12_has N M a0 x1 2).bind fun r3 =>
    kg (kt M a0 12) <| (F_X12_has N M a0 x2 2).bind fun r4 =>
    if r3 = r4 then (
      if x1 < x2 then (
        some 1) else
      some 0) else
    some 0
set_option maxRecDepth 100000 in
set_option maxHeartbeats 4000000 in
theorem k_X12_isRicher (l : Launch) (g : kG) (N : Nat) (M : kMem) (a0 : Nat) (x1 : Int32) (x2 : Int32) : kMet l g yX12_isRicher cX12_isRicher 3 (some .boolean) 3 0 0 [.ref a0, .int x1, .int x2] M (fun r : Int32 => (some (.int r), M)) (F_X12_isRicher N M a0 x1 x2) := by
  refine k_of (lv := [(0, .ref a0), (1, .int x1), (2, .int x2)]) RX12 (by decide) rfl rfl (Nat.le_of_ble_eq_true rfl) ?_
  intro p e s m args below meth c hX hr _
  unfold F_X12_isRicher
  refine g_aload_n 1 0 hX dX12_isRicher_0 rfl rfl ?_
  refine g_iload_n 2 1 hX dX12_isRicher_1 rfl rfl ?_
  refine g_iconst 3 hX 2 dX12_isRicher_2 rfl kc_i_2 ?_
  refine g_callV_ip 6 hX (k_X12_has l g N M a0 x1 2) lk_X12_has rfl (ci := 12) rfl (Nat.le_of_ble_eq_true rfl) q_1689 q_42 (by omega) rfl (Nat.le_of_ble_eq_true rfl) (Nat.zero_le _) (Nat.zero_le _) dX12_isRicher_3 rfl (fun r1 => ?_)
  refine g_aload_n 7 0 hX dX12_isRicher_6 rfl rfl ?_
  refine g_iload_n 8 2 hX dX12_isRicher_7 rfl rfl ?_
  refine g_iconst 9 hX 2 dX12_isRicher_8 rfl kc_i_2 ?_
  refine g_callV_ip 12 hX (k_X12_has l g N M a0 x2 2) lk_X12_has rfl (ci := 12) rfl (Nat.le_of_ble_eq_true rfl) q_1689 q_42 (by omega) rfl (Nat.le_of_ble_eq_true rfl) (Nat.zero_le _) (Nat.zero_le _) dX12_isRicher_9 rfl (fun r2 => ?_)
  refine g_icmp_gt 35 15 hX dX12_isRicher_12 (by decide) rfl (fun _ => ?_) (fun _ => ?_)
  · refine g_iconst 36 hX 1 dX12_isRicher_35 rfl kc_i_1 ?_
    refine g_goto 40 hX dX12_isRicher_36 (by decide) ?_
    exact g_zretL hX hr rfl rfl (Nat.le_refl 0) (Nat.le_refl 0) dX12_isRicher_40
  · refine g_aload_n 16 0 hX dX12_isRicher_15 rfl rfl ?_
    refine g_iload_n 17 1 hX dX12_isRicher_16 rfl rfl ?_
    refine g_iconst 18 hX 2 dX12_isRicher_17 rfl kc_i_2 ?_
    refine g_callV_ip 21 hX (k_X12_has l g N M a0 x1 2) lk_X12_has rfl (ci := 12) rfl (Nat.le_of_ble_eq_true rfl) q_1689 q_42 (by omega) rfl (Nat.le_of_ble_eq_true rfl) (Nat.zero_le _) (Nat.zero_le _) dX12_isRicher_18 rfl (fun r3 => ?_)
    refine g_aload_n 22 0 hX dX12_isRicher_21 rfl rfl ?_
    refine g_iload_n 23 2 hX dX12_isRicher_22 rfl rfl ?_
    refine g_iconst 24 hX 2 dX12_isRicher_23 rfl kc_i_2 ?_
    refine g_callV_ip 27 hX (k_X12_has l g N M a0 x2 2) lk_X12_has rfl (ci := 12) rfl (Nat.le_of_ble_eq_true rfl) q_1689 q_42 (by omega) rfl (Nat.le_of_ble_eq_true rfl) (Nat.zero_le _) (Nat.zero_le _) dX12_isRicher_24 rfl (fun r4 => ?_)
    refine g_icmp_ne 39 30 hX dX12_isRicher_27 (by decide) rfl (fun _ => ?_) (fun _ => ?_)
    · refine g_iconst 40 hX 0 dX12_isRicher_39 rfl kc_i_0 ?_
      exact g_zretL hX hr rfl rfl (Nat.le_refl 0) (Nat.le_refl 0) dX12_isRicher_40
    · refine g_iload_n 31 1 hX dX12_isRicher_30 rfl rfl ?_
      refine g_iload_n 32 2 hX dX12_isRicher_31 rfl rfl ?_
      refine g_icmp_ge 39 35 hX dX12_isRicher_32 (by decide) rfl (fun _ => ?_) (fun _ => ?_)
      · refine g_iconst 40 hX 0 dX12_isRicher_39 rfl kc_i_0 ?_
        exact g_zretL hX hr rfl rfl (Nat.le_refl 0) (Nat.le_refl 0) dX12_isRicher_40
      · refine g_iconst 36 hX 1 dX12_isRicher_35 rfl kc_i_1 ?_
        refine g_goto 40 hX dX12_isRicher_36 (by decide) ?_
        exact g_zretL hX hr rfl rfl (Nat.le_refl 0) (Nat.le_refl 0) dX12_isRicher_40
def F_X12_richerThan_4 (N : Nat) (M : kMem) : Nat → Nat → Int32 → Int32 → Int32 → Option (Int32)
  | 0, _, _, _, _ => none
  | n + 1, a0, x1, x2, x3 =>
    kg (kt M a0 12) <|
    kg (kin M (kR M a0 0) 13 8) <|
    if x3 < (kI M (kR M a0 0) (kx 8)) then (
      if x3 = x1 then (
        (F_X12_flag N M 0).bind fun r1 =>
        kl (x2 + r1) fun v2 =>
        kl (x3 + 1) fun v3 =>
        F_X12_richerThan_4 N M n a0 x1 v2 v3) else
      kg (kt M a0 12) <| (F_X12_has N M a0 x3 4).bind fun r4 =>
      if r4 = 1 then (
        kg (kt M a0 12) <| (F_X12_isRicher N M a0 x3 x1).bind fun r8 =>
        if r8 = 0 then (
          (F_X12_flag N M 0).bind fun r9 =>
          kl (x2 + r9) fun v10 =>
          kl (x3 + 1) fun v11 =>
          F_X12_richerThan_4 N M n a0 x1 v10 v11) else
        (F_X12_flag N M 1).bind fun r12 =>
        kl (x2 + r12) fun v13 =>
        kl (x3 + 1) fun v14 =>
        F_X12_richerThan_4 N M n a0 x1 v13 v14) else
      (F_X12_flag N M 0).bind fun r5 =>
      kl (x2 + r5) fun v6 =>
      kl (x3 + 1) fun v7 =>
      F_X12_richerThan_4 N M n a0 x1 v6 v7) else
    some x2
def F_X12_richerThan (N : Nat) (M : kMem) (a0 : Nat) (x1 : Int32) : Option (Int32) :=
    F_X12_richerThan_4 N M N a0 x1 0 0
set_option maxRecDepth 100000 in
set_option maxHeartbeats 4000000 in
theorem k_X12_richerThan_4 {p : Program} {l : Launch} {e : Env} {s : State} {m : MethodId} {args : Array Value} {below : List Frame} {meth : Method} {c : Code} {g : kG} (hX : Cok (p, l, e, { frames := 2 * 4, cells := 0, slots := 0, locals := 60 * 4 }, s, m, args, below, meth, c, cX12_richerThan, 4, RX12, g, 4)) (hr : meth.sig.returnType = (some .int)) (N : Nat) (M : kMem) : ∀ (n : Nat) (a0 : Nat) (x1 : Int32) (x2 : Int32) (x3 : Int32), GG (p, l, e, { frames := 2 * 4, cells := 0, slots := 0, locals := 60 * 4 }, s, m, args, below, meth, c, cX12_richerThan, 4, RX12, g, 4) (fun b => MQ below (kQ g ((fun r : Int32 => (some (.int r), M)) b)) args s 0 0 (kZ g.2.2.1)) 0 0 (F_X12_richerThan_4 N M n a0 x1 x2 x3) 4 [(0, .ref a0), (1, .int x1), (2, .int x2), (3, .int x3)] [] M := by
  intro n
  induction n with
  | zero => intro _ _ _ _; exact g_none
  | succ n ih =>
    intro a0 x1 x2 x3
    unfold F_X12_richerThan_4
    refine g_iload_n 5 3 hX dX12_richerThan_4 rfl rfl ?_
    refine g_aload_n 6 0 hX dX12_richerThan_5 rfl rfl ?_
    refine r_X12_7 9 hX dX12_richerThan_6 rfl ?_
    refine g_bipush 11 hX 8 dX12_richerThan_9 rfl kc_b_8 ?_
    refine g_iald 12 hX dX12_richerThan_11 rfl ?_
    refine g_icmp_ge 56 15 hX dX12_richerThan_12 (by decide) rfl (fun _ => ?_) (fun _ => ?_)
    · refine g_iload_n 57 2 hX dX12_richerThan_56 rfl rfl ?_
      exact g_iret hX hr rfl (Nat.le_refl 0) (Nat.le_refl 0) dX12_richerThan_57
    · refine g_iload_n 16 2 hX dX12_richerThan_15 rfl rfl ?_
      refine g_iload_n 17 3 hX dX12_richerThan_16 rfl rfl ?_
      refine g_iload_n 18 1 hX dX12_richerThan_17 rfl rfl ?_
      refine g_icmp_eq 44 21 hX dX12_richerThan_18 (by decide) rfl (fun _ => ?_) (fun _ => ?_)
      · refine g_iconst 45 hX 0 dX12_richerThan_44 rfl kc_i_0 ?_
        refine g_callS_ip 48 hX (k_X12_flag l g N M 0) lk_X12_flag q_1989 (by omega) rfl (Nat.le_of_ble_eq_true rfl) (Nat.zero_le _) (Nat.zero_le _) dX12_richerThan_45 rfl (fun r1 => ?_)
        refine g_iadd 49 hX dX12_richerThan_48 rfl ?_
        refine g_klI (fun v2 hv2 => ?_)
        refine g_istore_n 50 2 [(2, .int v2), (0, .ref a0), (1, .int x1), (3, .int x3)] hX dX12_richerThan_49 rfl rfl (Nat.le_of_ble_eq_true rfl) rfl ?_
        refine g_kl (fun v3 hv3 => ?_)
        refine g_iinc 53 3 3 v3 [(3, .int v3), (2, .int v2), (0, .ref a0), (1, .int x1)] hX dX12_richerThan_50 rfl rfl (by rw [hv3, kc_i_1]) (Nat.le_of_ble_eq_true rfl) rfl ?_
        refine g_goto 4 hX dX12_richerThan_53 (by decide) ?_
        refine g_lv [2, 3, 1, 0] rfl ?_
        exact ih a0 x1 v2 v3
      · refine g_aload_n 22 0 hX dX12_richerThan_21 rfl rfl ?_
        refine g_iload_n 23 3 hX dX12_richerThan_22 rfl rfl ?_
        refine g_iconst 24 hX 4 dX12_richerThan_23 rfl kc_i_4 ?_
        refine g_callV_ip 27 hX (k_X12_has l g N M a0 x3 4) lk_X12_has rfl (ci := 12) rfl (Nat.le_of_ble_eq_true rfl) q_1689 q_42 (by omega) rfl (Nat.le_of_ble_eq_true rfl) (Nat.zero_le _) (Nat.zero_le _) dX12_richerThan_24 rfl (fun r4 => ?_)
        refine g_iconst 28 hX 1 dX12_richerThan_27 rfl kc_i_1 ?_
        refine g_icmp_ne 44 31 hX dX12_richerThan_28 (by decide) rfl (fun _ => ?_) (fun _ => ?_)
        · refine g_iconst 45 hX 0 dX12_richerThan_44 rfl kc_i_0 ?_
          refine g_callS_ip 48 hX (k_X12_flag l g N M 0) lk_X12_flag q_1989 (by omega) rfl (Nat.le_of_ble_eq_true rfl) (Nat.zero_le _) (Nat.zero_le _) dX12_richerThan_45 rfl (fun r5 => ?_)
          refine g_iadd 49 hX dX12_richerThan_48 rfl ?_
          refine g_klI (fun v6 hv6 => ?_)
          refine g_istore_n 50 2 [(2, .int v6), (0, .ref a0), (1, .int x1), (3, .int x3)] hX dX12_richerThan_49 rfl rfl (Nat.le_of_ble_eq_true rfl) rfl ?_
          refine g_kl (fun v7 hv7 => ?_)
          refine g_iinc 53 3 3 v7 [(3, .int v7), (2, .int v6), (0, .ref a0), (1, .int x1)] hX dX12_richerThan_50 rfl rfl (by rw [hv7, kc_i_1]) (Nat.le_of_ble_eq_true rfl) rfl ?_
          refine g_goto 4 hX dX12_richerThan_53 (by decide) ?_
          refine g_lv [2, 3, 1, 0] rfl ?_
          exact ih a0 x1 v6 v7
        · refine g_aload_n 32 0 hX dX12_richerThan_31 rfl rfl ?_
          refine g_iload_n 33 3 hX dX12_richerThan_32 rfl rfl ?_
          refine g_iload_n 34 1 hX dX12_richerThan_33 rfl rfl ?_
          refine g_callV_ip 37 hX (k_X12_isRicher l g N M a0 x3 x1) lk_X12_isRicher rfl (ci := 12) rfl (Nat.le_of_ble_eq_true rfl) q_2329 q_121 (by omega) rfl (Nat.le_of_ble_eq_true rfl) (Nat.zero_le _) (Nat.zero_le _) dX12_richerThan_34 rfl (fun r8 => ?_)
          refine g_if_eq 44 40 hX dX12_richerThan_37 (by decide) rfl (fun _ => ?_) (fun _ => ?_)
          · refine g_iconst 45 hX 0 dX12_richerThan_44 rfl kc_i_0 ?_
            refine g_callS_ip 48 hX (k_X12_flag l g N M 0) lk_X12_flag q_1989 (by omega) rfl (Nat.le_of_ble_eq_true rfl) (Nat.zero_le _) (Nat.zero_le _) dX12_richerThan_45 rfl (fun r9 => ?_)
            refine g_iadd 49 hX dX12_richerThan_48 rfl ?_
            refine g_klI (fun v10 hv10 => ?_)
            refine g_istore_n 50 2 [(2, .int v10), (0, .ref a0), (1, .int x1), (3, .int x3)] hX dX12_richerThan_49 rfl rfl (Nat.le_of_ble_eq_true rfl) rfl ?_
            refine g_kl (fun v11 hv11 => ?_)
            refine g_iinc 53 3 3 v11 [(3, .int v11), (2, .int v10), (0, .ref a0), (1, .int x1)] hX dX12_richerThan_50 rfl rfl (by rw [hv11, kc_i_1]) (Nat.le_of_ble_eq_true rfl) rfl ?_
            refine g_goto 4 hX dX12_richerThan_53 (by decide) ?_
            refine g_lv [2, 3, 1, 0] rfl ?_
            exact ih a0 x1 v10 v11
          · refine g_iconst 41 hX 1 dX12_richerThan_40 rfl kc_i_1 ?_
            refine g_goto 45 hX dX12_richerThan_41 (by decide) ?_
            refine g_callS_ip 48 hX (k_X12_flag l g N M 1) lk_X12_flag q_1989 (by omega) rfl (Nat.le_of_ble_eq_true rfl) (Nat.zero_le _) (Nat.zero_le _) dX12_richerThan_45 rfl (fun r12 => ?_)
            refine g_iadd 49 hX dX12_richerThan_48 rfl ?_
            refine g_klI (fun v13 hv13 => ?_)
            refine g_istore_n 50 2 [(2, .int v13), (0, .ref a0), (1, .int x1), (3, .int x3)] hX dX12_richerThan_49 rfl rfl (Nat.le_of_ble_eq_true rfl) rfl ?_
            refine g_kl (fun v14 hv14 => ?_)
            refine g_iinc 53 3 3 v14 [(3, .int v14), (2, .int v13), (0, .ref a0), (1, .int x1)] hX dX12_richerThan_50 rfl rfl (by rw [hv14, kc_i_1]) (Nat.le_of_ble_eq_true rfl) rfl ?_
            refine g_goto 4 hX dX12_richerThan_53 (by decide) ?_
            refine g_lv [2, 3, 1, 0] rfl ?_
            exact ih a0 x1 v13 v14
set_option maxRecDepth 100000 in
set_option maxHeartbeats 4000000 in
theorem k_X12_richerThan (l : Launch) (g : kG) (N : Nat) (M : kMem) (a0 : Nat) (x1 : Int32) : kMet l g yX12_richerThan cX12_richerThan 4 (some .int) 4 0 0 [.ref a0, .int x1] M (fun r : Int32 => (some (.int r), M)) (F_X12_richerThan N M a0 x1) := by
  refine k_of (lv := [(0, .ref a0), (1, .int x1)]) RX12 (by decide) rfl rfl (Nat.le_of_ble_eq_true rfl) ?_
  intro p e s m args below meth c hX hr _
  unfold F_X12_richerThan
  refine g_iconst 1 hX 0 dX12_richerThan_0 rfl kc_i_0 ?_
  refine g_istore_n 2 2 [(2, .int 0), (0, .ref a0), (1, .int x1)] hX dX12_richerThan_1 rfl rfl (Nat.le_of_ble_eq_true rfl) rfl ?_
  refine g_iconst 3 hX 0 dX12_richerThan_2 rfl kc_i_0 ?_
  refine g_istore_n 4 3 [(3, .int 0), (2, .int 0), (0, .ref a0), (1, .int x1)] hX dX12_richerThan_3 rfl rfl (Nat.le_of_ble_eq_true rfl) rfl ?_
  refine g_lv [2, 3, 1, 0] rfl ?_
  exact k_X12_richerThan_4 hX hr N M N a0 x1 0 0
def F_X12_richestAt_7 (N : Nat) : Nat → kMem → Nat → Int32 → Int32 → Option (Int32 × kMem)
  | 0, _, _, _, _ => none
  | n + 1, M, a0, x1, x2 =>
    kg (kt M a0 12) <|
    kg (kin M (kR M a0 0) 13 8) <|
    if x2 < (kI M (kR M a0 0) (kx 8)) then (
      kg (kt M a0 12) <| (F_X12_has N M a0 x2 4).bind fun r2 =>
      if r2 = 1 then (
        kg (kt M a0 12) <| (F_X12_richerThan N M a0 x2).bind fun r4 =>
        if r4 = x1 then (
          some (x2, M)) else
        kl (x2 + 1) fun v5 =>
        F_X12_richestAt_7 N n M a0 x1 v5) else
      kl (x2 + 1) fun v3 =>
      F_X12_richestAt_7 N n M a0 x1 v3) else
    some ((-1), M)
def F_X12_richestAt (N : Nat) (M : kMem) (a0 : Nat) (x1 : Int32) : Option (Int32 × kMem) :=
    kg (kt M a0 12) <| kl (ksI M a0 6 0) fun M1 =>
    F_X12_richestAt_7 N N M1 a0 x1 0
set_option maxRecDepth 100000 in
set_option maxHeartbeats 4000000 in
theorem k_X12_richestAt_7 {p : Program} {l : Launch} {e : Env} {s : State} {m : MethodId} {args : Array Value} {below : List Frame} {meth : Method} {c : Code} {g : kG} (hX : Cok (p, l, e, { frames := 2 * 5, cells := 0, slots := 0, locals := 60 * 5 }, s, m, args, below, meth, c, cX12_richestAt, 3, RX12, g, 5)) (hr : meth.sig.returnType = (some .int)) (N : Nat) : ∀ (n : Nat) (M : kMem) (a0 : Nat) (x1 : Int32) (x2 : Int32), GG (p, l, e, { frames := 2 * 5, cells := 0, slots := 0, locals := 60 * 5 }, s, m, args, below, meth, c, cX12_richestAt, 3, RX12, g, 5) (fun b => MQ below (kQ g ((fun r : Int32 × kMem => (some (.int r.1), r.2)) b)) args s 0 0 (kZ g.2.2.1)) 0 0 (F_X12_richestAt_7 N n M a0 x1 x2) 7 [(0, .ref a0), (1, .int x1), (2, .int x2)] [] M := by
  intro n
  induction n with
  | zero => intro _ _ _ _; exact g_none
  | succ n ih =>
    intro M a0 x1 x2
    unfold F_X12_richestAt_7
    refine g_iload_n 8 2 hX dX12_richestAt_7 rfl rfl ?_
    refine g_aload_n 9 0 hX dX12_richestAt_8 rfl rfl ?_
    refine r_X12_7 12 hX dX12_richestAt_9 rfl ?_
    refine g_bipush 14 hX 8 dX12_richestAt_12 rfl kc_b_8 ?_
    refine g_iald 15 hX dX12_richestAt_14 rfl ?_
    refine g_icmp_ge 45 18 hX dX12_richestAt_15 (by decide) rfl (fun _ => ?_) (fun _ => ?_)
    · refine g_iconst 46 hX (-1) dX12_richestAt_45 rfl kc_i_m1 ?_
      exact g_iret hX hr rfl (Nat.le_refl 0) (Nat.le_refl 0) dX12_richestAt_46
    · refine g_aload_n 19 0 hX dX12_richestAt_18 rfl rfl ?_
      refine g_iload_n 20 2 hX dX12_richestAt_19 rfl rfl ?_
      refine g_iconst 21 hX 4 dX12_richestAt_20 rfl kc_i_4 ?_
      refine g_callV_ip 24 hX (k_X12_has l g N M a0 x2 4) lk_X12_has rfl (ci := 12) rfl (Nat.le_of_ble_eq_true rfl) q_1689 q_42 (by omega) rfl (Nat.le_of_ble_eq_true rfl) (Nat.zero_le _) (Nat.zero_le _) dX12_richestAt_21 rfl (fun r2 => ?_)
      refine g_iconst 25 hX 1 dX12_richestAt_24 rfl kc_i_1 ?_
      refine g_icmp_ne 39 28 hX dX12_richestAt_25 (by decide) rfl (fun _ => ?_) (fun _ => ?_)
      · refine g_kl (fun v3 hv3 => ?_)
        refine g_iinc 42 2 2 v3 [(2, .int v3), (0, .ref a0), (1, .int x1)] hX dX12_richestAt_39 rfl rfl (by rw [hv3, kc_i_1]) (Nat.le_of_ble_eq_true rfl) rfl ?_
        refine g_goto 7 hX dX12_richestAt_42 (by decide) ?_
        refine g_lv [1, 2, 0] rfl ?_
        exact ih M a0 x1 v3
      · refine g_aload_n 29 0 hX dX12_richestAt_28 rfl rfl ?_
        refine g_iload_n 30 2 hX dX12_richestAt_29 rfl rfl ?_
        refine g_callV_ip 33 hX (k_X12_richerThan l g N M a0 x2) lk_X12_richerThan rfl (ci := 12) rfl (Nat.le_of_ble_eq_true rfl) q_2325 q_120 (by omega) rfl (Nat.le_of_ble_eq_true rfl) (Nat.zero_le _) (Nat.zero_le _) dX12_richestAt_30 rfl (fun r4 => ?_)
        refine g_iload_n 34 1 hX dX12_richestAt_33 rfl rfl ?_
        refine g_icmp_ne 39 37 hX dX12_richestAt_34 (by decide) rfl (fun _ => ?_) (fun _ => ?_)
        · refine g_kl (fun v5 hv5 => ?_)
          refine g_iinc 42 2 2 v5 [(2, .int v5), (0, .ref a0), (1, .int x1)] hX dX12_richestAt_39 rfl rfl (by rw [hv5, kc_i_1]) (Nat.le_of_ble_eq_true rfl) rfl ?_
          refine g_goto 7 hX dX12_richestAt_42 (by decide) ?_
          refine g_lv [1, 2, 0] rfl ?_
          exact ih M a0 x1 v5
        · refine g_iload_n 38 2 hX dX12_richestAt_37 rfl rfl ?_
          exact g_iret hX hr rfl (Nat.le_refl 0) (Nat.le_refl 0) dX12_richestAt_38
set_option maxRecDepth 100000 in
set_option maxHeartbeats 4000000 in
theorem k_X12_richestAt (l : Launch) (g : kG) (N : Nat) (M : kMem) (a0 : Nat) (x1 : Int32) : kMet l g yX12_richestAt cX12_richestAt 3 (some .int) 5 0 0 [.ref a0, .int x1] M (fun r : Int32 × kMem => (some (.int r.1), r.2)) (F_X12_richestAt N M a0 x1) := by
  refine k_of (lv := [(0, .ref a0), (1, .int x1)]) RX12 (by decide) rfl rfl (Nat.le_of_ble_eq_true rfl) ?_
  intro p e s m args below meth c hX hr _
  unfold F_X12_richestAt
  refine g_aload_n 1 0 hX dX12_richestAt_0 rfl rfl ?_
  refine g_iconst 2 hX 0 dX12_richestAt_1 rfl kc_i_0 ?_
  refine p_X12_63 5 hX dX12_richestAt_2 rfl ?_
  refine g_klM (fun M1 hM1 => ?_)
  refine g_iconst 6 hX 0 dX12_richestAt_5 rfl kc_i_0 ?_
  refine g_istore_n 7 2 [(2, .int 0), (0, .ref a0), (1, .int x1)] hX dX12_richestAt_6 rfl rfl (Nat.le_of_ble_eq_true rfl) rfl ?_
  refine g_lv [1, 2, 0] rfl ?_
  exact k_X12_richestAt_7 hX hr N N M1 a0 x1 0
def F_X12_reasonAgainstSeat (N : Nat) (M : kMem) (a0 : Nat) (x1 : Int32) (x2 : Int32) (x3 : Int32) : Option (Int32 × kMem) :=
    kg (kt M a0 12) <| kl (ksI M a0 6 0) fun M1 =>
    kg (kt M1 a0 12) <| (F_X12_noTrader N M1 a0 x1).bind fun r2 =>
    if r2.1 = 0 then (
      kg (kt r2.2 a0 12) <| (F_X12_noSeat N r2.2 a0 x2 x3).bind fun r3 =>
      if r3.1 = 0 then (
        kg (kt r3.2 a0 12) <| (F_X12_againstSeat N r3.2 a0 x1 x2 x3).bind fun r4 =>
        some (r4, r3.2)) else
      some (0, r3.2)) else
    some (0, r2.2)
set_option maxRecDepth 100000 in
set_option maxHeartbeats 4000000 in
theorem k_X12_reasonAgainstSeat (l : Launch) (g : kG) (N : Nat) (M : kMem) (a0 : Nat) (x1 : Int32) (x2 : Int32) (x3 : Int32) : kMet l g yX12_reasonAgainstSeat cX12_reasonAgainstSeat 4 (some .int) 8 0 0 [.ref a0, .int x1, .int x2, .int x3] M (fun r : Int32 × kMem => (some (.int r.1), r.2)) (F_X12_reasonAgainstSeat N M a0 x1 x2 x3) := by
  refine k_of (lv := [(0, .ref a0), (1, .int x1), (2, .int x2), (3, .int x3)]) RX12 (by decide) rfl rfl (Nat.le_of_ble_eq_true rfl) ?_
  intro p e s m args below meth c hX hr _
  unfold F_X12_reasonAgainstSeat
  refine g_aload_n 1 0 hX dX12_reasonAgainstSeat_0 rfl rfl ?_
  refine g_iconst 2 hX 0 dX12_reasonAgainstSeat_1 rfl kc_i_0 ?_
  refine p_X12_63 5 hX dX12_reasonAgainstSeat_2 rfl ?_
  refine g_klM (fun M1 hM1 => ?_)
  refine g_aload_n 6 0 hX dX12_reasonAgainstSeat_5 rfl rfl ?_
  refine g_iload_n 7 1 hX dX12_reasonAgainstSeat_6 rfl rfl ?_
  refine g_callV_i 10 hX (k_X12_noTrader l g N M1 a0 x1) lk_X12_noTrader rfl (ci := 12) rfl (Nat.le_of_ble_eq_true rfl) q_2148 q_113 (by omega) rfl (Nat.le_of_ble_eq_true rfl) (Nat.zero_le _) (Nat.zero_le _) dX12_reasonAgainstSeat_7 rfl (fun r2 => ?_)
  refine g_if_ne 22 13 hX dX12_reasonAgainstSeat_10 (by decide) rfl (fun _ => ?_) (fun _ => ?_)
  · refine g_iconst 23 hX 0 dX12_reasonAgainstSeat_22 rfl kc_i_0 ?_
    refine g_goto 33 hX dX12_reasonAgainstSeat_23 (by decide) ?_
    exact g_iret hX hr rfl (Nat.le_refl 0) (Nat.le_refl 0) dX12_reasonAgainstSeat_33
  · refine g_aload_n 14 0 hX dX12_reasonAgainstSeat_13 rfl rfl ?_
    refine g_iload_n 15 2 hX dX12_reasonAgainstSeat_14 rfl rfl ?_
    refine g_iload_n 16 3 hX dX12_reasonAgainstSeat_15 rfl rfl ?_
    refine g_callV_i 19 hX (k_X12_noSeat l g N r2.2 a0 x2 x3) lk_X12_noSeat rfl (ci := 12) rfl (Nat.le_of_ble_eq_true rfl) q_2152 q_114 (by omega) rfl (Nat.le_of_ble_eq_true rfl) (Nat.zero_le _) (Nat.zero_le _) dX12_reasonAgainstSeat_16 rfl (fun r3 => ?_)
    refine g_if_eq 26 22 hX dX12_reasonAgainstSeat_19 (by decide) rfl (fun _ => ?_) (fun _ => ?_)
    · refine g_aload_n 27 0 hX dX12_reasonAgainstSeat_26 rfl rfl ?_
      refine g_iload_n 28 1 hX dX12_reasonAgainstSeat_27 rfl rfl ?_
      refine g_iload_n 29 2 hX dX12_reasonAgainstSeat_28 rfl rfl ?_
      refine g_iload_n 30 3 hX dX12_reasonAgainstSeat_29 rfl rfl ?_
      refine g_callV_ip 33 hX (k_X12_againstSeat l g N r3.2 a0 x1 x2 x3) lk_X12_againstSeat rfl (ci := 12) rfl (Nat.le_of_ble_eq_true rfl) q_2000 q_82 (by omega) rfl (Nat.le_of_ble_eq_true rfl) (Nat.zero_le _) (Nat.zero_le _) dX12_reasonAgainstSeat_30 rfl (fun r4 => ?_)
      exact g_iret hX hr rfl (Nat.le_refl 0) (Nat.le_refl 0) dX12_reasonAgainstSeat_33
    · refine g_iconst 23 hX 0 dX12_reasonAgainstSeat_22 rfl kc_i_0 ?_
      refine g_goto 33 hX dX12_reasonAgainstSeat_23 (by decide) ?_
      exact g_iret hX hr rfl (Nat.le_refl 0) (Nat.le_refl 0) dX12_reasonAgainstSeat_33
def F_X12_reasonAgainstSale (N : Nat) (M : kMem) (a0 : Nat) (x1 : Int32) (x2 : Int32) (x3 : Int32) : Option (Int32 × kMem) :=
    kg (kt M a0 12) <| kl (ksI M a0 6 0) fun M1 =>
    kg (kt M1 a0 12) <| (F_X12_noSale N M1 a0 x1 x2 x3).bind fun r2 =>
    if r2.1 = 0 then (
      kg (kt r2.2 a0 12) <| (F_X12_againstSale N r2.2 a0 x1 x2 x3).bind fun r3 =>
      some (r3, r2.2)) else
    some (0, r2.2)
set_option maxRecDepth 100000 in
set_option maxHeartbeats 4000000 in
theorem k_X12_reasonAgainstSale (l : Launch) (g : kG) (N : Nat) (M : kMem) (a0 : Nat) (x1 : Int32) (x2 : Int32) (x3 : Int32) : kMet l g yX12_reasonAgainstSale cX12_reasonAgainstSale 4 (some .int) 9 0 0 [.ref a0, .int x1, .int x2, .int x3] M (fun r : Int32 × kMem => (some (.int r.1), r.2)) (F_X12_reasonAgainstSale N M a0 x1 x2 x3) := by
  refine k_of (lv := [(0, .ref a0), (1, .int x1), (2, .int x2), (3, .int x3)]) RX12 (by decide) rfl rfl (Nat.le_of_ble_eq_true rfl) ?_
  intro p e s m args below meth c hX hr _
  unfold F_X12_reasonAgainstSale
  refine g_aload_n 1 0 hX dX12_reasonAgainstSale_0 rfl rfl ?_
  refine g_iconst 2 hX 0 dX12_reasonAgainstSale_1 rfl kc_i_0 ?_
  refine p_X12_63 5 hX dX12_reasonAgainstSale_2 rfl ?_
  refine g_klM (fun M1 hM1 => ?_)
  refine g_aload_n 6 0 hX dX12_reasonAgainstSale_5 rfl rfl ?_
  refine g_iload_n 7 1 hX dX12_reasonAgainstSale_6 rfl rfl ?_
  refine g_iload_n 8 2 hX dX12_reasonAgainstSale_7 rfl rfl ?_
  refine g_iload_n 9 3 hX dX12_reasonAgainstSale_8 rfl rfl ?_
  refine g_callV_i 12 hX (k_X12_noSale l g N M1 a0 x1 x2 x3) lk_X12_noSale rfl (ci := 12) rfl (Nat.le_of_ble_eq_true rfl) q_2168 q_116 (by omega) rfl (Nat.le_of_ble_eq_true rfl) (Nat.zero_le _) (Nat.zero_le _) dX12_reasonAgainstSale_9 rfl (fun r2 => ?_)
  refine g_if_eq 19 15 hX dX12_reasonAgainstSale_12 (by decide) rfl (fun _ => ?_) (fun _ => ?_)
  · refine g_aload_n 20 0 hX dX12_reasonAgainstSale_19 rfl rfl ?_
    refine g_iload_n 21 1 hX dX12_reasonAgainstSale_20 rfl rfl ?_
    refine g_iload_n 22 2 hX dX12_reasonAgainstSale_21 rfl rfl ?_
    refine g_iload_n 23 3 hX dX12_reasonAgainstSale_22 rfl rfl ?_
    refine g_callV_ip 26 hX (k_X12_againstSale l g N r2.2 a0 x1 x2 x3) lk_X12_againstSale rfl (ci := 12) rfl (Nat.le_of_ble_eq_true rfl) q_2062 q_96 (by omega) rfl (Nat.le_of_ble_eq_true rfl) (Nat.zero_le _) (Nat.zero_le _) dX12_reasonAgainstSale_23 rfl (fun r3 => ?_)
    exact g_iret hX hr rfl (Nat.le_refl 0) (Nat.le_refl 0) dX12_reasonAgainstSale_26
  · refine g_iconst 16 hX 0 dX12_reasonAgainstSale_15 rfl kc_i_0 ?_
    refine g_goto 26 hX dX12_reasonAgainstSale_16 (by decide) ?_
    exact g_iret hX hr rfl (Nat.le_refl 0) (Nat.le_refl 0) dX12_reasonAgainstSale_26
def F_X12_reasonAgainstSwap (N : Nat) (M : kMem) (a0 : Nat) (x1 : Int32) (x2 : Int32) : Option (Int32 × kMem) :=
    kg (kt M a0 12) <| kl (ksI M a0 6 0) fun M1 =>
    kg (kt M1 a0 12) <| (F_X12_noPair N M1 a0 x1 x2).bind fun r2 =>
    if r2.1 = 0 then (
      kg (kt r2.2 a0 12) <| (F_X12_againstSwap N r2.2 a0 x1 x2).bind fun r3 =>
      some (r3, r2.2)) else
    some (0, r2.2)
set_option maxRecDepth 100000 in
set_option maxHeartbeats 4000000 in
theorem k_X12_reasonAgainstSwap (l : Launch) (g : kG) (N : Nat) (M : kMem) (a0 : Nat) (x1 : Int32) (x2 : Int32) : kMet l g yX12_reasonAgainstSwap cX12_reasonAgainstSwap 3 (some .int) 8 0 0 [.ref a0, .int x1, .int x2] M (fun r : Int32 × kMem => (some (.int r.1), r.2)) (F_X12_reasonAgainstSwap N M a0 x1 x2) := by
  refine k_of (lv := [(0, .ref a0), (1, .int x1), (2, .int x2)]) RX12 (by decide) rfl rfl (Nat.le_of_ble_eq_true rfl) ?_
  intro p e s m args below meth c hX hr _
  unfold F_X12_reasonAgainstSwap
  refine g_aload_n 1 0 hX dX12_reasonAgainstSwap_0 rfl rfl ?_
  refine g_iconst 2 hX 0 dX12_reasonAgainstSwap_1 rfl kc_i_0 ?_
  refine p_X12_63 5 hX dX12_reasonAgainstSwap_2 rfl ?_
  refine g_klM (fun M1 hM1 => ?_)
  refine g_aload_n 6 0 hX dX12_reasonAgainstSwap_5 rfl rfl ?_
  refine g_iload_n 7 1 hX dX12_reasonAgainstSwap_6 rfl rfl ?_
  refine g_iload_n 8 2 hX dX12_reasonAgainstSwap_7 rfl rfl ?_
  refine g_callV_i 11 hX (k_X12_noPair l g N M1 a0 x1 x2) lk_X12_noPair rfl (ci := 12) rfl (Nat.le_of_ble_eq_true rfl) q_2177 q_117 (by omega) rfl (Nat.le_of_ble_eq_true rfl) (Nat.zero_le _) (Nat.zero_le _) dX12_reasonAgainstSwap_8 rfl (fun r2 => ?_)
  refine g_if_eq 18 14 hX dX12_reasonAgainstSwap_11 (by decide) rfl (fun _ => ?_) (fun _ => ?_)
  · refine g_aload_n 19 0 hX dX12_reasonAgainstSwap_18 rfl rfl ?_
    refine g_iload_n 20 1 hX dX12_reasonAgainstSwap_19 rfl rfl ?_
    refine g_iload_n 21 2 hX dX12_reasonAgainstSwap_20 rfl rfl ?_
    refine g_callV_ip 24 hX (k_X12_againstSwap l g N r2.2 a0 x1 x2) lk_X12_againstSwap rfl (ci := 12) rfl (Nat.le_of_ble_eq_true rfl) q_2074 q_99 (by omega) rfl (Nat.le_of_ble_eq_true rfl) (Nat.zero_le _) (Nat.zero_le _) dX12_reasonAgainstSwap_21 rfl (fun r3 => ?_)
    exact g_iret hX hr rfl (Nat.le_refl 0) (Nat.le_refl 0) dX12_reasonAgainstSwap_24
  · refine g_iconst 15 hX 0 dX12_reasonAgainstSwap_14 rfl kc_i_0 ?_
    refine g_goto 24 hX dX12_reasonAgainstSwap_15 (by decide) ?_
    exact g_iret hX hr rfl (Nat.le_refl 0) (Nat.le_refl 0) dX12_reasonAgainstSwap_24
def F_X12_weightUnitPrice_43 (N : Nat) (M : kMem) (a0 : Nat) (x1 : Int32) (x2 : Int32) (y0 : Nat) (y1 : Int32) : Option (Int32 × kMem) :=
    kg (kt M y0 12) <| (F_X12_stops N M y0 y1 2).bind fun r5 =>
    if r5.1 = 0 then (
      kg (kt r5.2 a0 12) <| (F_X12_unitPrice N r5.2 a0 x1 x2).bind fun r6 =>
      some (r6, r5.2)) else
    some (0, r5.2)
def F_X12_weightUnitPrice_38 (N : Nat) (M : kMem) (a0 : Nat) (x1 : Int32) (x2 : Int32) (y0 : Nat) : Option (Int32 × kMem) :=
    F_X12_weightUnitPrice_43 N M a0 x1 x2 y0 1
def F_X12_weightUnitPrice (N : Nat) (M : kMem) (a0 : Nat) (x1 : Int32) (x2 : Int32) : Option (Int32 × kMem) :=
    kg (kt M a0 12) <| kl (ksI M a0 6 0) fun M1 =>
    kg (kt M1 a0 12) <| (F_X12_noTrader N M1 a0 x1).bind fun r2 =>
    if r2.1 = 0 then (
      kg (kt r2.2 a0 12) <| (F_X12_noTrader N r2.2 a0 x2).bind fun r3 =>
      if r3.1 = 0 then (
        kg (kt r3.2 a0 12) <| (F_X12_isSeated N r3.2 a0 x1).bind fun r4 =>
        if r4 = 0 then (
          F_X12_weightUnitPrice_38 N r3.2 a0 x1 x2 a0) else
        kg (kt r3.2 a0 12) <| (F_X12_isSeated N r3.2 a0 x2).bind fun r7 =>
        if r7 = 0 then (
          F_X12_weightUnitPrice_38 N r3.2 a0 x1 x2 a0) else
        F_X12_weightUnitPrice_43 N r3.2 a0 x1 x2 a0 0) else
      some (0, r3.2)) else
    some (0, r2.2)
set_option maxRecDepth 100000 in
set_option maxHeartbeats 4000000 in
theorem k_X12_weightUnitPrice_43 {p : Program} {l : Launch} {e : Env} {s : State} {m : MethodId} {args : Array Value} {below : List Frame} {meth : Method} {c : Code} {g : kG} (hX : Cok (p, l, e, { frames := 2 * 8, cells := 0, slots := 0, locals := 60 * 8 }, s, m, args, below, meth, c, cX12_weightUnitPrice, 3, RX12, g, 8)) (hr : meth.sig.returnType = (some .int)) (N : Nat) : ∀ (M : kMem) (a0 : Nat) (x1 : Int32) (x2 : Int32) (y0 : Nat) (y1 : Int32), GG (p, l, e, { frames := 2 * 8, cells := 0, slots := 0, locals := 60 * 8 }, s, m, args, below, meth, c, cX12_weightUnitPrice, 3, RX12, g, 8) (fun b => MQ below (kQ g ((fun r : Int32 × kMem => (some (.int r.1), r.2)) b)) args s 0 0 (kZ g.2.2.1)) 0 0 (F_X12_weightUnitPrice_43 N M a0 x1 x2 y0 y1) 43 [(0, .ref a0), (1, .int x1), (2, .int x2)] [.int y1, .ref y0] M := by
  intro M a0 x1 x2 y0 y1
  unfold F_X12_weightUnitPrice_43
  refine g_iconst 44 hX 2 dX12_weightUnitPrice_43 rfl kc_i_2 ?_
  refine g_callV_i 47 hX (k_X12_stops l g N M y0 y1 2) lk_X12_stops rfl (ci := 12) rfl (Nat.le_of_ble_eq_true rfl) q_1796 q_44 (by omega) rfl (Nat.le_of_ble_eq_true rfl) (Nat.zero_le _) (Nat.zero_le _) dX12_weightUnitPrice_44 rfl (fun r5 => ?_)
  refine g_if_eq 52 50 hX dX12_weightUnitPrice_47 (by decide) rfl (fun _ => ?_) (fun _ => ?_)
  · refine g_aload_n 53 0 hX dX12_weightUnitPrice_52 rfl rfl ?_
    refine g_iload_n 54 1 hX dX12_weightUnitPrice_53 rfl rfl ?_
    refine g_iload_n 55 2 hX dX12_weightUnitPrice_54 rfl rfl ?_
    refine g_callV_ip 58 hX (k_X12_unitPrice l g N r5.2 a0 x1 x2) lk_X12_unitPrice rfl (ci := 12) rfl (Nat.le_of_ble_eq_true rfl) q_2066 q_97 (by omega) rfl (Nat.le_of_ble_eq_true rfl) (Nat.zero_le _) (Nat.zero_le _) dX12_weightUnitPrice_55 rfl (fun r6 => ?_)
    exact g_iret hX hr rfl (Nat.le_refl 0) (Nat.le_refl 0) dX12_weightUnitPrice_58
  · refine g_iconst 51 hX 0 dX12_weightUnitPrice_50 rfl kc_i_0 ?_
    exact g_iret hX hr rfl (Nat.le_refl 0) (Nat.le_refl 0) dX12_weightUnitPrice_51
set_option maxRecDepth 100000 in
set_option maxHeartbeats 4000000 in
theorem k_X12_weightUnitPrice_38 {p : Program} {l : Launch} {e : Env} {s : State} {m : MethodId} {args : Array Value} {below : List Frame} {meth : Method} {c : Code} {g : kG} (hX : Cok (p, l, e, { frames := 2 * 8, cells := 0, slots := 0, locals := 60 * 8 }, s, m, args, below, meth, c, cX12_weightUnitPrice, 3, RX12, g, 8)) (hr : meth.sig.returnType = (some .int)) (N : Nat) : ∀ (M : kMem) (a0 : Nat) (x1 : Int32) (x2 : Int32) (y0 : Nat), GG (p, l, e, { frames := 2 * 8, cells := 0, slots := 0, locals := 60 * 8 }, s, m, args, below, meth, c, cX12_weightUnitPrice, 3, RX12, g, 8) (fun b => MQ below (kQ g ((fun r : Int32 × kMem => (some (.int r.1), r.2)) b)) args s 0 0 (kZ g.2.2.1)) 0 0 (F_X12_weightUnitPrice_38 N M a0 x1 x2 y0) 38 [(0, .ref a0), (1, .int x1), (2, .int x2)] [.ref y0] M := by
  intro M a0 x1 x2 y0
  unfold F_X12_weightUnitPrice_38
  refine g_iconst 39 hX 1 dX12_weightUnitPrice_38 rfl kc_i_1 ?_
  refine g_goto 43 hX dX12_weightUnitPrice_39 (by decide) ?_
  exact k_X12_weightUnitPrice_43 hX hr N M a0 x1 x2 y0 1
set_option maxRecDepth 100000 in
set_option maxHeartbeats 4000000 in
theorem k_X12_weightUnitPrice (l : Launch) (g : kG) (N : Nat) (M : kMem) (a0 : Nat) (x1 : Int32) (x2 : Int32) : kMet l g yX12_weightUnitPrice cX12_weightUnitPrice 3 (some .int) 8 0 0 [.ref a0, .int x1, .int x2] M (fun r : Int32 × kMem => (some (.int r.1), r.2)) (F_X12_weightUnitPrice N M a0 x1 x2) := by
  refine k_of (lv := [(0, .ref a0), (1, .int x1), (2, .int x2)]) RX12 (by decide) rfl rfl (Nat.le_of_ble_eq_true rfl) ?_
  intro p e s m args below meth c hX hr _
  unfold F_X12_weightUnitPrice
  refine g_aload_n 1 0 hX dX12_weightUnitPrice_0 rfl rfl ?_
  refine g_iconst 2 hX 0 dX12_weightUnitPrice_1 rfl kc_i_0 ?_
  refine p_X12_63 5 hX dX12_weightUnitPrice_2 rfl ?_
  refine g_klM (fun M1 hM1 => ?_)
  refine g_aload_n 6 0 hX dX12_weightUnitPrice_5 rfl rfl ?_
  refine g_iload_n 7 1 hX dX12_weightUnitPrice_6 rfl rfl ?_
  refine g_callV_i 10 hX (k_X12_noTrader l g N M1 a0 x1) lk_X12_noTrader rfl (ci := 12) rfl (Nat.le_of_ble_eq_true rfl) q_2148 q_113 (by omega) rfl (Nat.le_of_ble_eq_true rfl) (Nat.zero_le _) (Nat.zero_le _) dX12_weightUnitPrice_7 rfl (fun r2 => ?_)
  refine g_if_ne 50 13 hX dX12_weightUnitPrice_10 (by decide) rfl (fun _ => ?_) (fun _ => ?_)
  · refine g_iconst 51 hX 0 dX12_weightUnitPrice_50 rfl kc_i_0 ?_
    exact g_iret hX hr rfl (Nat.le_refl 0) (Nat.le_refl 0) dX12_weightUnitPrice_51
  · refine g_aload_n 14 0 hX dX12_weightUnitPrice_13 rfl rfl ?_
    refine g_iload_n 15 2 hX dX12_weightUnitPrice_14 rfl rfl ?_
    refine g_callV_i 18 hX (k_X12_noTrader l g N r2.2 a0 x2) lk_X12_noTrader rfl (ci := 12) rfl (Nat.le_of_ble_eq_true rfl) q_2148 q_113 (by omega) rfl (Nat.le_of_ble_eq_true rfl) (Nat.zero_le _) (Nat.zero_le _) dX12_weightUnitPrice_15 rfl (fun r3 => ?_)
    refine g_if_ne 50 21 hX dX12_weightUnitPrice_18 (by decide) rfl (fun _ => ?_) (fun _ => ?_)
    · refine g_iconst 51 hX 0 dX12_weightUnitPrice_50 rfl kc_i_0 ?_
      exact g_iret hX hr rfl (Nat.le_refl 0) (Nat.le_refl 0) dX12_weightUnitPrice_51
    · refine g_aload_n 22 0 hX dX12_weightUnitPrice_21 rfl rfl ?_
      refine g_aload_n 23 0 hX dX12_weightUnitPrice_22 rfl rfl ?_
      refine g_iload_n 24 1 hX dX12_weightUnitPrice_23 rfl rfl ?_
      refine g_callV_ip 27 hX (k_X12_isSeated l g N r3.2 a0 x1) lk_X12_isSeated rfl (ci := 12) rfl (Nat.le_of_ble_eq_true rfl) q_1911 q_64 (by omega) rfl (Nat.le_of_ble_eq_true rfl) (Nat.zero_le _) (Nat.zero_le _) dX12_weightUnitPrice_24 rfl (fun r4 => ?_)
      refine g_if_eq 38 30 hX dX12_weightUnitPrice_27 (by decide) rfl (fun _ => ?_) (fun _ => ?_)
      · exact k_X12_weightUnitPrice_38 hX hr N r3.2 a0 x1 x2 a0
      · refine g_aload_n 31 0 hX dX12_weightUnitPrice_30 rfl rfl ?_
        refine g_iload_n 32 2 hX dX12_weightUnitPrice_31 rfl rfl ?_
        refine g_callV_ip 35 hX (k_X12_isSeated l g N r3.2 a0 x2) lk_X12_isSeated rfl (ci := 12) rfl (Nat.le_of_ble_eq_true rfl) q_1911 q_64 (by omega) rfl (Nat.le_of_ble_eq_true rfl) (Nat.zero_le _) (Nat.zero_le _) dX12_weightUnitPrice_32 rfl (fun r7 => ?_)
        refine g_if_ne 42 38 hX dX12_weightUnitPrice_35 (by decide) rfl (fun _ => ?_) (fun _ => ?_)
        · refine g_iconst 43 hX 0 dX12_weightUnitPrice_42 rfl kc_i_0 ?_
          exact k_X12_weightUnitPrice_43 hX hr N r3.2 a0 x1 x2 a0 0
        · exact k_X12_weightUnitPrice_38 hX hr N r3.2 a0 x1 x2 a0
def F_X12_incomeOn (N : Nat) (M : kMem) (a0 : Nat) (x1 : Int32) (x2 : Int32) (x3 : Int32) : Option (Int32) :=
    kg (kt M a0 12) <|
    kg (kin M (kR M a0 0) 13 0) <|
    kg (kt M a0 12) <| (F_X12_torqueWith N M a0 x1 x2 x3).bind fun r1 =>
    kg (kt M a0 12) <| (F_X12_tiltBy N M a0 x2 r1).bind fun r2 =>
    some ((kI M (kR M a0 0) (kx 0)) - (x3 * r2))
set_option maxRecDepth 100000 in
set_option maxHeartbeats 4000000 in
theorem k_X12_incomeOn (l : Launch) (g : kG) (N : Nat) (M : kMem) (a0 : Nat) (x1 : Int32) (x2 : Int32) (x3 : Int32) : kMet l g yX12_incomeOn cX12_incomeOn 4 (some .int) 6 0 0 [.ref a0, .int x1, .int x2, .int x3] M (fun r : Int32 => (some (.int r), M)) (F_X12_incomeOn N M a0 x1 x2 x3) := by
  refine k_of (lv := [(0, .ref a0), (1, .int x1), (2, .int x2), (3, .int x3)]) RX12 (by decide) rfl rfl (Nat.le_of_ble_eq_true rfl) ?_
  intro p e s m args below meth c hX hr _
  unfold F_X12_incomeOn
  refine g_aload_n 1 0 hX dX12_incomeOn_0 rfl rfl ?_
  refine r_X12_7 4 hX dX12_incomeOn_1 rfl ?_
  refine g_iconst 5 hX 0 dX12_incomeOn_4 rfl kc_i_0 ?_
  refine g_iald 6 hX dX12_incomeOn_5 rfl ?_
  refine g_iload_n 7 3 hX dX12_incomeOn_6 rfl rfl ?_
  refine g_aload_n 8 0 hX dX12_incomeOn_7 rfl rfl ?_
  refine g_iload_n 9 2 hX dX12_incomeOn_8 rfl rfl ?_
  refine g_aload_n 10 0 hX dX12_incomeOn_9 rfl rfl ?_
  refine g_iload_n 11 1 hX dX12_incomeOn_10 rfl rfl ?_
  refine g_iload_n 12 2 hX dX12_incomeOn_11 rfl rfl ?_
  refine g_iload_n 13 3 hX dX12_incomeOn_12 rfl rfl ?_
  refine g_callV_ip 16 hX (k_X12_torqueWith l g N M a0 x1 x2 x3) lk_X12_torqueWith rfl (ci := 12) rfl (Nat.le_of_ble_eq_true rfl) q_2026 q_87 (by omega) rfl (Nat.le_of_ble_eq_true rfl) (Nat.zero_le _) (Nat.zero_le _) dX12_incomeOn_13 rfl (fun r1 => ?_)
  refine g_callV_ip 19 hX (k_X12_tiltBy l g N M a0 x2 r1) lk_X12_tiltBy rfl (ci := 12) rfl (Nat.le_of_ble_eq_true rfl) q_2019 q_86 (by omega) rfl (Nat.le_of_ble_eq_true rfl) (Nat.zero_le _) (Nat.zero_le _) dX12_incomeOn_16 rfl (fun r2 => ?_)
  refine g_imul 20 hX dX12_incomeOn_19 rfl ?_
  refine g_isub 21 hX dX12_incomeOn_20 rfl ?_
  exact g_iret hX hr rfl (Nat.le_refl 0) (Nat.le_refl 0) dX12_incomeOn_21
def F_X12_bestSeat_66 (N : Nat) (k34 : kMem → Nat → Int32 → Int32 → Int32 → Int32 → Option (Int32 × kMem)) (M : kMem) (a0 : Nat) (x1 : Int32) (x2 : Int32) (x3 : Int32) (x4 : Int32) (y0 : Int32) : Option (Int32 × kMem) :=
    if y0 = 0 then (
      kl (x4 + 1) fun v7 =>
      k34 M a0 x1 x2 x3 v7) else
    if x3 = 0 then (
      kl (x4 + 1) fun v8 =>
      k34 M a0 x1 x2 x4 v8) else
    kg (kt M a0 12) <| (F_X12_incomeOn N M a0 x1 x2 x4).bind fun r9 =>
    kg (kt M a0 12) <| (F_X12_incomeOn N M a0 x1 x2 x3).bind fun r10 =>
    if r10 < r9 then (
      kl (x4 + 1) fun v12 =>
      k34 M a0 x1 x2 x4 v12) else
    kl (x4 + 1) fun v11 =>
    k34 M a0 x1 x2 x3 v11
def F_X12_bestSeat_65 (N : Nat) (k34 : kMem → Nat → Int32 → Int32 → Int32 → Int32 → Option (Int32 × kMem)) (M : kMem) (a0 : Nat) (x1 : Int32) (x2 : Int32) (x3 : Int32) (x4 : Int32) : Option (Int32 × kMem) :=
    F_X12_bestSeat_66 N k34 M a0 x1 x2 x3 x4 0
def F_X12_bestSeat_34 (N : Nat) : Nat → kMem → Nat → Int32 → Int32 → Int32 → Int32 → Option (Int32 × kMem)
  | 0, _, _, _, _, _, _ => none
  | n + 1, M, a0, x1, x2, x3, x4 =>
    kg (kt M a0 12) <| (F_X12_ofBoard N M a0 x2 0).bind fun r6 =>
    if r6 < x4 then (
      some (x3, M)) else
    if x4 = 0 then (
      F_X12_bestSeat_65 N (fun M a0 x1 x2 x3 x4 => F_X12_bestSeat_34 N n M a0 x1 x2 x3 x4) M a0 x1 x2 x3 x4) else
    kg (kt M a0 12) <| (F_X12_againstSeat N M a0 x1 x2 x4).bind fun r13 =>
    if r13 = 0 then (
      F_X12_bestSeat_66 N (fun M a0 x1 x2 x3 x4 => F_X12_bestSeat_34 N n M a0 x1 x2 x3 x4) M a0 x1 x2 x3 x4 1) else
    F_X12_bestSeat_65 N (fun M a0 x1 x2 x3 x4 => F_X12_bestSeat_34 N n M a0 x1 x2 x3 x4) M a0 x1 x2 x3 x4
def F_X12_bestSeat (N : Nat) (M : kMem) (a0 : Nat) (x1 : Int32) (x2 : Int32) : Option (Int32 × kMem) :=
    kg (kt M a0 12) <| kl (ksI M a0 6 0) fun M1 =>
    kg (kt M1 a0 12) <| (F_X12_noTrader N M1 a0 x1).bind fun r2 =>
    if r2.1 = 0 then (
      kg (kt r2.2 a0 12) <| (F_X12_noBoard N r2.2 a0 x2).bind fun r3 =>
      if r3.1 = 0 then (
        kg (kt r3.2 a0 12) <| (F_X12_ofBoard N r3.2 a0 x2 0).bind fun r4 =>
        kl (-r4) fun v5 =>
        F_X12_bestSeat_34 N N r3.2 a0 x1 x2 0 v5) else
      some (0, r3.2)) else
    some (0, r2.2)
set_option maxRecDepth 100000 in
set_option maxHeartbeats 4000000 in
theorem k_X12_bestSeat_66 {p : Program} {l : Launch} {e : Env} {s : State} {m : MethodId} {args : Array Value} {below : List Frame} {meth : Method} {c : Code} {g : kG} (hX : Cok (p, l, e, { frames := 2 * 8, cells := 0, slots := 0, locals := 60 * 8 }, s, m, args, below, meth, c, cX12_bestSeat, 6, RX12, g, 8)) (hr : meth.sig.returnType = (some .int)) (N : Nat) (k34 : kMem → Nat → Int32 → Int32 → Int32 → Int32 → Option (Int32 × kMem)) (h34 : ∀ (M : kMem) (a0 : Nat) (x1 : Int32) (x2 : Int32) (x3 : Int32) (x4 : Int32), GG (p, l, e, { frames := 2 * 8, cells := 0, slots := 0, locals := 60 * 8 }, s, m, args, below, meth, c, cX12_bestSeat, 6, RX12, g, 8) (fun b => MQ below (kQ g ((fun r : Int32 × kMem => (some (.int r.1), r.2)) b)) args s 0 0 (kZ g.2.2.1)) 0 0 (k34 M a0 x1 x2 x3 x4) 34 [(0, .ref a0), (1, .int x1), (2, .int x2), (3, .int x3), (4, .int x4)] [] M) : ∀ (M : kMem) (a0 : Nat) (x1 : Int32) (x2 : Int32) (x3 : Int32) (x4 : Int32) (y0 : Int32), GG (p, l, e, { frames := 2 * 8, cells := 0, slots := 0, locals := 60 * 8 }, s, m, args, below, meth, c, cX12_bestSeat, 6, RX12, g, 8) (fun b => MQ below (kQ g ((fun r : Int32 × kMem => (some (.int r.1), r.2)) b)) args s 0 0 (kZ g.2.2.1)) 0 0 (F_X12_bestSeat_66 N k34 M a0 x1 x2 x3 x4 y0) 66 [(0, .ref a0), (1, .int x1), (2, .int x2), (3, .int x3), (4, .int x4)] [.int y0] M := by
  intro M a0 x1 x2 x3 x4 y0
  unfold F_X12_bestSeat_66
  refine g_istore 68 5 [(5, .int y0), (0, .ref a0), (1, .int x1), (2, .int x2), (3, .int x3), (4, .int x4)] hX dX12_bestSeat_66 rfl (Nat.le_of_ble_eq_true rfl) rfl ?_
  refine g_iload 70 0 hX dX12_bestSeat_68 rfl rfl ?_
  refine g_if_eq 98 73 hX dX12_bestSeat_70 (by decide) rfl (fun _ => ?_) (fun _ => ?_)
  · refine g_kl (fun v7 hv7 => ?_)
    refine g_iinc 101 4 5 v7 [(4, .int v7), (5, .int y0), (0, .ref a0), (1, .int x1), (2, .int x2), (3, .int x3)] hX dX12_bestSeat_98 rfl rfl (by rw [hv7, kc_i_1]) (Nat.le_of_ble_eq_true rfl) rfl ?_
    refine g_goto 34 hX dX12_bestSeat_101 (by decide) ?_
    refine g_lv [2, 3, 4, 5, 0] rfl ?_
    exact h34 M a0 x1 x2 x3 v7
  · refine g_iload_n 74 4 hX dX12_bestSeat_73 rfl rfl ?_
    refine g_if_eq 95 77 hX dX12_bestSeat_74 (by decide) rfl (fun _ => ?_) (fun _ => ?_)
    · refine g_iload 97 5 hX dX12_bestSeat_95 rfl rfl ?_
      refine g_istore_n 98 3 [(3, .int x4), (5, .int y0), (0, .ref a0), (1, .int x1), (2, .int x2), (4, .int x4)] hX dX12_bestSeat_97 rfl rfl (Nat.le_of_ble_eq_true rfl) rfl ?_
      refine g_kl (fun v8 hv8 => ?_)
      refine g_iinc 101 4 5 v8 [(4, .int v8), (3, .int x4), (5, .int y0), (0, .ref a0), (1, .int x1), (2, .int x2)] hX dX12_bestSeat_98 rfl rfl (by rw [hv8, kc_i_1]) (Nat.le_of_ble_eq_true rfl) rfl ?_
      refine g_goto 34 hX dX12_bestSeat_101 (by decide) ?_
      refine g_lv [3, 4, 5, 1, 0] rfl ?_
      exact h34 M a0 x1 x2 x4 v8
    · refine g_aload_n 78 1 hX dX12_bestSeat_77 rfl rfl ?_
      refine g_iload_n 79 2 hX dX12_bestSeat_78 rfl rfl ?_
      refine g_iload_n 80 3 hX dX12_bestSeat_79 rfl rfl ?_
      refine g_iload 82 5 hX dX12_bestSeat_80 rfl rfl ?_
      refine g_callV_ip 85 hX (k_X12_incomeOn l g N M a0 x1 x2 x4) lk_X12_incomeOn rfl (ci := 12) rfl (Nat.le_of_ble_eq_true rfl) q_2353 q_122 (by omega) rfl (Nat.le_of_ble_eq_true rfl) (Nat.zero_le _) (Nat.zero_le _) dX12_bestSeat_82 rfl (fun r9 => ?_)
      refine g_aload_n 86 1 hX dX12_bestSeat_85 rfl rfl ?_
      refine g_iload_n 87 2 hX dX12_bestSeat_86 rfl rfl ?_
      refine g_iload_n 88 3 hX dX12_bestSeat_87 rfl rfl ?_
      refine g_iload_n 89 4 hX dX12_bestSeat_88 rfl rfl ?_
      refine g_callV_ip 92 hX (k_X12_incomeOn l g N M a0 x1 x2 x3) lk_X12_incomeOn rfl (ci := 12) rfl (Nat.le_of_ble_eq_true rfl) q_2353 q_122 (by omega) rfl (Nat.le_of_ble_eq_true rfl) (Nat.zero_le _) (Nat.zero_le _) dX12_bestSeat_89 rfl (fun r10 => ?_)
      refine g_icmp_le 98 95 hX dX12_bestSeat_92 (by decide) rfl (fun _ => ?_) (fun _ => ?_)
      · refine g_kl (fun v11 hv11 => ?_)
        refine g_iinc 101 4 5 v11 [(4, .int v11), (5, .int y0), (0, .ref a0), (1, .int x1), (2, .int x2), (3, .int x3)] hX dX12_bestSeat_98 rfl rfl (by rw [hv11, kc_i_1]) (Nat.le_of_ble_eq_true rfl) rfl ?_
        refine g_goto 34 hX dX12_bestSeat_101 (by decide) ?_
        refine g_lv [2, 3, 4, 5, 0] rfl ?_
        exact h34 M a0 x1 x2 x3 v11
      · refine g_iload 97 5 hX dX12_bestSeat_95 rfl rfl ?_
        refine g_istore_n 98 3 [(3, .int x4), (5, .int y0), (0, .ref a0), (1, .int x1), (2, .int x2), (4, .int x4)] hX dX12_bestSeat_97 rfl rfl (Nat.le_of_ble_eq_true rfl) rfl ?_
        refine g_kl (fun v12 hv12 => ?_)
        refine g_iinc 101 4 5 v12 [(4, .int v12), (3, .int x4), (5, .int y0), (0, .ref a0), (1, .int x1), (2, .int x2)] hX dX12_bestSeat_98 rfl rfl (by rw [hv12, kc_i_1]) (Nat.le_of_ble_eq_true rfl) rfl ?_
        refine g_goto 34 hX dX12_bestSeat_101 (by decide) ?_
        refine g_lv [3, 4, 5, 1, 0] rfl ?_
        exact h34 M a0 x1 x2 x4 v12
set_option maxRecDepth 100000 in
set_option maxHeartbeats 4000000 in
theorem k_X12_bestSeat_65 {p : Program} {l : Launch} {e : Env} {s : State} {m : MethodId} {args : Array Value} {below : List Frame} {meth : Method} {c : Code} {g : kG} (hX : Cok (p, l, e, { frames := 2 * 8, cells := 0, slots := 0, locals := 60 * 8 }, s, m, args, below, meth, c, cX12_bestSeat, 6, RX12, g, 8)) (hr : meth.sig.returnType = (some .int)) (N : Nat) (k34 : kMem → Nat → Int32 → Int32 → Int32 → Int32 → Option (Int32 × kMem)) (h34 : ∀ (M : kMem) (a0 : Nat) (x1 : Int32) (x2 : Int32) (x3 : Int32) (x4 : Int32), GG (p, l, e, { frames := 2 * 8, cells := 0, slots := 0, locals := 60 * 8 }, s, m, args, below, meth, c, cX12_bestSeat, 6, RX12, g, 8) (fun b => MQ below (kQ g ((fun r : Int32 × kMem => (some (.int r.1), r.2)) b)) args s 0 0 (kZ g.2.2.1)) 0 0 (k34 M a0 x1 x2 x3 x4) 34 [(0, .ref a0), (1, .int x1), (2, .int x2), (3, .int x3), (4, .int x4)] [] M) : ∀ (M : kMem) (a0 : Nat) (x1 : Int32) (x2 : Int32) (x3 : Int32) (x4 : Int32), GG (p, l, e, { frames := 2 * 8, cells := 0, slots := 0, locals := 60 * 8 }, s, m, args, below, meth, c, cX12_bestSeat, 6, RX12, g, 8) (fun b => MQ below (kQ g ((fun r : Int32 × kMem => (some (.int r.1), r.2)) b)) args s 0 0 (kZ g.2.2.1)) 0 0 (F_X12_bestSeat_65 N k34 M a0 x1 x2 x3 x4) 65 [(0, .ref a0), (1, .int x1), (2, .int x2), (3, .int x3), (4, .int x4)] [] M := by
  intro M a0 x1 x2 x3 x4
  unfold F_X12_bestSeat_65
  refine g_iconst 66 hX 0 dX12_bestSeat_65 rfl kc_i_0 ?_
  exact k_X12_bestSeat_66 hX hr N k34 h34 M a0 x1 x2 x3 x4 0
set_option maxRecDepth 100000 in
set_option maxHeartbeats 4000000 in
theorem k_X12_bestSeat_34 {p : Program} {l : Launch} {e : Env} {s : State} {m : MethodId} {args : Array Value} {below : List Frame} {meth : Method} {c : Code} {g : kG} (hX : Cok (p, l, e, { frames := 2 * 8, cells := 0, slots := 0, locals := 60 * 8 }, s, m, args, below, meth, c, cX12_bestSeat, 6, RX12, g, 8)) (hr : meth.sig.returnType = (some .int)) (N : Nat) : ∀ (n : Nat) (M : kMem) (a0 : Nat) (x1 : Int32) (x2 : Int32) (x3 : Int32) (x4 : Int32), GG (p, l, e, { frames := 2 * 8, cells := 0, slots := 0, locals := 60 * 8 }, s, m, args, below, meth, c, cX12_bestSeat, 6, RX12, g, 8) (fun b => MQ below (kQ g ((fun r : Int32 × kMem => (some (.int r.1), r.2)) b)) args s 0 0 (kZ g.2.2.1)) 0 0 (F_X12_bestSeat_34 N n M a0 x1 x2 x3 x4) 34 [(0, .ref a0), (1, .int x1), (2, .int x2), (3, .int x3), (4, .int x4)] [] M := by
  intro n
  induction n with
  | zero => intro _ _ _ _ _ _; exact g_none
  | succ n ih =>
    intro M a0 x1 x2 x3 x4
    unfold F_X12_bestSeat_34
    refine g_iload 36 4 hX dX12_bestSeat_34 rfl rfl ?_
    refine g_aload_n 37 0 hX dX12_bestSeat_36 rfl rfl ?_
    refine g_iload_n 38 2 hX dX12_bestSeat_37 rfl rfl ?_
    refine g_iconst 39 hX 0 dX12_bestSeat_38 rfl kc_i_0 ?_
    refine g_callV_ip 42 hX (k_X12_ofBoard l g N M a0 x2 0) lk_X12_ofBoard rfl (ci := 12) rfl (Nat.le_of_ble_eq_true rfl) q_1921 q_66 (by omega) rfl (Nat.le_of_ble_eq_true rfl) (Nat.zero_le _) (Nat.zero_le _) dX12_bestSeat_39 rfl (fun r6 => ?_)
    refine g_icmp_gt 104 45 hX dX12_bestSeat_42 (by decide) rfl (fun _ => ?_) (fun _ => ?_)
    · refine g_iload_n 105 3 hX dX12_bestSeat_104 rfl rfl ?_
      exact g_iret hX hr rfl (Nat.le_refl 0) (Nat.le_refl 0) dX12_bestSeat_105
    · refine g_iload 47 4 hX dX12_bestSeat_45 rfl rfl ?_
      refine g_if_eq 65 50 hX dX12_bestSeat_47 (by decide) rfl (fun _ => ?_) (fun _ => ?_)
      · exact k_X12_bestSeat_65 hX hr N (fun M a0 x1 x2 x3 x4 => F_X12_bestSeat_34 N n M a0 x1 x2 x3 x4) ih M a0 x1 x2 x3 x4
      · refine g_aload_n 51 0 hX dX12_bestSeat_50 rfl rfl ?_
        refine g_iload_n 52 1 hX dX12_bestSeat_51 rfl rfl ?_
        refine g_iload_n 53 2 hX dX12_bestSeat_52 rfl rfl ?_
        refine g_iload 55 4 hX dX12_bestSeat_53 rfl rfl ?_
        refine g_callV_ip 58 hX (k_X12_againstSeat l g N M a0 x1 x2 x4) lk_X12_againstSeat rfl (ci := 12) rfl (Nat.le_of_ble_eq_true rfl) q_2000 q_82 (by omega) rfl (Nat.le_of_ble_eq_true rfl) (Nat.zero_le _) (Nat.zero_le _) dX12_bestSeat_55 rfl (fun r13 => ?_)
        refine g_if_ne 65 61 hX dX12_bestSeat_58 (by decide) rfl (fun _ => ?_) (fun _ => ?_)
        · exact k_X12_bestSeat_65 hX hr N (fun M a0 x1 x2 x3 x4 => F_X12_bestSeat_34 N n M a0 x1 x2 x3 x4) ih M a0 x1 x2 x3 x4
        · refine g_iconst 62 hX 1 dX12_bestSeat_61 rfl kc_i_1 ?_
          refine g_goto 66 hX dX12_bestSeat_62 (by decide) ?_
          exact k_X12_bestSeat_66 hX hr N (fun M a0 x1 x2 x3 x4 => F_X12_bestSeat_34 N n M a0 x1 x2 x3 x4) ih M a0 x1 x2 x3 x4 1
set_option maxRecDepth 100000 in
set_option maxHeartbeats 4000000 in
theorem k_X12_bestSeat (l : Launch) (g : kG) (N : Nat) (M : kMem) (a0 : Nat) (x1 : Int32) (x2 : Int32) : kMet l g yX12_bestSeat cX12_bestSeat 6 (some .int) 8 0 0 [.ref a0, .int x1, .int x2] M (fun r : Int32 × kMem => (some (.int r.1), r.2)) (F_X12_bestSeat N M a0 x1 x2) := by
  refine k_of (lv := [(0, .ref a0), (1, .int x1), (2, .int x2)]) RX12 (by decide) rfl rfl (Nat.le_of_ble_eq_true rfl) ?_
  intro p e s m args below meth c hX hr _
  unfold F_X12_bestSeat
  refine g_aload_n 1 0 hX dX12_bestSeat_0 rfl rfl ?_
  refine g_iconst 2 hX 0 dX12_bestSeat_1 rfl kc_i_0 ?_
  refine p_X12_63 5 hX dX12_bestSeat_2 rfl ?_
  refine g_klM (fun M1 hM1 => ?_)
  refine g_aload_n 6 0 hX dX12_bestSeat_5 rfl rfl ?_
  refine g_iload_n 7 1 hX dX12_bestSeat_6 rfl rfl ?_
  refine g_callV_i 10 hX (k_X12_noTrader l g N M1 a0 x1) lk_X12_noTrader rfl (ci := 12) rfl (Nat.le_of_ble_eq_true rfl) q_2148 q_113 (by omega) rfl (Nat.le_of_ble_eq_true rfl) (Nat.zero_le _) (Nat.zero_le _) dX12_bestSeat_7 rfl (fun r2 => ?_)
  refine g_if_ne 21 13 hX dX12_bestSeat_10 (by decide) rfl (fun _ => ?_) (fun _ => ?_)
  · refine g_iconst 22 hX 0 dX12_bestSeat_21 rfl kc_i_0 ?_
    exact g_iret hX hr rfl (Nat.le_refl 0) (Nat.le_refl 0) dX12_bestSeat_22
  · refine g_aload_n 14 0 hX dX12_bestSeat_13 rfl rfl ?_
    refine g_iload_n 15 2 hX dX12_bestSeat_14 rfl rfl ?_
    refine g_callV_i 18 hX (k_X12_noBoard l g N r2.2 a0 x2) lk_X12_noBoard rfl (ci := 12) rfl (Nat.le_of_ble_eq_true rfl) q_2156 q_115 (by omega) rfl (Nat.le_of_ble_eq_true rfl) (Nat.zero_le _) (Nat.zero_le _) dX12_bestSeat_15 rfl (fun r3 => ?_)
    refine g_if_eq 23 21 hX dX12_bestSeat_18 (by decide) rfl (fun _ => ?_) (fun _ => ?_)
    · refine g_iconst 24 hX 0 dX12_bestSeat_23 rfl kc_i_0 ?_
      refine g_istore_n 25 3 [(3, .int 0), (0, .ref a0), (1, .int x1), (2, .int x2)] hX dX12_bestSeat_24 rfl rfl (Nat.le_of_ble_eq_true rfl) rfl ?_
      refine g_aload_n 26 1 hX dX12_bestSeat_25 rfl rfl ?_
      refine g_iload_n 27 3 hX dX12_bestSeat_26 rfl rfl ?_
      refine g_iconst 28 hX 0 dX12_bestSeat_27 rfl kc_i_0 ?_
      refine g_callV_ip 31 hX (k_X12_ofBoard l g N r3.2 a0 x2 0) lk_X12_ofBoard rfl (ci := 12) rfl (Nat.le_of_ble_eq_true rfl) q_1921 q_66 (by omega) rfl (Nat.le_of_ble_eq_true rfl) (Nat.zero_le _) (Nat.zero_le _) dX12_bestSeat_28 rfl (fun r4 => ?_)
      refine g_ineg 32 hX dX12_bestSeat_31 rfl ?_
      refine g_klI (fun v5 hv5 => ?_)
      refine g_istore 34 4 [(4, .int v5), (3, .int 0), (0, .ref a0), (1, .int x1), (2, .int x2)] hX dX12_bestSeat_32 rfl (Nat.le_of_ble_eq_true rfl) rfl ?_
      refine g_lv [2, 3, 4, 1, 0] rfl ?_
      exact k_X12_bestSeat_34 hX hr N N r3.2 a0 x1 x2 0 v5
    · refine g_iconst 22 hX 0 dX12_bestSeat_21 rfl kc_i_0 ?_
      exact g_iret hX hr rfl (Nat.le_refl 0) (Nat.le_refl 0) dX12_bestSeat_22
def F_X12_seatsSold (N : Nat) (M : kMem) (a0 : Nat) : Option (Int32 × kMem) :=
    kg (kt M a0 12) <| kl (ksI M a0 6 0) fun M1 =>
    kg (kt M1 a0 12) <|
    kg (kin M1 (kR M1 a0 0) 13 10) <|
    some (kI M1 (kR M1 a0 0) (kx 10), M1)
set_option maxRecDepth 100000 in
set_option maxHeartbeats 4000000 in
theorem k_X12_seatsSold (l : Launch) (g : kG) (N : Nat) (M : kMem) (a0 : Nat) : kMet l g yX12_seatsSold cX12_seatsSold 1 (some .int) 1 0 0 [.ref a0] M (fun r : Int32 × kMem => (some (.int r.1), r.2)) (F_X12_seatsSold N M a0) := by
  refine k_of (lv := [(0, .ref a0)]) RX12 (by decide) rfl rfl (Nat.le_of_ble_eq_true rfl) ?_
  intro p e s m args below meth c hX hr _
  unfold F_X12_seatsSold
  refine g_aload_n 1 0 hX dX12_seatsSold_0 rfl rfl ?_
  refine g_iconst 2 hX 0 dX12_seatsSold_1 rfl kc_i_0 ?_
  refine p_X12_63 5 hX dX12_seatsSold_2 rfl ?_
  refine g_klM (fun M1 hM1 => ?_)
  refine g_aload_n 6 0 hX dX12_seatsSold_5 rfl rfl ?_
  refine r_X12_7 9 hX dX12_seatsSold_6 rfl ?_
  refine g_bipush 11 hX 10 dX12_seatsSold_9 rfl kc_b_10 ?_
  refine g_iald 12 hX dX12_seatsSold_11 rfl ?_
  exact g_iret hX hr rfl (Nat.le_refl 0) (Nat.le_refl 0) dX12_seatsSold_12
def F_X12_weightSold (N : Nat) (M : kMem) (a0 : Nat) : Option (Int32 × kMem) :=
    kg (kt M a0 12) <| kl (ksI M a0 6 0) fun M1 =>
    kg (kt M1 a0 12) <|
    kg (kin M1 (kR M1 a0 0) 13 11) <|
    some (kI M1 (kR M1 a0 0) (kx 11), M1)
set_option maxRecDepth 100000 in
set_option maxHeartbeats 4000000 in
theorem k_X12_weightSold (l : Launch) (g : kG) (N : Nat) (M : kMem) (a0 : Nat) : kMet l g yX12_weightSold cX12_weightSold 1 (some .int) 1 0 0 [.ref a0] M (fun r : Int32 × kMem => (some (.int r.1), r.2)) (F_X12_weightSold N M a0) := by
  refine k_of (lv := [(0, .ref a0)]) RX12 (by decide) rfl rfl (Nat.le_of_ble_eq_true rfl) ?_
  intro p e s m args below meth c hX hr _
  unfold F_X12_weightSold
  refine g_aload_n 1 0 hX dX12_weightSold_0 rfl rfl ?_
  refine g_iconst 2 hX 0 dX12_weightSold_1 rfl kc_i_0 ?_
  refine p_X12_63 5 hX dX12_weightSold_2 rfl ?_
  refine g_klM (fun M1 hM1 => ?_)
  refine g_aload_n 6 0 hX dX12_weightSold_5 rfl rfl ?_
  refine r_X12_7 9 hX dX12_weightSold_6 rfl ?_
  refine g_bipush 11 hX 11 dX12_weightSold_9 rfl kc_b_11 ?_
  refine g_iald 12 hX dX12_weightSold_11 rfl ?_
  exact g_iret hX hr rfl (Nat.le_refl 0) (Nat.le_refl 0) dX12_weightSold_12
def F_X12_fallCount (N : Nat) (M : kMem) (a0 : Nat) : Option (Int32 × kMem) :=
    kg (kt M a0 12) <| kl (ksI M a0 6 0) fun M1 =>
    kg (kt M1 a0 12) <|
    kg (kin M1 (kR M1 a0 0) 13 12) <|
    some (kI M1 (kR M1 a0 0) (kx 12), M1)
set_option maxRecDepth 100000 in
set_option maxHeartbeats 4000000 in
theorem k_X12_fallCount (l : Launch) (g : kG) (N : Nat) (M : kMem) (a0 : Nat) : kMet l g yX12_fallCount cX12_fallCount 1 (some .int) 1 0 0 [.ref a0] M (fun r : Int32 × kMem => (some (.int r.1), r.2)) (F_X12_fallCount N M a0) := by
  refine k_of (lv := [(0, .ref a0)]) RX12 (by decide) rfl rfl (Nat.le_of_ble_eq_true rfl) ?_
  intro p e s m args below meth c hX hr _
  unfold F_X12_fallCount
  refine g_aload_n 1 0 hX dX12_fallCount_0 rfl rfl ?_
  refine g_iconst 2 hX 0 dX12_fallCount_1 rfl kc_i_0 ?_
  refine p_X12_63 5 hX dX12_fallCount_2 rfl ?_
  refine g_klM (fun M1 hM1 => ?_)
  refine g_aload_n 6 0 hX dX12_fallCount_5 rfl rfl ?_
  refine r_X12_7 9 hX dX12_fallCount_6 rfl ?_
  refine g_bipush 11 hX 12 dX12_fallCount_9 rfl kc_b_12 ?_
  refine g_iald 12 hX dX12_fallCount_11 rfl ?_
  exact g_iret hX hr rfl (Nat.le_refl 0) (Nat.le_refl 0) dX12_fallCount_12
def F_X12_averagePurse_11 (N : Nat) : Nat → kMem → Nat → Int32 → Int32 → Int32 → Option (UInt64 × kMem)
  | 0, _, _, _, _, _ => none
  | n + 1, M, a0, x1, x2, x3 =>
    kg (kt M a0 12) <|
    kg (kin M (kR M a0 0) 13 8) <|
    if x3 < (kI M (kR M a0 0) (kx 8)) then (
      kg (kt M a0 12) <| (F_X12_has N M a0 x3 4).bind fun r2 =>
      kl (x1 + r2) fun v3 =>
      kg (kt M a0 12) <| (F_X12_has N M a0 x3 4).bind fun r4 =>
      kg (kt M a0 12) <| (F_X12_has N M a0 x3 2).bind fun r5 =>
      kl (x2 + (r4 * r5)) fun v6 =>
      kl (x3 + 1) fun v7 =>
      F_X12_averagePurse_11 N n M a0 v3 v6 v7) else
    if x1 = 0 then (
      some (FP.dconst0, M)) else
    kg (decide (FP.ddiv (FP.i2d x2) (FP.i2d x1) &&& 0x7fffffffffffffff ≤ 0x7ff0000000000000)) <|
    some (FP.ddiv (FP.i2d x2) (FP.i2d x1), M)
def F_X12_averagePurse (N : Nat) (M : kMem) (a0 : Nat) : Option (UInt64 × kMem) :=
    kg (kt M a0 12) <| kl (ksI M a0 6 0) fun M1 =>
    F_X12_averagePurse_11 N N M1 a0 0 0 0
set_option maxRecDepth 100000 in
set_option maxHeartbeats 4000000 in
theorem k_X12_averagePurse_11 {p : Program} {l : Launch} {e : Env} {s : State} {m : MethodId} {args : Array Value} {below : List Frame} {meth : Method} {c : Code} {g : kG} (hX : Cok (p, l, e, { frames := 2 * 3, cells := 0, slots := 0, locals := 60 * 3 }, s, m, args, below, meth, c, cX12_averagePurse, 4, RX12, g, 3)) (hr : meth.sig.returnType = (some .double)) (N : Nat) : ∀ (n : Nat) (M : kMem) (a0 : Nat) (x1 : Int32) (x2 : Int32) (x3 : Int32), GG (p, l, e, { frames := 2 * 3, cells := 0, slots := 0, locals := 60 * 3 }, s, m, args, below, meth, c, cX12_averagePurse, 4, RX12, g, 3) (fun b => MQ below (kQ g ((fun r : UInt64 × kMem => (some (.double r.1), r.2)) b)) args s 0 0 (kZ g.2.2.1)) 0 0 (F_X12_averagePurse_11 N n M a0 x1 x2 x3) 11 [(0, .ref a0), (1, .int x1), (2, .int x2), (3, .int x3)] [] M := by
  intro n
  induction n with
  | zero => intro _ _ _ _ _; exact g_none
  | succ n ih =>
    intro M a0 x1 x2 x3
    unfold F_X12_averagePurse_11
    refine g_iload_n 12 3 hX dX12_averagePurse_11 rfl rfl ?_
    refine g_aload_n 13 0 hX dX12_averagePurse_12 rfl rfl ?_
    refine r_X12_7 16 hX dX12_averagePurse_13 rfl ?_
    refine g_bipush 18 hX 8 dX12_averagePurse_16 rfl kc_b_8 ?_
    refine g_iald 19 hX dX12_averagePurse_18 rfl ?_
    refine g_icmp_ge 53 22 hX dX12_averagePurse_19 (by decide) rfl (fun _ => ?_) (fun _ => ?_)
    · refine g_iload_n 54 1 hX dX12_averagePurse_53 rfl rfl ?_
      refine g_if_ne 61 57 hX dX12_averagePurse_54 (by decide) rfl (fun _ => ?_) (fun _ => ?_)
      · refine g_iload_n 62 2 hX dX12_averagePurse_61 rfl rfl ?_
        refine g_i2d 63 hX dX12_averagePurse_62 rfl ?_
        refine g_iload_n 64 1 hX dX12_averagePurse_63 rfl rfl ?_
        refine g_i2d 65 hX dX12_averagePurse_64 rfl ?_
        refine g_ddiv 66 hX dX12_averagePurse_65 rfl ?_
        exact g_dret hX hr rfl (Nat.le_refl 0) (Nat.le_refl 0) dX12_averagePurse_66
      · refine g_dconst0 58 hX dX12_averagePurse_57 rfl ?_
        refine g_goto 66 hX dX12_averagePurse_58 (by decide) ?_
        exact g_dret hX hr rfl (Nat.le_refl 0) (Nat.le_refl 0) dX12_averagePurse_66
    · refine g_iload_n 23 1 hX dX12_averagePurse_22 rfl rfl ?_
      refine g_aload_n 24 0 hX dX12_averagePurse_23 rfl rfl ?_
      refine g_iload_n 25 3 hX dX12_averagePurse_24 rfl rfl ?_
      refine g_iconst 26 hX 4 dX12_averagePurse_25 rfl kc_i_4 ?_
      refine g_callV_ip 29 hX (k_X12_has l g N M a0 x3 4) lk_X12_has rfl (ci := 12) rfl (Nat.le_of_ble_eq_true rfl) q_1689 q_42 (by omega) rfl (Nat.le_of_ble_eq_true rfl) (Nat.zero_le _) (Nat.zero_le _) dX12_averagePurse_26 rfl (fun r2 => ?_)
      refine g_iadd 30 hX dX12_averagePurse_29 rfl ?_
      refine g_klI (fun v3 hv3 => ?_)
      refine g_istore_n 31 1 [(1, .int v3), (0, .ref a0), (2, .int x2), (3, .int x3)] hX dX12_averagePurse_30 rfl rfl (Nat.le_of_ble_eq_true rfl) rfl ?_
      refine g_iload_n 32 2 hX dX12_averagePurse_31 rfl rfl ?_
      refine g_aload_n 33 1 hX dX12_averagePurse_32 rfl rfl ?_
      refine g_iload_n 34 3 hX dX12_averagePurse_33 rfl rfl ?_
      refine g_iconst 35 hX 4 dX12_averagePurse_34 rfl kc_i_4 ?_
      refine g_callV_ip 38 hX (k_X12_has l g N M a0 x3 4) lk_X12_has rfl (ci := 12) rfl (Nat.le_of_ble_eq_true rfl) q_1689 q_42 (by omega) rfl (Nat.le_of_ble_eq_true rfl) (Nat.zero_le _) (Nat.zero_le _) dX12_averagePurse_35 rfl (fun r4 => ?_)
      refine g_aload_n 39 1 hX dX12_averagePurse_38 rfl rfl ?_
      refine g_iload_n 40 3 hX dX12_averagePurse_39 rfl rfl ?_
      refine g_iconst 41 hX 2 dX12_averagePurse_40 rfl kc_i_2 ?_
      refine g_callV_ip 44 hX (k_X12_has l g N M a0 x3 2) lk_X12_has rfl (ci := 12) rfl (Nat.le_of_ble_eq_true rfl) q_1689 q_42 (by omega) rfl (Nat.le_of_ble_eq_true rfl) (Nat.zero_le _) (Nat.zero_le _) dX12_averagePurse_41 rfl (fun r5 => ?_)
      refine g_imul 45 hX dX12_averagePurse_44 rfl ?_
      refine g_iadd 46 hX dX12_averagePurse_45 rfl ?_
      refine g_klI (fun v6 hv6 => ?_)
      refine g_istore_n 47 2 [(2, .int v6), (1, .int v3), (0, .ref a0), (3, .int x3)] hX dX12_averagePurse_46 rfl rfl (Nat.le_of_ble_eq_true rfl) rfl ?_
      refine g_kl (fun v7 hv7 => ?_)
      refine g_iinc 50 3 3 v7 [(3, .int v7), (2, .int v6), (1, .int v3), (0, .ref a0)] hX dX12_averagePurse_47 rfl rfl (by rw [hv7, kc_i_1]) (Nat.le_of_ble_eq_true rfl) rfl ?_
      refine g_goto 11 hX dX12_averagePurse_50 (by decide) ?_
      refine g_lv [3, 2, 1, 0] rfl ?_
      exact ih M a0 v3 v6 v7
set_option maxRecDepth 100000 in
set_option maxHeartbeats 4000000 in
theorem k_X12_averagePurse (l : Launch) (g : kG) (N : Nat) (M : kMem) (a0 : Nat) : kMet l g yX12_averagePurse cX12_averagePurse 4 (some .double) 3 0 0 [.ref a0] M (fun r : UInt64 × kMem => (some (.double r.1), r.2)) (F_X12_averagePurse N M a0) := by
  refine k_of (lv := [(0, .ref a0)]) RX12 (by decide) rfl rfl (Nat.le_of_ble_eq_true rfl) ?_
  intro p e s m args below meth c hX hr _
  unfold F_X12_averagePurse
  refine g_aload_n 1 0 hX dX12_averagePurse_0 rfl rfl ?_
  refine g_iconst 2 hX 0 dX12_averagePurse_1 rfl kc_i_0 ?_
  refine p_X12_63 5 hX dX12_averagePurse_2 rfl ?_
  refine g_klM (fun M1 hM1 => ?_)
  refine g_iconst 6 hX 0 dX12_averagePurse_5 rfl kc_i_0 ?_
  refine g_istore_n 7 1 [(1, .int 0), (0, .ref a0)] hX dX12_averagePurse_6 rfl rfl (Nat.le_of_ble_eq_true rfl) rfl ?_
  refine g_iconst 8 hX 0 dX12_averagePurse_7 rfl kc_i_0 ?_
  refine g_istore_n 9 2 [(2, .int 0), (1, .int 0), (0, .ref a0)] hX dX12_averagePurse_8 rfl rfl (Nat.le_of_ble_eq_true rfl) rfl ?_
  refine g_iconst 10 hX 0 dX12_averagePurse_9 rfl kc_i_0 ?_
  refine g_istore_n 11 3 [(3, .int 0), (2, .int 0), (1, .int 0), (0, .ref a0)] hX dX12_averagePurse_10 rfl rfl (Nat.le_of_ble_eq_true rfl) rfl ?_
  refine g_lv [3, 2, 1, 0] rfl ?_
  exact k_X12_averagePurse_11 hX hr N N M1 a0 0 0 0
def F_X12_occupancy_41 (N : Nat) : Nat → kMem → Nat → Int32 → Int32 → Int32 → Option (UInt32 × kMem)
  | 0, _, _, _, _, _ => none
  | n + 1, M, a0, x1, x2, x3 =>
    kg (kt M a0 12) <|
    kg (kin M (kR M a0 0) 13 8) <|
    if x3 < (kI M (kR M a0 0) (kx 8)) then (
      kg (kt M a0 12) <| (F_X12_isSeated N M a0 x3).bind fun r2 =>
      (F_X12_flag N M r2).bind fun r3 =>
      kl (x2 + r3) fun v4 =>
      kl (x3 + 1) fun v5 =>
      F_X12_occupancy_41 N n M a0 x1 v4 v5) else
    if x1 = 0 then (
      some (FP.fconst0, M)) else
    kg (decide (FP.fdiv (FP.i2f x2) (FP.i2f x1) &&& 0x7fffffff ≤ 0x7f800000)) <|
    some (FP.fdiv (FP.i2f x2) (FP.i2f x1), M)
def F_X12_occupancy_11 (N : Nat) : Nat → kMem → Nat → Int32 → Int32 → Int32 → Option (UInt32 × kMem)
  | 0, _, _, _, _, _ => none
  | n + 1, M, a0, x1, x2, x3 =>
    kg (kt M a0 12) <|
    kg (kin M (kR M a0 0) 13 7) <|
    if x3 < (kI M (kR M a0 0) (kx 7)) then (
      kg (kt M a0 12) <| (F_X12_ofBoard N M a0 x3 0).bind fun r6 =>
      kl (x1 + (2 * r6)) fun v7 =>
      kl (x3 + 1) fun v8 =>
      F_X12_occupancy_11 N n M a0 v7 x2 v8) else
    F_X12_occupancy_41 N N M a0 x1 x2 0
def F_X12_occupancy (N : Nat) (M : kMem) (a0 : Nat) : Option (UInt32 × kMem) :=
    kg (kt M a0 12) <| kl (ksI M a0 6 0) fun M1 =>
    F_X12_occupancy_11 N N M1 a0 0 0 0
set_option maxRecDepth 100000 in
set_option maxHeartbeats 4000000 in
theorem k_X12_occupancy_41 {p : Program} {l : Launch} {e : Env} {s : State} {m : MethodId} {args : Array Value} {below : List Frame} {meth : Method} {c : Code} {g : kG} (hX : Cok (p, l, e, { frames := 2 * 4, cells := 0, slots := 0, locals := 60 * 4 }, s, m, args, below, meth, c, cX12_occupancy, 4, RX12, g, 4)) (hr : meth.sig.returnType = (some .float)) (N : Nat) : ∀ (n : Nat) (M : kMem) (a0 : Nat) (x1 : Int32) (x2 : Int32) (x3 : Int32), GG (p, l, e, { frames := 2 * 4, cells := 0, slots := 0, locals := 60 * 4 }, s, m, args, below, meth, c, cX12_occupancy, 4, RX12, g, 4) (fun b => MQ below (kQ g ((fun r : UInt32 × kMem => (some (.float r.1), r.2)) b)) args s 0 0 (kZ g.2.2.1)) 0 0 (F_X12_occupancy_41 N n M a0 x1 x2 x3) 41 [(0, .ref a0), (1, .int x1), (2, .int x2), (3, .int x3)] [] M := by
  intro n
  induction n with
  | zero => intro _ _ _ _ _; exact g_none
  | succ n ih =>
    intro M a0 x1 x2 x3
    unfold F_X12_occupancy_41
    refine g_iload_n 42 3 hX dX12_occupancy_41 rfl rfl ?_
    refine g_aload_n 43 0 hX dX12_occupancy_42 rfl rfl ?_
    refine r_X12_7 46 hX dX12_occupancy_43 rfl ?_
    refine g_bipush 48 hX 8 dX12_occupancy_46 rfl kc_b_8 ?_
    refine g_iald 49 hX dX12_occupancy_48 rfl ?_
    refine g_icmp_ge 69 52 hX dX12_occupancy_49 (by decide) rfl (fun _ => ?_) (fun _ => ?_)
    · refine g_iload_n 70 1 hX dX12_occupancy_69 rfl rfl ?_
      refine g_if_ne 77 73 hX dX12_occupancy_70 (by decide) rfl (fun _ => ?_) (fun _ => ?_)
      · refine g_iload_n 78 2 hX dX12_occupancy_77 rfl rfl ?_
        refine g_i2f 79 hX dX12_occupancy_78 rfl ?_
        refine g_iload_n 80 1 hX dX12_occupancy_79 rfl rfl ?_
        refine g_i2f 81 hX dX12_occupancy_80 rfl ?_
        refine g_fdiv 82 hX dX12_occupancy_81 rfl ?_
        exact g_fret hX hr rfl (Nat.le_refl 0) (Nat.le_refl 0) dX12_occupancy_82
      · refine g_fconst0 74 hX dX12_occupancy_73 rfl ?_
        refine g_goto 82 hX dX12_occupancy_74 (by decide) ?_
        exact g_fret hX hr rfl (Nat.le_refl 0) (Nat.le_refl 0) dX12_occupancy_82
    · refine g_iload_n 53 2 hX dX12_occupancy_52 rfl rfl ?_
      refine g_aload_n 54 0 hX dX12_occupancy_53 rfl rfl ?_
      refine g_iload_n 55 3 hX dX12_occupancy_54 rfl rfl ?_
      refine g_callV_ip 58 hX (k_X12_isSeated l g N M a0 x3) lk_X12_isSeated rfl (ci := 12) rfl (Nat.le_of_ble_eq_true rfl) q_1911 q_64 (by omega) rfl (Nat.le_of_ble_eq_true rfl) (Nat.zero_le _) (Nat.zero_le _) dX12_occupancy_55 rfl (fun r2 => ?_)
      refine g_callS_ip 61 hX (k_X12_flag l g N M r2) lk_X12_flag q_1989 (by omega) rfl (Nat.le_of_ble_eq_true rfl) (Nat.zero_le _) (Nat.zero_le _) dX12_occupancy_58 rfl (fun r3 => ?_)
      refine g_iadd 62 hX dX12_occupancy_61 rfl ?_
      refine g_klI (fun v4 hv4 => ?_)
      refine g_istore_n 63 2 [(2, .int v4), (0, .ref a0), (1, .int x1), (3, .int x3)] hX dX12_occupancy_62 rfl rfl (Nat.le_of_ble_eq_true rfl) rfl ?_
      refine g_kl (fun v5 hv5 => ?_)
      refine g_iinc 66 3 3 v5 [(3, .int v5), (2, .int v4), (0, .ref a0), (1, .int x1)] hX dX12_occupancy_63 rfl rfl (by rw [hv5, kc_i_1]) (Nat.le_of_ble_eq_true rfl) rfl ?_
      refine g_goto 41 hX dX12_occupancy_66 (by decide) ?_
      refine g_lv [2, 3, 1, 0] rfl ?_
      exact ih M a0 x1 v4 v5
set_option maxRecDepth 100000 in
set_option maxHeartbeats 4000000 in
theorem k_X12_occupancy_11 {p : Program} {l : Launch} {e : Env} {s : State} {m : MethodId} {args : Array Value} {below : List Frame} {meth : Method} {c : Code} {g : kG} (hX : Cok (p, l, e, { frames := 2 * 4, cells := 0, slots := 0, locals := 60 * 4 }, s, m, args, below, meth, c, cX12_occupancy, 4, RX12, g, 4)) (hr : meth.sig.returnType = (some .float)) (N : Nat) : ∀ (n : Nat) (M : kMem) (a0 : Nat) (x1 : Int32) (x2 : Int32) (x3 : Int32), GG (p, l, e, { frames := 2 * 4, cells := 0, slots := 0, locals := 60 * 4 }, s, m, args, below, meth, c, cX12_occupancy, 4, RX12, g, 4) (fun b => MQ below (kQ g ((fun r : UInt32 × kMem => (some (.float r.1), r.2)) b)) args s 0 0 (kZ g.2.2.1)) 0 0 (F_X12_occupancy_11 N n M a0 x1 x2 x3) 11 [(0, .ref a0), (1, .int x1), (2, .int x2), (3, .int x3)] [] M := by
  intro n
  induction n with
  | zero => intro _ _ _ _ _; exact g_none
  | succ n ih =>
    intro M a0 x1 x2 x3
    unfold F_X12_occupancy_11
    refine g_iload_n 12 3 hX dX12_occupancy_11 rfl rfl ?_
    refine g_aload_n 13 0 hX dX12_occupancy_12 rfl rfl ?_
    refine r_X12_7 16 hX dX12_occupancy_13 rfl ?_
    refine g_bipush 18 hX 7 dX12_occupancy_16 rfl kc_b_7 ?_
    refine g_iald 19 hX dX12_occupancy_18 rfl ?_
    refine g_icmp_ge 39 22 hX dX12_occupancy_19 (by decide) rfl (fun _ => ?_) (fun _ => ?_)
    · refine g_iconst 40 hX 0 dX12_occupancy_39 rfl kc_i_0 ?_
      refine g_istore_n 41 3 [(3, .int 0), (0, .ref a0), (1, .int x1), (2, .int x2)] hX dX12_occupancy_40 rfl rfl (Nat.le_of_ble_eq_true rfl) rfl ?_
      refine g_lv [1, 2, 3, 0] rfl ?_
      exact k_X12_occupancy_41 hX hr N N M a0 x1 x2 0
    · refine g_iload_n 23 1 hX dX12_occupancy_22 rfl rfl ?_
      refine g_iconst 24 hX 2 dX12_occupancy_23 rfl kc_i_2 ?_
      refine g_aload_n 25 0 hX dX12_occupancy_24 rfl rfl ?_
      refine g_iload_n 26 3 hX dX12_occupancy_25 rfl rfl ?_
      refine g_iconst 27 hX 0 dX12_occupancy_26 rfl kc_i_0 ?_
      refine g_callV_ip 30 hX (k_X12_ofBoard l g N M a0 x3 0) lk_X12_ofBoard rfl (ci := 12) rfl (Nat.le_of_ble_eq_true rfl) q_1921 q_66 (by omega) rfl (Nat.le_of_ble_eq_true rfl) (Nat.zero_le _) (Nat.zero_le _) dX12_occupancy_27 rfl (fun r6 => ?_)
      refine g_imul 31 hX dX12_occupancy_30 rfl ?_
      refine g_iadd 32 hX dX12_occupancy_31 rfl ?_
      refine g_klI (fun v7 hv7 => ?_)
      refine g_istore_n 33 1 [(1, .int v7), (0, .ref a0), (2, .int x2), (3, .int x3)] hX dX12_occupancy_32 rfl rfl (Nat.le_of_ble_eq_true rfl) rfl ?_
      refine g_kl (fun v8 hv8 => ?_)
      refine g_iinc 36 3 3 v8 [(3, .int v8), (1, .int v7), (0, .ref a0), (2, .int x2)] hX dX12_occupancy_33 rfl rfl (by rw [hv8, kc_i_1]) (Nat.le_of_ble_eq_true rfl) rfl ?_
      refine g_goto 11 hX dX12_occupancy_36 (by decide) ?_
      refine g_lv [2, 1, 3, 0] rfl ?_
      exact ih M a0 v7 x2 v8
set_option maxRecDepth 100000 in
set_option maxHeartbeats 4000000 in
theorem k_X12_occupancy (l : Launch) (g : kG) (N : Nat) (M : kMem) (a0 : Nat) : kMet l g yX12_occupancy cX12_occupancy 4 (some .float) 4 0 0 [.ref a0] M (fun r : UInt32 × kMem => (some (.float r.1), r.2)) (F_X12_occupancy N M a0) := by
  refine k_of (lv := [(0, .ref a0)]) RX12 (by decide) rfl rfl (Nat.le_of_ble_eq_true rfl) ?_
  intro p e s m args below meth c hX hr _
  unfold F_X12_occupancy
  refine g_aload_n 1 0 hX dX12_occupancy_0 rfl rfl ?_
  refine g_iconst 2 hX 0 dX12_occupancy_1 rfl kc_i_0 ?_
  refine p_X12_63 5 hX dX12_occupancy_2 rfl ?_
  refine g_klM (fun M1 hM1 => ?_)
  refine g_iconst 6 hX 0 dX12_occupancy_5 rfl kc_i_0 ?_
  refine g_istore_n 7 1 [(1, .int 0), (0, .ref a0)] hX dX12_occupancy_6 rfl rfl (Nat.le_of_ble_eq_true rfl) rfl ?_
  refine g_iconst 8 hX 0 dX12_occupancy_7 rfl kc_i_0 ?_
  refine g_istore_n 9 2 [(2, .int 0), (1, .int 0), (0, .ref a0)] hX dX12_occupancy_8 rfl rfl (Nat.le_of_ble_eq_true rfl) rfl ?_
  refine g_iconst 10 hX 0 dX12_occupancy_9 rfl kc_i_0 ?_
  refine g_istore_n 11 3 [(3, .int 0), (2, .int 0), (1, .int 0), (0, .ref a0)] hX dX12_occupancy_10 rfl rfl (Nat.le_of_ble_eq_true rfl) rfl ?_
  refine g_lv [3, 2, 1, 0] rfl ?_
  exact k_X12_occupancy_11 hX hr N N M1 a0 0 0 0
def F_X12_weightOn (N : Nat) (M : kMem) (a0 : Nat) (x1 : Int32) (x2 : Int32) : Option (Int32) :=
    kg (kt M a0 12) <| (F_X12_onSeat N M a0 x1 x2).bind fun r1 =>
    if r1 = (-1) then (
      some 0) else
    kg (kt M a0 12) <| (F_X12_onSeat N M a0 x1 x2).bind fun r2 =>
    kg (kt M a0 12) <| (F_X12_has N M a0 r2 1).bind fun r3 =>
    some r3
set_option maxRecDepth 100000 in
set_option maxHeartbeats 4000000 in
theorem k_X12_weightOn (l : Launch) (g : kG) (N : Nat) (M : kMem) (a0 : Nat) (x1 : Int32) (x2 : Int32) : kMet l g yX12_weightOn cX12_weightOn 3 (some .int) 4 0 0 [.ref a0, .int x1, .int x2] M (fun r : Int32 => (some (.int r), M)) (F_X12_weightOn N M a0 x1 x2) := by
  refine k_of (lv := [(0, .ref a0), (1, .int x1), (2, .int x2)]) RX12 (by decide) rfl rfl (Nat.le_of_ble_eq_true rfl) ?_
  intro p e s m args below meth c hX hr _
  unfold F_X12_weightOn
  refine g_aload_n 1 0 hX dX12_weightOn_0 rfl rfl ?_
  refine g_iload_n 2 1 hX dX12_weightOn_1 rfl rfl ?_
  refine g_iload_n 3 2 hX dX12_weightOn_2 rfl rfl ?_
  refine g_callV_ip 6 hX (k_X12_onSeat l g N M a0 x1 x2) lk_X12_onSeat rfl (ci := 12) rfl (Nat.le_of_ble_eq_true rfl) q_1925 q_67 (by omega) rfl (Nat.le_of_ble_eq_true rfl) (Nat.zero_le _) (Nat.zero_le _) dX12_weightOn_3 rfl (fun r1 => ?_)
  refine g_iconst 7 hX (-1) dX12_weightOn_6 rfl kc_i_m1 ?_
  refine g_icmp_ne 14 10 hX dX12_weightOn_7 (by decide) rfl (fun _ => ?_) (fun _ => ?_)
  · refine g_aload_n 15 0 hX dX12_weightOn_14 rfl rfl ?_
    refine g_aload_n 16 0 hX dX12_weightOn_15 rfl rfl ?_
    refine g_iload_n 17 1 hX dX12_weightOn_16 rfl rfl ?_
    refine g_iload_n 18 2 hX dX12_weightOn_17 rfl rfl ?_
    refine g_callV_ip 21 hX (k_X12_onSeat l g N M a0 x1 x2) lk_X12_onSeat rfl (ci := 12) rfl (Nat.le_of_ble_eq_true rfl) q_1925 q_67 (by omega) rfl (Nat.le_of_ble_eq_true rfl) (Nat.zero_le _) (Nat.zero_le _) dX12_weightOn_18 rfl (fun r2 => ?_)
    refine g_iconst 22 hX 1 dX12_weightOn_21 rfl kc_i_1 ?_
    refine g_callV_ip 25 hX (k_X12_has l g N M a0 r2 1) lk_X12_has rfl (ci := 12) rfl (Nat.le_of_ble_eq_true rfl) q_1689 q_42 (by omega) rfl (Nat.le_of_ble_eq_true rfl) (Nat.zero_le _) (Nat.zero_le _) dX12_weightOn_22 rfl (fun r3 => ?_)
    exact g_iret hX hr rfl (Nat.le_refl 0) (Nat.le_refl 0) dX12_weightOn_25
  · refine g_iconst 11 hX 0 dX12_weightOn_10 rfl kc_i_0 ?_
    refine g_goto 25 hX dX12_weightOn_11 (by decide) ?_
    exact g_iret hX hr rfl (Nat.le_refl 0) (Nat.le_refl 0) dX12_weightOn_25
def F_X12_torqueByDistances_17 (N : Nat) (M : kMem) (k4 : Nat → Int32 → Int32 → Int32 → Option (Int32)) : Nat → Nat → Int32 → Int32 → Int32 → Int32 → Option (Int32)
  | 0, _, _, _, _, _ => none
  | n + 1, a0, x1, x2, x3, x4 =>
    kg (kt M a0 12) <| (F_X12_ofBoard N M a0 x1 0).bind fun r2 =>
    if r2 < x4 then (
      kl (x3 + 1) fun v3 =>
      k4 a0 x1 x2 v3) else
    kg (kt M a0 12) <| (F_X12_weightOn N M a0 x1 x4).bind fun r4 =>
    kg (kt M a0 12) <| (F_X12_weightOn N M a0 x1 (-x4)).bind fun r5 =>
    kl (x2 + (r4 - r5)) fun v6 =>
    kl (x4 + 1) fun v7 =>
    F_X12_torqueByDistances_17 N M k4 n a0 x1 v6 x3 v7
def F_X12_torqueByDistances_4 (N : Nat) (M : kMem) : Nat → Nat → Int32 → Int32 → Int32 → Option (Int32)
  | 0, _, _, _, _ => none
  | n + 1, a0, x1, x2, x3 =>
    kg (kt M a0 12) <| (F_X12_ofBoard N M a0 x1 0).bind fun r1 =>
    if r1 < x3 then (
      some x2) else
    F_X12_torqueByDistances_17 N M (fun a0 x1 x2 x3 => F_X12_torqueByDistances_4 N M n a0 x1 x2 x3) N a0 x1 x2 x3 x3
def F_X12_torqueByDistances (N : Nat) (M : kMem) (a0 : Nat) (x1 : Int32) : Option (Int32) :=
    F_X12_torqueByDistances_4 N M N a0 x1 0 1
set_option maxRecDepth 100000 in
set_option maxHeartbeats 4000000 in
theorem k_X12_torqueByDistances_17 {p : Program} {l : Launch} {e : Env} {s : State} {m : MethodId} {args : Array Value} {below : List Frame} {meth : Method} {c : Code} {g : kG} (hX : Cok (p, l, e, { frames := 2 * 5, cells := 0, slots := 0, locals := 60 * 5 }, s, m, args, below, meth, c, cX12_torqueByDistances, 5, RX12, g, 5)) (hr : meth.sig.returnType = (some .int)) (N : Nat) (M : kMem) (k4 : Nat → Int32 → Int32 → Int32 → Option (Int32)) (h4 : ∀ (a0 : Nat) (x1 : Int32) (x2 : Int32) (x3 : Int32), GG (p, l, e, { frames := 2 * 5, cells := 0, slots := 0, locals := 60 * 5 }, s, m, args, below, meth, c, cX12_torqueByDistances, 5, RX12, g, 5) (fun b => MQ below (kQ g ((fun r : Int32 => (some (.int r), M)) b)) args s 0 0 (kZ g.2.2.1)) 0 0 (k4 a0 x1 x2 x3) 4 [(0, .ref a0), (1, .int x1), (2, .int x2), (3, .int x3)] [] M) : ∀ (n : Nat) (a0 : Nat) (x1 : Int32) (x2 : Int32) (x3 : Int32) (x4 : Int32), GG (p, l, e, { frames := 2 * 5, cells := 0, slots := 0, locals := 60 * 5 }, s, m, args, below, meth, c, cX12_torqueByDistances, 5, RX12, g, 5) (fun b => MQ below (kQ g ((fun r : Int32 => (some (.int r), M)) b)) args s 0 0 (kZ g.2.2.1)) 0 0 (F_X12_torqueByDistances_17 N M k4 n a0 x1 x2 x3 x4) 17 [(0, .ref a0), (1, .int x1), (2, .int x2), (3, .int x3), (4, .int x4)] [] M := by
  intro n
  induction n with
  | zero => intro _ _ _ _ _; exact g_none
  | succ n ih =>
    intro a0 x1 x2 x3 x4
    unfold F_X12_torqueByDistances_17
    refine g_iload 19 4 hX dX12_torqueByDistances_17 rfl rfl ?_
    refine g_aload_n 20 0 hX dX12_torqueByDistances_19 rfl rfl ?_
    refine g_iload_n 21 1 hX dX12_torqueByDistances_20 rfl rfl ?_
    refine g_iconst 22 hX 0 dX12_torqueByDistances_21 rfl kc_i_0 ?_
    refine g_callV_ip 25 hX (k_X12_ofBoard l g N M a0 x1 0) lk_X12_ofBoard rfl (ci := 12) rfl (Nat.le_of_ble_eq_true rfl) q_1921 q_66 (by omega) rfl (Nat.le_of_ble_eq_true rfl) (Nat.zero_le _) (Nat.zero_le _) dX12_torqueByDistances_22 rfl (fun r2 => ?_)
    refine g_icmp_gt 53 28 hX dX12_torqueByDistances_25 (by decide) rfl (fun _ => ?_) (fun _ => ?_)
    · refine g_kl (fun v3 hv3 => ?_)
      refine g_iinc 56 3 3 v3 [(3, .int v3), (0, .ref a0), (1, .int x1), (2, .int x2), (4, .int x4)] hX dX12_torqueByDistances_53 rfl rfl (by rw [hv3, kc_i_1]) (Nat.le_of_ble_eq_true rfl) rfl ?_
      refine g_goto 4 hX dX12_torqueByDistances_56 (by decide) ?_
      refine g_lv [1, 2, 3, 0] rfl ?_
      exact h4 a0 x1 x2 v3
    · refine g_iload_n 29 2 hX dX12_torqueByDistances_28 rfl rfl ?_
      refine g_aload_n 30 0 hX dX12_torqueByDistances_29 rfl rfl ?_
      refine g_iload_n 31 1 hX dX12_torqueByDistances_30 rfl rfl ?_
      refine g_iload 33 4 hX dX12_torqueByDistances_31 rfl rfl ?_
      refine g_callV_ip 36 hX (k_X12_weightOn l g N M a0 x1 x4) lk_X12_weightOn rfl (ci := 12) rfl (Nat.le_of_ble_eq_true rfl) q_2385 q_124 (by omega) rfl (Nat.le_of_ble_eq_true rfl) (Nat.zero_le _) (Nat.zero_le _) dX12_torqueByDistances_33 rfl (fun r4 => ?_)
      refine g_aload_n 37 0 hX dX12_torqueByDistances_36 rfl rfl ?_
      refine g_iload_n 38 1 hX dX12_torqueByDistances_37 rfl rfl ?_
      refine g_iload 40 4 hX dX12_torqueByDistances_38 rfl rfl ?_
      refine g_ineg 41 hX dX12_torqueByDistances_40 rfl ?_
      refine g_callV_ip 44 hX (k_X12_weightOn l g N M a0 x1 (-x4)) lk_X12_weightOn rfl (ci := 12) rfl (Nat.le_of_ble_eq_true rfl) q_2385 q_124 (by omega) rfl (Nat.le_of_ble_eq_true rfl) (Nat.zero_le _) (Nat.zero_le _) dX12_torqueByDistances_41 rfl (fun r5 => ?_)
      refine g_isub 45 hX dX12_torqueByDistances_44 rfl ?_
      refine g_iadd 46 hX dX12_torqueByDistances_45 rfl ?_
      refine g_klI (fun v6 hv6 => ?_)
      refine g_istore_n 47 2 [(2, .int v6), (0, .ref a0), (1, .int x1), (3, .int x3), (4, .int x4)] hX dX12_torqueByDistances_46 rfl rfl (Nat.le_of_ble_eq_true rfl) rfl ?_
      refine g_kl (fun v7 hv7 => ?_)
      refine g_iinc 50 4 4 v7 [(4, .int v7), (2, .int v6), (0, .ref a0), (1, .int x1), (3, .int x3)] hX dX12_torqueByDistances_47 rfl rfl (by rw [hv7, kc_i_1]) (Nat.le_of_ble_eq_true rfl) rfl ?_
      refine g_goto 17 hX dX12_torqueByDistances_50 (by decide) ?_
      refine g_lv [2, 3, 1, 4, 0] rfl ?_
      exact ih a0 x1 v6 x3 v7
set_option maxRecDepth 100000 in
set_option maxHeartbeats 4000000 in
theorem k_X12_torqueByDistances_4 {p : Program} {l : Launch} {e : Env} {s : State} {m : MethodId} {args : Array Value} {below : List Frame} {meth : Method} {c : Code} {g : kG} (hX : Cok (p, l, e, { frames := 2 * 5, cells := 0, slots := 0, locals := 60 * 5 }, s, m, args, below, meth, c, cX12_torqueByDistances, 5, RX12, g, 5)) (hr : meth.sig.returnType = (some .int)) (N : Nat) (M : kMem) : ∀ (n : Nat) (a0 : Nat) (x1 : Int32) (x2 : Int32) (x3 : Int32), GG (p, l, e, { frames := 2 * 5, cells := 0, slots := 0, locals := 60 * 5 }, s, m, args, below, meth, c, cX12_torqueByDistances, 5, RX12, g, 5) (fun b => MQ below (kQ g ((fun r : Int32 => (some (.int r), M)) b)) args s 0 0 (kZ g.2.2.1)) 0 0 (F_X12_torqueByDistances_4 N M n a0 x1 x2 x3) 4 [(0, .ref a0), (1, .int x1), (2, .int x2), (3, .int x3)] [] M := by
  intro n
  induction n with
  | zero => intro _ _ _ _; exact g_none
  | succ n ih =>
    intro a0 x1 x2 x3
    unfold F_X12_torqueByDistances_4
    refine g_iload_n 5 3 hX dX12_torqueByDistances_4 rfl rfl ?_
    refine g_aload_n 6 0 hX dX12_torqueByDistances_5 rfl rfl ?_
    refine g_iload_n 7 1 hX dX12_torqueByDistances_6 rfl rfl ?_
    refine g_iconst 8 hX 0 dX12_torqueByDistances_7 rfl kc_i_0 ?_
    refine g_callV_ip 11 hX (k_X12_ofBoard l g N M a0 x1 0) lk_X12_ofBoard rfl (ci := 12) rfl (Nat.le_of_ble_eq_true rfl) q_1921 q_66 (by omega) rfl (Nat.le_of_ble_eq_true rfl) (Nat.zero_le _) (Nat.zero_le _) dX12_torqueByDistances_8 rfl (fun r1 => ?_)
    refine g_icmp_gt 59 14 hX dX12_torqueByDistances_11 (by decide) rfl (fun _ => ?_) (fun _ => ?_)
    · refine g_iload_n 60 2 hX dX12_torqueByDistances_59 rfl rfl ?_
      exact g_iret hX hr rfl (Nat.le_refl 0) (Nat.le_refl 0) dX12_torqueByDistances_60
    · refine g_iload_n 15 3 hX dX12_torqueByDistances_14 rfl rfl ?_
      refine g_istore 17 4 [(4, .int x3), (0, .ref a0), (1, .int x1), (2, .int x2), (3, .int x3)] hX dX12_torqueByDistances_15 rfl (Nat.le_of_ble_eq_true rfl) rfl ?_
      refine g_lv [1, 2, 3, 4, 0] rfl ?_
      exact k_X12_torqueByDistances_17 hX hr N M (fun a0 x1 x2 x3 => F_X12_torqueByDistances_4 N M n a0 x1 x2 x3) ih N a0 x1 x2 x3 x3
set_option maxRecDepth 100000 in
set_option maxHeartbeats 4000000 in
theorem k_X12_torqueByDistances (l : Launch) (g : kG) (N : Nat) (M : kMem) (a0 : Nat) (x1 : Int32) : kMet l g yX12_torqueByDistances cX12_torqueByDistances 5 (some .int) 5 0 0 [.ref a0, .int x1] M (fun r : Int32 => (some (.int r), M)) (F_X12_torqueByDistances N M a0 x1) := by
  refine k_of (lv := [(0, .ref a0), (1, .int x1)]) RX12 (by decide) rfl rfl (Nat.le_of_ble_eq_true rfl) ?_
  intro p e s m args below meth c hX hr _
  unfold F_X12_torqueByDistances
  refine g_iconst 1 hX 0 dX12_torqueByDistances_0 rfl kc_i_0 ?_
  refine g_istore_n 2 2 [(2, .int 0), (0, .ref a0), (1, .int x1)] hX dX12_torqueByDistances_1 rfl rfl (Nat.le_of_ble_eq_true rfl) rfl ?_
  refine g_iconst 3 hX 1 dX12_torqueByDistances_2 rfl kc_i_1 ?_
  refine g_istore_n 4 3 [(3, .int 1), (2, .int 0), (0, .ref a0), (1, .int x1)] hX dX12_torqueByDistances_3 rfl rfl (Nat.le_of_ble_eq_true rfl) rfl ?_
  refine g_lv [2, 3, 1, 0] rfl ?_
  exact k_X12_torqueByDistances_4 hX hr N M N a0 x1 0 1
def F_X12_wrongSeats_10 (N : Nat) (M : kMem) : Nat → Nat → Int32 → Int32 → Int32 → Option (Int32)
  | 0, _, _, _, _ => none
  | n + 1, a0, x1, x2, x3 =>
    kg (kt M a0 12) <| (F_X12_ofBoard N M a0 x1 0).bind fun r3 =>
    if r3 < x3 then (
      some x2) else
    if x3 = 0 then (
      kl (x3 + 1) fun v4 =>
      F_X12_wrongSeats_10 N M n a0 x1 x2 v4) else
    kg (kt M a0 12) <| (F_X12_onSeat N M a0 x1 x3).bind fun r5 =>
    if r5 = (-1) then (
      kl (x3 + 1) fun v6 =>
      F_X12_wrongSeats_10 N M n a0 x1 x2 v6) else
    kg (kt M a0 12) <| (F_X12_onSeat N M a0 x1 x3).bind fun r7 =>
    kg (kt M a0 12) <| (F_X12_has N M a0 r7 5).bind fun r8 =>
    if r8 = x1 then (
      kg (kt M a0 12) <| (F_X12_onSeat N M a0 x1 x3).bind fun r12 =>
      kg (kt M a0 12) <| (F_X12_has N M a0 r12 6).bind fun r13 =>
      if r13 = x3 then (
        (F_X12_flag N M 0).bind fun r14 =>
        kl (x2 + r14) fun v15 =>
        kl (x3 + 1) fun v16 =>
        F_X12_wrongSeats_10 N M n a0 x1 v15 v16) else
      (F_X12_flag N M 1).bind fun r17 =>
      kl (x2 + r17) fun v18 =>
      kl (x3 + 1) fun v19 =>
      F_X12_wrongSeats_10 N M n a0 x1 v18 v19) else
    (F_X12_flag N M 1).bind fun r9 =>
    kl (x2 + r9) fun v10 =>
    kl (x3 + 1) fun v11 =>
    F_X12_wrongSeats_10 N M n a0 x1 v10 v11
def F_X12_wrongSeats (N : Nat) (M : kMem) (a0 : Nat) (x1 : Int32) : Option (Int32) :=
    kg (kt M a0 12) <| (F_X12_ofBoard N M a0 x1 0).bind fun r1 =>
    kl (-r1) fun v2 =>
    F_X12_wrongSeats_10 N M N a0 x1 0 v2
set_option maxRecDepth 100000 in
set_option maxHeartbeats 4000000 in
theorem k_X12_wrongSeats_10 {p : Program} {l : Launch} {e : Env} {s : State} {m : MethodId} {args : Array Value} {below : List Frame} {meth : Method} {c : Code} {g : kG} (hX : Cok (p, l, e, { frames := 2 * 4, cells := 0, slots := 0, locals := 60 * 4 }, s, m, args, below, meth, c, cX12_wrongSeats, 4, RX12, g, 4)) (hr : meth.sig.returnType = (some .int)) (N : Nat) (M : kMem) : ∀ (n : Nat) (a0 : Nat) (x1 : Int32) (x2 : Int32) (x3 : Int32), GG (p, l, e, { frames := 2 * 4, cells := 0, slots := 0, locals := 60 * 4 }, s, m, args, below, meth, c, cX12_wrongSeats, 4, RX12, g, 4) (fun b => MQ below (kQ g ((fun r : Int32 => (some (.int r), M)) b)) args s 0 0 (kZ g.2.2.1)) 0 0 (F_X12_wrongSeats_10 N M n a0 x1 x2 x3) 10 [(0, .ref a0), (1, .int x1), (2, .int x2), (3, .int x3)] [] M := by
  intro n
  induction n with
  | zero => intro _ _ _ _; exact g_none
  | succ n ih =>
    intro a0 x1 x2 x3
    unfold F_X12_wrongSeats_10
    refine g_iload_n 11 3 hX dX12_wrongSeats_10 rfl rfl ?_
    refine g_aload_n 12 0 hX dX12_wrongSeats_11 rfl rfl ?_
    refine g_iload_n 13 1 hX dX12_wrongSeats_12 rfl rfl ?_
    refine g_iconst 14 hX 0 dX12_wrongSeats_13 rfl kc_i_0 ?_
    refine g_callV_ip 17 hX (k_X12_ofBoard l g N M a0 x1 0) lk_X12_ofBoard rfl (ci := 12) rfl (Nat.le_of_ble_eq_true rfl) q_1921 q_66 (by omega) rfl (Nat.le_of_ble_eq_true rfl) (Nat.zero_le _) (Nat.zero_le _) dX12_wrongSeats_14 rfl (fun r3 => ?_)
    refine g_icmp_gt 82 20 hX dX12_wrongSeats_17 (by decide) rfl (fun _ => ?_) (fun _ => ?_)
    · refine g_iload_n 83 2 hX dX12_wrongSeats_82 rfl rfl ?_
      exact g_iret hX hr rfl (Nat.le_refl 0) (Nat.le_refl 0) dX12_wrongSeats_83
    · refine g_iload_n 21 3 hX dX12_wrongSeats_20 rfl rfl ?_
      refine g_if_eq 76 24 hX dX12_wrongSeats_21 (by decide) rfl (fun _ => ?_) (fun _ => ?_)
      · refine g_kl (fun v4 hv4 => ?_)
        refine g_iinc 79 3 3 v4 [(3, .int v4), (0, .ref a0), (1, .int x1), (2, .int x2)] hX dX12_wrongSeats_76 rfl rfl (by rw [hv4, kc_i_1]) (Nat.le_of_ble_eq_true rfl) rfl ?_
        refine g_goto 10 hX dX12_wrongSeats_79 (by decide) ?_
        refine g_lv [1, 2, 3, 0] rfl ?_
        exact ih a0 x1 x2 v4
      · refine g_aload_n 25 0 hX dX12_wrongSeats_24 rfl rfl ?_
        refine g_iload_n 26 1 hX dX12_wrongSeats_25 rfl rfl ?_
        refine g_iload_n 27 3 hX dX12_wrongSeats_26 rfl rfl ?_
        refine g_callV_ip 30 hX (k_X12_onSeat l g N M a0 x1 x3) lk_X12_onSeat rfl (ci := 12) rfl (Nat.le_of_ble_eq_true rfl) q_1925 q_67 (by omega) rfl (Nat.le_of_ble_eq_true rfl) (Nat.zero_le _) (Nat.zero_le _) dX12_wrongSeats_27 rfl (fun r5 => ?_)
        refine g_iconst 31 hX (-1) dX12_wrongSeats_30 rfl kc_i_m1 ?_
        refine g_icmp_eq 76 34 hX dX12_wrongSeats_31 (by decide) rfl (fun _ => ?_) (fun _ => ?_)
        · refine g_kl (fun v6 hv6 => ?_)
          refine g_iinc 79 3 3 v6 [(3, .int v6), (0, .ref a0), (1, .int x1), (2, .int x2)] hX dX12_wrongSeats_76 rfl rfl (by rw [hv6, kc_i_1]) (Nat.le_of_ble_eq_true rfl) rfl ?_
          refine g_goto 10 hX dX12_wrongSeats_79 (by decide) ?_
          refine g_lv [1, 2, 3, 0] rfl ?_
          exact ih a0 x1 x2 v6
        · refine g_iload_n 35 2 hX dX12_wrongSeats_34 rfl rfl ?_
          refine g_aload_n 36 0 hX dX12_wrongSeats_35 rfl rfl ?_
          refine g_aload_n 37 0 hX dX12_wrongSeats_36 rfl rfl ?_
          refine g_iload_n 38 1 hX dX12_wrongSeats_37 rfl rfl ?_
          refine g_iload_n 39 3 hX dX12_wrongSeats_38 rfl rfl ?_
          refine g_callV_ip 42 hX (k_X12_onSeat l g N M a0 x1 x3) lk_X12_onSeat rfl (ci := 12) rfl (Nat.le_of_ble_eq_true rfl) q_1925 q_67 (by omega) rfl (Nat.le_of_ble_eq_true rfl) (Nat.zero_le _) (Nat.zero_le _) dX12_wrongSeats_39 rfl (fun r7 => ?_)
          refine g_iconst 43 hX 5 dX12_wrongSeats_42 rfl kc_i_5 ?_
          refine g_callV_ip 46 hX (k_X12_has l g N M a0 r7 5) lk_X12_has rfl (ci := 12) rfl (Nat.le_of_ble_eq_true rfl) q_1689 q_42 (by omega) rfl (Nat.le_of_ble_eq_true rfl) (Nat.zero_le _) (Nat.zero_le _) dX12_wrongSeats_43 rfl (fun r8 => ?_)
          refine g_iload_n 47 1 hX dX12_wrongSeats_46 rfl rfl ?_
          refine g_icmp_ne 66 50 hX dX12_wrongSeats_47 (by decide) rfl (fun _ => ?_) (fun _ => ?_)
          · refine g_iconst 67 hX 1 dX12_wrongSeats_66 rfl kc_i_1 ?_
            refine g_goto 71 hX dX12_wrongSeats_67 (by decide) ?_
            refine g_callS_ip 74 hX (k_X12_flag l g N M 1) lk_X12_flag q_1989 (by omega) rfl (Nat.le_of_ble_eq_true rfl) (Nat.zero_le _) (Nat.zero_le _) dX12_wrongSeats_71 rfl (fun r9 => ?_)
            refine g_iadd 75 hX dX12_wrongSeats_74 rfl ?_
            refine g_klI (fun v10 hv10 => ?_)
            refine g_istore_n 76 2 [(2, .int v10), (0, .ref a0), (1, .int x1), (3, .int x3)] hX dX12_wrongSeats_75 rfl rfl (Nat.le_of_ble_eq_true rfl) rfl ?_
            refine g_kl (fun v11 hv11 => ?_)
            refine g_iinc 79 3 3 v11 [(3, .int v11), (2, .int v10), (0, .ref a0), (1, .int x1)] hX dX12_wrongSeats_76 rfl rfl (by rw [hv11, kc_i_1]) (Nat.le_of_ble_eq_true rfl) rfl ?_
            refine g_goto 10 hX dX12_wrongSeats_79 (by decide) ?_
            refine g_lv [2, 3, 1, 0] rfl ?_
            exact ih a0 x1 v10 v11
          · refine g_aload_n 51 0 hX dX12_wrongSeats_50 rfl rfl ?_
            refine g_aload_n 52 0 hX dX12_wrongSeats_51 rfl rfl ?_
            refine g_iload_n 53 1 hX dX12_wrongSeats_52 rfl rfl ?_
            refine g_iload_n 54 3 hX dX12_wrongSeats_53 rfl rfl ?_
            refine g_callV_ip 57 hX (k_X12_onSeat l g N M a0 x1 x3) lk_X12_onSeat rfl (ci := 12) rfl (Nat.le_of_ble_eq_true rfl) q_1925 q_67 (by omega) rfl (Nat.le_of_ble_eq_true rfl) (Nat.zero_le _) (Nat.zero_le _) dX12_wrongSeats_54 rfl (fun r12 => ?_)
            refine g_bipush 59 hX 6 dX12_wrongSeats_57 rfl kc_b_6 ?_
            refine g_callV_ip 62 hX (k_X12_has l g N M a0 r12 6) lk_X12_has rfl (ci := 12) rfl (Nat.le_of_ble_eq_true rfl) q_1689 q_42 (by omega) rfl (Nat.le_of_ble_eq_true rfl) (Nat.zero_le _) (Nat.zero_le _) dX12_wrongSeats_59 rfl (fun r13 => ?_)
            refine g_iload_n 63 3 hX dX12_wrongSeats_62 rfl rfl ?_
            refine g_icmp_eq 70 66 hX dX12_wrongSeats_63 (by decide) rfl (fun _ => ?_) (fun _ => ?_)
            · refine g_iconst 71 hX 0 dX12_wrongSeats_70 rfl kc_i_0 ?_
              refine g_callS_ip 74 hX (k_X12_flag l g N M 0) lk_X12_flag q_1989 (by omega) rfl (Nat.le_of_ble_eq_true rfl) (Nat.zero_le _) (Nat.zero_le _) dX12_wrongSeats_71 rfl (fun r14 => ?_)
              refine g_iadd 75 hX dX12_wrongSeats_74 rfl ?_
              refine g_klI (fun v15 hv15 => ?_)
              refine g_istore_n 76 2 [(2, .int v15), (0, .ref a0), (1, .int x1), (3, .int x3)] hX dX12_wrongSeats_75 rfl rfl (Nat.le_of_ble_eq_true rfl) rfl ?_
              refine g_kl (fun v16 hv16 => ?_)
              refine g_iinc 79 3 3 v16 [(3, .int v16), (2, .int v15), (0, .ref a0), (1, .int x1)] hX dX12_wrongSeats_76 rfl rfl (by rw [hv16, kc_i_1]) (Nat.le_of_ble_eq_true rfl) rfl ?_
              refine g_goto 10 hX dX12_wrongSeats_79 (by decide) ?_
              refine g_lv [2, 3, 1, 0] rfl ?_
              exact ih a0 x1 v15 v16
            · refine g_iconst 67 hX 1 dX12_wrongSeats_66 rfl kc_i_1 ?_
              refine g_goto 71 hX dX12_wrongSeats_67 (by decide) ?_
              refine g_callS_ip 74 hX (k_X12_flag l g N M 1) lk_X12_flag q_1989 (by omega) rfl (Nat.le_of_ble_eq_true rfl) (Nat.zero_le _) (Nat.zero_le _) dX12_wrongSeats_71 rfl (fun r17 => ?_)
              refine g_iadd 75 hX dX12_wrongSeats_74 rfl ?_
              refine g_klI (fun v18 hv18 => ?_)
              refine g_istore_n 76 2 [(2, .int v18), (0, .ref a0), (1, .int x1), (3, .int x3)] hX dX12_wrongSeats_75 rfl rfl (Nat.le_of_ble_eq_true rfl) rfl ?_
              refine g_kl (fun v19 hv19 => ?_)
              refine g_iinc 79 3 3 v19 [(3, .int v19), (2, .int v18), (0, .ref a0), (1, .int x1)] hX dX12_wrongSeats_76 rfl rfl (by rw [hv19, kc_i_1]) (Nat.le_of_ble_eq_true rfl) rfl ?_
              refine g_goto 10 hX dX12_wrongSeats_79 (by decide) ?_
              refine g_lv [2, 3, 1, 0] rfl ?_
              exact ih a0 x1 v18 v19
set_option maxRecDepth 100000 in
set_option maxHeartbeats 4000000 in
theorem k_X12_wrongSeats (l : Launch) (g : kG) (N : Nat) (M : kMem) (a0 : Nat) (x1 : Int32) : kMet l g yX12_wrongSeats cX12_wrongSeats 4 (some .int) 4 0 0 [.ref a0, .int x1] M (fun r : Int32 => (some (.int r), M)) (F_X12_wrongSeats N M a0 x1) := by
  refine k_of (lv := [(0, .ref a0), (1, .int x1)]) RX12 (by decide) rfl rfl (Nat.le_of_ble_eq_true rfl) ?_
  intro p e s m args below meth c hX hr _
  unfold F_X12_wrongSeats
  refine g_iconst 1 hX 0 dX12_wrongSeats_0 rfl kc_i_0 ?_
  refine g_istore_n 2 2 [(2, .int 0), (0, .ref a0), (1, .int x1)] hX dX12_wrongSeats_1 rfl rfl (Nat.le_of_ble_eq_true rfl) rfl ?_
  refine g_aload_n 3 1 hX dX12_wrongSeats_2 rfl rfl ?_
  refine g_iload_n 4 2 hX dX12_wrongSeats_3 rfl rfl ?_
  refine g_iconst 5 hX 0 dX12_wrongSeats_4 rfl kc_i_0 ?_
  refine g_callV_ip 8 hX (k_X12_ofBoard l g N M a0 x1 0) lk_X12_ofBoard rfl (ci := 12) rfl (Nat.le_of_ble_eq_true rfl) q_1921 q_66 (by omega) rfl (Nat.le_of_ble_eq_true rfl) (Nat.zero_le _) (Nat.zero_le _) dX12_wrongSeats_5 rfl (fun r1 => ?_)
  refine g_ineg 9 hX dX12_wrongSeats_8 rfl ?_
  refine g_klI (fun v2 hv2 => ?_)
  refine g_istore_n 10 3 [(3, .int v2), (2, .int 0), (0, .ref a0), (1, .int x1)] hX dX12_wrongSeats_9 rfl rfl (Nat.le_of_ble_eq_true rfl) rfl ?_
  refine g_lv [2, 3, 1, 0] rfl ?_
  exact k_X12_wrongSeats_10 hX hr N M N a0 x1 0 v2
def F_X12_contradictions_23 (N : Nat) : Nat → kMem → Nat → Int32 → Int32 → Option (Int32 × kMem)
  | 0, _, _, _, _ => none
  | n + 1, M, a0, x1, x2 =>
    kg (kt M a0 12) <|
    kg (kin M (kR M a0 0) 13 7) <|
    if x2 < (kI M (kR M a0 0) (kx 7)) then (
      kg (kt M a0 12) <| (F_X12_torqueOf N M a0 x2).bind fun r4 =>
      kg (kt M a0 12) <| (F_X12_torqueByDistances N M a0 x2).bind fun r5 =>
      (F_X12_bare N M (r4 - r5)).bind fun r6 =>
      kg (kt M a0 12) <| (F_X12_wrongSeats N M a0 x2).bind fun r7 =>
      kl (x1 + (r6 + r7)) fun v8 =>
      kl (x2 + 1) fun v9 =>
      F_X12_contradictions_23 N n M a0 v8 v9) else
    some (x1, M)
def F_X12_contradictions (N : Nat) (M : kMem) (a0 : Nat) : Option (Int32 × kMem) :=
    kg (kt M a0 12) <| kl (ksI M a0 6 0) fun M1 =>
    kg (kt M1 a0 12) <|
    kg (kin M1 (kR M1 a0 0) 13 9) <|
    kg (kt M1 a0 12) <| (F_X12_allCoins N M1 a0).bind fun r2 =>
    (F_X12_bare N M1 ((kI M1 (kR M1 a0 0) (kx 9)) - r2)).bind fun r3 =>
    F_X12_contradictions_23 N N M1 a0 r3 0
set_option maxRecDepth 100000 in
set_option maxHeartbeats 4000000 in
theorem k_X12_contradictions_23 {p : Program} {l : Launch} {e : Env} {s : State} {m : MethodId} {args : Array Value} {below : List Frame} {meth : Method} {c : Code} {g : kG} (hX : Cok (p, l, e, { frames := 2 * 6, cells := 0, slots := 0, locals := 60 * 6 }, s, m, args, below, meth, c, cX12_contradictions, 3, RX12, g, 6)) (hr : meth.sig.returnType = (some .int)) (N : Nat) : ∀ (n : Nat) (M : kMem) (a0 : Nat) (x1 : Int32) (x2 : Int32), GG (p, l, e, { frames := 2 * 6, cells := 0, slots := 0, locals := 60 * 6 }, s, m, args, below, meth, c, cX12_contradictions, 3, RX12, g, 6) (fun b => MQ below (kQ g ((fun r : Int32 × kMem => (some (.int r.1), r.2)) b)) args s 0 0 (kZ g.2.2.1)) 0 0 (F_X12_contradictions_23 N n M a0 x1 x2) 23 [(0, .ref a0), (1, .int x1), (2, .int x2)] [] M := by
  intro n
  induction n with
  | zero => intro _ _ _ _; exact g_none
  | succ n ih =>
    intro M a0 x1 x2
    unfold F_X12_contradictions_23
    refine g_iload_n 24 2 hX dX12_contradictions_23 rfl rfl ?_
    refine g_aload_n 25 0 hX dX12_contradictions_24 rfl rfl ?_
    refine r_X12_7 28 hX dX12_contradictions_25 rfl ?_
    refine g_bipush 30 hX 7 dX12_contradictions_28 rfl kc_b_7 ?_
    refine g_iald 31 hX dX12_contradictions_30 rfl ?_
    refine g_icmp_ge 63 34 hX dX12_contradictions_31 (by decide) rfl (fun _ => ?_) (fun _ => ?_)
    · refine g_iload_n 64 1 hX dX12_contradictions_63 rfl rfl ?_
      exact g_iret hX hr rfl (Nat.le_refl 0) (Nat.le_refl 0) dX12_contradictions_64
    · refine g_iload_n 35 1 hX dX12_contradictions_34 rfl rfl ?_
      refine g_aload_n 36 0 hX dX12_contradictions_35 rfl rfl ?_
      refine g_iload_n 37 2 hX dX12_contradictions_36 rfl rfl ?_
      refine g_callV_ip 40 hX (k_X12_torqueOf l g N M a0 x2) lk_X12_torqueOf rfl (ci := 12) rfl (Nat.le_of_ble_eq_true rfl) q_2015 q_85 (by omega) rfl (Nat.le_of_ble_eq_true rfl) (Nat.zero_le _) (Nat.zero_le _) dX12_contradictions_37 rfl (fun r4 => ?_)
      refine g_aload_n 41 0 hX dX12_contradictions_40 rfl rfl ?_
      refine g_iload_n 42 2 hX dX12_contradictions_41 rfl rfl ?_
      refine g_callV_ip 45 hX (k_X12_torqueByDistances l g N M a0 x2) lk_X12_torqueByDistances rfl (ci := 12) rfl (Nat.le_of_ble_eq_true rfl) q_2381 q_123 (by omega) rfl (Nat.le_of_ble_eq_true rfl) (Nat.zero_le _) (Nat.zero_le _) dX12_contradictions_42 rfl (fun r5 => ?_)
      refine g_isub 46 hX dX12_contradictions_45 rfl ?_
      refine g_callS_ip 49 hX (k_X12_bare l g N M (r4 - r5)) lk_X12_bare q_2008 (by omega) rfl (Nat.le_of_ble_eq_true rfl) (Nat.zero_le _) (Nat.zero_le _) dX12_contradictions_46 rfl (fun r6 => ?_)
      refine g_aload_n 50 0 hX dX12_contradictions_49 rfl rfl ?_
      refine g_iload_n 51 2 hX dX12_contradictions_50 rfl rfl ?_
      refine g_callV_ip 54 hX (k_X12_wrongSeats l g N M a0 x2) lk_X12_wrongSeats rfl (ci := 12) rfl (Nat.le_of_ble_eq_true rfl) q_2389 q_125 (by omega) rfl (Nat.le_of_ble_eq_true rfl) (Nat.zero_le _) (Nat.zero_le _) dX12_contradictions_51 rfl (fun r7 => ?_)
      refine g_iadd 55 hX dX12_contradictions_54 rfl ?_
      refine g_iadd 56 hX dX12_contradictions_55 rfl ?_
      refine g_klI (fun v8 hv8 => ?_)
      refine g_istore_n 57 1 [(1, .int v8), (0, .ref a0), (2, .int x2)] hX dX12_contradictions_56 rfl rfl (Nat.le_of_ble_eq_true rfl) rfl ?_
      refine g_kl (fun v9 hv9 => ?_)
      refine g_iinc 60 2 2 v9 [(2, .int v9), (1, .int v8), (0, .ref a0)] hX dX12_contradictions_57 rfl rfl (by rw [hv9, kc_i_1]) (Nat.le_of_ble_eq_true rfl) rfl ?_
      refine g_goto 23 hX dX12_contradictions_60 (by decide) ?_
      refine g_lv [2, 1, 0] rfl ?_
      exact ih M a0 v8 v9
set_option maxRecDepth 100000 in
set_option maxHeartbeats 4000000 in
theorem k_X12_contradictions (l : Launch) (g : kG) (N : Nat) (M : kMem) (a0 : Nat) : kMet l g yX12_contradictions cX12_contradictions 3 (some .int) 6 0 0 [.ref a0] M (fun r : Int32 × kMem => (some (.int r.1), r.2)) (F_X12_contradictions N M a0) := by
  refine k_of (lv := [(0, .ref a0)]) RX12 (by decide) rfl rfl (Nat.le_of_ble_eq_true rfl) ?_
  intro p e s m args below meth c hX hr _
  unfold F_X12_contradictions
  refine g_aload_n 1 0 hX dX12_contradictions_0 rfl rfl ?_
  refine g_iconst 2 hX 0 dX12_contradictions_1 rfl kc_i_0 ?_
  refine p_X12_63 5 hX dX12_contradictions_2 rfl ?_
  refine g_klM (fun M1 hM1 => ?_)
  refine g_aload_n 6 0 hX dX12_contradictions_5 rfl rfl ?_
  refine r_X12_7 9 hX dX12_contradictions_6 rfl ?_
  refine g_bipush 11 hX 9 dX12_contradictions_9 rfl kc_b_9 ?_
  refine g_iald 12 hX dX12_contradictions_11 rfl ?_
  refine g_aload_n 13 0 hX dX12_contradictions_12 rfl rfl ?_
  refine g_callV_ip 16 hX (k_X12_allCoins l g N M1 a0) lk_X12_allCoins rfl (ci := 12) rfl (Nat.le_of_ble_eq_true rfl) q_1685 q_41 (by omega) rfl (Nat.le_of_ble_eq_true rfl) (Nat.zero_le _) (Nat.zero_le _) dX12_contradictions_13 rfl (fun r2 => ?_)
  refine g_isub 17 hX dX12_contradictions_16 rfl ?_
  refine g_callS_ip 20 hX (k_X12_bare l g N M1 ((kI M1 (kR M1 a0 0) (kx 9)) - r2)) lk_X12_bare q_2008 (by omega) rfl (Nat.le_of_ble_eq_true rfl) (Nat.zero_le _) (Nat.zero_le _) dX12_contradictions_17 rfl (fun r3 => ?_)
  refine g_istore_n 21 1 [(1, .int r3), (0, .ref a0)] hX dX12_contradictions_20 rfl rfl (Nat.le_of_ble_eq_true rfl) rfl ?_
  refine g_iconst 22 hX 0 dX12_contradictions_21 rfl kc_i_0 ?_
  refine g_istore_n 23 2 [(2, .int 0), (1, .int r3), (0, .ref a0)] hX dX12_contradictions_22 rfl rfl (Nat.le_of_ble_eq_true rfl) rfl ?_
  refine g_lv [2, 1, 0] rfl ?_
  exact k_X12_contradictions_23 hX hr N N M1 a0 r3 0
def F_X12_ofEvent (N : Nat) (M : kMem) (a0 : Nat) (x1 : Int32) (x2 : Int32) : Option (Int32 × kMem) :=
    kg (kt M a0 12) <| kl (ksI M a0 6 0) fun M1 =>
    kg (kt M1 a0 12) <|
    kg (kin M1 (kR M1 a0 0) 13 13) <|
    (F_X12_in N M1 x1.toInt64 0 (((kI M1 (kR M1 a0 0) (kx 13)) - 1).toInt64)).bind fun r2 =>
    if r2 = 0 then (
      some ((-1), M1)) else
    kg (kt M1 a0 12) <|
    kg (kin M1 (kR M1 a0 0) 13 ((257 + (3 * x1)) + x2)) <|
    some (kI M1 (kR M1 a0 0) (kx ((257 + (3 * x1)) + x2)), M1)
set_option maxRecDepth 100000 in
set_option maxHeartbeats 4000000 in
theorem k_X12_ofEvent (l : Launch) (g : kG) (N : Nat) (M : kMem) (a0 : Nat) (x1 : Int32) (x2 : Int32) : kMet l g yX12_ofEvent cX12_ofEvent 3 (some .int) 2 0 0 [.ref a0, .int x1, .int x2] M (fun r : Int32 × kMem => (some (.int r.1), r.2)) (F_X12_ofEvent N M a0 x1 x2) := by
  refine k_of (lv := [(0, .ref a0), (1, .int x1), (2, .int x2)]) RX12 (by decide) rfl rfl (Nat.le_of_ble_eq_true rfl) ?_
  intro p e s m args below meth c hX hr _
  unfold F_X12_ofEvent
  refine g_aload_n 1 0 hX dX12_ofEvent_0 rfl rfl ?_
  refine g_iconst 2 hX 0 dX12_ofEvent_1 rfl kc_i_0 ?_
  refine p_X12_63 5 hX dX12_ofEvent_2 rfl ?_
  refine g_klM (fun M1 hM1 => ?_)
  refine g_iload_n 6 1 hX dX12_ofEvent_5 rfl rfl ?_
  refine g_i2l 7 hX dX12_ofEvent_6 rfl ?_
  refine g_lconst 8 hX 0 dX12_ofEvent_7 rfl rfl ?_
  refine g_aload_n 9 0 hX dX12_ofEvent_8 rfl rfl ?_
  refine r_X12_7 12 hX dX12_ofEvent_9 rfl ?_
  refine g_bipush 14 hX 13 dX12_ofEvent_12 rfl kc_b_13 ?_
  refine g_iald 15 hX dX12_ofEvent_14 rfl ?_
  refine g_iconst 16 hX 1 dX12_ofEvent_15 rfl kc_i_1 ?_
  refine g_isub 17 hX dX12_ofEvent_16 rfl ?_
  refine g_i2l 18 hX dX12_ofEvent_17 rfl ?_
  refine g_callS_ip 21 hX (k_X12_in l g N M1 x1.toInt64 0 (((kI M1 (kR M1 a0 0) (kx 13)) - 1).toInt64)) lk_X12_in q_1808 (by omega) rfl (Nat.le_of_ble_eq_true rfl) (Nat.zero_le _) (Nat.zero_le _) dX12_ofEvent_18 rfl (fun r2 => ?_)
  refine g_if_eq 41 24 hX dX12_ofEvent_21 (by decide) rfl (fun _ => ?_) (fun _ => ?_)
  · refine g_iconst 42 hX (-1) dX12_ofEvent_41 rfl kc_i_m1 ?_
    exact g_iret hX hr rfl (Nat.le_refl 0) (Nat.le_refl 0) dX12_ofEvent_42
  · refine g_aload_n 25 0 hX dX12_ofEvent_24 rfl rfl ?_
    refine r_X12_7 28 hX dX12_ofEvent_25 rfl ?_
    refine g_sipush 31 hX 257 dX12_ofEvent_28 rfl kc_s_257 ?_
    refine g_iconst 32 hX 3 dX12_ofEvent_31 rfl kc_i_3 ?_
    refine g_iload_n 33 1 hX dX12_ofEvent_32 rfl rfl ?_
    refine g_imul 34 hX dX12_ofEvent_33 rfl ?_
    refine g_iadd 35 hX dX12_ofEvent_34 rfl ?_
    refine g_iload_n 36 2 hX dX12_ofEvent_35 rfl rfl ?_
    refine g_iadd 37 hX dX12_ofEvent_36 rfl ?_
    refine g_iald 38 hX dX12_ofEvent_37 rfl ?_
    refine g_goto 42 hX dX12_ofEvent_38 (by decide) ?_
    exact g_iret hX hr rfl (Nat.le_refl 0) (Nat.le_refl 0) dX12_ofEvent_42
def F_X12_eventKind (N : Nat) (M : kMem) (a0 : Nat) (x1 : Int32) : Option (Int32 × kMem) :=
    kg (kt M a0 12) <| (F_X12_ofEvent N M a0 x1 0).bind fun r1 =>
    some (r1.1, r1.2)
set_option maxRecDepth 100000 in
set_option maxHeartbeats 4000000 in
theorem k_X12_eventKind (l : Launch) (g : kG) (N : Nat) (M : kMem) (a0 : Nat) (x1 : Int32) : kMet l g yX12_eventKind cX12_eventKind 2 (some .int) 3 0 0 [.ref a0, .int x1] M (fun r : Int32 × kMem => (some (.int r.1), r.2)) (F_X12_eventKind N M a0 x1) := by
  refine k_of (lv := [(0, .ref a0), (1, .int x1)]) RX12 (by decide) rfl rfl (Nat.le_of_ble_eq_true rfl) ?_
  intro p e s m args below meth c hX hr _
  unfold F_X12_eventKind
  refine g_aload_n 1 0 hX dX12_eventKind_0 rfl rfl ?_
  refine g_iload_n 2 1 hX dX12_eventKind_1 rfl rfl ?_
  refine g_iconst 3 hX 0 dX12_eventKind_2 rfl kc_i_0 ?_
  refine g_callV_i 6 hX (k_X12_ofEvent l g N M a0 x1 0) lk_X12_ofEvent rfl (ci := 12) rfl (Nat.le_of_ble_eq_true rfl) q_2397 q_126 (by omega) rfl (Nat.le_of_ble_eq_true rfl) (Nat.zero_le _) (Nat.zero_le _) dX12_eventKind_3 rfl (fun r1 => ?_)
  exact g_iret hX hr rfl (Nat.le_refl 0) (Nat.le_refl 0) dX12_eventKind_6
def F_X12_eventTrader (N : Nat) (M : kMem) (a0 : Nat) (x1 : Int32) : Option (Int32 × kMem) :=
    kg (kt M a0 12) <| (F_X12_ofEvent N M a0 x1 1).bind fun r1 =>
    some (r1.1, r1.2)
set_option maxRecDepth 100000 in
set_option maxHeartbeats 4000000 in
theorem k_X12_eventTrader (l : Launch) (g : kG) (N : Nat) (M : kMem) (a0 : Nat) (x1 : Int32) : kMet l g yX12_eventTrader cX12_eventTrader 2 (some .int) 3 0 0 [.ref a0, .int x1] M (fun r : Int32 × kMem => (some (.int r.1), r.2)) (F_X12_eventTrader N M a0 x1) := by
  refine k_of (lv := [(0, .ref a0), (1, .int x1)]) RX12 (by decide) rfl rfl (Nat.le_of_ble_eq_true rfl) ?_
  intro p e s m args below meth c hX hr _
  unfold F_X12_eventTrader
  refine g_aload_n 1 0 hX dX12_eventTrader_0 rfl rfl ?_
  refine g_iload_n 2 1 hX dX12_eventTrader_1 rfl rfl ?_
  refine g_iconst 3 hX 1 dX12_eventTrader_2 rfl kc_i_1 ?_
  refine g_callV_i 6 hX (k_X12_ofEvent l g N M a0 x1 1) lk_X12_ofEvent rfl (ci := 12) rfl (Nat.le_of_ble_eq_true rfl) q_2397 q_126 (by omega) rfl (Nat.le_of_ble_eq_true rfl) (Nat.zero_le _) (Nat.zero_le _) dX12_eventTrader_3 rfl (fun r1 => ?_)
  exact g_iret hX hr rfl (Nat.le_refl 0) (Nat.le_refl 0) dX12_eventTrader_6
def F_X12_eventDay (N : Nat) (M : kMem) (a0 : Nat) (x1 : Int32) : Option (Int32 × kMem) :=
    kg (kt M a0 12) <| (F_X12_ofEvent N M a0 x1 2).bind fun r1 =>
    some (r1.1, r1.2)
set_option maxRecDepth 100000 in
set_option maxHeartbeats 4000000 in
theorem k_X12_eventDay (l : Launch) (g : kG) (N : Nat) (M : kMem) (a0 : Nat) (x1 : Int32) : kMet l g yX12_eventDay cX12_eventDay 2 (some .int) 3 0 0 [.ref a0, .int x1] M (fun r : Int32 × kMem => (some (.int r.1), r.2)) (F_X12_eventDay N M a0 x1) := by
  refine k_of (lv := [(0, .ref a0), (1, .int x1)]) RX12 (by decide) rfl rfl (Nat.le_of_ble_eq_true rfl) ?_
  intro p e s m args below meth c hX hr _
  unfold F_X12_eventDay
  refine g_aload_n 1 0 hX dX12_eventDay_0 rfl rfl ?_
  refine g_iload_n 2 1 hX dX12_eventDay_1 rfl rfl ?_
  refine g_iconst 3 hX 2 dX12_eventDay_2 rfl kc_i_2 ?_
  refine g_callV_i 6 hX (k_X12_ofEvent l g N M a0 x1 2) lk_X12_ofEvent rfl (ci := 12) rfl (Nat.le_of_ble_eq_true rfl) q_2397 q_126 (by omega) rfl (Nat.le_of_ble_eq_true rfl) (Nat.zero_le _) (Nat.zero_le _) dX12_eventDay_3 rfl (fun r1 => ?_)
  exact g_iret hX hr rfl (Nat.le_refl 0) (Nat.le_refl 0) dX12_eventDay_6
def F_X12_behind (N : Nat) (M : kMem) (a0 : Nat) (x1 : Int32) (x2 : Int32) : Option (Int32 × kMem) :=
    kg (kt M a0 12) <|
    kg (kt M a0 12) <|
    (F_X12_copies N M (kR M a0 0) 0 (kR M a0 1) 0).bind fun M1 =>
    kg (kt M1 a0 12) <| (F_X12_days1 N M1 a0 x2).bind fun r2 =>
    kl r2.1 fun v3 =>
    kg (kt r2.2 a0 12) <|
    kg (kin r2.2 (kR r2.2 a0 0) 13 x1) <|
    kl (kI r2.2 (kR r2.2 a0 0) (kx x1)) fun v4 =>
    kg (kt r2.2 a0 12) <|
    kg (kt r2.2 a0 12) <|
    (F_X12_copies N r2.2 (kR r2.2 a0 1) 0 (kR r2.2 a0 0) 0).bind fun M5 =>
    some (v4, M5)
set_option maxRecDepth 100000 in
set_option maxHeartbeats 4000000 in
theorem k_X12_behind (l : Launch) (g : kG) (N : Nat) (M : kMem) (a0 : Nat) (x1 : Int32) (x2 : Int32) : kMet l g yX12_behind cX12_behind 5 (some .int) 10 0 0 [.ref a0, .int x1, .int x2] M (fun r : Int32 × kMem => (some (.int r.1), r.2)) (F_X12_behind N M a0 x1 x2) := by
  refine k_of (lv := [(0, .ref a0), (1, .int x1), (2, .int x2)]) RX12 (by decide) rfl rfl (Nat.le_of_ble_eq_true rfl) ?_
  intro p e s m args below meth c hX hr _
  unfold F_X12_behind
  refine g_aload_n 1 0 hX dX12_behind_0 rfl rfl ?_
  refine r_X12_7 4 hX dX12_behind_1 rfl ?_
  refine g_iconst 5 hX 0 dX12_behind_4 rfl kc_i_0 ?_
  refine g_aload_n 6 0 hX dX12_behind_5 rfl rfl ?_
  refine r_X12_13 9 hX dX12_behind_6 rfl ?_
  refine g_iconst 10 hX 0 dX12_behind_9 rfl kc_i_0 ?_
  refine g_callS_v 13 hX (k_X12_copies l g N M (kR M a0 0) 0 (kR M a0 1) 0) lk_X12_copies q_1819 (by omega) rfl (Nat.le_of_ble_eq_true rfl) (Nat.zero_le _) (Nat.zero_le _) dX12_behind_10 rfl (fun M1 => ?_)
  refine g_aload_n 14 0 hX dX12_behind_13 rfl rfl ?_
  refine g_iload_n 15 2 hX dX12_behind_14 rfl rfl ?_
  refine g_callV_i 18 hX (k_X12_days1 l g N M1 a0 x2) lk_X12_days1 rfl (ci := 12) rfl (Nat.le_of_ble_eq_true rfl) q_2098 q_105 (by omega) rfl (Nat.le_of_ble_eq_true rfl) (Nat.zero_le _) (Nat.zero_le _) dX12_behind_15 rfl (fun r2 => ?_)
  refine g_klI (fun v3 hv3 => ?_)
  refine g_istore_n 19 3 [(3, .int v3), (0, .ref a0), (1, .int x1), (2, .int x2)] hX dX12_behind_18 rfl rfl (Nat.le_of_ble_eq_true rfl) rfl ?_
  refine g_aload_n 20 1 hX dX12_behind_19 rfl rfl ?_
  refine r_X12_7 23 hX dX12_behind_20 rfl ?_
  refine g_iload_n 24 2 hX dX12_behind_23 rfl rfl ?_
  refine g_iald 25 hX dX12_behind_24 rfl ?_
  refine g_klI (fun v4 hv4 => ?_)
  refine g_istore 27 4 [(4, .int v4), (3, .int v3), (0, .ref a0), (1, .int x1), (2, .int x2)] hX dX12_behind_25 rfl (Nat.le_of_ble_eq_true rfl) rfl ?_
  refine g_aload_n 28 2 hX dX12_behind_27 rfl rfl ?_
  refine r_X12_13 31 hX dX12_behind_28 rfl ?_
  refine g_iconst 32 hX 0 dX12_behind_31 rfl kc_i_0 ?_
  refine g_aload_n 33 2 hX dX12_behind_32 rfl rfl ?_
  refine r_X12_7 36 hX dX12_behind_33 rfl ?_
  refine g_iconst 37 hX 0 dX12_behind_36 rfl kc_i_0 ?_
  refine g_callS_v 40 hX (k_X12_copies l g N r2.2 (kR r2.2 a0 1) 0 (kR r2.2 a0 0) 0) lk_X12_copies q_1819 (by omega) rfl (Nat.le_of_ble_eq_true rfl) (Nat.zero_le _) (Nat.zero_le _) dX12_behind_37 rfl (fun M5 => ?_)
  refine g_iload 42 0 hX dX12_behind_40 rfl rfl ?_
  exact g_iret hX hr rfl (Nat.le_refl 0) (Nat.le_refl 0) dX12_behind_42
def F_X12_purseAfter_31 (N : Nat) (M : kMem) (a0 : Nat) (x1 : Int32) (x2 : Int32) (y0 : Nat) (y1 : Int32) : Option (Int32 × kMem) :=
    kg (kt M y0 12) <| (F_X12_stops N M y0 y1 2).bind fun r4 =>
    if r4.1 = 0 then (
      (F_X12_atTrader N r4.2 x1 2).bind fun r5 =>
      kg (kt r4.2 a0 12) <| (F_X12_behind N r4.2 a0 r5 x2).bind fun r6 =>
      some (r6.1, r6.2)) else
    some (0, r4.2)
def F_X12_purseAfter (N : Nat) (M : kMem) (a0 : Nat) (x1 : Int32) (x2 : Int32) : Option (Int32 × kMem) :=
    kg (kt M a0 12) <| kl (ksI M a0 6 0) fun M1 =>
    kg (kt M1 a0 12) <| (F_X12_noTrader N M1 a0 x1).bind fun r2 =>
    if r2.1 = 0 then (
      (F_X12_in N r2.2 x2.toInt64 0 100).bind fun r3 =>
      if r3 = 0 then (
        F_X12_purseAfter_31 N r2.2 a0 x1 x2 a0 1) else
      F_X12_purseAfter_31 N r2.2 a0 x1 x2 a0 0) else
    some (0, r2.2)
set_option maxRecDepth 100000 in
set_option maxHeartbeats 4000000 in
theorem k_X12_purseAfter_31 {p : Program} {l : Launch} {e : Env} {s : State} {m : MethodId} {args : Array Value} {below : List Frame} {meth : Method} {c : Code} {g : kG} (hX : Cok (p, l, e, { frames := 2 * 11, cells := 0, slots := 0, locals := 60 * 11 }, s, m, args, below, meth, c, cX12_purseAfter, 3, RX12, g, 11)) (hr : meth.sig.returnType = (some .int)) (N : Nat) : ∀ (M : kMem) (a0 : Nat) (x1 : Int32) (x2 : Int32) (y0 : Nat) (y1 : Int32), GG (p, l, e, { frames := 2 * 11, cells := 0, slots := 0, locals := 60 * 11 }, s, m, args, below, meth, c, cX12_purseAfter, 3, RX12, g, 11) (fun b => MQ below (kQ g ((fun r : Int32 × kMem => (some (.int r.1), r.2)) b)) args s 0 0 (kZ g.2.2.1)) 0 0 (F_X12_purseAfter_31 N M a0 x1 x2 y0 y1) 31 [(0, .ref a0), (1, .int x1), (2, .int x2)] [.int y1, .ref y0] M := by
  intro M a0 x1 x2 y0 y1
  unfold F_X12_purseAfter_31
  refine g_iconst 32 hX 2 dX12_purseAfter_31 rfl kc_i_2 ?_
  refine g_callV_i 35 hX (k_X12_stops l g N M y0 y1 2) lk_X12_stops rfl (ci := 12) rfl (Nat.le_of_ble_eq_true rfl) q_1796 q_44 (by omega) rfl (Nat.le_of_ble_eq_true rfl) (Nat.zero_le _) (Nat.zero_le _) dX12_purseAfter_32 rfl (fun r4 => ?_)
  refine g_if_eq 42 38 hX dX12_purseAfter_35 (by decide) rfl (fun _ => ?_) (fun _ => ?_)
  · refine g_aload_n 43 0 hX dX12_purseAfter_42 rfl rfl ?_
    refine g_iload_n 44 1 hX dX12_purseAfter_43 rfl rfl ?_
    refine g_iconst 45 hX 2 dX12_purseAfter_44 rfl kc_i_2 ?_
    refine g_callS_ip 48 hX (k_X12_atTrader l g N r4.2 x1 2) lk_X12_atTrader q_1675 (by omega) rfl (Nat.le_of_ble_eq_true rfl) (Nat.zero_le _) (Nat.zero_le _) dX12_purseAfter_45 rfl (fun r5 => ?_)
    refine g_iload_n 49 2 hX dX12_purseAfter_48 rfl rfl ?_
    refine g_callV_i 52 hX (k_X12_behind l g N r4.2 a0 r5 x2) lk_X12_behind rfl (ci := 12) rfl (Nat.le_of_ble_eq_true rfl) q_2414 q_127 (by omega) rfl (Nat.le_of_ble_eq_true rfl) (Nat.zero_le _) (Nat.zero_le _) dX12_purseAfter_49 rfl (fun r6 => ?_)
    exact g_iret hX hr rfl (Nat.le_refl 0) (Nat.le_refl 0) dX12_purseAfter_52
  · refine g_iconst 39 hX 0 dX12_purseAfter_38 rfl kc_i_0 ?_
    refine g_goto 52 hX dX12_purseAfter_39 (by decide) ?_
    exact g_iret hX hr rfl (Nat.le_refl 0) (Nat.le_refl 0) dX12_purseAfter_52
set_option maxRecDepth 100000 in
set_option maxHeartbeats 4000000 in
theorem k_X12_purseAfter (l : Launch) (g : kG) (N : Nat) (M : kMem) (a0 : Nat) (x1 : Int32) (x2 : Int32) : kMet l g yX12_purseAfter cX12_purseAfter 3 (some .int) 11 0 0 [.ref a0, .int x1, .int x2] M (fun r : Int32 × kMem => (some (.int r.1), r.2)) (F_X12_purseAfter N M a0 x1 x2) := by
  refine k_of (lv := [(0, .ref a0), (1, .int x1), (2, .int x2)]) RX12 (by decide) rfl rfl (Nat.le_of_ble_eq_true rfl) ?_
  intro p e s m args below meth c hX hr _
  unfold F_X12_purseAfter
  refine g_aload_n 1 0 hX dX12_purseAfter_0 rfl rfl ?_
  refine g_iconst 2 hX 0 dX12_purseAfter_1 rfl kc_i_0 ?_
  refine p_X12_63 5 hX dX12_purseAfter_2 rfl ?_
  refine g_klM (fun M1 hM1 => ?_)
  refine g_aload_n 6 0 hX dX12_purseAfter_5 rfl rfl ?_
  refine g_iload_n 7 1 hX dX12_purseAfter_6 rfl rfl ?_
  refine g_callV_i 10 hX (k_X12_noTrader l g N M1 a0 x1) lk_X12_noTrader rfl (ci := 12) rfl (Nat.le_of_ble_eq_true rfl) q_2148 q_113 (by omega) rfl (Nat.le_of_ble_eq_true rfl) (Nat.zero_le _) (Nat.zero_le _) dX12_purseAfter_7 rfl (fun r2 => ?_)
  refine g_if_ne 38 13 hX dX12_purseAfter_10 (by decide) rfl (fun _ => ?_) (fun _ => ?_)
  · refine g_iconst 39 hX 0 dX12_purseAfter_38 rfl kc_i_0 ?_
    refine g_goto 52 hX dX12_purseAfter_39 (by decide) ?_
    exact g_iret hX hr rfl (Nat.le_refl 0) (Nat.le_refl 0) dX12_purseAfter_52
  · refine g_aload_n 14 0 hX dX12_purseAfter_13 rfl rfl ?_
    refine g_iload_n 15 2 hX dX12_purseAfter_14 rfl rfl ?_
    refine g_i2l 16 hX dX12_purseAfter_15 rfl ?_
    refine g_lconst 17 hX 0 dX12_purseAfter_16 rfl rfl ?_
    refine g_ldc2 20 hX 100 dX12_purseAfter_17 rfl q_2413 ?_
    refine g_callS_ip 23 hX (k_X12_in l g N r2.2 x2.toInt64 0 100) lk_X12_in q_1808 (by omega) rfl (Nat.le_of_ble_eq_true rfl) (Nat.zero_le _) (Nat.zero_le _) dX12_purseAfter_20 rfl (fun r3 => ?_)
    refine g_if_ne 30 26 hX dX12_purseAfter_23 (by decide) rfl (fun _ => ?_) (fun _ => ?_)
    · refine g_iconst 31 hX 0 dX12_purseAfter_30 rfl kc_i_0 ?_
      exact k_X12_purseAfter_31 hX hr N r2.2 a0 x1 x2 a0 0
    · refine g_iconst 27 hX 1 dX12_purseAfter_26 rfl kc_i_1 ?_
      refine g_goto 31 hX dX12_purseAfter_27 (by decide) ?_
      exact k_X12_purseAfter_31 hX hr N r2.2 a0 x1 x2 a0 1
def F_X12_bankAfter_23 (N : Nat) (M : kMem) (a0 : Nat) (x1 : Int32) (y0 : Nat) (y1 : Int32) : Option (Int32 × kMem) :=
    kg (kt M y0 12) <| (F_X12_stops N M y0 y1 1).bind fun r3 =>
    if r3.1 = 0 then (
      kg (kt r3.2 a0 12) <| (F_X12_behind N r3.2 a0 5 x1).bind fun r4 =>
      some (r4.1, r4.2)) else
    some (0, r3.2)
def F_X12_bankAfter (N : Nat) (M : kMem) (a0 : Nat) (x1 : Int32) : Option (Int32 × kMem) :=
    kg (kt M a0 12) <| kl (ksI M a0 6 0) fun M1 =>
    (F_X12_in N M1 x1.toInt64 0 100).bind fun r2 =>
    if r2 = 0 then (
      F_X12_bankAfter_23 N M1 a0 x1 a0 1) else
    F_X12_bankAfter_23 N M1 a0 x1 a0 0
set_option maxRecDepth 100000 in
set_option maxHeartbeats 4000000 in
theorem k_X12_bankAfter_23 {p : Program} {l : Launch} {e : Env} {s : State} {m : MethodId} {args : Array Value} {below : List Frame} {meth : Method} {c : Code} {g : kG} (hX : Cok (p, l, e, { frames := 2 * 11, cells := 0, slots := 0, locals := 60 * 11 }, s, m, args, below, meth, c, cX12_bankAfter, 2, RX12, g, 11)) (hr : meth.sig.returnType = (some .int)) (N : Nat) : ∀ (M : kMem) (a0 : Nat) (x1 : Int32) (y0 : Nat) (y1 : Int32), GG (p, l, e, { frames := 2 * 11, cells := 0, slots := 0, locals := 60 * 11 }, s, m, args, below, meth, c, cX12_bankAfter, 2, RX12, g, 11) (fun b => MQ below (kQ g ((fun r : Int32 × kMem => (some (.int r.1), r.2)) b)) args s 0 0 (kZ g.2.2.1)) 0 0 (F_X12_bankAfter_23 N M a0 x1 y0 y1) 23 [(0, .ref a0), (1, .int x1)] [.int y1, .ref y0] M := by
  intro M a0 x1 y0 y1
  unfold F_X12_bankAfter_23
  refine g_iconst 24 hX 1 dX12_bankAfter_23 rfl kc_i_1 ?_
  refine g_callV_i 27 hX (k_X12_stops l g N M y0 y1 1) lk_X12_stops rfl (ci := 12) rfl (Nat.le_of_ble_eq_true rfl) q_1796 q_44 (by omega) rfl (Nat.le_of_ble_eq_true rfl) (Nat.zero_le _) (Nat.zero_le _) dX12_bankAfter_24 rfl (fun r3 => ?_)
  refine g_if_eq 34 30 hX dX12_bankAfter_27 (by decide) rfl (fun _ => ?_) (fun _ => ?_)
  · refine g_aload_n 35 0 hX dX12_bankAfter_34 rfl rfl ?_
    refine g_iconst 36 hX 5 dX12_bankAfter_35 rfl kc_i_5 ?_
    refine g_iload_n 37 1 hX dX12_bankAfter_36 rfl rfl ?_
    refine g_callV_i 40 hX (k_X12_behind l g N r3.2 a0 5 x1) lk_X12_behind rfl (ci := 12) rfl (Nat.le_of_ble_eq_true rfl) q_2414 q_127 (by omega) rfl (Nat.le_of_ble_eq_true rfl) (Nat.zero_le _) (Nat.zero_le _) dX12_bankAfter_37 rfl (fun r4 => ?_)
    exact g_iret hX hr rfl (Nat.le_refl 0) (Nat.le_refl 0) dX12_bankAfter_40
  · refine g_iconst 31 hX 0 dX12_bankAfter_30 rfl kc_i_0 ?_
    refine g_goto 40 hX dX12_bankAfter_31 (by decide) ?_
    exact g_iret hX hr rfl (Nat.le_refl 0) (Nat.le_refl 0) dX12_bankAfter_40
set_option maxRecDepth 100000 in
set_option maxHeartbeats 4000000 in
theorem k_X12_bankAfter (l : Launch) (g : kG) (N : Nat) (M : kMem) (a0 : Nat) (x1 : Int32) : kMet l g yX12_bankAfter cX12_bankAfter 2 (some .int) 11 0 0 [.ref a0, .int x1] M (fun r : Int32 × kMem => (some (.int r.1), r.2)) (F_X12_bankAfter N M a0 x1) := by
  refine k_of (lv := [(0, .ref a0), (1, .int x1)]) RX12 (by decide) rfl rfl (Nat.le_of_ble_eq_true rfl) ?_
  intro p e s m args below meth c hX hr _
  unfold F_X12_bankAfter
  refine g_aload_n 1 0 hX dX12_bankAfter_0 rfl rfl ?_
  refine g_iconst 2 hX 0 dX12_bankAfter_1 rfl kc_i_0 ?_
  refine p_X12_63 5 hX dX12_bankAfter_2 rfl ?_
  refine g_klM (fun M1 hM1 => ?_)
  refine g_aload_n 6 0 hX dX12_bankAfter_5 rfl rfl ?_
  refine g_iload_n 7 1 hX dX12_bankAfter_6 rfl rfl ?_
  refine g_i2l 8 hX dX12_bankAfter_7 rfl ?_
  refine g_lconst 9 hX 0 dX12_bankAfter_8 rfl rfl ?_
  refine g_ldc2 12 hX 100 dX12_bankAfter_9 rfl q_2413 ?_
  refine g_callS_ip 15 hX (k_X12_in l g N M1 x1.toInt64 0 100) lk_X12_in q_1808 (by omega) rfl (Nat.le_of_ble_eq_true rfl) (Nat.zero_le _) (Nat.zero_le _) dX12_bankAfter_12 rfl (fun r2 => ?_)
  refine g_if_ne 22 18 hX dX12_bankAfter_15 (by decide) rfl (fun _ => ?_) (fun _ => ?_)
  · refine g_iconst 23 hX 0 dX12_bankAfter_22 rfl kc_i_0 ?_
    exact k_X12_bankAfter_23 hX hr N M1 a0 x1 a0 0
  · refine g_iconst 19 hX 1 dX12_bankAfter_18 rfl kc_i_1 ?_
    refine g_goto 23 hX dX12_bankAfter_19 (by decide) ?_
    exact k_X12_bankAfter_23 hX hr N M1 a0 x1 a0 1
def F_X12_daysUntilFall_62 (N : Nat) (M : kMem) (a0 : Nat) (x1 : Int32) (x2 : Int32) : Option (Int32 × kMem) :=
    kg (kt M a0 12) <|
    kg (kt M a0 12) <|
    (F_X12_copies N M (kR M a0 1) 0 (kR M a0 0) 0).bind fun M5 =>
    kg (kt M5 a0 12) <|
    kg (kin M5 (kR M5 a0 7) 14 x1) <|
    if (kI M5 (kR M5 a0 7) (kx x1)) = 0 then (
      some ((-1), M5)) else
    some (x2, M5)
def F_X12_daysUntilFall_37 (N : Nat) : Nat → kMem → Nat → Int32 → Int32 → Option (Int32 × kMem)
  | 0, _, _, _, _ => none
  | n + 1, M, a0, x1, x2 =>
    if x2 < 100 then (
      kg (kt M a0 12) <|
      kg (kin M (kR M a0 7) 14 x1) <|
      if (kI M (kR M a0 7) (kx x1)) = 0 then (
        kg (kt M a0 12) <| (F_X12_day1 N M a0).bind fun M6 =>
        kl (x2 + 1) fun v7 =>
        F_X12_daysUntilFall_37 N n M6 a0 x1 v7) else
      F_X12_daysUntilFall_62 N M a0 x1 x2) else
    F_X12_daysUntilFall_62 N M a0 x1 x2
def F_X12_daysUntilFall (N : Nat) (M : kMem) (a0 : Nat) (x1 : Int32) : Option (Int32 × kMem) :=
    kg (kt M a0 12) <| kl (ksI M a0 6 0) fun M1 =>
    kg (kt M1 a0 12) <| (F_X12_noTrader N M1 a0 x1).bind fun r2 =>
    if r2.1 = 0 then (
      kg (kt r2.2 a0 12) <|
      kg (kt r2.2 a0 12) <|
      (F_X12_copies N r2.2 (kR r2.2 a0 0) 0 (kR r2.2 a0 1) 0).bind fun M3 =>
      kg (kt M3 a0 12) <|
      kg (kin M3 (kR M3 a0 7) 14 x1 && ((0 : Int32) == 0 || (0 : Int32) == 1)) <| kl (ksI M3 (kR M3 a0 7) (kx x1) 0) fun M4 =>
      F_X12_daysUntilFall_37 N N M4 a0 x1 0) else
    some (0, r2.2)
set_option maxRecDepth 100000 in
set_option maxHeartbeats 4000000 in
theorem k_X12_daysUntilFall_62 {p : Program} {l : Launch} {e : Env} {s : State} {m : MethodId} {args : Array Value} {below : List Frame} {meth : Method} {c : Code} {g : kG} (hX : Cok (p, l, e, { frames := 2 * 9, cells := 0, slots := 0, locals := 60 * 9 }, s, m, args, below, meth, c, cX12_daysUntilFall, 3, RX12, g, 9)) (hr : meth.sig.returnType = (some .int)) (N : Nat) : ∀ (M : kMem) (a0 : Nat) (x1 : Int32) (x2 : Int32), GG (p, l, e, { frames := 2 * 9, cells := 0, slots := 0, locals := 60 * 9 }, s, m, args, below, meth, c, cX12_daysUntilFall, 3, RX12, g, 9) (fun b => MQ below (kQ g ((fun r : Int32 × kMem => (some (.int r.1), r.2)) b)) args s 0 0 (kZ g.2.2.1)) 0 0 (F_X12_daysUntilFall_62 N M a0 x1 x2) 62 [(0, .ref a0), (1, .int x1), (2, .int x2)] [] M := by
  intro M a0 x1 x2
  unfold F_X12_daysUntilFall_62
  refine g_aload_n 63 0 hX dX12_daysUntilFall_62 rfl rfl ?_
  refine r_X12_13 66 hX dX12_daysUntilFall_63 rfl ?_
  refine g_iconst 67 hX 0 dX12_daysUntilFall_66 rfl kc_i_0 ?_
  refine g_aload_n 68 0 hX dX12_daysUntilFall_67 rfl rfl ?_
  refine r_X12_7 71 hX dX12_daysUntilFall_68 rfl ?_
  refine g_iconst 72 hX 0 dX12_daysUntilFall_71 rfl kc_i_0 ?_
  refine g_callS_v 75 hX (k_X12_copies l g N M (kR M a0 1) 0 (kR M a0 0) 0) lk_X12_copies q_1819 (by omega) rfl (Nat.le_of_ble_eq_true rfl) (Nat.zero_le _) (Nat.zero_le _) dX12_daysUntilFall_72 rfl (fun M5 => ?_)
  refine g_aload_n 76 0 hX dX12_daysUntilFall_75 rfl rfl ?_
  refine r_X12_26 79 hX dX12_daysUntilFall_76 rfl ?_
  refine g_iload_n 80 1 hX dX12_daysUntilFall_79 rfl rfl ?_
  refine g_zald 81 hX dX12_daysUntilFall_80 rfl ?_
  refine g_if_eq 88 84 hX dX12_daysUntilFall_81 (by decide) rfl (fun _ => ?_) (fun _ => ?_)
  · refine g_iconst 89 hX (-1) dX12_daysUntilFall_88 rfl kc_i_m1 ?_
    exact g_iret hX hr rfl (Nat.le_refl 0) (Nat.le_refl 0) dX12_daysUntilFall_89
  · refine g_iload_n 85 2 hX dX12_daysUntilFall_84 rfl rfl ?_
    refine g_goto 89 hX dX12_daysUntilFall_85 (by decide) ?_
    exact g_iret hX hr rfl (Nat.le_refl 0) (Nat.le_refl 0) dX12_daysUntilFall_89
set_option maxRecDepth 100000 in
set_option maxHeartbeats 4000000 in
theorem k_X12_daysUntilFall_37 {p : Program} {l : Launch} {e : Env} {s : State} {m : MethodId} {args : Array Value} {below : List Frame} {meth : Method} {c : Code} {g : kG} (hX : Cok (p, l, e, { frames := 2 * 9, cells := 0, slots := 0, locals := 60 * 9 }, s, m, args, below, meth, c, cX12_daysUntilFall, 3, RX12, g, 9)) (hr : meth.sig.returnType = (some .int)) (N : Nat) : ∀ (n : Nat) (M : kMem) (a0 : Nat) (x1 : Int32) (x2 : Int32), GG (p, l, e, { frames := 2 * 9, cells := 0, slots := 0, locals := 60 * 9 }, s, m, args, below, meth, c, cX12_daysUntilFall, 3, RX12, g, 9) (fun b => MQ below (kQ g ((fun r : Int32 × kMem => (some (.int r.1), r.2)) b)) args s 0 0 (kZ g.2.2.1)) 0 0 (F_X12_daysUntilFall_37 N n M a0 x1 x2) 37 [(0, .ref a0), (1, .int x1), (2, .int x2)] [] M := by
  intro n
  induction n with
  | zero => intro _ _ _ _; exact g_none
  | succ n ih =>
    intro M a0 x1 x2
    unfold F_X12_daysUntilFall_37
    refine g_iload_n 38 2 hX dX12_daysUntilFall_37 rfl rfl ?_
    refine g_bipush 40 hX 100 dX12_daysUntilFall_38 rfl kc_b_100 ?_
    refine g_icmp_ge 62 43 hX dX12_daysUntilFall_40 (by decide) rfl (fun _ => ?_) (fun _ => ?_)
    · exact k_X12_daysUntilFall_62 hX hr N M a0 x1 x2
    · refine g_aload_n 44 0 hX dX12_daysUntilFall_43 rfl rfl ?_
      refine r_X12_26 47 hX dX12_daysUntilFall_44 rfl ?_
      refine g_iload_n 48 1 hX dX12_daysUntilFall_47 rfl rfl ?_
      refine g_zald 49 hX dX12_daysUntilFall_48 rfl ?_
      refine g_if_ne 62 52 hX dX12_daysUntilFall_49 (by decide) rfl (fun _ => ?_) (fun _ => ?_)
      · exact k_X12_daysUntilFall_62 hX hr N M a0 x1 x2
      · refine g_aload_n 53 0 hX dX12_daysUntilFall_52 rfl rfl ?_
        refine g_callV_v 56 hX (k_X12_day1 l g N M a0) lk_X12_day1 rfl (ci := 12) rfl (Nat.le_of_ble_eq_true rfl) q_2102 q_106 (by omega) rfl (Nat.le_of_ble_eq_true rfl) (Nat.zero_le _) (Nat.zero_le _) dX12_daysUntilFall_53 rfl (fun M6 => ?_)
        refine g_kl (fun v7 hv7 => ?_)
        refine g_iinc 59 2 2 v7 [(2, .int v7), (0, .ref a0), (1, .int x1)] hX dX12_daysUntilFall_56 rfl rfl (by rw [hv7, kc_i_1]) (Nat.le_of_ble_eq_true rfl) rfl ?_
        refine g_goto 37 hX dX12_daysUntilFall_59 (by decide) ?_
        refine g_lv [1, 2, 0] rfl ?_
        exact ih M6 a0 x1 v7
set_option maxRecDepth 100000 in
set_option maxHeartbeats 4000000 in
theorem k_X12_daysUntilFall (l : Launch) (g : kG) (N : Nat) (M : kMem) (a0 : Nat) (x1 : Int32) : kMet l g yX12_daysUntilFall cX12_daysUntilFall 3 (some .int) 9 0 0 [.ref a0, .int x1] M (fun r : Int32 × kMem => (some (.int r.1), r.2)) (F_X12_daysUntilFall N M a0 x1) := by
  refine k_of (lv := [(0, .ref a0), (1, .int x1)]) RX12 (by decide) rfl rfl (Nat.le_of_ble_eq_true rfl) ?_
  intro p e s m args below meth c hX hr _
  unfold F_X12_daysUntilFall
  refine g_aload_n 1 0 hX dX12_daysUntilFall_0 rfl rfl ?_
  refine g_iconst 2 hX 0 dX12_daysUntilFall_1 rfl kc_i_0 ?_
  refine p_X12_63 5 hX dX12_daysUntilFall_2 rfl ?_
  refine g_klM (fun M1 hM1 => ?_)
  refine g_aload_n 6 0 hX dX12_daysUntilFall_5 rfl rfl ?_
  refine g_iload_n 7 1 hX dX12_daysUntilFall_6 rfl rfl ?_
  refine g_callV_i 10 hX (k_X12_noTrader l g N M1 a0 x1) lk_X12_noTrader rfl (ci := 12) rfl (Nat.le_of_ble_eq_true rfl) q_2148 q_113 (by omega) rfl (Nat.le_of_ble_eq_true rfl) (Nat.zero_le _) (Nat.zero_le _) dX12_daysUntilFall_7 rfl (fun r2 => ?_)
  refine g_if_eq 15 13 hX dX12_daysUntilFall_10 (by decide) rfl (fun _ => ?_) (fun _ => ?_)
  · refine g_aload_n 16 0 hX dX12_daysUntilFall_15 rfl rfl ?_
    refine r_X12_7 19 hX dX12_daysUntilFall_16 rfl ?_
    refine g_iconst 20 hX 0 dX12_daysUntilFall_19 rfl kc_i_0 ?_
    refine g_aload_n 21 0 hX dX12_daysUntilFall_20 rfl rfl ?_
    refine r_X12_13 24 hX dX12_daysUntilFall_21 rfl ?_
    refine g_iconst 25 hX 0 dX12_daysUntilFall_24 rfl kc_i_0 ?_
    refine g_callS_v 28 hX (k_X12_copies l g N r2.2 (kR r2.2 a0 0) 0 (kR r2.2 a0 1) 0) lk_X12_copies q_1819 (by omega) rfl (Nat.le_of_ble_eq_true rfl) (Nat.zero_le _) (Nat.zero_le _) dX12_daysUntilFall_25 rfl (fun M3 => ?_)
    refine g_aload_n 29 0 hX dX12_daysUntilFall_28 rfl rfl ?_
    refine r_X12_26 32 hX dX12_daysUntilFall_29 rfl ?_
    refine g_iload_n 33 1 hX dX12_daysUntilFall_32 rfl rfl ?_
    refine g_iconst 34 hX 0 dX12_daysUntilFall_33 rfl kc_i_0 ?_
    refine g_zast 35 hX dX12_daysUntilFall_34 rfl ?_
    refine g_klM (fun M4 hM4 => ?_)
    refine g_iconst 36 hX 0 dX12_daysUntilFall_35 rfl kc_i_0 ?_
    refine g_istore_n 37 2 [(2, .int 0), (0, .ref a0), (1, .int x1)] hX dX12_daysUntilFall_36 rfl rfl (Nat.le_of_ble_eq_true rfl) rfl ?_
    refine g_lv [1, 2, 0] rfl ?_
    exact k_X12_daysUntilFall_37 hX hr N N M4 a0 x1 0
  · refine g_iconst 14 hX 0 dX12_daysUntilFall_13 rfl kc_i_0 ?_
    exact g_iret hX hr rfl (Nat.le_refl 0) (Nat.le_refl 0) dX12_daysUntilFall_14
def F_X12_daysUntilRetirement (N : Nat) (M : kMem) (a0 : Nat) (x1 : Int32) : Option (Int32 × kMem) :=
    kg (kt M a0 12) <| kl (ksI M a0 6 0) fun M1 =>
    kg (kt M1 a0 12) <| (F_X12_noTrader N M1 a0 x1).bind fun r2 =>
    if r2.1 = 0 then (
      kg (kt r2.2 a0 12) <| (F_X12_has N r2.2 a0 x1 4).bind fun r3 =>
      if r3 = 0 then (
        some (0, r2.2)) else
      kg (kt r2.2 a0 12) <|
      kg (kin r2.2 (kR r2.2 a0 0) 13 3) <|
      kg (kt r2.2 a0 12) <| (F_X12_has N r2.2 a0 x1 3).bind fun r4 =>
      some (((kI r2.2 (kR r2.2 a0 0) (kx 3)) + 1) - r4, r2.2)) else
    some (0, r2.2)
set_option maxRecDepth 100000 in
set_option maxHeartbeats 4000000 in
theorem k_X12_daysUntilRetirement (l : Launch) (g : kG) (N : Nat) (M : kMem) (a0 : Nat) (x1 : Int32) : kMet l g yX12_daysUntilRetirement cX12_daysUntilRetirement 2 (some .int) 3 0 0 [.ref a0, .int x1] M (fun r : Int32 × kMem => (some (.int r.1), r.2)) (F_X12_daysUntilRetirement N M a0 x1) := by
  refine k_of (lv := [(0, .ref a0), (1, .int x1)]) RX12 (by decide) rfl rfl (Nat.le_of_ble_eq_true rfl) ?_
  intro p e s m args below meth c hX hr _
  unfold F_X12_daysUntilRetirement
  refine g_aload_n 1 0 hX dX12_daysUntilRetirement_0 rfl rfl ?_
  refine g_iconst 2 hX 0 dX12_daysUntilRetirement_1 rfl kc_i_0 ?_
  refine p_X12_63 5 hX dX12_daysUntilRetirement_2 rfl ?_
  refine g_klM (fun M1 hM1 => ?_)
  refine g_aload_n 6 0 hX dX12_daysUntilRetirement_5 rfl rfl ?_
  refine g_iload_n 7 1 hX dX12_daysUntilRetirement_6 rfl rfl ?_
  refine g_callV_i 10 hX (k_X12_noTrader l g N M1 a0 x1) lk_X12_noTrader rfl (ci := 12) rfl (Nat.le_of_ble_eq_true rfl) q_2148 q_113 (by omega) rfl (Nat.le_of_ble_eq_true rfl) (Nat.zero_le _) (Nat.zero_le _) dX12_daysUntilRetirement_7 rfl (fun r2 => ?_)
  refine g_if_ne 22 13 hX dX12_daysUntilRetirement_10 (by decide) rfl (fun _ => ?_) (fun _ => ?_)
  · refine g_iconst 23 hX 0 dX12_daysUntilRetirement_22 rfl kc_i_0 ?_
    refine g_goto 41 hX dX12_daysUntilRetirement_23 (by decide) ?_
    exact g_iret hX hr rfl (Nat.le_refl 0) (Nat.le_refl 0) dX12_daysUntilRetirement_41
  · refine g_aload_n 14 0 hX dX12_daysUntilRetirement_13 rfl rfl ?_
    refine g_iload_n 15 1 hX dX12_daysUntilRetirement_14 rfl rfl ?_
    refine g_iconst 16 hX 4 dX12_daysUntilRetirement_15 rfl kc_i_4 ?_
    refine g_callV_ip 19 hX (k_X12_has l g N r2.2 a0 x1 4) lk_X12_has rfl (ci := 12) rfl (Nat.le_of_ble_eq_true rfl) q_1689 q_42 (by omega) rfl (Nat.le_of_ble_eq_true rfl) (Nat.zero_le _) (Nat.zero_le _) dX12_daysUntilRetirement_16 rfl (fun r3 => ?_)
    refine g_if_ne 26 22 hX dX12_daysUntilRetirement_19 (by decide) rfl (fun _ => ?_) (fun _ => ?_)
    · refine g_aload_n 27 0 hX dX12_daysUntilRetirement_26 rfl rfl ?_
      refine r_X12_7 30 hX dX12_daysUntilRetirement_27 rfl ?_
      refine g_iconst 31 hX 3 dX12_daysUntilRetirement_30 rfl kc_i_3 ?_
      refine g_iald 32 hX dX12_daysUntilRetirement_31 rfl ?_
      refine g_iconst 33 hX 1 dX12_daysUntilRetirement_32 rfl kc_i_1 ?_
      refine g_iadd 34 hX dX12_daysUntilRetirement_33 rfl ?_
      refine g_aload_n 35 0 hX dX12_daysUntilRetirement_34 rfl rfl ?_
      refine g_iload_n 36 1 hX dX12_daysUntilRetirement_35 rfl rfl ?_
      refine g_iconst 37 hX 3 dX12_daysUntilRetirement_36 rfl kc_i_3 ?_
      refine g_callV_ip 40 hX (k_X12_has l g N r2.2 a0 x1 3) lk_X12_has rfl (ci := 12) rfl (Nat.le_of_ble_eq_true rfl) q_1689 q_42 (by omega) rfl (Nat.le_of_ble_eq_true rfl) (Nat.zero_le _) (Nat.zero_le _) dX12_daysUntilRetirement_37 rfl (fun r4 => ?_)
      refine g_isub 41 hX dX12_daysUntilRetirement_40 rfl ?_
      exact g_iret hX hr rfl (Nat.le_refl 0) (Nat.le_refl 0) dX12_daysUntilRetirement_41
    · refine g_iconst 23 hX 0 dX12_daysUntilRetirement_22 rfl kc_i_0 ?_
      refine g_goto 41 hX dX12_daysUntilRetirement_23 (by decide) ?_
      exact g_iret hX hr rfl (Nat.le_refl 0) (Nat.le_refl 0) dX12_daysUntilRetirement_41
def F_X12_writes (N : Nat) (M : kMem) (a0 : Nat) (x1 : Int32) : Option (kMem) :=
    kg (kt M a0 12) <|
    kg (kt M a0 12) <|
    kg (kin M (kR M a0 28) 13 (kI M a0 29)) <| kl (ksI M (kR M a0 28) (kx (kI M a0 29)) x1) fun M1 =>
    kg (kt M1 a0 12) <|
    kg (kt M1 a0 12) <| kl (ksI M1 a0 29 ((kI M1 a0 29) + 1)) fun M2 =>
    some M2
set_option maxRecDepth 100000 in
set_option maxHeartbeats 4000000 in
theorem k_X12_writes (l : Launch) (g : kG) (N : Nat) (M : kMem) (a0 : Nat) (x1 : Int32) : kMet l g yX12_writes cX12_writes 2 none 1 0 0 [.ref a0, .int x1] M (fun r : kMem => (none, r)) (F_X12_writes N M a0 x1) := by
  refine k_of (lv := [(0, .ref a0), (1, .int x1)]) RX12 (by decide) rfl rfl (Nat.le_of_ble_eq_true rfl) ?_
  intro p e s m args below meth c hX hr _
  unfold F_X12_writes
  refine g_aload_n 1 0 hX dX12_writes_0 rfl rfl ?_
  refine r_X12_45 4 hX dX12_writes_1 rfl ?_
  refine g_aload_n 5 0 hX dX12_writes_4 rfl rfl ?_
  refine r_X12_484 8 hX dX12_writes_5 rfl ?_
  refine g_iload_n 9 1 hX dX12_writes_8 rfl rfl ?_
  refine g_iast 10 hX dX12_writes_9 rfl ?_
  refine g_klM (fun M1 hM1 => ?_)
  refine g_aload_n 11 0 hX dX12_writes_10 rfl rfl ?_
  refine g_dup 12 hX dX12_writes_11 rfl rfl ?_
  refine r_X12_484 15 hX dX12_writes_12 rfl ?_
  refine g_iconst 16 hX 1 dX12_writes_15 rfl kc_i_1 ?_
  refine g_iadd 17 hX dX12_writes_16 rfl ?_
  refine p_X12_484 20 hX dX12_writes_17 rfl ?_
  refine g_klM (fun M2 hM2 => ?_)
  exact g_vret hX hr rfl (Nat.le_refl 0) (Nat.le_refl 0) dX12_writes_20
def F_X12_writesSeat_22 (N : Nat) : Nat → kMem → Nat → Int32 → Int32 → Option (kMem)
  | 0, _, _, _, _ => none
  | n + 1, M, a0, x3, x4 =>
    kg (kt M a0 12) <| (F_X12_has N M a0 x3 0).bind fun r2 =>
    (F_X12_lettersOf N M r2).bind fun r3 =>
    if x4 < r3 then (
      kg (kt M a0 12) <| (F_X12_has N M a0 x3 0).bind fun r4 =>
      (F_X12_letterOf N M r4 x4).bind fun r5 =>
      kg (kt M a0 12) <| (F_X12_writes N M a0 r5).bind fun M6 =>
      kl (x4 + 1) fun v7 =>
      F_X12_writesSeat_22 N n M6 a0 x3 v7) else
    some M
def F_X12_writesSeat (N : Nat) (M : kMem) (a0 : Nat) (x1 : Int32) (x2 : Int32) : Option (kMem) :=
    kg (kt M a0 12) <| (F_X12_onSeat N M a0 x1 x2).bind fun r1 =>
    if r1 = (-1) then (
      kg (kt M a0 12) <| (F_X12_writes N M a0 46).bind fun M8 =>
      some M8) else
    F_X12_writesSeat_22 N N M a0 r1 0
set_option maxRecDepth 100000 in
set_option maxHeartbeats 4000000 in
theorem k_X12_writesSeat_22 {p : Program} {l : Launch} {e : Env} {s : State} {m : MethodId} {args : Array Value} {below : List Frame} {meth : Method} {c : Code} {g : kG} (hX : Cok (p, l, e, { frames := 2 * 4, cells := 0, slots := 0, locals := 60 * 4 }, s, m, args, below, meth, c, cX12_writesSeat, 5, RX12, g, 4)) (hr : meth.sig.returnType = none) (N : Nat) : ∀ (n : Nat) (M : kMem) (a0 : Nat) (x3 : Int32) (x4 : Int32), GG (p, l, e, { frames := 2 * 4, cells := 0, slots := 0, locals := 60 * 4 }, s, m, args, below, meth, c, cX12_writesSeat, 5, RX12, g, 4) (fun b => MQ below (kQ g ((fun r : kMem => (none, r)) b)) args s 0 0 (kZ g.2.2.1)) 0 0 (F_X12_writesSeat_22 N n M a0 x3 x4) 22 [(0, .ref a0), (3, .int x3), (4, .int x4)] [] M := by
  intro n
  induction n with
  | zero => intro _ _ _ _; exact g_none
  | succ n ih =>
    intro M a0 x3 x4
    unfold F_X12_writesSeat_22
    refine g_iload 24 2 hX dX12_writesSeat_22 rfl rfl ?_
    refine g_aload_n 25 0 hX dX12_writesSeat_24 rfl rfl ?_
    refine g_iload_n 26 1 hX dX12_writesSeat_25 rfl rfl ?_
    refine g_iconst 27 hX 0 dX12_writesSeat_26 rfl kc_i_0 ?_
    refine g_callV_ip 30 hX (k_X12_has l g N M a0 x3 0) lk_X12_has rfl (ci := 12) rfl (Nat.le_of_ble_eq_true rfl) q_1689 q_42 (by omega) rfl (Nat.le_of_ble_eq_true rfl) (Nat.zero_le _) (Nat.zero_le _) dX12_writesSeat_27 rfl (fun r2 => ?_)
    refine g_callS_ip 33 hX (k_X12_lettersOf l g N M r2) lk_X12_lettersOf q_2286 (by omega) rfl (Nat.le_of_ble_eq_true rfl) (Nat.zero_le _) (Nat.zero_le _) dX12_writesSeat_30 rfl (fun r3 => ?_)
    refine g_icmp_ge 57 36 hX dX12_writesSeat_33 (by decide) rfl (fun _ => ?_) (fun _ => ?_)
    · exact g_vret hX hr rfl (Nat.le_refl 0) (Nat.le_refl 0) dX12_writesSeat_57
    · refine g_aload_n 37 0 hX dX12_writesSeat_36 rfl rfl ?_
      refine g_aload_n 38 0 hX dX12_writesSeat_37 rfl rfl ?_
      refine g_iload_n 39 1 hX dX12_writesSeat_38 rfl rfl ?_
      refine g_iconst 40 hX 0 dX12_writesSeat_39 rfl kc_i_0 ?_
      refine g_callV_ip 43 hX (k_X12_has l g N M a0 x3 0) lk_X12_has rfl (ci := 12) rfl (Nat.le_of_ble_eq_true rfl) q_1689 q_42 (by omega) rfl (Nat.le_of_ble_eq_true rfl) (Nat.zero_le _) (Nat.zero_le _) dX12_writesSeat_40 rfl (fun r4 => ?_)
      refine g_iload 45 2 hX dX12_writesSeat_43 rfl rfl ?_
      refine g_callS_ip 48 hX (k_X12_letterOf l g N M r4 x4) lk_X12_letterOf q_2283 (by omega) rfl (Nat.le_of_ble_eq_true rfl) (Nat.zero_le _) (Nat.zero_le _) dX12_writesSeat_45 rfl (fun r5 => ?_)
      refine g_callV_v 51 hX (k_X12_writes l g N M a0 r5) lk_X12_writes rfl (ci := 12) rfl (Nat.le_of_ble_eq_true rfl) q_2434 q_128 (by omega) rfl (Nat.le_of_ble_eq_true rfl) (Nat.zero_le _) (Nat.zero_le _) dX12_writesSeat_48 rfl (fun M6 => ?_)
      refine g_kl (fun v7 hv7 => ?_)
      refine g_iinc 54 4 2 v7 [(4, .int v7), (0, .ref a0), (3, .int x3)] hX dX12_writesSeat_51 rfl rfl (by rw [hv7, kc_i_1]) (Nat.le_of_ble_eq_true rfl) rfl ?_
      refine g_goto 22 hX dX12_writesSeat_54 (by decide) ?_
      refine g_lv [1, 2, 0] rfl ?_
      exact ih M6 a0 x3 v7
set_option maxRecDepth 100000 in
set_option maxHeartbeats 4000000 in
theorem k_X12_writesSeat (l : Launch) (g : kG) (N : Nat) (M : kMem) (a0 : Nat) (x1 : Int32) (x2 : Int32) : kMet l g yX12_writesSeat cX12_writesSeat 5 none 4 0 0 [.ref a0, .int x1, .int x2] M (fun r : kMem => (none, r)) (F_X12_writesSeat N M a0 x1 x2) := by
  refine k_of (lv := [(0, .ref a0), (1, .int x1), (2, .int x2)]) RX12 (by decide) rfl rfl (Nat.le_of_ble_eq_true rfl) ?_
  intro p e s m args below meth c hX hr _
  unfold F_X12_writesSeat
  refine g_aload_n 1 0 hX dX12_writesSeat_0 rfl rfl ?_
  refine g_iload_n 2 1 hX dX12_writesSeat_1 rfl rfl ?_
  refine g_iload_n 3 2 hX dX12_writesSeat_2 rfl rfl ?_
  refine g_callV_ip 6 hX (k_X12_onSeat l g N M a0 x1 x2) lk_X12_onSeat rfl (ci := 12) rfl (Nat.le_of_ble_eq_true rfl) q_1925 q_67 (by omega) rfl (Nat.le_of_ble_eq_true rfl) (Nat.zero_le _) (Nat.zero_le _) dX12_writesSeat_3 rfl (fun r1 => ?_)
  refine g_istore_n 7 3 [(3, .int r1), (0, .ref a0), (1, .int x1), (2, .int x2)] hX dX12_writesSeat_6 rfl rfl (Nat.le_of_ble_eq_true rfl) rfl ?_
  refine g_iload_n 8 0 hX dX12_writesSeat_7 rfl rfl ?_
  refine g_iconst 9 hX (-1) dX12_writesSeat_8 rfl kc_i_m1 ?_
  refine g_icmp_ne 19 12 hX dX12_writesSeat_9 (by decide) rfl (fun _ => ?_) (fun _ => ?_)
  · refine g_iconst 20 hX 0 dX12_writesSeat_19 rfl kc_i_0 ?_
    refine g_istore 22 4 [(4, .int 0), (3, .int r1), (0, .ref a0), (1, .int x1), (2, .int x2)] hX dX12_writesSeat_20 rfl (Nat.le_of_ble_eq_true rfl) rfl ?_
    refine g_lv [2, 1, 0] rfl ?_
    exact k_X12_writesSeat_22 hX hr N N M a0 r1 0
  · refine g_aload_n 13 1 hX dX12_writesSeat_12 rfl rfl ?_
    refine g_bipush 15 hX 46 dX12_writesSeat_13 rfl kc_b_46 ?_
    refine g_callV_v 18 hX (k_X12_writes l g N M a0 46) lk_X12_writes rfl (ci := 12) rfl (Nat.le_of_ble_eq_true rfl) q_2434 q_128 (by omega) rfl (Nat.le_of_ble_eq_true rfl) (Nat.zero_le _) (Nat.zero_le _) dX12_writesSeat_15 rfl (fun M8 => ?_)
    exact g_vret hX hr rfl (Nat.le_refl 0) (Nat.le_refl 0) dX12_writesSeat_18
def F_X12_writeBoard_51 (N : Nat) (k28 : kMem → Nat → Int32 → Int32 → Option (Int32 × kMem)) (M : kMem) (a0 : Nat) (x1 : Int32) (x2 : Int32) : Option (Int32 × kMem) :=
    if x2 = 0 then (
      kg (kt M a0 12) <| (F_X12_writes N M a0 94).bind fun M9 =>
      kl (x2 + 1) fun v10 =>
      k28 M9 a0 x1 v10) else
    kg (kt M a0 12) <| (F_X12_writesSeat N M a0 x1 x2).bind fun M7 =>
    kl (x2 + 1) fun v8 =>
    k28 M7 a0 x1 v8
def F_X12_writeBoard_28 (N : Nat) : Nat → kMem → Nat → Int32 → Int32 → Option (Int32 × kMem)
  | 0, _, _, _, _ => none
  | n + 1, M, a0, x1, x2 =>
    kg (kt M a0 12) <| (F_X12_ofBoard N M a0 x1 0).bind fun r6 =>
    if r6 < x2 then (
      kg (kt M a0 12) <|
      some (kI M a0 29, M)) else
    kg (kt M a0 12) <|
    if (0 : Int32) < (kI M a0 29) then (
      kg (kt M a0 12) <| (F_X12_writes N M a0 32).bind fun M11 =>
      F_X12_writeBoard_51 N (fun M a0 x1 x2 => F_X12_writeBoard_28 N n M a0 x1 x2) M11 a0 x1 x2) else
    F_X12_writeBoard_51 N (fun M a0 x1 x2 => F_X12_writeBoard_28 N n M a0 x1 x2) M a0 x1 x2
def F_X12_writeBoard (N : Nat) (M : kMem) (a0 : Nat) (x1 : Int32) : Option (Int32 × kMem) :=
    kg (kt M a0 12) <| kl (ksI M a0 6 0) fun M1 =>
    kg (kt M1 a0 12) <| (F_X12_noBoard N M1 a0 x1).bind fun r2 =>
    if r2.1 = 0 then (
      kg (kt r2.2 a0 12) <| kl (ksI r2.2 a0 29 0) fun M3 =>
      kg (kt M3 a0 12) <| (F_X12_ofBoard N M3 a0 x1 0).bind fun r4 =>
      kl (-r4) fun v5 =>
      F_X12_writeBoard_28 N N M3 a0 x1 v5) else
    some (0, r2.2)
set_option maxRecDepth 100000 in
set_option maxHeartbeats 4000000 in
theorem k_X12_writeBoard_51 {p : Program} {l : Launch} {e : Env} {s : State} {m : MethodId} {args : Array Value} {below : List Frame} {meth : Method} {c : Code} {g : kG} (hX : Cok (p, l, e, { frames := 2 * 5, cells := 0, slots := 0, locals := 60 * 5 }, s, m, args, below, meth, c, cX12_writeBoard, 3, RX12, g, 5)) (hr : meth.sig.returnType = (some .int)) (N : Nat) (k28 : kMem → Nat → Int32 → Int32 → Option (Int32 × kMem)) (h28 : ∀ (M : kMem) (a0 : Nat) (x1 : Int32) (x2 : Int32), GG (p, l, e, { frames := 2 * 5, cells := 0, slots := 0, locals := 60 * 5 }, s, m, args, below, meth, c, cX12_writeBoard, 3, RX12, g, 5) (fun b => MQ below (kQ g ((fun r : Int32 × kMem => (some (.int r.1), r.2)) b)) args s 0 0 (kZ g.2.2.1)) 0 0 (k28 M a0 x1 x2) 28 [(0, .ref a0), (1, .int x1), (2, .int x2)] [] M) : ∀ (M : kMem) (a0 : Nat) (x1 : Int32) (x2 : Int32), GG (p, l, e, { frames := 2 * 5, cells := 0, slots := 0, locals := 60 * 5 }, s, m, args, below, meth, c, cX12_writeBoard, 3, RX12, g, 5) (fun b => MQ below (kQ g ((fun r : Int32 × kMem => (some (.int r.1), r.2)) b)) args s 0 0 (kZ g.2.2.1)) 0 0 (F_X12_writeBoard_51 N k28 M a0 x1 x2) 51 [(0, .ref a0), (1, .int x1), (2, .int x2)] [] M := by
  intro M a0 x1 x2
  unfold F_X12_writeBoard_51
  refine g_iload_n 52 2 hX dX12_writeBoard_51 rfl rfl ?_
  refine g_if_ne 64 55 hX dX12_writeBoard_52 (by decide) rfl (fun _ => ?_) (fun _ => ?_)
  · refine g_aload_n 65 0 hX dX12_writeBoard_64 rfl rfl ?_
    refine g_iload_n 66 1 hX dX12_writeBoard_65 rfl rfl ?_
    refine g_iload_n 67 2 hX dX12_writeBoard_66 rfl rfl ?_
    refine g_callV_v 70 hX (k_X12_writesSeat l g N M a0 x1 x2) lk_X12_writesSeat rfl (ci := 12) rfl (Nat.le_of_ble_eq_true rfl) q_2438 q_129 (by omega) rfl (Nat.le_of_ble_eq_true rfl) (Nat.zero_le _) (Nat.zero_le _) dX12_writeBoard_67 rfl (fun M7 => ?_)
    refine g_kl (fun v8 hv8 => ?_)
    refine g_iinc 73 2 2 v8 [(2, .int v8), (0, .ref a0), (1, .int x1)] hX dX12_writeBoard_70 rfl rfl (by rw [hv8, kc_i_1]) (Nat.le_of_ble_eq_true rfl) rfl ?_
    refine g_goto 28 hX dX12_writeBoard_73 (by decide) ?_
    refine g_lv [1, 2, 0] rfl ?_
    exact h28 M7 a0 x1 v8
  · refine g_aload_n 56 0 hX dX12_writeBoard_55 rfl rfl ?_
    refine g_bipush 58 hX 94 dX12_writeBoard_56 rfl kc_b_94 ?_
    refine g_callV_v 61 hX (k_X12_writes l g N M a0 94) lk_X12_writes rfl (ci := 12) rfl (Nat.le_of_ble_eq_true rfl) q_2434 q_128 (by omega) rfl (Nat.le_of_ble_eq_true rfl) (Nat.zero_le _) (Nat.zero_le _) dX12_writeBoard_58 rfl (fun M9 => ?_)
    refine g_goto 70 hX dX12_writeBoard_61 (by decide) ?_
    refine g_kl (fun v10 hv10 => ?_)
    refine g_iinc 73 2 2 v10 [(2, .int v10), (0, .ref a0), (1, .int x1)] hX dX12_writeBoard_70 rfl rfl (by rw [hv10, kc_i_1]) (Nat.le_of_ble_eq_true rfl) rfl ?_
    refine g_goto 28 hX dX12_writeBoard_73 (by decide) ?_
    refine g_lv [1, 2, 0] rfl ?_
    exact h28 M9 a0 x1 v10
set_option maxRecDepth 100000 in
set_option maxHeartbeats 4000000 in
theorem k_X12_writeBoard_28 {p : Program} {l : Launch} {e : Env} {s : State} {m : MethodId} {args : Array Value} {below : List Frame} {meth : Method} {c : Code} {g : kG} (hX : Cok (p, l, e, { frames := 2 * 5, cells := 0, slots := 0, locals := 60 * 5 }, s, m, args, below, meth, c, cX12_writeBoard, 3, RX12, g, 5)) (hr : meth.sig.returnType = (some .int)) (N : Nat) : ∀ (n : Nat) (M : kMem) (a0 : Nat) (x1 : Int32) (x2 : Int32), GG (p, l, e, { frames := 2 * 5, cells := 0, slots := 0, locals := 60 * 5 }, s, m, args, below, meth, c, cX12_writeBoard, 3, RX12, g, 5) (fun b => MQ below (kQ g ((fun r : Int32 × kMem => (some (.int r.1), r.2)) b)) args s 0 0 (kZ g.2.2.1)) 0 0 (F_X12_writeBoard_28 N n M a0 x1 x2) 28 [(0, .ref a0), (1, .int x1), (2, .int x2)] [] M := by
  intro n
  induction n with
  | zero => intro _ _ _ _; exact g_none
  | succ n ih =>
    intro M a0 x1 x2
    unfold F_X12_writeBoard_28
    refine g_iload_n 29 2 hX dX12_writeBoard_28 rfl rfl ?_
    refine g_aload_n 30 0 hX dX12_writeBoard_29 rfl rfl ?_
    refine g_iload_n 31 1 hX dX12_writeBoard_30 rfl rfl ?_
    refine g_iconst 32 hX 0 dX12_writeBoard_31 rfl kc_i_0 ?_
    refine g_callV_ip 35 hX (k_X12_ofBoard l g N M a0 x1 0) lk_X12_ofBoard rfl (ci := 12) rfl (Nat.le_of_ble_eq_true rfl) q_1921 q_66 (by omega) rfl (Nat.le_of_ble_eq_true rfl) (Nat.zero_le _) (Nat.zero_le _) dX12_writeBoard_32 rfl (fun r6 => ?_)
    refine g_icmp_gt 76 38 hX dX12_writeBoard_35 (by decide) rfl (fun _ => ?_) (fun _ => ?_)
    · refine g_aload_n 77 0 hX dX12_writeBoard_76 rfl rfl ?_
      refine r_X12_484 80 hX dX12_writeBoard_77 rfl ?_
      exact g_iret hX hr rfl (Nat.le_refl 0) (Nat.le_refl 0) dX12_writeBoard_80
    · refine g_aload_n 39 0 hX dX12_writeBoard_38 rfl rfl ?_
      refine r_X12_484 42 hX dX12_writeBoard_39 rfl ?_
      refine g_if_le 51 45 hX dX12_writeBoard_42 (by decide) rfl (fun _ => ?_) (fun _ => ?_)
      · exact k_X12_writeBoard_51 hX hr N (fun M a0 x1 x2 => F_X12_writeBoard_28 N n M a0 x1 x2) ih M a0 x1 x2
      · refine g_aload_n 46 0 hX dX12_writeBoard_45 rfl rfl ?_
        refine g_bipush 48 hX 32 dX12_writeBoard_46 rfl kc_b_32 ?_
        refine g_callV_v 51 hX (k_X12_writes l g N M a0 32) lk_X12_writes rfl (ci := 12) rfl (Nat.le_of_ble_eq_true rfl) q_2434 q_128 (by omega) rfl (Nat.le_of_ble_eq_true rfl) (Nat.zero_le _) (Nat.zero_le _) dX12_writeBoard_48 rfl (fun M11 => ?_)
        exact k_X12_writeBoard_51 hX hr N (fun M a0 x1 x2 => F_X12_writeBoard_28 N n M a0 x1 x2) ih M11 a0 x1 x2
set_option maxRecDepth 100000 in
set_option maxHeartbeats 4000000 in
theorem k_X12_writeBoard (l : Launch) (g : kG) (N : Nat) (M : kMem) (a0 : Nat) (x1 : Int32) : kMet l g yX12_writeBoard cX12_writeBoard 3 (some .int) 5 0 0 [.ref a0, .int x1] M (fun r : Int32 × kMem => (some (.int r.1), r.2)) (F_X12_writeBoard N M a0 x1) := by
  refine k_of (lv := [(0, .ref a0), (1, .int x1)]) RX12 (by decide) rfl rfl (Nat.le_of_ble_eq_true rfl) ?_
  intro p e s m args below meth c hX hr _
  unfold F_X12_writeBoard
  refine g_aload_n 1 0 hX dX12_writeBoard_0 rfl rfl ?_
  refine g_iconst 2 hX 0 dX12_writeBoard_1 rfl kc_i_0 ?_
  refine p_X12_63 5 hX dX12_writeBoard_2 rfl ?_
  refine g_klM (fun M1 hM1 => ?_)
  refine g_aload_n 6 0 hX dX12_writeBoard_5 rfl rfl ?_
  refine g_iload_n 7 1 hX dX12_writeBoard_6 rfl rfl ?_
  refine g_callV_i 10 hX (k_X12_noBoard l g N M1 a0 x1) lk_X12_noBoard rfl (ci := 12) rfl (Nat.le_of_ble_eq_true rfl) q_2156 q_115 (by omega) rfl (Nat.le_of_ble_eq_true rfl) (Nat.zero_le _) (Nat.zero_le _) dX12_writeBoard_7 rfl (fun r2 => ?_)
  refine g_if_eq 15 13 hX dX12_writeBoard_10 (by decide) rfl (fun _ => ?_) (fun _ => ?_)
  · refine g_aload_n 16 0 hX dX12_writeBoard_15 rfl rfl ?_
    refine g_iconst 17 hX 0 dX12_writeBoard_16 rfl kc_i_0 ?_
    refine p_X12_484 20 hX dX12_writeBoard_17 rfl ?_
    refine g_klM (fun M3 hM3 => ?_)
    refine g_aload_n 21 0 hX dX12_writeBoard_20 rfl rfl ?_
    refine g_iload_n 22 1 hX dX12_writeBoard_21 rfl rfl ?_
    refine g_iconst 23 hX 0 dX12_writeBoard_22 rfl kc_i_0 ?_
    refine g_callV_ip 26 hX (k_X12_ofBoard l g N M3 a0 x1 0) lk_X12_ofBoard rfl (ci := 12) rfl (Nat.le_of_ble_eq_true rfl) q_1921 q_66 (by omega) rfl (Nat.le_of_ble_eq_true rfl) (Nat.zero_le _) (Nat.zero_le _) dX12_writeBoard_23 rfl (fun r4 => ?_)
    refine g_ineg 27 hX dX12_writeBoard_26 rfl ?_
    refine g_klI (fun v5 hv5 => ?_)
    refine g_istore_n 28 2 [(2, .int v5), (0, .ref a0), (1, .int x1)] hX dX12_writeBoard_27 rfl rfl (Nat.le_of_ble_eq_true rfl) rfl ?_
    refine g_lv [1, 2, 0] rfl ?_
    exact k_X12_writeBoard_28 hX hr N N M3 a0 x1 v5
  · refine g_iconst 14 hX 0 dX12_writeBoard_13 rfl kc_i_0 ?_
    exact g_iret hX hr rfl (Nat.le_refl 0) (Nat.le_refl 0) dX12_writeBoard_14
def F_X12_outputByte (N : Nat) (M : kMem) (a0 : Nat) (x1 : Int32) : Option (Int32 × kMem) :=
    kg (kt M a0 12) <| kl (ksI M a0 6 0) fun M1 =>
    kg (kt M1 a0 12) <|
    (F_X12_in N M1 x1.toInt64 0 (((kI M1 a0 29) - 1).toInt64)).bind fun r2 =>
    if r2 = 0 then (
      some ((-1), M1)) else
    kg (kt M1 a0 12) <|
    kg (kin M1 (kR M1 a0 28) 13 x1) <|
    some (kI M1 (kR M1 a0 28) (kx x1), M1)
set_option maxRecDepth 100000 in
set_option maxHeartbeats 4000000 in
theorem k_X12_outputByte (l : Launch) (g : kG) (N : Nat) (M : kMem) (a0 : Nat) (x1 : Int32) : kMet l g yX12_outputByte cX12_outputByte 2 (some .int) 2 0 0 [.ref a0, .int x1] M (fun r : Int32 × kMem => (some (.int r.1), r.2)) (F_X12_outputByte N M a0 x1) := by
  refine k_of (lv := [(0, .ref a0), (1, .int x1)]) RX12 (by decide) rfl rfl (Nat.le_of_ble_eq_true rfl) ?_
  intro p e s m args below meth c hX hr _
  unfold F_X12_outputByte
  refine g_aload_n 1 0 hX dX12_outputByte_0 rfl rfl ?_
  refine g_iconst 2 hX 0 dX12_outputByte_1 rfl kc_i_0 ?_
  refine p_X12_63 5 hX dX12_outputByte_2 rfl ?_
  refine g_klM (fun M1 hM1 => ?_)
  refine g_iload_n 6 1 hX dX12_outputByte_5 rfl rfl ?_
  refine g_i2l 7 hX dX12_outputByte_6 rfl ?_
  refine g_lconst 8 hX 0 dX12_outputByte_7 rfl rfl ?_
  refine g_aload_n 9 0 hX dX12_outputByte_8 rfl rfl ?_
  refine r_X12_484 12 hX dX12_outputByte_9 rfl ?_
  refine g_iconst 13 hX 1 dX12_outputByte_12 rfl kc_i_1 ?_
  refine g_isub 14 hX dX12_outputByte_13 rfl ?_
  refine g_i2l 15 hX dX12_outputByte_14 rfl ?_
  refine g_callS_ip 18 hX (k_X12_in l g N M1 x1.toInt64 0 (((kI M1 a0 29) - 1).toInt64)) lk_X12_in q_1808 (by omega) rfl (Nat.le_of_ble_eq_true rfl) (Nat.zero_le _) (Nat.zero_le _) dX12_outputByte_15 rfl (fun r2 => ?_)
  refine g_if_eq 30 21 hX dX12_outputByte_18 (by decide) rfl (fun _ => ?_) (fun _ => ?_)
  · refine g_iconst 31 hX (-1) dX12_outputByte_30 rfl kc_i_m1 ?_
    exact g_iret hX hr rfl (Nat.le_refl 0) (Nat.le_refl 0) dX12_outputByte_31
  · refine g_aload_n 22 0 hX dX12_outputByte_21 rfl rfl ?_
    refine r_X12_45 25 hX dX12_outputByte_22 rfl ?_
    refine g_iload_n 26 1 hX dX12_outputByte_25 rfl rfl ?_
    refine g_iald 27 hX dX12_outputByte_26 rfl ?_
    refine g_goto 31 hX dX12_outputByte_27 (by decide) ?_
    exact g_iret hX hr rfl (Nat.le_refl 0) (Nat.le_refl 0) dX12_outputByte_31
