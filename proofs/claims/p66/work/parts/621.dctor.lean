set_option maxRecDepth 100000 in
set_option maxHeartbeats 4000000 in
theorem k_X8_init_b {p : Program} {l : Launch} {e : Env} {s : State} {m : MethodId} {args : Array Value} {below : List Frame} {meth : Method} {c : Code} {g : kG} (hX : Cok (p, l, e, { frames := 1, cells := 1, slots := 800, locals := 60 * 1 }, s, m, args, below, meth, c, cX8_init, 1, RX8, g, 1)) (hr : meth.sig.returnType = none) {L : Nat} (hsz : s.heap.size = g.2.2.1 + 1 + L) (hnm : meth.name = "<init>") (N : Nat) (M : kMem) (a0 : Nat) : GG (p, l, e, { frames := 1, cells := 1, slots := 800, locals := 60 * 1 }, s, m, args, below, meth, c, cX8_init, 1, RX8, g, 1) (fun b : kMem => MQ below (kQA g (none, b)) args s 1 800 (kZ g.2.2.1)) (M.1.length - L) (ksl L M) (F_X8_init_b N L M a0) 0 [(0, .ref a0)] [] M := by
  unfold F_X8_init_b
  refine g_aload_n 1 0 hX dX8_init_0 rfl rfl ?_
  refine g_guard (fun hg1 => ?_)
  refine g_objInit 4 hX (of_decide_eq_true hg1) q_102 q_oi q_oc (by decide) (Nat.le_of_ble_eq_true rfl) dX8_init_1 rfl ?_
  refine g_aload_n 5 0 hX dX8_init_4 rfl rfl ?_
  refine g_sipush 8 hX 800 dX8_init_5 rfl kc_s_800 ?_
  refine g_newaI 10 hX (z := 800) (by decide) (by decide) hsz (mc := 1) (ms := 800) (Nat.le_refl _) (Nat.le_refl _) dX8_init_8 rfl ?_
  refine g_klMn (fun M1 hM1 => ?_)
  refine g_klR (fun w2 hw2 => ?_)
  refine g_putFR 13 hX (ci := 8) (f := 0) (i := 9) (C := RX8) (T := TX8) (N := 2) rfl (Nat.le_of_ble_eq_true rfl) inX8 (Nat.le_of_ble_eq_true rfl) (kw 103 (by decide +kernel) rfl) tyX8_ok nmX8 rfl rfl hnm rfl (ty := (.array .int)) (by decide +kernel) (Or.inr ⟨_, rfl⟩) rfl dX8_init_10 rfl ?_
  refine g_klMA rfl (fun M3 hM3 => ?_)
  exact g_vretA hX hr hsz rfl dX8_init_13
set_option maxRecDepth 100000 in
set_option maxHeartbeats 4000000 in
theorem k_X8_init (l : Launch) (g : kG) (N : Nat) (M : kMem) (a0 : Nat) : kMetA l g yX8_init cX8_init 1 none 1 1 800 [.ref a0] M (fun r : kMem => (none, r)) (F_X8_init N M a0) := by
  refine k_ofA (lv := [(0, .ref a0)]) RX8 (by decide) rfl rfl (Nat.le_of_ble_eq_true rfl) ?_
  intro p e s m args below meth c hX hr hnm hsz
  exact g_startA (k_X8_init_b hX hr hsz hnm N M a0)
set_option maxRecDepth 100000 in
set_option maxHeartbeats 4000000 in
theorem k_X0_init_b {p : Program} {l : Launch} {e : Env} {s : State} {m : MethodId} {args : Array Value} {below : List Frame} {meth : Method} {c : Code} {g : kG} (hX : Cok (p, l, e, { frames := 1, cells := 1, slots := 13, locals := 60 * 1 }, s, m, args, below, meth, c, cX0_init, 2, RX0, g, 1)) (hr : meth.sig.returnType = none) {L : Nat} (hsz : s.heap.size = g.2.2.1 + 1 + L) (hnm : meth.name = "<init>") (N : Nat) (M : kMem) (a0 : Nat) (x1 : Int32) : GG (p, l, e, { frames := 1, cells := 1, slots := 13, locals := 60 * 1 }, s, m, args, below, meth, c, cX0_init, 2, RX0, g, 1) (fun b : kMem => MQ below (kQA g (none, b)) args s 1 13 (kZ g.2.2.1)) (M.1.length - L) (ksl L M) (F_X0_init_b N L M a0 x1) 0 [(0, .ref a0), (1, .int x1)] [] M := by
  unfold F_X0_init_b
  refine g_aload_n 1 0 hX dX0_init_0 rfl rfl ?_
  refine g_guard (fun hg1 => ?_)
  refine g_objInit 4 hX (of_decide_eq_true hg1) q_224 q_oi q_oc (by decide) (Nat.le_of_ble_eq_true rfl) dX0_init_1 rfl ?_
  refine g_aload_n 5 0 hX dX0_init_4 rfl rfl ?_
  refine g_bipush 7 hX 13 dX0_init_5 rfl kc_b_13 ?_
  refine g_newaI 9 hX (z := 13) (by decide) (by decide) hsz (mc := 1) (ms := 13) (Nat.le_refl _) (Nat.le_refl _) dX0_init_7 rfl ?_
  refine g_klMn (fun M1 hM1 => ?_)
  refine g_klR (fun w2 hw2 => ?_)
  refine g_putFR 12 hX (ci := 0) (f := 4) (i := 9) (C := RX0) (T := TX0) (N := 5) rfl (Nat.le_of_ble_eq_true rfl) inX0 (Nat.le_of_ble_eq_true rfl) (kw 232 (by decide +kernel) rfl) tyX0_ok nmX0 rfl rfl hnm rfl (ty := (.array .int)) (by decide +kernel) (Or.inr ⟨_, rfl⟩) rfl dX0_init_9 rfl ?_
  refine g_klMA rfl (fun M3 hM3 => ?_)
  refine g_aload_n 13 0 hX dX0_init_12 rfl rfl ?_
  refine g_iload_n 14 1 hX dX0_init_13 rfl rfl ?_
  refine g_putFI 17 hX (ci := 0) (f := 0) (i := 15) (C := RX0) (T := TX0) (N := 5) rfl (Nat.le_of_ble_eq_true rfl) inX0 (Nat.le_of_ble_eq_true rfl) (kw 225 (by decide +kernel) rfl) tyX0_ok nmX0 rfl rfl hnm rfl (by decide +kernel) rfl dX0_init_14 rfl ?_
  refine g_klMA rfl (fun M4 hM4 => ?_)
  exact g_vretA hX hr hsz rfl dX0_init_17
set_option maxRecDepth 100000 in
set_option maxHeartbeats 4000000 in
theorem k_X0_init (l : Launch) (g : kG) (N : Nat) (M : kMem) (a0 : Nat) (x1 : Int32) : kMetA l g yX0_init cX0_init 2 none 1 1 13 [.ref a0, .int x1] M (fun r : kMem => (none, r)) (F_X0_init N M a0 x1) := by
  refine k_ofA (lv := [(0, .ref a0), (1, .int x1)]) RX0 (by decide) rfl rfl (Nat.le_of_ble_eq_true rfl) ?_
  intro p e s m args below meth c hX hr hnm hsz
  exact g_startA (k_X0_init_b hX hr hsz hnm N M a0 x1)
set_option maxRecDepth 100000 in
set_option maxHeartbeats 4000000 in
theorem k_X2_init_b {p : Program} {l : Launch} {e : Env} {s : State} {m : MethodId} {args : Array Value} {below : List Frame} {meth : Method} {c : Code} {g : kG} (hX : Cok (p, l, e, { frames := 1, cells := 3, slots := 36, locals := 60 * 1 }, s, m, args, below, meth, c, cX2_init, 1, RX2, g, 1)) (hr : meth.sig.returnType = none) {L : Nat} (hsz : s.heap.size = g.2.2.1 + 1 + L) (hnm : meth.name = "<init>") (N : Nat) (M : kMem) (a0 : Nat) : GG (p, l, e, { frames := 1, cells := 3, slots := 36, locals := 60 * 1 }, s, m, args, below, meth, c, cX2_init, 1, RX2, g, 1) (fun b : kMem => MQ below (kQA g (none, b)) args s 3 36 (kZ g.2.2.1)) (M.1.length - L) (ksl L M) (F_X2_init_b N L M a0) 0 [(0, .ref a0)] [] M := by
  unfold F_X2_init_b
  refine g_aload_n 1 0 hX dX2_init_0 rfl rfl ?_
  refine g_guard (fun hg1 => ?_)
  refine g_objInit 4 hX (of_decide_eq_true hg1) q_205 q_oi q_oc (by decide) (Nat.le_of_ble_eq_true rfl) dX2_init_1 rfl ?_
  refine g_aload_n 5 0 hX dX2_init_4 rfl rfl ?_
  refine g_bipush 7 hX 12 dX2_init_5 rfl kc_b_12 ?_
  refine g_newaI 9 hX (z := 12) (by decide) (by decide) hsz (mc := 3) (ms := 36) (Nat.le_refl _) (Nat.le_refl _) dX2_init_7 rfl ?_
  refine g_klMn (fun M1 hM1 => ?_)
  refine g_klR (fun w2 hw2 => ?_)
  refine g_putFR 12 hX (ci := 2) (f := 0) (i := 9) (C := RX2) (T := TX2) (N := 4) rfl (Nat.le_of_ble_eq_true rfl) inX2 (Nat.le_of_ble_eq_true rfl) (kw 206 (by decide +kernel) rfl) tyX2_ok nmX2 rfl rfl hnm rfl (ty := (.array .int)) (by decide +kernel) (Or.inr ⟨_, rfl⟩) rfl dX2_init_9 rfl ?_
  refine g_klMA rfl (fun M3 hM3 => ?_)
  refine g_aload_n 13 0 hX dX2_init_12 rfl rfl ?_
  refine g_bipush 15 hX 12 dX2_init_13 rfl kc_b_12 ?_
  refine g_newaI 17 hX (z := 12) (by decide) (by decide) hsz (mc := 3) (ms := 36) (Nat.le_refl _) (Nat.le_refl _) dX2_init_15 rfl ?_
  refine g_klMn (fun M4 hM4 => ?_)
  refine g_klR (fun w5 hw5 => ?_)
  refine g_putFR 20 hX (ci := 2) (f := 1) (i := 15) (C := RX2) (T := TX2) (N := 4) rfl (Nat.le_of_ble_eq_true rfl) inX2 (Nat.le_of_ble_eq_true rfl) (kw 207 (by decide +kernel) rfl) tyX2_ok nmX2 rfl rfl hnm rfl (ty := (.array .int)) (by decide +kernel) (Or.inr ⟨_, rfl⟩) rfl dX2_init_17 rfl ?_
  refine g_klMA rfl (fun M6 hM6 => ?_)
  refine g_aload_n 21 0 hX dX2_init_20 rfl rfl ?_
  refine g_bipush 23 hX 12 dX2_init_21 rfl kc_b_12 ?_
  refine g_newaI 25 hX (z := 12) (by decide) (by decide) hsz (mc := 3) (ms := 36) (Nat.le_refl _) (Nat.le_refl _) dX2_init_23 rfl ?_
  refine g_klMn (fun M7 hM7 => ?_)
  refine g_klR (fun w8 hw8 => ?_)
  refine g_putFR 28 hX (ci := 2) (f := 2) (i := 18) (C := RX2) (T := TX2) (N := 4) rfl (Nat.le_of_ble_eq_true rfl) inX2 (Nat.le_of_ble_eq_true rfl) (kw 208 (by decide +kernel) rfl) tyX2_ok nmX2 rfl rfl hnm rfl (ty := (.array .int)) (by decide +kernel) (Or.inr ⟨_, rfl⟩) rfl dX2_init_25 rfl ?_
  refine g_klMA rfl (fun M9 hM9 => ?_)
  exact g_vretA hX hr hsz rfl dX2_init_28
set_option maxRecDepth 100000 in
set_option maxHeartbeats 4000000 in
theorem k_X2_init (l : Launch) (g : kG) (N : Nat) (M : kMem) (a0 : Nat) : kMetA l g yX2_init cX2_init 1 none 1 3 36 [.ref a0] M (fun r : kMem => (none, r)) (F_X2_init N M a0) := by
  refine k_ofA (lv := [(0, .ref a0)]) RX2 (by decide) rfl rfl (Nat.le_of_ble_eq_true rfl) ?_
  intro p e s m args below meth c hX hr hnm hsz
  exact g_startA (k_X2_init_b hX hr hsz hnm N M a0)
set_option maxRecDepth 100000 in
set_option maxHeartbeats 4000000 in
theorem k_X10_init_b {p : Program} {l : Launch} {e : Env} {s : State} {m : MethodId} {args : Array Value} {below : List Frame} {meth : Method} {c : Code} {g : kG} (hX : Cok (p, l, e, { frames := 1, cells := 0, slots := 0, locals := 60 * 1 }, s, m, args, below, meth, c, cX10_init, 2, RX10, g, 1)) (hr : meth.sig.returnType = none) {L : Nat} (hsz : s.heap.size = g.2.2.1 + 1 + L) (hnm : meth.name = "<init>") (N : Nat) (M : kMem) (a0 : Nat) (x1 : Int32) : GG (p, l, e, { frames := 1, cells := 0, slots := 0, locals := 60 * 1 }, s, m, args, below, meth, c, cX10_init, 2, RX10, g, 1) (fun b : kMem => MQ below (kQA g (none, b)) args s 0 0 (kZ g.2.2.1)) (M.1.length - L) (ksl L M) (F_X10_init_b N L M a0 x1) 0 [(0, .ref a0), (1, .int x1)] [] M := by
  unfold F_X10_init_b
  refine g_aload_n 1 0 hX dX10_init_0 rfl rfl ?_
  refine g_guard (fun hg1 => ?_)
  refine g_objInit 4 hX (of_decide_eq_true hg1) q_248 q_oi q_oc (by decide) (Nat.le_of_ble_eq_true rfl) dX10_init_1 rfl ?_
  refine g_aload_n 5 0 hX dX10_init_4 rfl rfl ?_
  refine g_iload_n 6 1 hX dX10_init_5 rfl rfl ?_
  refine g_putFI 9 hX (ci := 10) (f := 0) (i := 9) (C := RX10) (T := TX10) (N := 8) rfl (Nat.le_of_ble_eq_true rfl) inX10 (Nat.le_of_ble_eq_true rfl) (kw 249 (by decide +kernel) rfl) tyX10_ok nmX10 rfl rfl hnm rfl (by decide +kernel) rfl dX10_init_6 rfl ?_
  refine g_klMA rfl (fun M1 hM1 => ?_)
  exact g_vretA hX hr hsz rfl dX10_init_9
set_option maxRecDepth 100000 in
set_option maxHeartbeats 4000000 in
theorem k_X10_init (l : Launch) (g : kG) (N : Nat) (M : kMem) (a0 : Nat) (x1 : Int32) : kMetA l g yX10_init cX10_init 2 none 1 0 0 [.ref a0, .int x1] M (fun r : kMem => (none, r)) (F_X10_init N M a0 x1) := by
  refine k_ofA (lv := [(0, .ref a0), (1, .int x1)]) RX10 (by decide) rfl rfl (Nat.le_of_ble_eq_true rfl) ?_
  intro p e s m args below meth c hX hr hnm hsz
  exact g_startA (k_X10_init_b hX hr hsz hnm N M a0 x1)
set_option maxRecDepth 100000 in
set_option maxHeartbeats 4000000 in
theorem k_X9_init_b {p : Program} {l : Launch} {e : Env} {s : State} {m : MethodId} {args : Array Value} {below : List Frame} {meth : Method} {c : Code} {g : kG} (hX : Cok (p, l, e, { frames := 1, cells := 3, slots := 2403, locals := 60 * 1 }, s, m, args, below, meth, c, cX9_init, 2, RX9, g, 1)) (hr : meth.sig.returnType = none) {L : Nat} (hsz : s.heap.size = g.2.2.1 + 1 + L) (hnm : meth.name = "<init>") (N : Nat) (M : kMem) (a0 : Nat) (a1 : Nat) : GG (p, l, e, { frames := 1, cells := 3, slots := 2403, locals := 60 * 1 }, s, m, args, below, meth, c, cX9_init, 2, RX9, g, 1) (fun b : kMem => MQ below (kQA g (none, b)) args s 3 2403 (kZ g.2.2.1)) (M.1.length - L) (ksl L M) (F_X9_init_b N L M a0 a1) 0 [(0, .ref a0), (1, .ref a1)] [] M := by
  unfold F_X9_init_b
  refine g_aload_n 1 0 hX dX9_init_0 rfl rfl ?_
  refine g_guard (fun hg1 => ?_)
  refine g_objInit 4 hX (of_decide_eq_true hg1) q_118 q_oi q_oc (by decide) (Nat.le_of_ble_eq_true rfl) dX9_init_1 rfl ?_
  refine g_aload_n 5 0 hX dX9_init_4 rfl rfl ?_
  refine g_sipush 8 hX 801 dX9_init_5 rfl kc_s_801 ?_
  refine g_newaI 10 hX (z := 801) (by decide) (by decide) hsz (mc := 3) (ms := 2403) (Nat.le_refl _) (Nat.le_refl _) dX9_init_8 rfl ?_
  refine g_klMn (fun M1 hM1 => ?_)
  refine g_klR (fun w2 hw2 => ?_)
  refine g_putFR 13 hX (ci := 9) (f := 1) (i := 9) (C := RX9) (T := TX9) (N := 8) rfl (Nat.le_of_ble_eq_true rfl) inX9 (Nat.le_of_ble_eq_true rfl) (kw 120 (by decide +kernel) rfl) tyX9_ok nmX9 rfl rfl hnm rfl (ty := (.array .int)) (by decide +kernel) (Or.inr ⟨_, rfl⟩) rfl dX9_init_10 rfl ?_
  refine g_klMA rfl (fun M3 hM3 => ?_)
  refine g_aload_n 14 0 hX dX9_init_13 rfl rfl ?_
  refine g_sipush 17 hX 801 dX9_init_14 rfl kc_s_801 ?_
  refine g_newaI 19 hX (z := 801) (by decide) (by decide) hsz (mc := 3) (ms := 2403) (Nat.le_refl _) (Nat.le_refl _) dX9_init_17 rfl ?_
  refine g_klMn (fun M4 hM4 => ?_)
  refine g_klR (fun w5 hw5 => ?_)
  refine g_putFR 22 hX (ci := 9) (f := 2) (i := 15) (C := RX9) (T := TX9) (N := 8) rfl (Nat.le_of_ble_eq_true rfl) inX9 (Nat.le_of_ble_eq_true rfl) (kw 121 (by decide +kernel) rfl) tyX9_ok nmX9 rfl rfl hnm rfl (ty := (.array .int)) (by decide +kernel) (Or.inr ⟨_, rfl⟩) rfl dX9_init_19 rfl ?_
  refine g_klMA rfl (fun M6 hM6 => ?_)
  refine g_aload_n 23 0 hX dX9_init_22 rfl rfl ?_
  refine g_sipush 26 hX 801 dX9_init_23 rfl kc_s_801 ?_
  refine g_newaI 28 hX (z := 801) (by decide) (by decide) hsz (mc := 3) (ms := 2403) (Nat.le_refl _) (Nat.le_refl _) dX9_init_26 rfl ?_
  refine g_klMn (fun M7 hM7 => ?_)
  refine g_klR (fun w8 hw8 => ?_)
  refine g_putFR 31 hX (ci := 9) (f := 3) (i := 18) (C := RX9) (T := TX9) (N := 8) rfl (Nat.le_of_ble_eq_true rfl) inX9 (Nat.le_of_ble_eq_true rfl) (kw 122 (by decide +kernel) rfl) tyX9_ok nmX9 rfl rfl hnm rfl (ty := (.array .int)) (by decide +kernel) (Or.inr ⟨_, rfl⟩) rfl dX9_init_28 rfl ?_
  refine g_klMA rfl (fun M9 hM9 => ?_)
  refine g_aload_n 32 0 hX dX9_init_31 rfl rfl ?_
  refine g_iconst 33 hX (-1) dX9_init_32 rfl kc_i_m1 ?_
  refine p_X9_21 36 hX dX9_init_33 rfl ?_
  refine g_klMA rfl (fun M10 hM10 => ?_)
  refine g_aload_n 37 0 hX dX9_init_36 rfl rfl ?_
  refine g_aload_n 38 1 hX dX9_init_37 rfl rfl ?_
  refine g_putFR 41 hX (ci := 9) (f := 0) (i := 25) (C := RX9) (T := TX9) (N := 8) rfl (Nat.le_of_ble_eq_true rfl) inX9 (Nat.le_of_ble_eq_true rfl) (kw 119 (by decide +kernel) rfl) tyX9_ok nmX9 rfl rfl hnm rfl (ty := (.object RX8)) (by decide +kernel) (Or.inl ⟨_, rfl⟩) rfl dX9_init_38 rfl ?_
  refine g_klMA rfl (fun M11 hM11 => ?_)
  exact g_vretA hX hr hsz rfl dX9_init_41
set_option maxRecDepth 100000 in
set_option maxHeartbeats 4000000 in
theorem k_X9_init (l : Launch) (g : kG) (N : Nat) (M : kMem) (a0 : Nat) (a1 : Nat) : kMetA l g yX9_init cX9_init 2 none 1 3 2403 [.ref a0, .ref a1] M (fun r : kMem => (none, r)) (F_X9_init N M a0 a1) := by
  refine k_ofA (lv := [(0, .ref a0), (1, .ref a1)]) RX9 (by decide) rfl rfl (Nat.le_of_ble_eq_true rfl) ?_
  intro p e s m args below meth c hX hr hnm hsz
  exact g_startA (k_X9_init_b hX hr hsz hnm N M a0 a1)
set_option maxRecDepth 100000 in
set_option maxHeartbeats 4000000 in
theorem k_X1_init_b {p : Program} {l : Launch} {e : Env} {s : State} {m : MethodId} {args : Array Value} {below : List Frame} {meth : Method} {c : Code} {g : kG} (hX : Cok (p, l, e, { frames := 1, cells := 0, slots := 0, locals := 60 * 1 }, s, m, args, below, meth, c, cX1_init, 1, RX1, g, 1)) (hr : meth.sig.returnType = none) {L : Nat} (hsz : s.heap.size = g.2.2.1 + 1 + L) (hnm : meth.name = "<init>") (N : Nat) (M : kMem) (a0 : Nat) : GG (p, l, e, { frames := 1, cells := 0, slots := 0, locals := 60 * 1 }, s, m, args, below, meth, c, cX1_init, 1, RX1, g, 1) (fun b : kMem => MQ below (kQA g (none, b)) args s 0 0 (kZ g.2.2.1)) (M.1.length - L) (ksl L M) (F_X1_init_b N L M a0) 0 [(0, .ref a0)] [] M := by
  unfold F_X1_init_b
  refine g_aload_n 1 0 hX dX1_init_0 rfl rfl ?_
  refine g_guard (fun hg1 => ?_)
  refine g_objInit 4 hX (of_decide_eq_true hg1) q_158 q_oi q_oc (by decide) (Nat.le_of_ble_eq_true rfl) dX1_init_1 rfl ?_
  exact g_vretA hX hr hsz rfl dX1_init_4
set_option maxRecDepth 100000 in
set_option maxHeartbeats 4000000 in
theorem k_X1_init (l : Launch) (g : kG) (N : Nat) (M : kMem) (a0 : Nat) : kMetA l g yX1_init cX1_init 1 none 1 0 0 [.ref a0] M (fun r : kMem => (none, r)) (F_X1_init N M a0) := by
  refine k_ofA (lv := [(0, .ref a0)]) RX1 (by decide) rfl rfl (Nat.le_of_ble_eq_true rfl) ?_
  intro p e s m args below meth c hX hr hnm hsz
  exact g_startA (k_X1_init_b hX hr hsz hnm N M a0)
set_option maxRecDepth 100000 in
set_option maxHeartbeats 4000000 in
theorem k_X6_init_30 {p : Program} {l : Launch} {e : Env} {s : State} {m : MethodId} {args : Array Value} {below : List Frame} {meth : Method} {c : Code} {g : kG} (hX : Cok (p, l, e, { frames := 2, cells := 33, slots := 282, locals := 60 * 2 }, s, m, args, below, meth, c, cX6_init, 2, RX6, g, 2)) (hr : meth.sig.returnType = none) {L : Nat} (hsz : s.heap.size = g.2.2.1 + 1 + L) (hnm : meth.name = "<init>") (N : Nat) : ∀ (n : Nat) (M : kMem) (a0 : Nat) (x1 : Int32), GG (p, l, e, { frames := 2, cells := 33, slots := 282, locals := 60 * 2 }, s, m, args, below, meth, c, cX6_init, 2, RX6, g, 2) (fun b : kMem => MQ below (kQA g (none, b)) args s 33 282 (kZ g.2.2.1)) (M.1.length - L) (ksl L M) (F_X6_init_30 N L n M a0 x1) 30 [(0, .ref a0), (1, .int x1)] [] M := by
  intro n
  induction n with
  | zero => intro _ _ _; exact g_none
  | succ n ih =>
    intro M a0 x1
    unfold F_X6_init_30
    refine g_iload_n 31 1 hX dX6_init_30 rfl rfl ?_
    refine g_aload_n 32 0 hX dX6_init_31 rfl rfl ?_
    refine r_X6_11 35 hX dX6_init_32 rfl ?_
    refine g_alenR 19 6 36 hX RX1 (Nat.le_of_ble_eq_true rfl) rfl dX6_init_35 rfl ?_
    refine g_icmp_ge 58 39 hX dX6_init_36 (by decide) rfl (fun _ => ?_) (fun _ => ?_)
    · exact g_vretA hX hr hsz rfl dX6_init_58
    · refine g_aload_n 40 0 hX dX6_init_39 rfl rfl ?_
      refine r_X6_11 43 hX dX6_init_40 rfl ?_
      refine g_iload_n 44 1 hX dX6_init_43 rfl rfl ?_
      refine g_new (ci := 1) (idx := 9) (N := 7) (C := RX1) (T := TX1) 47 hX rfl (Nat.le_of_ble_eq_true rfl) inX1 tyX1_ok hdefX1 q_152 q_154 q_46 hsz (mc := 33) (ms := 282) (Nat.le_refl _) (Nat.le_refl _) dX6_init_44 rfl ?_
      refine g_klMn (fun M10 hM10 => ?_)
      refine g_klR (fun w11 hw11 => ?_)
      refine g_dup 48 hX dX6_init_47 rfl rfl ?_
      refine g_callIN 51 hX (mc9 := 33) (ms9 := 282) (by rw [hw11]; exact Nat.succ_ne_zero _) (k_X1_init l g N M10 w11) lk_X1_init rfl q_155 (by omega) rfl (Nat.le_of_ble_eq_true rfl) hsz (Nat.le_refl _) (Nat.le_refl _) dX6_init_48 rfl (fun M12 => ?_)
      refine g_aast 19 6 1 52 hX (C := RX1) (T := TX1) (N := 7) rfl (Nat.le_of_ble_eq_true rfl) (Nat.le_of_ble_eq_true rfl) rfl dX6_init_51 rfl ?_
      refine g_klMA rfl (fun M13 hM13 => ?_)
      refine g_kl (fun v14 hv14 => ?_)
      refine g_iinc 55 1 1 v14 [(1, .int v14), (0, .ref a0)] hX dX6_init_52 rfl rfl (by rw [hv14, kc_i_1]) (Nat.le_of_ble_eq_true rfl) rfl ?_
      refine g_goto 30 hX dX6_init_55 (by decide) ?_
      refine g_lv [1, 0] rfl ?_
      exact ih M13 a0 v14
set_option maxRecDepth 100000 in
set_option maxHeartbeats 4000000 in
theorem k_X6_init_b {p : Program} {l : Launch} {e : Env} {s : State} {m : MethodId} {args : Array Value} {below : List Frame} {meth : Method} {c : Code} {g : kG} (hX : Cok (p, l, e, { frames := 2, cells := 33, slots := 282, locals := 60 * 2 }, s, m, args, below, meth, c, cX6_init, 2, RX6, g, 2)) (hr : meth.sig.returnType = none) {L : Nat} (hsz : s.heap.size = g.2.2.1 + 1 + L) (hnm : meth.name = "<init>") (N : Nat) (M : kMem) (a0 : Nat) : GG (p, l, e, { frames := 2, cells := 33, slots := 282, locals := 60 * 2 }, s, m, args, below, meth, c, cX6_init, 2, RX6, g, 2) (fun b : kMem => MQ below (kQA g (none, b)) args s 33 282 (kZ g.2.2.1)) (M.1.length - L) (ksl L M) (F_X6_init_b N L M a0) 0 [(0, .ref a0)] [] M := by
  unfold F_X6_init_b
  refine g_aload_n 1 0 hX dX6_init_0 rfl rfl ?_
  refine g_guard (fun hg1 => ?_)
  refine g_objInit 4 hX (of_decide_eq_true hg1) q_151 q_oi q_oc (by decide) (Nat.le_of_ble_eq_true rfl) dX6_init_1 rfl ?_
  refine g_aload_n 5 0 hX dX6_init_4 rfl rfl ?_
  refine g_bipush 7 hX 30 dX6_init_5 rfl kc_b_30 ?_
  refine g_anewa 19 6 10 hX (z := 30) (C := RX1) (Nat.le_of_ble_eq_true rfl) rfl hX.2.2.2.2.2.2.2.2.1.2.1.2.2.2.1 q_152 (by decide) (by decide) hsz (mc := 33) (ms := 282) (Nat.le_refl _) (Nat.le_refl _) dX6_init_7 rfl ?_
  refine g_klMn (fun M1 hM1 => ?_)
  refine g_klR (fun w2 hw2 => ?_)
  refine g_putFR 13 hX (ci := 6) (f := 0) (i := 11) (C := RX6) (T := TX6) (N := 6) rfl (Nat.le_of_ble_eq_true rfl) inX6 (Nat.le_of_ble_eq_true rfl) (kw 174 (by decide +kernel) rfl) tyX6_ok nmX6 rfl rfl hnm rfl (ty := (.array (.object RX1))) (by decide +kernel) (Or.inr ⟨_, rfl⟩) rfl dX6_init_10 rfl ?_
  refine g_klMA rfl (fun M3 hM3 => ?_)
  refine g_aload_n 14 0 hX dX6_init_13 rfl rfl ?_
  refine g_iconst 15 hX 2 dX6_init_14 rfl kc_i_2 ?_
  refine g_newaI 17 hX (z := 2) (by decide) (by decide) hsz (mc := 33) (ms := 282) (Nat.le_refl _) (Nat.le_refl _) dX6_init_15 rfl ?_
  refine g_klMn (fun M4 hM4 => ?_)
  refine g_klR (fun w5 hw5 => ?_)
  refine g_putFR 20 hX (ci := 6) (f := 2) (i := 17) (C := RX6) (T := TX6) (N := 6) rfl (Nat.le_of_ble_eq_true rfl) inX6 (Nat.le_of_ble_eq_true rfl) (kw 175 (by decide +kernel) rfl) tyX6_ok nmX6 rfl rfl hnm rfl (ty := (.array .int)) (by decide +kernel) (Or.inr ⟨_, rfl⟩) rfl dX6_init_17 rfl ?_
  refine g_klMA rfl (fun M6 hM6 => ?_)
  refine g_aload_n 21 0 hX dX6_init_20 rfl rfl ?_
  refine g_bipush 23 hX 40 dX6_init_21 rfl kc_b_40 ?_
  refine g_newaI 25 hX (z := 40) (by decide) (by decide) hsz (mc := 33) (ms := 282) (Nat.le_refl _) (Nat.le_refl _) dX6_init_23 rfl ?_
  refine g_klMn (fun M7 hM7 => ?_)
  refine g_klR (fun w8 hw8 => ?_)
  refine g_putFR 28 hX (ci := 6) (f := 4) (i := 21) (C := RX6) (T := TX6) (N := 6) rfl (Nat.le_of_ble_eq_true rfl) inX6 (Nat.le_of_ble_eq_true rfl) (kw 176 (by decide +kernel) rfl) tyX6_ok nmX6 rfl rfl hnm rfl (ty := (.array .int)) (by decide +kernel) (Or.inr ⟨_, rfl⟩) rfl dX6_init_25 rfl ?_
  refine g_klMA rfl (fun M9 hM9 => ?_)
  refine g_iconst 29 hX 0 dX6_init_28 rfl kc_i_0 ?_
  refine g_istore_n 30 1 [(1, .int 0), (0, .ref a0)] hX dX6_init_29 rfl rfl (Nat.le_of_ble_eq_true rfl) rfl ?_
  refine g_lv [1, 0] rfl ?_
  exact k_X6_init_30 hX hr hsz hnm N N M9 a0 0
set_option maxRecDepth 100000 in
set_option maxHeartbeats 4000000 in
theorem k_X6_init (l : Launch) (g : kG) (N : Nat) (M : kMem) (a0 : Nat) : kMetA l g yX6_init cX6_init 2 none 2 33 282 [.ref a0] M (fun r : kMem => (none, r)) (F_X6_init N M a0) := by
  refine k_ofA (lv := [(0, .ref a0)]) RX6 (by decide) rfl rfl (Nat.le_of_ble_eq_true rfl) ?_
  intro p e s m args below meth c hX hr hnm hsz
  exact g_startA (k_X6_init_b hX hr hsz hnm N M a0)
set_option maxRecDepth 100000 in
set_option maxHeartbeats 4000000 in
theorem k_X4_init_65 {p : Program} {l : Launch} {e : Env} {s : State} {m : MethodId} {args : Array Value} {below : List Frame} {meth : Method} {c : Code} {g : kG} (hX : Cok (p, l, e, { frames := 2, cells := 40, slots := 351, locals := 60 * 2 }, s, m, args, below, meth, c, cX4_init, 2, RX4, g, 2)) (hr : meth.sig.returnType = none) {L : Nat} (hsz : s.heap.size = g.2.2.1 + 1 + L) (hnm : meth.name = "<init>") (N : Nat) : ∀ (n : Nat) (M : kMem) (a0 : Nat) (x1 : Int32), GG (p, l, e, { frames := 2, cells := 40, slots := 351, locals := 60 * 2 }, s, m, args, below, meth, c, cX4_init, 2, RX4, g, 2) (fun b : kMem => MQ below (kQA g (none, b)) args s 40 351 (kZ g.2.2.1)) (M.1.length - L) (ksl L M) (F_X4_init_65 N L n M a0 x1) 65 [(0, .ref a0), (1, .int x1)] [] M := by
  intro n
  induction n with
  | zero => intro _ _ _; exact g_none
  | succ n ih =>
    intro M a0 x1
    unfold F_X4_init_65
    refine g_iload_n 66 1 hX dX4_init_65 rfl rfl ?_
    refine g_aload_n 67 0 hX dX4_init_66 rfl rfl ?_
    refine r_X4_19 70 hX dX4_init_67 rfl ?_
    refine g_alenR 17 4 71 hX RX10 (Nat.le_of_ble_eq_true rfl) rfl dX4_init_70 rfl ?_
    refine g_icmp_ge 94 74 hX dX4_init_71 (by decide) rfl (fun _ => ?_) (fun _ => ?_)
    · exact g_vretA hX hr hsz rfl dX4_init_94
    · refine g_aload_n 75 0 hX dX4_init_74 rfl rfl ?_
      refine r_X4_19 78 hX dX4_init_75 rfl ?_
      refine g_iload_n 79 1 hX dX4_init_78 rfl rfl ?_
      refine g_new (ci := 10) (idx := 17) (N := 8) (C := RX10) (T := TX10) 82 hX rfl (Nat.le_of_ble_eq_true rfl) inX10 tyX10_ok hdefX10 q_198 q_244 q_50 hsz (mc := 40) (ms := 351) (Nat.le_refl _) (Nat.le_refl _) dX4_init_79 rfl ?_
      refine g_klMn (fun M11 hM11 => ?_)
      refine g_klR (fun w12 hw12 => ?_)
      refine g_dup 83 hX dX4_init_82 rfl rfl ?_
      refine g_iload_n 84 1 hX dX4_init_83 rfl rfl ?_
      refine g_callI 87 hX (mc9 := 40) (ms9 := 351) (by rw [hw12]; exact Nat.succ_ne_zero _) (k_X10_init l g N M11 w12 x1) lk_X10_init rfl q_245 (by omega) rfl (Nat.le_of_ble_eq_true rfl) hsz (Nat.le_refl _) (Nat.le_refl _) dX4_init_84 rfl (fun M13 => ?_)
      refine g_aast 17 4 10 88 hX (C := RX10) (T := TX10) (N := 8) rfl (Nat.le_of_ble_eq_true rfl) (Nat.le_of_ble_eq_true rfl) rfl dX4_init_87 rfl ?_
      refine g_klMA rfl (fun M14 hM14 => ?_)
      refine g_kl (fun v15 hv15 => ?_)
      refine g_iinc 91 1 1 v15 [(1, .int v15), (0, .ref a0)] hX dX4_init_88 rfl rfl (by rw [hv15, kc_i_1]) (Nat.le_of_ble_eq_true rfl) rfl ?_
      refine g_goto 65 hX dX4_init_91 (by decide) ?_
      refine g_lv [1, 0] rfl ?_
      exact ih M14 a0 v15
set_option maxRecDepth 100000 in
set_option maxHeartbeats 4000000 in
theorem k_X4_init_34 {p : Program} {l : Launch} {e : Env} {s : State} {m : MethodId} {args : Array Value} {below : List Frame} {meth : Method} {c : Code} {g : kG} (hX : Cok (p, l, e, { frames := 2, cells := 40, slots := 351, locals := 60 * 2 }, s, m, args, below, meth, c, cX4_init, 2, RX4, g, 2)) (hr : meth.sig.returnType = none) {L : Nat} (hsz : s.heap.size = g.2.2.1 + 1 + L) (hnm : meth.name = "<init>") (N : Nat) : ∀ (n : Nat) (M : kMem) (a0 : Nat) (x1 : Int32), GG (p, l, e, { frames := 2, cells := 40, slots := 351, locals := 60 * 2 }, s, m, args, below, meth, c, cX4_init, 2, RX4, g, 2) (fun b : kMem => MQ below (kQA g (none, b)) args s 40 351 (kZ g.2.2.1)) (M.1.length - L) (ksl L M) (F_X4_init_34 N L n M a0 x1) 34 [(0, .ref a0), (1, .int x1)] [] M := by
  intro n
  induction n with
  | zero => intro _ _ _; exact g_none
  | succ n ih =>
    intro M a0 x1
    unfold F_X4_init_34
    refine g_iload_n 35 1 hX dX4_init_34 rfl rfl ?_
    refine g_aload_n 36 0 hX dX4_init_35 rfl rfl ?_
    refine r_X4_11 39 hX dX4_init_36 rfl ?_
    refine g_alenR 16 3 40 hX RX0 (Nat.le_of_ble_eq_true rfl) rfl dX4_init_39 rfl ?_
    refine g_icmp_ge 63 43 hX dX4_init_40 (by decide) rfl (fun _ => ?_) (fun _ => ?_)
    · refine g_iconst 64 hX 0 dX4_init_63 rfl kc_i_0 ?_
      refine g_istore_n 65 1 [(1, .int 0), (0, .ref a0)] hX dX4_init_64 rfl rfl (Nat.le_of_ble_eq_true rfl) rfl ?_
      refine g_lv [1, 0] rfl ?_
      exact k_X4_init_65 hX hr hsz hnm N N M a0 0
    · refine g_aload_n 44 0 hX dX4_init_43 rfl rfl ?_
      refine r_X4_11 47 hX dX4_init_44 rfl ?_
      refine g_iload_n 48 1 hX dX4_init_47 rfl rfl ?_
      refine g_new (ci := 0) (idx := 9) (N := 5) (C := RX0) (T := TX0) 51 hX rfl (Nat.le_of_ble_eq_true rfl) inX0 tyX0_ok hdefX0 q_196 q_220 q_49 hsz (mc := 40) (ms := 351) (Nat.le_refl _) (Nat.le_refl _) dX4_init_48 rfl ?_
      refine g_klMn (fun M16 hM16 => ?_)
      refine g_klR (fun w17 hw17 => ?_)
      refine g_dup 52 hX dX4_init_51 rfl rfl ?_
      refine g_iload_n 53 1 hX dX4_init_52 rfl rfl ?_
      refine g_callI 56 hX (mc9 := 40) (ms9 := 351) (by rw [hw17]; exact Nat.succ_ne_zero _) (k_X0_init l g N M16 w17 x1) lk_X0_init rfl q_221 (by omega) rfl (Nat.le_of_ble_eq_true rfl) hsz (Nat.le_refl _) (Nat.le_refl _) dX4_init_53 rfl (fun M18 => ?_)
      refine g_aast 16 3 0 57 hX (C := RX0) (T := TX0) (N := 5) rfl (Nat.le_of_ble_eq_true rfl) (Nat.le_of_ble_eq_true rfl) rfl dX4_init_56 rfl ?_
      refine g_klMA rfl (fun M19 hM19 => ?_)
      refine g_kl (fun v20 hv20 => ?_)
      refine g_iinc 60 1 1 v20 [(1, .int v20), (0, .ref a0)] hX dX4_init_57 rfl rfl (by rw [hv20, kc_i_1]) (Nat.le_of_ble_eq_true rfl) rfl ?_
      refine g_goto 34 hX dX4_init_60 (by decide) ?_
      refine g_lv [1, 0] rfl ?_
      exact ih M19 a0 v20
set_option maxRecDepth 100000 in
set_option maxHeartbeats 4000000 in
theorem k_X4_init_b {p : Program} {l : Launch} {e : Env} {s : State} {m : MethodId} {args : Array Value} {below : List Frame} {meth : Method} {c : Code} {g : kG} (hX : Cok (p, l, e, { frames := 2, cells := 40, slots := 351, locals := 60 * 2 }, s, m, args, below, meth, c, cX4_init, 2, RX4, g, 2)) (hr : meth.sig.returnType = none) {L : Nat} (hsz : s.heap.size = g.2.2.1 + 1 + L) (hnm : meth.name = "<init>") (N : Nat) (M : kMem) (a0 : Nat) : GG (p, l, e, { frames := 2, cells := 40, slots := 351, locals := 60 * 2 }, s, m, args, below, meth, c, cX4_init, 2, RX4, g, 2) (fun b : kMem => MQ below (kQA g (none, b)) args s 40 351 (kZ g.2.2.1)) (M.1.length - L) (ksl L M) (F_X4_init_b N L M a0) 0 [(0, .ref a0)] [] M := by
  unfold F_X4_init_b
  refine g_aload_n 1 0 hX dX4_init_0 rfl rfl ?_
  refine g_guard (fun hg1 => ?_)
  refine g_objInit 4 hX (of_decide_eq_true hg1) q_195 q_oi q_oc (by decide) (Nat.le_of_ble_eq_true rfl) dX4_init_1 rfl ?_
  refine g_aload_n 5 0 hX dX4_init_4 rfl rfl ?_
  refine g_iconst 6 hX 5 dX4_init_5 rfl kc_i_5 ?_
  refine g_anewa 16 3 9 hX (z := 5) (C := RX0) (Nat.le_of_ble_eq_true rfl) rfl hX.2.2.2.2.2.2.2.2.1.2.1.1 q_196 (by decide) (by decide) hsz (mc := 40) (ms := 351) (Nat.le_refl _) (Nat.le_refl _) dX4_init_6 rfl ?_
  refine g_klMn (fun M1 hM1 => ?_)
  refine g_klR (fun w2 hw2 => ?_)
  refine g_putFR 12 hX (ci := 4) (f := 13) (i := 11) (C := RX4) (T := TX4) (N := 16) rfl (Nat.le_of_ble_eq_true rfl) inX4 (Nat.le_of_ble_eq_true rfl) (kw 315 (by decide +kernel) rfl) tyX4_ok nmX4 rfl rfl hnm rfl (ty := (.array (.object RX0))) (by decide +kernel) (Or.inr ⟨_, rfl⟩) rfl dX4_init_9 rfl ?_
  refine g_klMA rfl (fun M3 hM3 => ?_)
  refine g_aload_n 13 0 hX dX4_init_12 rfl rfl ?_
  refine g_bipush 15 hX 24 dX4_init_13 rfl kc_b_24 ?_
  refine g_anewa 17 4 18 hX (z := 24) (C := RX10) (Nat.le_of_ble_eq_true rfl) rfl hX.2.2.2.2.2.2.2.2.1.2.1.2.1 q_198 (by decide) (by decide) hsz (mc := 40) (ms := 351) (Nat.le_refl _) (Nat.le_refl _) dX4_init_15 rfl ?_
  refine g_klMn (fun M4 hM4 => ?_)
  refine g_klR (fun w5 hw5 => ?_)
  refine g_putFR 21 hX (ci := 4) (f := 14) (i := 19) (C := RX4) (T := TX4) (N := 16) rfl (Nat.le_of_ble_eq_true rfl) inX4 (Nat.le_of_ble_eq_true rfl) (kw 316 (by decide +kernel) rfl) tyX4_ok nmX4 rfl rfl hnm rfl (ty := (.array (.object RX10))) (by decide +kernel) (Or.inr ⟨_, rfl⟩) rfl dX4_init_18 rfl ?_
  refine g_klMA rfl (fun M6 hM6 => ?_)
  refine g_aload_n 22 0 hX dX4_init_21 rfl rfl ?_
  refine g_new (ci := 2) (idx := 23) (N := 4) (C := RX2) (T := TX2) 25 hX rfl (Nat.le_of_ble_eq_true rfl) inX2 tyX2_ok hdefX2 q_200 q_201 q_48 hsz (mc := 40) (ms := 351) (Nat.le_refl _) (Nat.le_refl _) dX4_init_22 rfl ?_
  refine g_klMn (fun M7 hM7 => ?_)
  refine g_klR (fun w8 hw8 => ?_)
  refine g_dup 26 hX dX4_init_25 rfl rfl ?_
  refine g_callIN 29 hX (mc9 := 40) (ms9 := 351) (by rw [hw8]; exact Nat.succ_ne_zero _) (k_X2_init l g N M7 w8) lk_X2_init rfl q_202 (by omega) rfl (Nat.le_of_ble_eq_true rfl) hsz (Nat.le_refl _) (Nat.le_refl _) dX4_init_26 rfl (fun M9 => ?_)
  refine g_putFR 32 hX (ci := 4) (f := 15) (i := 26) (C := RX4) (T := TX4) (N := 16) rfl (Nat.le_of_ble_eq_true rfl) inX4 (Nat.le_of_ble_eq_true rfl) (kw 317 (by decide +kernel) rfl) tyX4_ok nmX4 rfl rfl hnm rfl (ty := (.object RX2)) (by decide +kernel) (Or.inl ⟨_, rfl⟩) rfl dX4_init_29 rfl ?_
  refine g_klMA rfl (fun M10 hM10 => ?_)
  refine g_iconst 33 hX 0 dX4_init_32 rfl kc_i_0 ?_
  refine g_istore_n 34 1 [(1, .int 0), (0, .ref a0)] hX dX4_init_33 rfl rfl (Nat.le_of_ble_eq_true rfl) rfl ?_
  refine g_lv [1, 0] rfl ?_
  exact k_X4_init_34 hX hr hsz hnm N N M10 a0 0
set_option maxRecDepth 100000 in
set_option maxHeartbeats 4000000 in
theorem k_X4_init (l : Launch) (g : kG) (N : Nat) (M : kMem) (a0 : Nat) : kMetA l g yX4_init cX4_init 2 none 2 40 351 [.ref a0] M (fun r : kMem => (none, r)) (F_X4_init N M a0) := by
  refine k_ofA (lv := [(0, .ref a0)]) RX4 (by decide) rfl rfl (Nat.le_of_ble_eq_true rfl) ?_
  intro p e s m args below meth c hX hr hnm hsz
  exact g_startA (k_X4_init_b hX hr hsz hnm N M a0)
set_option maxRecDepth 100000 in
set_option maxHeartbeats 4000000 in
theorem k_X3_init_15 {p : Program} {l : Launch} {e : Env} {s : State} {m : MethodId} {args : Array Value} {below : List Frame} {meth : Method} {c : Code} {g : kG} (hX : Cok (p, l, e, { frames := 3, cells := 329, slots := 2944, locals := 60 * 3 }, s, m, args, below, meth, c, cX3_init, 2, RX3, g, 3)) (hr : meth.sig.returnType = none) {L : Nat} (hsz : s.heap.size = g.2.2.1 + 1 + L) (hnm : meth.name = "<init>") (N : Nat) : ∀ (n : Nat) (M : kMem) (a0 : Nat) (x1 : Int32), GG (p, l, e, { frames := 3, cells := 329, slots := 2944, locals := 60 * 3 }, s, m, args, below, meth, c, cX3_init, 2, RX3, g, 3) (fun b : kMem => MQ below (kQA g (none, b)) args s 329 2944 (kZ g.2.2.1)) (M.1.length - L) (ksl L M) (F_X3_init_15 N L n M a0 x1) 15 [(0, .ref a0), (1, .int x1)] [] M := by
  intro n
  induction n with
  | zero => intro _ _ _; exact g_none
  | succ n ih =>
    intro M a0 x1
    unfold F_X3_init_15
    refine g_iload_n 16 1 hX dX3_init_15 rfl rfl ?_
    refine g_aload_n 17 0 hX dX3_init_16 rfl rfl ?_
    refine r_X3_11 20 hX dX3_init_17 rfl ?_
    refine g_alenR 18 5 21 hX RX4 (Nat.le_of_ble_eq_true rfl) rfl dX3_init_20 rfl ?_
    refine g_icmp_ge 43 24 hX dX3_init_21 (by decide) rfl (fun _ => ?_) (fun _ => ?_)
    · exact g_vretA hX hr hsz rfl dX3_init_43
    · refine g_aload_n 25 0 hX dX3_init_24 rfl rfl ?_
      refine r_X3_11 28 hX dX3_init_25 rfl ?_
      refine g_iload_n 29 1 hX dX3_init_28 rfl rfl ?_
      refine g_new (ci := 4) (idx := 9) (N := 16) (C := RX4) (T := TX4) 32 hX rfl (Nat.le_of_ble_eq_true rfl) inX4 tyX4_ok hdefX4 q_357 q_191 q_47 hsz (mc := 329) (ms := 2944) (Nat.le_refl _) (Nat.le_refl _) dX3_init_29 rfl ?_
      refine g_klMn (fun M4 hM4 => ?_)
      refine g_klR (fun w5 hw5 => ?_)
      refine g_dup 33 hX dX3_init_32 rfl rfl ?_
      refine g_callI 36 hX (mc9 := 329) (ms9 := 2944) (by rw [hw5]; exact Nat.succ_ne_zero _) (k_X4_init l g N M4 w5) lk_X4_init rfl q_359 (by omega) rfl (Nat.le_of_ble_eq_true rfl) hsz (Nat.le_refl _) (Nat.le_refl _) dX3_init_33 rfl (fun M6 => ?_)
      refine g_aast 18 5 4 37 hX (C := RX4) (T := TX4) (N := 16) rfl (Nat.le_of_ble_eq_true rfl) (Nat.le_of_ble_eq_true rfl) rfl dX3_init_36 rfl ?_
      refine g_klMA rfl (fun M7 hM7 => ?_)
      refine g_kl (fun v8 hv8 => ?_)
      refine g_iinc 40 1 1 v8 [(1, .int v8), (0, .ref a0)] hX dX3_init_37 rfl rfl (by rw [hv8, kc_i_1]) (Nat.le_of_ble_eq_true rfl) rfl ?_
      refine g_goto 15 hX dX3_init_40 (by decide) ?_
      refine g_lv [1, 0] rfl ?_
      exact ih M7 a0 v8
set_option maxRecDepth 100000 in
set_option maxHeartbeats 4000000 in
theorem k_X3_init_b {p : Program} {l : Launch} {e : Env} {s : State} {m : MethodId} {args : Array Value} {below : List Frame} {meth : Method} {c : Code} {g : kG} (hX : Cok (p, l, e, { frames := 3, cells := 329, slots := 2944, locals := 60 * 3 }, s, m, args, below, meth, c, cX3_init, 2, RX3, g, 3)) (hr : meth.sig.returnType = none) {L : Nat} (hsz : s.heap.size = g.2.2.1 + 1 + L) (hnm : meth.name = "<init>") (N : Nat) (M : kMem) (a0 : Nat) : GG (p, l, e, { frames := 3, cells := 329, slots := 2944, locals := 60 * 3 }, s, m, args, below, meth, c, cX3_init, 2, RX3, g, 3) (fun b : kMem => MQ below (kQA g (none, b)) args s 329 2944 (kZ g.2.2.1)) (M.1.length - L) (ksl L M) (F_X3_init_b N L M a0) 0 [(0, .ref a0)] [] M := by
  unfold F_X3_init_b
  refine g_aload_n 1 0 hX dX3_init_0 rfl rfl ?_
  refine g_guard (fun hg1 => ?_)
  refine g_objInit 4 hX (of_decide_eq_true hg1) q_356 q_oi q_oc (by decide) (Nat.le_of_ble_eq_true rfl) dX3_init_1 rfl ?_
  refine g_aload_n 5 0 hX dX3_init_4 rfl rfl ?_
  refine g_bipush 7 hX 8 dX3_init_5 rfl kc_b_8 ?_
  refine g_anewa 18 5 10 hX (z := 8) (C := RX4) (Nat.le_of_ble_eq_true rfl) rfl hX.2.2.2.2.2.2.2.2.1.2.1.2.2.1 q_357 (by decide) (by decide) hsz (mc := 329) (ms := 2944) (Nat.le_refl _) (Nat.le_refl _) dX3_init_7 rfl ?_
  refine g_klMn (fun M1 hM1 => ?_)
  refine g_klR (fun w2 hw2 => ?_)
  refine g_putFR 13 hX (ci := 3) (f := 0) (i := 11) (C := RX3) (T := TX3) (N := 3) rfl (Nat.le_of_ble_eq_true rfl) inX3 (Nat.le_of_ble_eq_true rfl) (kw 360 (by decide +kernel) rfl) tyX3_ok nmX3 rfl rfl hnm rfl (ty := (.array (.object RX4))) (by decide +kernel) (Or.inr ⟨_, rfl⟩) rfl dX3_init_10 rfl ?_
  refine g_klMA rfl (fun M3 hM3 => ?_)
  refine g_iconst 14 hX 0 dX3_init_13 rfl kc_i_0 ?_
  refine g_istore_n 15 1 [(1, .int 0), (0, .ref a0)] hX dX3_init_14 rfl rfl (Nat.le_of_ble_eq_true rfl) rfl ?_
  refine g_lv [1, 0] rfl ?_
  exact k_X3_init_15 hX hr hsz hnm N N M3 a0 0
set_option maxRecDepth 100000 in
set_option maxHeartbeats 4000000 in
theorem k_X3_init (l : Launch) (g : kG) (N : Nat) (M : kMem) (a0 : Nat) : kMetA l g yX3_init cX3_init 2 none 3 329 2944 [.ref a0] M (fun r : kMem => (none, r)) (F_X3_init N M a0) := by
  refine k_ofA (lv := [(0, .ref a0)]) RX3 (by decide) rfl rfl (Nat.le_of_ble_eq_true rfl) ?_
  intro p e s m args below meth c hX hr hnm hsz
  exact g_startA (k_X3_init_b hX hr hsz hnm N M a0)
set_option maxRecDepth 100000 in
set_option maxHeartbeats 4000000 in
theorem k_X11_init_102 {p : Program} {l : Launch} {e : Env} {s : State} {m : MethodId} {args : Array Value} {below : List Frame} {meth : Method} {c : Code} {g : kG} (hX : Cok (p, l, e, { frames := 10, cells := 538, slots := 8722, locals := 60 * 10 }, s, m, args, below, meth, c, cX11_init, 2, RX11, g, 10)) (hr : meth.sig.returnType = none) {L : Nat} (hsz : s.heap.size = g.2.2.1 + 1 + L) (hnm : meth.name = "<init>") (N : Nat) : ∀ (n : Nat) (M : kMem) (a0 : Nat) (x1 : Int32), GG (p, l, e, { frames := 10, cells := 538, slots := 8722, locals := 60 * 10 }, s, m, args, below, meth, c, cX11_init, 2, RX11, g, 10) (fun b : kMem => MQ below (kQA g (none, b)) args s 538 8722 (kZ g.2.2.1)) (M.1.length - L) (ksl L M) (F_X11_init_102 N L n M a0 x1) 102 [(0, .ref a0), (1, .int x1)] [] M := by
  intro n
  induction n with
  | zero => intro _ _ _; exact g_none
  | succ n ih =>
    intro M a0 x1
    unfold F_X11_init_102
    refine g_iload_n 103 1 hX dX11_init_102 rfl rfl ?_
    refine g_aload_n 104 0 hX dX11_init_103 rfl rfl ?_
    refine r_X11_52 107 hX dX11_init_104 rfl ?_
    refine g_alenR 18 5 108 hX RX4 (Nat.le_of_ble_eq_true rfl) rfl dX11_init_107 rfl ?_
    refine g_icmp_ge 130 111 hX dX11_init_108 (by decide) rfl (fun _ => ?_) (fun _ => ?_)
    · refine g_aload_n 131 0 hX dX11_init_130 rfl rfl ?_
      refine r_X11_10 134 hX dX11_init_131 rfl ?_
      refine g_ldcS 136 hX (i := 0) rfl dX11_init_134 rfl ?_
      refine g_guard (fun hg2 => ?_)
      refine g_callV_v 139 hX (k_X8_addAll l g N M (kR M a0 0) 0) lk_X8_addAll rfl (ci := 8) rfl (Nat.le_of_ble_eq_true rfl) q_371 q_373 (by omega) rfl (Nat.le_of_ble_eq_true rfl) (kend_spec hg2).2.1 (kend_spec hg2).2.2 dX11_init_136 rfl (fun M35 => ?_)
      refine g_sameA ?_
      refine g_aload_n 140 0 hX dX11_init_139 rfl rfl ?_
      refine r_X11_10 143 hX dX11_init_140 rfl ?_
      refine g_ldcS 145 hX (i := 1) rfl dX11_init_143 rfl ?_
      refine g_guard (fun hg3 => ?_)
      refine g_callV_v 148 hX (k_X8_addAll l g N M35 (kR M35 a0 0) 1) lk_X8_addAll rfl (ci := 8) rfl (Nat.le_of_ble_eq_true rfl) q_371 q_373 (by omega) rfl (Nat.le_of_ble_eq_true rfl) (kend_spec hg3).2.1 (kend_spec hg3).2.2 dX11_init_145 rfl (fun M36 => ?_)
      refine g_sameA ?_
      refine g_aload_n 149 0 hX dX11_init_148 rfl rfl ?_
      refine r_X11_10 152 hX dX11_init_149 rfl ?_
      refine g_ldcS 154 hX (i := 2) rfl dX11_init_152 rfl ?_
      refine g_guard (fun hg4 => ?_)
      refine g_callV_v 157 hX (k_X8_addAll l g N M36 (kR M36 a0 0) 2) lk_X8_addAll rfl (ci := 8) rfl (Nat.le_of_ble_eq_true rfl) q_371 q_373 (by omega) rfl (Nat.le_of_ble_eq_true rfl) (kend_spec hg4).2.1 (kend_spec hg4).2.2 dX11_init_154 rfl (fun M37 => ?_)
      refine g_sameA ?_
      refine g_aload_n 158 0 hX dX11_init_157 rfl rfl ?_
      refine g_guard (fun hg5 => ?_)
      refine g_callV_v 161 hX (k_X11_beginMarketOfText l g N M37 a0) lk_X11_beginMarketOfText rfl (ci := 11) rfl (Nat.le_of_ble_eq_true rfl) q_429 q_0 (by omega) rfl (Nat.le_of_ble_eq_true rfl) (kend_spec hg5).2.1 (kend_spec hg5).2.2 dX11_init_158 rfl (fun M38 => ?_)
      refine g_sameA ?_
      exact g_vretA hX hr hsz rfl dX11_init_161
    · refine g_aload_n 112 0 hX dX11_init_111 rfl rfl ?_
      refine r_X11_52 115 hX dX11_init_112 rfl ?_
      refine g_iload_n 116 1 hX dX11_init_115 rfl rfl ?_
      refine g_new (ci := 4) (idx := 35) (N := 16) (C := RX4) (T := TX4) 119 hX rfl (Nat.le_of_ble_eq_true rfl) inX4 tyX4_ok hdefX4 q_190 q_191 q_47 hsz (mc := 538) (ms := 8722) (Nat.le_refl _) (Nat.le_refl _) dX11_init_116 rfl ?_
      refine g_klMn (fun M39 hM39 => ?_)
      refine g_klR (fun w40 hw40 => ?_)
      refine g_dup 120 hX dX11_init_119 rfl rfl ?_
      refine g_callI 123 hX (mc9 := 538) (ms9 := 8722) (by rw [hw40]; exact Nat.succ_ne_zero _) (k_X4_init l g N M39 w40) lk_X4_init rfl q_192 (by omega) rfl (Nat.le_of_ble_eq_true rfl) hsz (Nat.le_refl _) (Nat.le_refl _) dX11_init_120 rfl (fun M41 => ?_)
      refine g_aast 18 5 4 124 hX (C := RX4) (T := TX4) (N := 16) rfl (Nat.le_of_ble_eq_true rfl) (Nat.le_of_ble_eq_true rfl) rfl dX11_init_123 rfl ?_
      refine g_klMA rfl (fun M42 hM42 => ?_)
      refine g_kl (fun v43 hv43 => ?_)
      refine g_iinc 127 1 1 v43 [(1, .int v43), (0, .ref a0)] hX dX11_init_124 rfl rfl (by rw [hv43, kc_i_1]) (Nat.le_of_ble_eq_true rfl) rfl ?_
      refine g_goto 102 hX dX11_init_127 (by decide) ?_
      refine g_lv [1, 0] rfl ?_
      exact ih M42 a0 v43
set_option maxRecDepth 100000 in
set_option maxHeartbeats 4000000 in
theorem k_X11_init_b {p : Program} {l : Launch} {e : Env} {s : State} {m : MethodId} {args : Array Value} {below : List Frame} {meth : Method} {c : Code} {g : kG} (hX : Cok (p, l, e, { frames := 10, cells := 538, slots := 8722, locals := 60 * 10 }, s, m, args, below, meth, c, cX11_init, 2, RX11, g, 10)) (hr : meth.sig.returnType = none) {L : Nat} (hsz : s.heap.size = g.2.2.1 + 1 + L) (hnm : meth.name = "<init>") (N : Nat) (M : kMem) (a0 : Nat) : GG (p, l, e, { frames := 10, cells := 538, slots := 8722, locals := 60 * 10 }, s, m, args, below, meth, c, cX11_init, 2, RX11, g, 10) (fun b : kMem => MQ below (kQA g (none, b)) args s 538 8722 (kZ g.2.2.1)) (M.1.length - L) (ksl L M) (F_X11_init_b N L M a0) 0 [(0, .ref a0)] [] M := by
  unfold F_X11_init_b
  refine g_aload_n 1 0 hX dX11_init_0 rfl rfl ?_
  refine g_guard (fun hg1 => ?_)
  refine g_objInit 4 hX (of_decide_eq_true hg1) q_94 q_oi q_oc (by decide) (Nat.le_of_ble_eq_true rfl) dX11_init_1 rfl ?_
  refine g_aload_n 5 0 hX dX11_init_4 rfl rfl ?_
  refine g_new (ci := 8) (idx := 7) (N := 2) (C := RX8) (T := TX8) 8 hX rfl (Nat.le_of_ble_eq_true rfl) inX8 tyX8_ok hdefX8 q_97 q_98 q_43 hsz (mc := 538) (ms := 8722) (Nat.le_refl _) (Nat.le_refl _) dX11_init_5 rfl ?_
  refine g_klMn (fun M1 hM1 => ?_)
  refine g_klR (fun w2 hw2 => ?_)
  refine g_dup 9 hX dX11_init_8 rfl rfl ?_
  refine g_callIN 12 hX (mc9 := 538) (ms9 := 8722) (by rw [hw2]; exact Nat.succ_ne_zero _) (k_X8_init l g N M1 w2) lk_X8_init rfl q_99 (by omega) rfl (Nat.le_of_ble_eq_true rfl) hsz (Nat.le_refl _) (Nat.le_refl _) dX11_init_9 rfl (fun M3 => ?_)
  refine g_putFR 15 hX (ci := 11) (f := 0) (i := 10) (C := RX11) (T := TX11) (N := 9) rfl (Nat.le_of_ble_eq_true rfl) inX11 (Nat.le_of_ble_eq_true rfl) (kw 631 (by decide +kernel) rfl) tyX11_ok nmX11 rfl rfl hnm rfl (ty := (.object RX8)) (by decide +kernel) (Or.inl ⟨_, rfl⟩) rfl dX11_init_12 rfl ?_
  refine g_klMA rfl (fun M4 hM4 => ?_)
  refine g_aload_n 16 0 hX dX11_init_15 rfl rfl ?_
  refine g_new (ci := 8) (idx := 7) (N := 2) (C := RX8) (T := TX8) 19 hX rfl (Nat.le_of_ble_eq_true rfl) inX8 tyX8_ok hdefX8 q_97 q_98 q_43 hsz (mc := 538) (ms := 8722) (Nat.le_refl _) (Nat.le_refl _) dX11_init_16 rfl ?_
  refine g_klMn (fun M5 hM5 => ?_)
  refine g_klR (fun w6 hw6 => ?_)
  refine g_dup 20 hX dX11_init_19 rfl rfl ?_
  refine g_callIN 23 hX (mc9 := 538) (ms9 := 8722) (by rw [hw6]; exact Nat.succ_ne_zero _) (k_X8_init l g N M5 w6) lk_X8_init rfl q_99 (by omega) rfl (Nat.le_of_ble_eq_true rfl) hsz (Nat.le_refl _) (Nat.le_refl _) dX11_init_20 rfl (fun M7 => ?_)
  refine g_putFR 26 hX (ci := 11) (f := 1) (i := 16) (C := RX11) (T := TX11) (N := 9) rfl (Nat.le_of_ble_eq_true rfl) inX11 (Nat.le_of_ble_eq_true rfl) (kw 632 (by decide +kernel) rfl) tyX11_ok nmX11 rfl rfl hnm rfl (ty := (.object RX8)) (by decide +kernel) (Or.inl ⟨_, rfl⟩) rfl dX11_init_23 rfl ?_
  refine g_klMA rfl (fun M8 hM8 => ?_)
  refine g_aload_n 27 0 hX dX11_init_26 rfl rfl ?_
  refine g_new (ci := 9) (idx := 19) (N := 8) (C := RX9) (T := TX9) 30 hX rfl (Nat.le_of_ble_eq_true rfl) inX9 tyX9_ok hdefX9 q_113 q_114 q_44 hsz (mc := 538) (ms := 8722) (Nat.le_refl _) (Nat.le_refl _) dX11_init_27 rfl ?_
  refine g_klMn (fun M9 hM9 => ?_)
  refine g_klR (fun w10 hw10 => ?_)
  refine g_dup 31 hX dX11_init_30 rfl rfl ?_
  refine g_aload_n 32 0 hX dX11_init_31 rfl rfl ?_
  refine r_X11_10 35 hX dX11_init_32 rfl ?_
  refine g_callI 38 hX (mc9 := 538) (ms9 := 8722) (by rw [hw10]; exact Nat.succ_ne_zero _) (k_X9_init l g N M9 w10 (kR M9 a0 0)) lk_X9_init rfl q_115 (by omega) rfl (Nat.le_of_ble_eq_true rfl) hsz (Nat.le_refl _) (Nat.le_refl _) dX11_init_35 rfl (fun M11 => ?_)
  refine g_putFR 41 hX (ci := 11) (f := 2) (i := 24) (C := RX11) (T := TX11) (N := 9) rfl (Nat.le_of_ble_eq_true rfl) inX11 (Nat.le_of_ble_eq_true rfl) (kw 633 (by decide +kernel) rfl) tyX11_ok nmX11 rfl rfl hnm rfl (ty := (.object RX9)) (by decide +kernel) (Or.inl ⟨_, rfl⟩) rfl dX11_init_38 rfl ?_
  refine g_klMA rfl (fun M12 hM12 => ?_)
  refine g_aload_n 42 0 hX dX11_init_41 rfl rfl ?_
  refine g_new (ci := 6) (idx := 28) (N := 6) (C := RX6) (T := TX6) 45 hX rfl (Nat.le_of_ble_eq_true rfl) inX6 tyX6_ok hdefX6 q_146 q_147 q_45 hsz (mc := 538) (ms := 8722) (Nat.le_refl _) (Nat.le_refl _) dX11_init_42 rfl ?_
  refine g_klMn (fun M13 hM13 => ?_)
  refine g_klR (fun w14 hw14 => ?_)
  refine g_dup 46 hX dX11_init_45 rfl rfl ?_
  refine g_callI 49 hX (mc9 := 538) (ms9 := 8722) (by rw [hw14]; exact Nat.succ_ne_zero _) (k_X6_init l g N M13 w14) lk_X6_init rfl q_148 (by omega) rfl (Nat.le_of_ble_eq_true rfl) hsz (Nat.le_refl _) (Nat.le_refl _) dX11_init_46 rfl (fun M15 => ?_)
  refine g_putFR 52 hX (ci := 11) (f := 3) (i := 31) (C := RX11) (T := TX11) (N := 9) rfl (Nat.le_of_ble_eq_true rfl) inX11 (Nat.le_of_ble_eq_true rfl) (kw 634 (by decide +kernel) rfl) tyX11_ok nmX11 rfl rfl hnm rfl (ty := (.object RX6)) (by decide +kernel) (Or.inl ⟨_, rfl⟩) rfl dX11_init_49 rfl ?_
  refine g_klMA rfl (fun M16 hM16 => ?_)
  refine g_aload_n 53 0 hX dX11_init_52 rfl rfl ?_
  refine g_new (ci := 4) (idx := 35) (N := 16) (C := RX4) (T := TX4) 56 hX rfl (Nat.le_of_ble_eq_true rfl) inX4 tyX4_ok hdefX4 q_190 q_191 q_47 hsz (mc := 538) (ms := 8722) (Nat.le_refl _) (Nat.le_refl _) dX11_init_53 rfl ?_
  refine g_klMn (fun M17 hM17 => ?_)
  refine g_klR (fun w18 hw18 => ?_)
  refine g_dup 57 hX dX11_init_56 rfl rfl ?_
  refine g_callI 60 hX (mc9 := 538) (ms9 := 8722) (by rw [hw18]; exact Nat.succ_ne_zero _) (k_X4_init l g N M17 w18) lk_X4_init rfl q_192 (by omega) rfl (Nat.le_of_ble_eq_true rfl) hsz (Nat.le_refl _) (Nat.le_refl _) dX11_init_57 rfl (fun M19 => ?_)
  refine g_putFR 63 hX (ci := 11) (f := 4) (i := 38) (C := RX11) (T := TX11) (N := 9) rfl (Nat.le_of_ble_eq_true rfl) inX11 (Nat.le_of_ble_eq_true rfl) (kw 635 (by decide +kernel) rfl) tyX11_ok nmX11 rfl rfl hnm rfl (ty := (.object RX4)) (by decide +kernel) (Or.inl ⟨_, rfl⟩) rfl dX11_init_60 rfl ?_
  refine g_klMA rfl (fun M20 hM20 => ?_)
  refine g_aload_n 64 0 hX dX11_init_63 rfl rfl ?_
  refine g_new (ci := 4) (idx := 35) (N := 16) (C := RX4) (T := TX4) 67 hX rfl (Nat.le_of_ble_eq_true rfl) inX4 tyX4_ok hdefX4 q_190 q_191 q_47 hsz (mc := 538) (ms := 8722) (Nat.le_refl _) (Nat.le_refl _) dX11_init_64 rfl ?_
  refine g_klMn (fun M21 hM21 => ?_)
  refine g_klR (fun w22 hw22 => ?_)
  refine g_dup 68 hX dX11_init_67 rfl rfl ?_
  refine g_callI 71 hX (mc9 := 538) (ms9 := 8722) (by rw [hw22]; exact Nat.succ_ne_zero _) (k_X4_init l g N M21 w22) lk_X4_init rfl q_192 (by omega) rfl (Nat.le_of_ble_eq_true rfl) hsz (Nat.le_refl _) (Nat.le_refl _) dX11_init_68 rfl (fun M23 => ?_)
  refine g_putFR 74 hX (ci := 11) (f := 5) (i := 42) (C := RX11) (T := TX11) (N := 9) rfl (Nat.le_of_ble_eq_true rfl) inX11 (Nat.le_of_ble_eq_true rfl) (kw 636 (by decide +kernel) rfl) tyX11_ok nmX11 rfl rfl hnm rfl (ty := (.object RX4)) (by decide +kernel) (Or.inl ⟨_, rfl⟩) rfl dX11_init_71 rfl ?_
  refine g_klMA rfl (fun M24 hM24 => ?_)
  refine g_aload_n 75 0 hX dX11_init_74 rfl rfl ?_
  refine g_new (ci := 3) (idx := 45) (N := 3) (C := RX3) (T := TX3) 78 hX rfl (Nat.le_of_ble_eq_true rfl) inX3 tyX3_ok hdefX3 q_351 q_352 q_51 hsz (mc := 538) (ms := 8722) (Nat.le_refl _) (Nat.le_refl _) dX11_init_75 rfl ?_
  refine g_klMn (fun M25 hM25 => ?_)
  refine g_klR (fun w26 hw26 => ?_)
  refine g_dup 79 hX dX11_init_78 rfl rfl ?_
  refine g_callI 82 hX (mc9 := 538) (ms9 := 8722) (by rw [hw26]; exact Nat.succ_ne_zero _) (k_X3_init l g N M25 w26) lk_X3_init rfl q_353 (by omega) rfl (Nat.le_of_ble_eq_true rfl) hsz (Nat.le_refl _) (Nat.le_refl _) dX11_init_79 rfl (fun M27 => ?_)
  refine g_putFR 85 hX (ci := 11) (f := 6) (i := 48) (C := RX11) (T := TX11) (N := 9) rfl (Nat.le_of_ble_eq_true rfl) inX11 (Nat.le_of_ble_eq_true rfl) (kw 637 (by decide +kernel) rfl) tyX11_ok nmX11 rfl rfl hnm rfl (ty := (.object RX3)) (by decide +kernel) (Or.inl ⟨_, rfl⟩) rfl dX11_init_82 rfl ?_
  refine g_klMA rfl (fun M28 hM28 => ?_)
  refine g_aload_n 86 0 hX dX11_init_85 rfl rfl ?_
  refine g_iconst 87 hX 2 dX11_init_86 rfl kc_i_2 ?_
  refine g_anewa 18 5 90 hX (z := 2) (C := RX4) (Nat.le_of_ble_eq_true rfl) rfl hX.2.2.2.2.2.2.2.2.1.2.1.2.2.1 q_190 (by decide) (by decide) hsz (mc := 538) (ms := 8722) (Nat.le_refl _) (Nat.le_refl _) dX11_init_87 rfl ?_
  refine g_klMn (fun M29 hM29 => ?_)
  refine g_klR (fun w30 hw30 => ?_)
  refine g_putFR 93 hX (ci := 11) (f := 7) (i := 52) (C := RX11) (T := TX11) (N := 9) rfl (Nat.le_of_ble_eq_true rfl) inX11 (Nat.le_of_ble_eq_true rfl) (kw 638 (by decide +kernel) rfl) tyX11_ok nmX11 rfl rfl hnm rfl (ty := (.array (.object RX4))) (by decide +kernel) (Or.inr ⟨_, rfl⟩) rfl dX11_init_90 rfl ?_
  refine g_klMA rfl (fun M31 hM31 => ?_)
  refine g_aload_n 94 0 hX dX11_init_93 rfl rfl ?_
  refine g_iconst 95 hX 2 dX11_init_94 rfl kc_i_2 ?_
  refine g_newaZ 97 hX (z := 2) (by decide) (by decide) hsz (mc := 538) (ms := 8722) (Nat.le_refl _) (Nat.le_refl _) dX11_init_95 rfl ?_
  refine g_klMn (fun M32 hM32 => ?_)
  refine g_klR (fun w33 hw33 => ?_)
  refine g_putFR 100 hX (ci := 11) (f := 8) (i := 56) (C := RX11) (T := TX11) (N := 9) rfl (Nat.le_of_ble_eq_true rfl) inX11 (Nat.le_of_ble_eq_true rfl) (kw 639 (by decide +kernel) rfl) tyX11_ok nmX11 rfl rfl hnm rfl (ty := (.array .boolean)) (by decide +kernel) (Or.inr ⟨_, rfl⟩) rfl dX11_init_97 rfl ?_
  refine g_klMA rfl (fun M34 hM34 => ?_)
  refine g_iconst 101 hX 0 dX11_init_100 rfl kc_i_0 ?_
  refine g_istore_n 102 1 [(1, .int 0), (0, .ref a0)] hX dX11_init_101 rfl rfl (Nat.le_of_ble_eq_true rfl) rfl ?_
  refine g_lv [1, 0] rfl ?_
  exact k_X11_init_102 hX hr hsz hnm N N M34 a0 0
set_option maxRecDepth 100000 in
set_option maxHeartbeats 4000000 in
theorem k_X11_init (l : Launch) (g : kG) (N : Nat) (M : kMem) (a0 : Nat) : kMetA l g yX11_init cX11_init 2 none 10 538 8722 [.ref a0] M (fun r : kMem => (none, r)) (F_X11_init N M a0) := by
  refine k_ofA (lv := [(0, .ref a0)]) RX11 (by decide) rfl rfl (Nat.le_of_ble_eq_true rfl) ?_
  intro p e s m args below meth c hX hr hnm hsz
  exact g_startA (k_X11_init_b hX hr hsz hnm N M a0)
