def F_L_law_2374 (N Ls : Nat) (xs : Nat → Int32) (a1 a2 a3 : Nat) (k23 : kMem → Int32 → Option Unit) (M : kMem) (x4 : Int32) : Option Unit :=
    kg (decide (0 ≤ x4 + 1) && decide ((x4 + 1 : Int32).toNatClampNeg < Ls)) <|
    (F_L_daysUntilFall N M a1 (xs (kx (x4 + 1))) a3).bind fun r1 =>
    kl r1.1 fun v2 =>
    kg (decide (0 ≤ x4 + 1) && decide ((x4 + 1 : Int32).toNatClampNeg < Ls)) <|
    kg (kt r1.2 a2 12) <| (F_X12_daysUntilFall N r1.2 a2 (xs (kx (x4 + 1)))).bind fun r3 =>
    kl r3.1 fun v4 =>
    kg (kt r3.2 a2 12) <| (F_X12_thrown N r3.2 a2).bind fun r5 =>
    if r5 = v2 then (
      if v2 = 0 then (
        kg (kin r3.2 a3 15 0) <|
        if (lg_cmp (kL r3.2 a3 (kx 0)) v4.toInt64) = 0 then (
          kl (x4 + 6) fun v7 =>
          k23 r3.2 v7) else
        none) else
      kl (x4 + 6) fun v6 =>
      k23 r3.2 v6) else
    none
set_option maxRecDepth 100000 in
set_option maxHeartbeats 4000000 in
theorem k_L_law_2374 {p : Program} {l : Launch} {e : Env} {s : State} {m : MethodId} {below : List Frame} {meth : Method} {c : Code} {g : kG} {b Ls : Nat} {xs : Nat → Int32} (hX : Cok (p, l, e, room_1, s, m, #[Value.ref b], below, meth, c, cL_law, 9, RL, g, 1000)) (hf : l.flags = flags0) (hN : kNc s) (hSc : va_X b Ls xs s s.heap) (hbl : b < s.heap.size) (hbB : s.heap.size = g.2.2.1 + 1) {k n : Nat} (hk : k + 5 ≤ room_1.cells) (hn : n + 30 ≤ room_1.slots) (N a1 a2 a3 : Nat) (k23 : kMem → Int32 → Option Unit) (h23 : ∀ (M : kMem) (x4 : Int32), GG (p, l, e, room_1, s, m, #[Value.ref b], below, meth, c, cL_law, 9, RL, g, 1000) (fun _ : Unit => lw_Z below #[Value.ref b] s) (k + 5) (n + 30) (k23 M x4) 23 [(0, .retAddr b), (1, .ref a1), (2, .ref a2), (3, .ref a3), (4, .int x4)] [] M) (M : kMem) (x4 : Int32) : GG (p, l, e, room_1, s, m, #[Value.ref b], below, meth, c, cL_law, 9, RL, g, 1000) (fun _ : Unit => lw_Z below #[Value.ref b] s) k n (F_L_law_2374 N Ls xs a1 a2 a3 k23 M x4) 2374 [(0, .retAddr b), (1, .ref a1), (2, .ref a2), (3, .ref a3), (4, .int x4)] [] M := by
  unfold F_L_law_2374
  refine g_aload_n 2375 1 hX dL_law_2374 rfl rfl ?_
  refine g_aloadS_n 2376 0 hX dL_law_2375 rfl rfl ?_
  refine g_iload 2378 4 hX dL_law_2376 rfl rfl ?_
  refine g_iconst 2379 hX 1 dL_law_2378 rfl kc_i_1 ?_
  refine g_iadd 2380 hX dL_law_2379 rfl ?_
  refine g_sld 2381 hX hSc hbl hbB dL_law_2380 rfl ?_
  refine g_aload_n 2382 3 hX dL_law_2381 rfl rfl ?_
  refine g_callSH 2385 hX hN (k_L_daysUntilFall l g hf N M a1 (xs (kx (x4 + 1))) a3) lkH_L_daysUntilFall q_1474 (by decide) rfl (Nat.le_of_ble_eq_true rfl) (by omega) (by omega) dL_law_2382 rfl (fun r1 => ?_)
  refine g_klI (fun v2 hv2 => ?_)
  refine g_istore 2387 5 [(5, .int v2), (0, .retAddr b), (1, .ref a1), (2, .ref a2), (3, .ref a3), (4, .int x4)] hX dL_law_2385 rfl (Nat.le_of_ble_eq_true rfl) rfl ?_
  refine g_aload_n 2388 3 hX dL_law_2387 rfl rfl ?_
  refine g_aloadS_n 2389 1 hX dL_law_2388 rfl rfl ?_
  refine g_iload 2391 5 hX dL_law_2389 rfl rfl ?_
  refine g_iconst 2392 hX 1 dL_law_2391 rfl kc_i_1 ?_
  refine g_iadd 2393 hX dL_law_2392 rfl ?_
  refine g_sld 2394 hX hSc hbl hbB dL_law_2393 rfl ?_
  refine g_callV_i 2397 hX (k_X12_daysUntilFall l g N r1.2 a2 (xs (kx (x4 + 1)))) lk_X12_daysUntilFall rfl (ci := 12) rfl (Nat.le_of_ble_eq_true rfl) q_2368 q_2370 (by decide) rfl (Nat.le_of_ble_eq_true rfl) (by omega) (by omega) dL_law_2394 rfl (fun r3 => ?_)
  refine g_klI (fun v4 hv4 => ?_)
  refine g_istore 2399 6 [(6, .int v4), (5, .int v2), (0, .retAddr b), (1, .ref a1), (2, .ref a2), (3, .ref a3), (4, .int x4)] hX dL_law_2397 rfl (Nat.le_of_ble_eq_true rfl) rfl ?_
  refine g_aload_n 2400 4 hX dL_law_2399 rfl rfl ?_
  refine g_callV_ip 2403 hX (k_X12_thrown l g N r3.2 a2) lk_X12_thrown rfl (ci := 12) rfl (Nat.le_of_ble_eq_true rfl) q_1730 q_1732 (by decide) rfl (Nat.le_of_ble_eq_true rfl) (by omega) (by omega) dL_law_2400 rfl (fun r5 => ?_)
  refine g_iload 2405 1 hX dL_law_2403 rfl rfl ?_
  refine g_icmp_eq 2410 2408 hX dL_law_2405 (by decide) rfl (fun _ => ?_) (fun _ => ?_)
  · refine g_iload 2412 1 hX dL_law_2410 rfl rfl ?_
    refine g_if_ne 2427 2415 hX dL_law_2412 (by decide) rfl (fun _ => ?_) (fun _ => ?_)
    · refine g_goto 3200 hX dL_law_2427 (by decide) ?_
      refine g_kl (fun v6 hv6 => ?_)
      refine g_iinc 3203 4 6 v6 [(4, .int v6), (6, .int v4), (5, .int v2), (0, .retAddr b), (1, .ref a1), (2, .ref a2), (3, .ref a3)] hX dL_law_3200 rfl rfl (by rw [hv6, kc_i_6]) (Nat.le_of_ble_eq_true rfl) rfl ?_
      refine g_goto 23 hX dL_law_3203 (by decide) ?_
      refine g_lv [3, 4, 5, 6, 0] rfl ?_
      refine g_widen (k2 := k + 5) (n2 := n + 30) (by omega) (by omega) ?_
      exact h23 r3.2 v6
    · refine g_aload_n 2416 5 hX dL_law_2415 rfl rfl ?_
      refine g_iconst 2417 hX 0 dL_law_2416 rfl kc_i_0 ?_
      refine g_lald 2418 hX dL_law_2417 rfl ?_
      refine g_iload 2420 0 hX dL_law_2418 rfl rfl ?_
      refine g_i2l 2421 hX dL_law_2420 rfl ?_
      refine g_lcmp 2422 hX dL_law_2421 rfl ?_
      refine g_if_eq 2427 2425 hX dL_law_2422 (by decide) rfl (fun _ => ?_) (fun _ => ?_)
      · refine g_goto 3200 hX dL_law_2427 (by decide) ?_
        refine g_kl (fun v7 hv7 => ?_)
        refine g_iinc 3203 4 6 v7 [(4, .int v7), (6, .int v4), (5, .int v2), (0, .retAddr b), (1, .ref a1), (2, .ref a2), (3, .ref a3)] hX dL_law_3200 rfl rfl (by rw [hv7, kc_i_6]) (Nat.le_of_ble_eq_true rfl) rfl ?_
        refine g_goto 23 hX dL_law_3203 (by decide) ?_
        refine g_lv [3, 4, 5, 6, 0] rfl ?_
        refine g_widen (k2 := k + 5) (n2 := n + 30) (by omega) (by omega) ?_
        exact h23 r3.2 v7
      · exact g_none
  · exact g_none
def F_L_law_2430 (N Ls : Nat) (xs : Nat → Int32) (a1 a2 a3 : Nat) (k23 : kMem → Int32 → Option Unit) (M : kMem) (x4 : Int32) : Option Unit :=
    kg (decide (0 ≤ x4 + 1) && decide ((x4 + 1 : Int32).toNatClampNeg < Ls)) <|
    (F_L_daysUntilRetirement N M a1 (xs (kx (x4 + 1))) a3).bind fun r1 =>
    kl r1.1 fun v2 =>
    kg (decide (0 ≤ x4 + 1) && decide ((x4 + 1 : Int32).toNatClampNeg < Ls)) <|
    kg (kt r1.2 a2 12) <| (F_X12_daysUntilRetirement N r1.2 a2 (xs (kx (x4 + 1)))).bind fun r3 =>
    kl r3.1 fun v4 =>
    kg (kt r3.2 a2 12) <| (F_X12_thrown N r3.2 a2).bind fun r5 =>
    if r5 = v2 then (
      if v2 = 0 then (
        kg (kin r3.2 a3 15 0) <|
        if (lg_cmp (kL r3.2 a3 (kx 0)) v4.toInt64) = 0 then (
          kl (x4 + 6) fun v7 =>
          k23 r3.2 v7) else
        none) else
      kl (x4 + 6) fun v6 =>
      k23 r3.2 v6) else
    none
set_option maxRecDepth 100000 in
set_option maxHeartbeats 4000000 in
theorem k_L_law_2430 {p : Program} {l : Launch} {e : Env} {s : State} {m : MethodId} {below : List Frame} {meth : Method} {c : Code} {g : kG} {b Ls : Nat} {xs : Nat → Int32} (hX : Cok (p, l, e, room_1, s, m, #[Value.ref b], below, meth, c, cL_law, 9, RL, g, 1000)) (hf : l.flags = flags0) (hN : kNc s) (hSc : va_X b Ls xs s s.heap) (hbl : b < s.heap.size) (hbB : s.heap.size = g.2.2.1 + 1) {k n : Nat} (hk : k + 5 ≤ room_1.cells) (hn : n + 30 ≤ room_1.slots) (N a1 a2 a3 : Nat) (k23 : kMem → Int32 → Option Unit) (h23 : ∀ (M : kMem) (x4 : Int32), GG (p, l, e, room_1, s, m, #[Value.ref b], below, meth, c, cL_law, 9, RL, g, 1000) (fun _ : Unit => lw_Z below #[Value.ref b] s) (k + 5) (n + 30) (k23 M x4) 23 [(0, .retAddr b), (1, .ref a1), (2, .ref a2), (3, .ref a3), (4, .int x4)] [] M) (M : kMem) (x4 : Int32) : GG (p, l, e, room_1, s, m, #[Value.ref b], below, meth, c, cL_law, 9, RL, g, 1000) (fun _ : Unit => lw_Z below #[Value.ref b] s) k n (F_L_law_2430 N Ls xs a1 a2 a3 k23 M x4) 2430 [(0, .retAddr b), (1, .ref a1), (2, .ref a2), (3, .ref a3), (4, .int x4)] [] M := by
  unfold F_L_law_2430
  refine g_aload_n 2431 1 hX dL_law_2430 rfl rfl ?_
  refine g_aloadS_n 2432 0 hX dL_law_2431 rfl rfl ?_
  refine g_iload 2434 4 hX dL_law_2432 rfl rfl ?_
  refine g_iconst 2435 hX 1 dL_law_2434 rfl kc_i_1 ?_
  refine g_iadd 2436 hX dL_law_2435 rfl ?_
  refine g_sld 2437 hX hSc hbl hbB dL_law_2436 rfl ?_
  refine g_aload_n 2438 3 hX dL_law_2437 rfl rfl ?_
  refine g_callSH 2441 hX hN (k_L_daysUntilRetirement l g hf N M a1 (xs (kx (x4 + 1))) a3) lkH_L_daysUntilRetirement q_1486 (by decide) rfl (Nat.le_of_ble_eq_true rfl) (by omega) (by omega) dL_law_2438 rfl (fun r1 => ?_)
  refine g_klI (fun v2 hv2 => ?_)
  refine g_istore 2443 5 [(5, .int v2), (0, .retAddr b), (1, .ref a1), (2, .ref a2), (3, .ref a3), (4, .int x4)] hX dL_law_2441 rfl (Nat.le_of_ble_eq_true rfl) rfl ?_
  refine g_aload_n 2444 3 hX dL_law_2443 rfl rfl ?_
  refine g_aloadS_n 2445 1 hX dL_law_2444 rfl rfl ?_
  refine g_iload 2447 5 hX dL_law_2445 rfl rfl ?_
  refine g_iconst 2448 hX 1 dL_law_2447 rfl kc_i_1 ?_
  refine g_iadd 2449 hX dL_law_2448 rfl ?_
  refine g_sld 2450 hX hSc hbl hbB dL_law_2449 rfl ?_
  refine g_callV_i 2453 hX (k_X12_daysUntilRetirement l g N r1.2 a2 (xs (kx (x4 + 1)))) lk_X12_daysUntilRetirement rfl (ci := 12) rfl (Nat.le_of_ble_eq_true rfl) q_2372 q_2374 (by decide) rfl (Nat.le_of_ble_eq_true rfl) (by omega) (by omega) dL_law_2450 rfl (fun r3 => ?_)
  refine g_klI (fun v4 hv4 => ?_)
  refine g_istore 2455 6 [(6, .int v4), (5, .int v2), (0, .retAddr b), (1, .ref a1), (2, .ref a2), (3, .ref a3), (4, .int x4)] hX dL_law_2453 rfl (Nat.le_of_ble_eq_true rfl) rfl ?_
  refine g_aload_n 2456 4 hX dL_law_2455 rfl rfl ?_
  refine g_callV_ip 2459 hX (k_X12_thrown l g N r3.2 a2) lk_X12_thrown rfl (ci := 12) rfl (Nat.le_of_ble_eq_true rfl) q_1730 q_1732 (by decide) rfl (Nat.le_of_ble_eq_true rfl) (by omega) (by omega) dL_law_2456 rfl (fun r5 => ?_)
  refine g_iload 2461 1 hX dL_law_2459 rfl rfl ?_
  refine g_icmp_eq 2466 2464 hX dL_law_2461 (by decide) rfl (fun _ => ?_) (fun _ => ?_)
  · refine g_iload 2468 1 hX dL_law_2466 rfl rfl ?_
    refine g_if_ne 2483 2471 hX dL_law_2468 (by decide) rfl (fun _ => ?_) (fun _ => ?_)
    · refine g_goto 3200 hX dL_law_2483 (by decide) ?_
      refine g_kl (fun v6 hv6 => ?_)
      refine g_iinc 3203 4 6 v6 [(4, .int v6), (6, .int v4), (5, .int v2), (0, .retAddr b), (1, .ref a1), (2, .ref a2), (3, .ref a3)] hX dL_law_3200 rfl rfl (by rw [hv6, kc_i_6]) (Nat.le_of_ble_eq_true rfl) rfl ?_
      refine g_goto 23 hX dL_law_3203 (by decide) ?_
      refine g_lv [3, 4, 5, 6, 0] rfl ?_
      refine g_widen (k2 := k + 5) (n2 := n + 30) (by omega) (by omega) ?_
      exact h23 r3.2 v6
    · refine g_aload_n 2472 5 hX dL_law_2471 rfl rfl ?_
      refine g_iconst 2473 hX 0 dL_law_2472 rfl kc_i_0 ?_
      refine g_lald 2474 hX dL_law_2473 rfl ?_
      refine g_iload 2476 0 hX dL_law_2474 rfl rfl ?_
      refine g_i2l 2477 hX dL_law_2476 rfl ?_
      refine g_lcmp 2478 hX dL_law_2477 rfl ?_
      refine g_if_eq 2483 2481 hX dL_law_2478 (by decide) rfl (fun _ => ?_) (fun _ => ?_)
      · refine g_goto 3200 hX dL_law_2483 (by decide) ?_
        refine g_kl (fun v7 hv7 => ?_)
        refine g_iinc 3203 4 6 v7 [(4, .int v7), (6, .int v4), (5, .int v2), (0, .retAddr b), (1, .ref a1), (2, .ref a2), (3, .ref a3)] hX dL_law_3200 rfl rfl (by rw [hv7, kc_i_6]) (Nat.le_of_ble_eq_true rfl) rfl ?_
        refine g_goto 23 hX dL_law_3203 (by decide) ?_
        refine g_lv [3, 4, 5, 6, 0] rfl ?_
        refine g_widen (k2 := k + 5) (n2 := n + 30) (by omega) (by omega) ?_
        exact h23 r3.2 v7
      · exact g_none
  · exact g_none
def F_L_law_2486 (N Ls : Nat) (xs : Nat → Int32) (a1 a2 a3 : Nat) (k23 : kMem → Int32 → Option Unit) (M : kMem) (x4 : Int32) : Option Unit :=
    kg (decide (0 ≤ x4 + 1) && decide ((x4 + 1 : Int32).toNatClampNeg < Ls)) <|
    kg (decide (0 ≤ x4 + 2) && decide ((x4 + 2 : Int32).toNatClampNeg < Ls)) <|
    (F_L_join N M a1 (xs (kx (x4 + 1))) (xs (kx (x4 + 2))) a3).bind fun r1 =>
    kl r1.1 fun v2 =>
    kg (decide (0 ≤ x4 + 1) && decide ((x4 + 1 : Int32).toNatClampNeg < Ls)) <|
    kg (decide (0 ≤ x4 + 2) && decide ((x4 + 2 : Int32).toNatClampNeg < Ls)) <|
    kg (kt r1.2 a2 12) <| (F_X12_join N r1.2 a2 (xs (kx (x4 + 1))) (xs (kx (x4 + 2)))).bind fun r3 =>
    kl r3.1 fun v4 =>
    kg (kt r3.2 a2 12) <| (F_X12_thrown N r3.2 a2).bind fun r5 =>
    if r5 = v2 then (
      if v2 = 0 then (
        kg (kin r3.2 a3 15 0) <|
        if (lg_cmp (kL r3.2 a3 (kx 0)) v4.toInt64) = 0 then (
          kl (x4 + 6) fun v7 =>
          k23 r3.2 v7) else
        none) else
      kl (x4 + 6) fun v6 =>
      k23 r3.2 v6) else
    none
set_option maxRecDepth 100000 in
set_option maxHeartbeats 4000000 in
theorem k_L_law_2486 {p : Program} {l : Launch} {e : Env} {s : State} {m : MethodId} {below : List Frame} {meth : Method} {c : Code} {g : kG} {b Ls : Nat} {xs : Nat → Int32} (hX : Cok (p, l, e, room_1, s, m, #[Value.ref b], below, meth, c, cL_law, 9, RL, g, 1000)) (hf : l.flags = flags0) (hN : kNc s) (hSc : va_X b Ls xs s s.heap) (hbl : b < s.heap.size) (hbB : s.heap.size = g.2.2.1 + 1) {k n : Nat} (hk : k + 5 ≤ room_1.cells) (hn : n + 30 ≤ room_1.slots) (N a1 a2 a3 : Nat) (k23 : kMem → Int32 → Option Unit) (h23 : ∀ (M : kMem) (x4 : Int32), GG (p, l, e, room_1, s, m, #[Value.ref b], below, meth, c, cL_law, 9, RL, g, 1000) (fun _ : Unit => lw_Z below #[Value.ref b] s) (k + 5) (n + 30) (k23 M x4) 23 [(0, .retAddr b), (1, .ref a1), (2, .ref a2), (3, .ref a3), (4, .int x4)] [] M) (M : kMem) (x4 : Int32) : GG (p, l, e, room_1, s, m, #[Value.ref b], below, meth, c, cL_law, 9, RL, g, 1000) (fun _ : Unit => lw_Z below #[Value.ref b] s) k n (F_L_law_2486 N Ls xs a1 a2 a3 k23 M x4) 2486 [(0, .retAddr b), (1, .ref a1), (2, .ref a2), (3, .ref a3), (4, .int x4)] [] M := by
  unfold F_L_law_2486
  refine g_aload_n 2487 1 hX dL_law_2486 rfl rfl ?_
  refine g_aloadS_n 2488 0 hX dL_law_2487 rfl rfl ?_
  refine g_iload 2490 4 hX dL_law_2488 rfl rfl ?_
  refine g_iconst 2491 hX 1 dL_law_2490 rfl kc_i_1 ?_
  refine g_iadd 2492 hX dL_law_2491 rfl ?_
  refine g_sld 2493 hX hSc hbl hbB dL_law_2492 rfl ?_
  refine g_aloadS_n 2494 0 hX dL_law_2493 rfl rfl ?_
  refine g_iload 2496 4 hX dL_law_2494 rfl rfl ?_
  refine g_iconst 2497 hX 2 dL_law_2496 rfl kc_i_2 ?_
  refine g_iadd 2498 hX dL_law_2497 rfl ?_
  refine g_sld 2499 hX hSc hbl hbB dL_law_2498 rfl ?_
  refine g_aload_n 2500 3 hX dL_law_2499 rfl rfl ?_
  refine g_callSH 2503 hX hN (k_L_join l g hf N M a1 (xs (kx (x4 + 1))) (xs (kx (x4 + 2))) a3) lkH_L_join q_1493 (by decide) rfl (Nat.le_of_ble_eq_true rfl) (by omega) (by omega) dL_law_2500 rfl (fun r1 => ?_)
  refine g_klI (fun v2 hv2 => ?_)
  refine g_istore 2505 5 [(5, .int v2), (0, .retAddr b), (1, .ref a1), (2, .ref a2), (3, .ref a3), (4, .int x4)] hX dL_law_2503 rfl (Nat.le_of_ble_eq_true rfl) rfl ?_
  refine g_aload_n 2506 3 hX dL_law_2505 rfl rfl ?_
  refine g_aloadS_n 2507 1 hX dL_law_2506 rfl rfl ?_
  refine g_iload 2509 5 hX dL_law_2507 rfl rfl ?_
  refine g_iconst 2510 hX 1 dL_law_2509 rfl kc_i_1 ?_
  refine g_iadd 2511 hX dL_law_2510 rfl ?_
  refine g_sld 2512 hX hSc hbl hbB dL_law_2511 rfl ?_
  refine g_aloadS_n 2513 1 hX dL_law_2512 rfl rfl ?_
  refine g_iload 2515 5 hX dL_law_2513 rfl rfl ?_
  refine g_iconst 2516 hX 2 dL_law_2515 rfl kc_i_2 ?_
  refine g_iadd 2517 hX dL_law_2516 rfl ?_
  refine g_sld 2518 hX hSc hbl hbB dL_law_2517 rfl ?_
  refine g_callV_i 2521 hX (k_X12_join l g N r1.2 a2 (xs (kx (x4 + 1))) (xs (kx (x4 + 2)))) lk_X12_join rfl (ci := 12) rfl (Nat.le_of_ble_eq_true rfl) q_2080 q_2082 (by decide) rfl (Nat.le_of_ble_eq_true rfl) (by omega) (by omega) dL_law_2518 rfl (fun r3 => ?_)
  refine g_klI (fun v4 hv4 => ?_)
  refine g_istore 2523 6 [(6, .int v4), (5, .int v2), (0, .retAddr b), (1, .ref a1), (2, .ref a2), (3, .ref a3), (4, .int x4)] hX dL_law_2521 rfl (Nat.le_of_ble_eq_true rfl) rfl ?_
  refine g_aload_n 2524 4 hX dL_law_2523 rfl rfl ?_
  refine g_callV_ip 2527 hX (k_X12_thrown l g N r3.2 a2) lk_X12_thrown rfl (ci := 12) rfl (Nat.le_of_ble_eq_true rfl) q_1730 q_1732 (by decide) rfl (Nat.le_of_ble_eq_true rfl) (by omega) (by omega) dL_law_2524 rfl (fun r5 => ?_)
  refine g_iload 2529 1 hX dL_law_2527 rfl rfl ?_
  refine g_icmp_eq 2534 2532 hX dL_law_2529 (by decide) rfl (fun _ => ?_) (fun _ => ?_)
  · refine g_iload 2536 1 hX dL_law_2534 rfl rfl ?_
    refine g_if_ne 2551 2539 hX dL_law_2536 (by decide) rfl (fun _ => ?_) (fun _ => ?_)
    · refine g_goto 3200 hX dL_law_2551 (by decide) ?_
      refine g_kl (fun v6 hv6 => ?_)
      refine g_iinc 3203 4 6 v6 [(4, .int v6), (6, .int v4), (5, .int v2), (0, .retAddr b), (1, .ref a1), (2, .ref a2), (3, .ref a3)] hX dL_law_3200 rfl rfl (by rw [hv6, kc_i_6]) (Nat.le_of_ble_eq_true rfl) rfl ?_
      refine g_goto 23 hX dL_law_3203 (by decide) ?_
      refine g_lv [3, 4, 5, 6, 0] rfl ?_
      refine g_widen (k2 := k + 5) (n2 := n + 30) (by omega) (by omega) ?_
      exact h23 r3.2 v6
    · refine g_aload_n 2540 5 hX dL_law_2539 rfl rfl ?_
      refine g_iconst 2541 hX 0 dL_law_2540 rfl kc_i_0 ?_
      refine g_lald 2542 hX dL_law_2541 rfl ?_
      refine g_iload 2544 0 hX dL_law_2542 rfl rfl ?_
      refine g_i2l 2545 hX dL_law_2544 rfl ?_
      refine g_lcmp 2546 hX dL_law_2545 rfl ?_
      refine g_if_eq 2551 2549 hX dL_law_2546 (by decide) rfl (fun _ => ?_) (fun _ => ?_)
      · refine g_goto 3200 hX dL_law_2551 (by decide) ?_
        refine g_kl (fun v7 hv7 => ?_)
        refine g_iinc 3203 4 6 v7 [(4, .int v7), (6, .int v4), (5, .int v2), (0, .retAddr b), (1, .ref a1), (2, .ref a2), (3, .ref a3)] hX dL_law_3200 rfl rfl (by rw [hv7, kc_i_6]) (Nat.le_of_ble_eq_true rfl) rfl ?_
        refine g_goto 23 hX dL_law_3203 (by decide) ?_
        refine g_lv [3, 4, 5, 6, 0] rfl ?_
        refine g_widen (k2 := k + 5) (n2 := n + 30) (by omega) (by omega) ?_
        exact h23 r3.2 v7
      · exact g_none
  · exact g_none
def F_L_law_2554 (N Ls : Nat) (xs : Nat → Int32) (a1 a2 a3 : Nat) (k23 : kMem → Int32 → Option Unit) (M : kMem) (x4 : Int32) : Option Unit :=
    kg (decide (0 ≤ x4 + 1) && decide ((x4 + 1 : Int32).toNatClampNeg < Ls)) <|
    kg (decide (0 ≤ x4 + 2) && decide ((x4 + 2 : Int32).toNatClampNeg < Ls)) <|
    kg (decide (0 ≤ x4 + 3) && decide ((x4 + 3 : Int32).toNatClampNeg < Ls)) <|
    (F_L_buySeat N M a1 (xs (kx (x4 + 1))) (xs (kx (x4 + 2))) (xs (kx (x4 + 3))) a3).bind fun r1 =>
    kl r1.1 fun v2 =>
    kg (decide (0 ≤ x4 + 1) && decide ((x4 + 1 : Int32).toNatClampNeg < Ls)) <|
    kg (decide (0 ≤ x4 + 2) && decide ((x4 + 2 : Int32).toNatClampNeg < Ls)) <|
    kg (decide (0 ≤ x4 + 3) && decide ((x4 + 3 : Int32).toNatClampNeg < Ls)) <|
    kg (kt r1.2 a2 12) <| (F_X12_buySeat N r1.2 a2 (xs (kx (x4 + 1))) (xs (kx (x4 + 2))) (xs (kx (x4 + 3)))).bind fun r3 =>
    kl r3.1 fun v4 =>
    kg (kt r3.2 a2 12) <| (F_X12_thrown N r3.2 a2).bind fun r5 =>
    if r5 = v2 then (
      if v2 = 0 then (
        kg (kin r3.2 a3 15 0) <|
        if (lg_cmp (kL r3.2 a3 (kx 0)) v4.toInt64) = 0 then (
          kl (x4 + 6) fun v7 =>
          k23 r3.2 v7) else
        none) else
      kl (x4 + 6) fun v6 =>
      k23 r3.2 v6) else
    none
set_option maxRecDepth 100000 in
set_option maxHeartbeats 4000000 in
theorem k_L_law_2554 {p : Program} {l : Launch} {e : Env} {s : State} {m : MethodId} {below : List Frame} {meth : Method} {c : Code} {g : kG} {b Ls : Nat} {xs : Nat → Int32} (hX : Cok (p, l, e, room_1, s, m, #[Value.ref b], below, meth, c, cL_law, 9, RL, g, 1000)) (hf : l.flags = flags0) (hN : kNc s) (hSc : va_X b Ls xs s s.heap) (hbl : b < s.heap.size) (hbB : s.heap.size = g.2.2.1 + 1) {k n : Nat} (hk : k + 5 ≤ room_1.cells) (hn : n + 30 ≤ room_1.slots) (N a1 a2 a3 : Nat) (k23 : kMem → Int32 → Option Unit) (h23 : ∀ (M : kMem) (x4 : Int32), GG (p, l, e, room_1, s, m, #[Value.ref b], below, meth, c, cL_law, 9, RL, g, 1000) (fun _ : Unit => lw_Z below #[Value.ref b] s) (k + 5) (n + 30) (k23 M x4) 23 [(0, .retAddr b), (1, .ref a1), (2, .ref a2), (3, .ref a3), (4, .int x4)] [] M) (M : kMem) (x4 : Int32) : GG (p, l, e, room_1, s, m, #[Value.ref b], below, meth, c, cL_law, 9, RL, g, 1000) (fun _ : Unit => lw_Z below #[Value.ref b] s) k n (F_L_law_2554 N Ls xs a1 a2 a3 k23 M x4) 2554 [(0, .retAddr b), (1, .ref a1), (2, .ref a2), (3, .ref a3), (4, .int x4)] [] M := by
  unfold F_L_law_2554
  refine g_aload_n 2555 1 hX dL_law_2554 rfl rfl ?_
  refine g_aloadS_n 2556 0 hX dL_law_2555 rfl rfl ?_
  refine g_iload 2558 4 hX dL_law_2556 rfl rfl ?_
  refine g_iconst 2559 hX 1 dL_law_2558 rfl kc_i_1 ?_
  refine g_iadd 2560 hX dL_law_2559 rfl ?_
  refine g_sld 2561 hX hSc hbl hbB dL_law_2560 rfl ?_
  refine g_aloadS_n 2562 0 hX dL_law_2561 rfl rfl ?_
  refine g_iload 2564 4 hX dL_law_2562 rfl rfl ?_
  refine g_iconst 2565 hX 2 dL_law_2564 rfl kc_i_2 ?_
  refine g_iadd 2566 hX dL_law_2565 rfl ?_
  refine g_sld 2567 hX hSc hbl hbB dL_law_2566 rfl ?_
  refine g_aloadS_n 2568 0 hX dL_law_2567 rfl rfl ?_
  refine g_iload 2570 4 hX dL_law_2568 rfl rfl ?_
  refine g_iconst 2571 hX 3 dL_law_2570 rfl kc_i_3 ?_
  refine g_iadd 2572 hX dL_law_2571 rfl ?_
  refine g_sld 2573 hX hSc hbl hbB dL_law_2572 rfl ?_
  refine g_aload_n 2574 3 hX dL_law_2573 rfl rfl ?_
  refine g_callSH 2577 hX hN (k_L_buySeat l g hf N M a1 (xs (kx (x4 + 1))) (xs (kx (x4 + 2))) (xs (kx (x4 + 3))) a3) lkH_L_buySeat q_1503 (by decide) rfl (Nat.le_of_ble_eq_true rfl) (by omega) (by omega) dL_law_2574 rfl (fun r1 => ?_)
  refine g_klI (fun v2 hv2 => ?_)
  refine g_istore 2579 5 [(5, .int v2), (0, .retAddr b), (1, .ref a1), (2, .ref a2), (3, .ref a3), (4, .int x4)] hX dL_law_2577 rfl (Nat.le_of_ble_eq_true rfl) rfl ?_
  refine g_aload_n 2580 3 hX dL_law_2579 rfl rfl ?_
  refine g_aloadS_n 2581 1 hX dL_law_2580 rfl rfl ?_
  refine g_iload 2583 5 hX dL_law_2581 rfl rfl ?_
  refine g_iconst 2584 hX 1 dL_law_2583 rfl kc_i_1 ?_
  refine g_iadd 2585 hX dL_law_2584 rfl ?_
  refine g_sld 2586 hX hSc hbl hbB dL_law_2585 rfl ?_
  refine g_aloadS_n 2587 1 hX dL_law_2586 rfl rfl ?_
  refine g_iload 2589 5 hX dL_law_2587 rfl rfl ?_
  refine g_iconst 2590 hX 2 dL_law_2589 rfl kc_i_2 ?_
  refine g_iadd 2591 hX dL_law_2590 rfl ?_
  refine g_sld 2592 hX hSc hbl hbB dL_law_2591 rfl ?_
  refine g_aloadS_n 2593 1 hX dL_law_2592 rfl rfl ?_
  refine g_iload 2595 5 hX dL_law_2593 rfl rfl ?_
  refine g_iconst 2596 hX 3 dL_law_2595 rfl kc_i_3 ?_
  refine g_iadd 2597 hX dL_law_2596 rfl ?_
  refine g_sld 2598 hX hSc hbl hbB dL_law_2597 rfl ?_
  refine g_callV_i 2601 hX (k_X12_buySeat l g N r1.2 a2 (xs (kx (x4 + 1))) (xs (kx (x4 + 2))) (xs (kx (x4 + 3)))) lk_X12_buySeat rfl (ci := 12) rfl (Nat.le_of_ble_eq_true rfl) q_2090 q_2092 (by decide) rfl (Nat.le_of_ble_eq_true rfl) (by omega) (by omega) dL_law_2598 rfl (fun r3 => ?_)
  refine g_klI (fun v4 hv4 => ?_)
  refine g_istore 2603 6 [(6, .int v4), (5, .int v2), (0, .retAddr b), (1, .ref a1), (2, .ref a2), (3, .ref a3), (4, .int x4)] hX dL_law_2601 rfl (Nat.le_of_ble_eq_true rfl) rfl ?_
  refine g_aload_n 2604 4 hX dL_law_2603 rfl rfl ?_
  refine g_callV_ip 2607 hX (k_X12_thrown l g N r3.2 a2) lk_X12_thrown rfl (ci := 12) rfl (Nat.le_of_ble_eq_true rfl) q_1730 q_1732 (by decide) rfl (Nat.le_of_ble_eq_true rfl) (by omega) (by omega) dL_law_2604 rfl (fun r5 => ?_)
  refine g_iload 2609 1 hX dL_law_2607 rfl rfl ?_
  refine g_icmp_eq 2614 2612 hX dL_law_2609 (by decide) rfl (fun _ => ?_) (fun _ => ?_)
  · refine g_iload 2616 1 hX dL_law_2614 rfl rfl ?_
    refine g_if_ne 2631 2619 hX dL_law_2616 (by decide) rfl (fun _ => ?_) (fun _ => ?_)
    · refine g_goto 3200 hX dL_law_2631 (by decide) ?_
      refine g_kl (fun v6 hv6 => ?_)
      refine g_iinc 3203 4 6 v6 [(4, .int v6), (6, .int v4), (5, .int v2), (0, .retAddr b), (1, .ref a1), (2, .ref a2), (3, .ref a3)] hX dL_law_3200 rfl rfl (by rw [hv6, kc_i_6]) (Nat.le_of_ble_eq_true rfl) rfl ?_
      refine g_goto 23 hX dL_law_3203 (by decide) ?_
      refine g_lv [3, 4, 5, 6, 0] rfl ?_
      refine g_widen (k2 := k + 5) (n2 := n + 30) (by omega) (by omega) ?_
      exact h23 r3.2 v6
    · refine g_aload_n 2620 5 hX dL_law_2619 rfl rfl ?_
      refine g_iconst 2621 hX 0 dL_law_2620 rfl kc_i_0 ?_
      refine g_lald 2622 hX dL_law_2621 rfl ?_
      refine g_iload 2624 0 hX dL_law_2622 rfl rfl ?_
      refine g_i2l 2625 hX dL_law_2624 rfl ?_
      refine g_lcmp 2626 hX dL_law_2625 rfl ?_
      refine g_if_eq 2631 2629 hX dL_law_2626 (by decide) rfl (fun _ => ?_) (fun _ => ?_)
      · refine g_goto 3200 hX dL_law_2631 (by decide) ?_
        refine g_kl (fun v7 hv7 => ?_)
        refine g_iinc 3203 4 6 v7 [(4, .int v7), (6, .int v4), (5, .int v2), (0, .retAddr b), (1, .ref a1), (2, .ref a2), (3, .ref a3)] hX dL_law_3200 rfl rfl (by rw [hv7, kc_i_6]) (Nat.le_of_ble_eq_true rfl) rfl ?_
        refine g_goto 23 hX dL_law_3203 (by decide) ?_
        refine g_lv [3, 4, 5, 6, 0] rfl ?_
        refine g_widen (k2 := k + 5) (n2 := n + 30) (by omega) (by omega) ?_
        exact h23 r3.2 v7
      · exact g_none
  · exact g_none
def F_L_law_2634 (N Ls : Nat) (xs : Nat → Int32) (a1 a2 a3 : Nat) (k23 : kMem → Int32 → Option Unit) (M : kMem) (x4 : Int32) : Option Unit :=
    kg (decide (0 ≤ x4 + 1) && decide ((x4 + 1 : Int32).toNatClampNeg < Ls)) <|
    (F_L_leaveSeat N M a1 (xs (kx (x4 + 1))) a3).bind fun r1 =>
    kl r1.1 fun v2 =>
    kg (decide (0 ≤ x4 + 1) && decide ((x4 + 1 : Int32).toNatClampNeg < Ls)) <|
    kg (kt r1.2 a2 12) <| (F_X12_leaveSeat N r1.2 a2 (xs (kx (x4 + 1)))).bind fun r3 =>
    kl r3.1 fun v4 =>
    kg (kt r3.2 a2 12) <| (F_X12_thrown N r3.2 a2).bind fun r5 =>
    if r5 = v2 then (
      if v2 = 0 then (
        kg (kin r3.2 a3 15 0) <|
        if (lg_cmp (kL r3.2 a3 (kx 0)) v4.toInt64) = 0 then (
          kl (x4 + 6) fun v7 =>
          k23 r3.2 v7) else
        none) else
      kl (x4 + 6) fun v6 =>
      k23 r3.2 v6) else
    none
set_option maxRecDepth 100000 in
set_option maxHeartbeats 4000000 in
theorem k_L_law_2634 {p : Program} {l : Launch} {e : Env} {s : State} {m : MethodId} {below : List Frame} {meth : Method} {c : Code} {g : kG} {b Ls : Nat} {xs : Nat → Int32} (hX : Cok (p, l, e, room_1, s, m, #[Value.ref b], below, meth, c, cL_law, 9, RL, g, 1000)) (hf : l.flags = flags0) (hN : kNc s) (hSc : va_X b Ls xs s s.heap) (hbl : b < s.heap.size) (hbB : s.heap.size = g.2.2.1 + 1) {k n : Nat} (hk : k + 5 ≤ room_1.cells) (hn : n + 30 ≤ room_1.slots) (N a1 a2 a3 : Nat) (k23 : kMem → Int32 → Option Unit) (h23 : ∀ (M : kMem) (x4 : Int32), GG (p, l, e, room_1, s, m, #[Value.ref b], below, meth, c, cL_law, 9, RL, g, 1000) (fun _ : Unit => lw_Z below #[Value.ref b] s) (k + 5) (n + 30) (k23 M x4) 23 [(0, .retAddr b), (1, .ref a1), (2, .ref a2), (3, .ref a3), (4, .int x4)] [] M) (M : kMem) (x4 : Int32) : GG (p, l, e, room_1, s, m, #[Value.ref b], below, meth, c, cL_law, 9, RL, g, 1000) (fun _ : Unit => lw_Z below #[Value.ref b] s) k n (F_L_law_2634 N Ls xs a1 a2 a3 k23 M x4) 2634 [(0, .retAddr b), (1, .ref a1), (2, .ref a2), (3, .ref a3), (4, .int x4)] [] M := by
  unfold F_L_law_2634
  refine g_aload_n 2635 1 hX dL_law_2634 rfl rfl ?_
  refine g_aloadS_n 2636 0 hX dL_law_2635 rfl rfl ?_
  refine g_iload 2638 4 hX dL_law_2636 rfl rfl ?_
  refine g_iconst 2639 hX 1 dL_law_2638 rfl kc_i_1 ?_
  refine g_iadd 2640 hX dL_law_2639 rfl ?_
  refine g_sld 2641 hX hSc hbl hbB dL_law_2640 rfl ?_
  refine g_aload_n 2642 3 hX dL_law_2641 rfl rfl ?_
  refine g_callSH 2645 hX hN (k_L_leaveSeat l g hf N M a1 (xs (kx (x4 + 1))) a3) lkH_L_leaveSeat q_1515 (by decide) rfl (Nat.le_of_ble_eq_true rfl) (by omega) (by omega) dL_law_2642 rfl (fun r1 => ?_)
  refine g_klI (fun v2 hv2 => ?_)
  refine g_istore 2647 5 [(5, .int v2), (0, .retAddr b), (1, .ref a1), (2, .ref a2), (3, .ref a3), (4, .int x4)] hX dL_law_2645 rfl (Nat.le_of_ble_eq_true rfl) rfl ?_
  refine g_aload_n 2648 3 hX dL_law_2647 rfl rfl ?_
  refine g_aloadS_n 2649 1 hX dL_law_2648 rfl rfl ?_
  refine g_iload 2651 5 hX dL_law_2649 rfl rfl ?_
  refine g_iconst 2652 hX 1 dL_law_2651 rfl kc_i_1 ?_
  refine g_iadd 2653 hX dL_law_2652 rfl ?_
  refine g_sld 2654 hX hSc hbl hbB dL_law_2653 rfl ?_
  refine g_callV_i 2657 hX (k_X12_leaveSeat l g N r1.2 a2 (xs (kx (x4 + 1)))) lk_X12_leaveSeat rfl (ci := 12) rfl (Nat.le_of_ble_eq_true rfl) q_2106 q_2108 (by decide) rfl (Nat.le_of_ble_eq_true rfl) (by omega) (by omega) dL_law_2654 rfl (fun r3 => ?_)
  refine g_klI (fun v4 hv4 => ?_)
  refine g_istore 2659 6 [(6, .int v4), (5, .int v2), (0, .retAddr b), (1, .ref a1), (2, .ref a2), (3, .ref a3), (4, .int x4)] hX dL_law_2657 rfl (Nat.le_of_ble_eq_true rfl) rfl ?_
  refine g_aload_n 2660 4 hX dL_law_2659 rfl rfl ?_
  refine g_callV_ip 2663 hX (k_X12_thrown l g N r3.2 a2) lk_X12_thrown rfl (ci := 12) rfl (Nat.le_of_ble_eq_true rfl) q_1730 q_1732 (by decide) rfl (Nat.le_of_ble_eq_true rfl) (by omega) (by omega) dL_law_2660 rfl (fun r5 => ?_)
  refine g_iload 2665 1 hX dL_law_2663 rfl rfl ?_
  refine g_icmp_eq 2670 2668 hX dL_law_2665 (by decide) rfl (fun _ => ?_) (fun _ => ?_)
  · refine g_iload 2672 1 hX dL_law_2670 rfl rfl ?_
    refine g_if_ne 2687 2675 hX dL_law_2672 (by decide) rfl (fun _ => ?_) (fun _ => ?_)
    · refine g_goto 3200 hX dL_law_2687 (by decide) ?_
      refine g_kl (fun v6 hv6 => ?_)
      refine g_iinc 3203 4 6 v6 [(4, .int v6), (6, .int v4), (5, .int v2), (0, .retAddr b), (1, .ref a1), (2, .ref a2), (3, .ref a3)] hX dL_law_3200 rfl rfl (by rw [hv6, kc_i_6]) (Nat.le_of_ble_eq_true rfl) rfl ?_
      refine g_goto 23 hX dL_law_3203 (by decide) ?_
      refine g_lv [3, 4, 5, 6, 0] rfl ?_
      refine g_widen (k2 := k + 5) (n2 := n + 30) (by omega) (by omega) ?_
      exact h23 r3.2 v6
    · refine g_aload_n 2676 5 hX dL_law_2675 rfl rfl ?_
      refine g_iconst 2677 hX 0 dL_law_2676 rfl kc_i_0 ?_
      refine g_lald 2678 hX dL_law_2677 rfl ?_
      refine g_iload 2680 0 hX dL_law_2678 rfl rfl ?_
      refine g_i2l 2681 hX dL_law_2680 rfl ?_
      refine g_lcmp 2682 hX dL_law_2681 rfl ?_
      refine g_if_eq 2687 2685 hX dL_law_2682 (by decide) rfl (fun _ => ?_) (fun _ => ?_)
      · refine g_goto 3200 hX dL_law_2687 (by decide) ?_
        refine g_kl (fun v7 hv7 => ?_)
        refine g_iinc 3203 4 6 v7 [(4, .int v7), (6, .int v4), (5, .int v2), (0, .retAddr b), (1, .ref a1), (2, .ref a2), (3, .ref a3)] hX dL_law_3200 rfl rfl (by rw [hv7, kc_i_6]) (Nat.le_of_ble_eq_true rfl) rfl ?_
        refine g_goto 23 hX dL_law_3203 (by decide) ?_
        refine g_lv [3, 4, 5, 6, 0] rfl ?_
        refine g_widen (k2 := k + 5) (n2 := n + 30) (by omega) (by omega) ?_
        exact h23 r3.2 v7
      · exact g_none
  · exact g_none
def F_L_law_2690 (N Ls : Nat) (xs : Nat → Int32) (a1 a2 a3 : Nat) (k23 : kMem → Int32 → Option Unit) (M : kMem) (x4 : Int32) : Option Unit :=
    kg (decide (0 ≤ x4 + 1) && decide ((x4 + 1 : Int32).toNatClampNeg < Ls)) <|
    kg (decide (0 ≤ x4 + 2) && decide ((x4 + 2 : Int32).toNatClampNeg < Ls)) <|
    kg (decide (0 ≤ x4 + 3) && decide ((x4 + 3 : Int32).toNatClampNeg < Ls)) <|
    (F_L_sellWeight N M a1 (xs (kx (x4 + 1))) (xs (kx (x4 + 2))) (xs (kx (x4 + 3))) a3).bind fun r1 =>
    kl r1.1 fun v2 =>
    kg (decide (0 ≤ x4 + 1) && decide ((x4 + 1 : Int32).toNatClampNeg < Ls)) <|
    kg (decide (0 ≤ x4 + 2) && decide ((x4 + 2 : Int32).toNatClampNeg < Ls)) <|
    kg (decide (0 ≤ x4 + 3) && decide ((x4 + 3 : Int32).toNatClampNeg < Ls)) <|
    kg (kt r1.2 a2 12) <| (F_X12_sellWeight N r1.2 a2 (xs (kx (x4 + 1))) (xs (kx (x4 + 2))) (xs (kx (x4 + 3)))).bind fun r3 =>
    kl r3.1 fun v4 =>
    kg (kt r3.2 a2 12) <| (F_X12_thrown N r3.2 a2).bind fun r5 =>
    if r5 = v2 then (
      if v2 = 0 then (
        kg (kin r3.2 a3 15 0) <|
        if (lg_cmp (kL r3.2 a3 (kx 0)) v4.toInt64) = 0 then (
          kl (x4 + 6) fun v7 =>
          k23 r3.2 v7) else
        none) else
      kl (x4 + 6) fun v6 =>
      k23 r3.2 v6) else
    none
set_option maxRecDepth 100000 in
set_option maxHeartbeats 4000000 in
theorem k_L_law_2690 {p : Program} {l : Launch} {e : Env} {s : State} {m : MethodId} {below : List Frame} {meth : Method} {c : Code} {g : kG} {b Ls : Nat} {xs : Nat → Int32} (hX : Cok (p, l, e, room_1, s, m, #[Value.ref b], below, meth, c, cL_law, 9, RL, g, 1000)) (hf : l.flags = flags0) (hN : kNc s) (hSc : va_X b Ls xs s s.heap) (hbl : b < s.heap.size) (hbB : s.heap.size = g.2.2.1 + 1) {k n : Nat} (hk : k + 5 ≤ room_1.cells) (hn : n + 30 ≤ room_1.slots) (N a1 a2 a3 : Nat) (k23 : kMem → Int32 → Option Unit) (h23 : ∀ (M : kMem) (x4 : Int32), GG (p, l, e, room_1, s, m, #[Value.ref b], below, meth, c, cL_law, 9, RL, g, 1000) (fun _ : Unit => lw_Z below #[Value.ref b] s) (k + 5) (n + 30) (k23 M x4) 23 [(0, .retAddr b), (1, .ref a1), (2, .ref a2), (3, .ref a3), (4, .int x4)] [] M) (M : kMem) (x4 : Int32) : GG (p, l, e, room_1, s, m, #[Value.ref b], below, meth, c, cL_law, 9, RL, g, 1000) (fun _ : Unit => lw_Z below #[Value.ref b] s) k n (F_L_law_2690 N Ls xs a1 a2 a3 k23 M x4) 2690 [(0, .retAddr b), (1, .ref a1), (2, .ref a2), (3, .ref a3), (4, .int x4)] [] M := by
  unfold F_L_law_2690
  refine g_aload_n 2691 1 hX dL_law_2690 rfl rfl ?_
  refine g_aloadS_n 2692 0 hX dL_law_2691 rfl rfl ?_
  refine g_iload 2694 4 hX dL_law_2692 rfl rfl ?_
  refine g_iconst 2695 hX 1 dL_law_2694 rfl kc_i_1 ?_
  refine g_iadd 2696 hX dL_law_2695 rfl ?_
  refine g_sld 2697 hX hSc hbl hbB dL_law_2696 rfl ?_
  refine g_aloadS_n 2698 0 hX dL_law_2697 rfl rfl ?_
  refine g_iload 2700 4 hX dL_law_2698 rfl rfl ?_
  refine g_iconst 2701 hX 2 dL_law_2700 rfl kc_i_2 ?_
  refine g_iadd 2702 hX dL_law_2701 rfl ?_
  refine g_sld 2703 hX hSc hbl hbB dL_law_2702 rfl ?_
  refine g_aloadS_n 2704 0 hX dL_law_2703 rfl rfl ?_
  refine g_iload 2706 4 hX dL_law_2704 rfl rfl ?_
  refine g_iconst 2707 hX 3 dL_law_2706 rfl kc_i_3 ?_
  refine g_iadd 2708 hX dL_law_2707 rfl ?_
  refine g_sld 2709 hX hSc hbl hbB dL_law_2708 rfl ?_
  refine g_aload_n 2710 3 hX dL_law_2709 rfl rfl ?_
  refine g_callSH 2713 hX hN (k_L_sellWeight l g hf N M a1 (xs (kx (x4 + 1))) (xs (kx (x4 + 2))) (xs (kx (x4 + 3))) a3) lkH_L_sellWeight q_1523 (by decide) rfl (Nat.le_of_ble_eq_true rfl) (by omega) (by omega) dL_law_2710 rfl (fun r1 => ?_)
  refine g_klI (fun v2 hv2 => ?_)
  refine g_istore 2715 5 [(5, .int v2), (0, .retAddr b), (1, .ref a1), (2, .ref a2), (3, .ref a3), (4, .int x4)] hX dL_law_2713 rfl (Nat.le_of_ble_eq_true rfl) rfl ?_
  refine g_aload_n 2716 3 hX dL_law_2715 rfl rfl ?_
  refine g_aloadS_n 2717 1 hX dL_law_2716 rfl rfl ?_
  refine g_iload 2719 5 hX dL_law_2717 rfl rfl ?_
  refine g_iconst 2720 hX 1 dL_law_2719 rfl kc_i_1 ?_
  refine g_iadd 2721 hX dL_law_2720 rfl ?_
  refine g_sld 2722 hX hSc hbl hbB dL_law_2721 rfl ?_
  refine g_aloadS_n 2723 1 hX dL_law_2722 rfl rfl ?_
  refine g_iload 2725 5 hX dL_law_2723 rfl rfl ?_
  refine g_iconst 2726 hX 2 dL_law_2725 rfl kc_i_2 ?_
  refine g_iadd 2727 hX dL_law_2726 rfl ?_
  refine g_sld 2728 hX hSc hbl hbB dL_law_2727 rfl ?_
  refine g_aloadS_n 2729 1 hX dL_law_2728 rfl rfl ?_
  refine g_iload 2731 5 hX dL_law_2729 rfl rfl ?_
  refine g_iconst 2732 hX 3 dL_law_2731 rfl kc_i_3 ?_
  refine g_iadd 2733 hX dL_law_2732 rfl ?_
  refine g_sld 2734 hX hSc hbl hbB dL_law_2733 rfl ?_
  refine g_callV_i 2737 hX (k_X12_sellWeight l g N r1.2 a2 (xs (kx (x4 + 1))) (xs (kx (x4 + 2))) (xs (kx (x4 + 3)))) lk_X12_sellWeight rfl (ci := 12) rfl (Nat.le_of_ble_eq_true rfl) q_2110 q_2112 (by decide) rfl (Nat.le_of_ble_eq_true rfl) (by omega) (by omega) dL_law_2734 rfl (fun r3 => ?_)
  refine g_klI (fun v4 hv4 => ?_)
  refine g_istore 2739 6 [(6, .int v4), (5, .int v2), (0, .retAddr b), (1, .ref a1), (2, .ref a2), (3, .ref a3), (4, .int x4)] hX dL_law_2737 rfl (Nat.le_of_ble_eq_true rfl) rfl ?_
  refine g_aload_n 2740 4 hX dL_law_2739 rfl rfl ?_
  refine g_callV_ip 2743 hX (k_X12_thrown l g N r3.2 a2) lk_X12_thrown rfl (ci := 12) rfl (Nat.le_of_ble_eq_true rfl) q_1730 q_1732 (by decide) rfl (Nat.le_of_ble_eq_true rfl) (by omega) (by omega) dL_law_2740 rfl (fun r5 => ?_)
  refine g_iload 2745 1 hX dL_law_2743 rfl rfl ?_
  refine g_icmp_eq 2750 2748 hX dL_law_2745 (by decide) rfl (fun _ => ?_) (fun _ => ?_)
  · refine g_iload 2752 1 hX dL_law_2750 rfl rfl ?_
    refine g_if_ne 2767 2755 hX dL_law_2752 (by decide) rfl (fun _ => ?_) (fun _ => ?_)
    · refine g_goto 3200 hX dL_law_2767 (by decide) ?_
      refine g_kl (fun v6 hv6 => ?_)
      refine g_iinc 3203 4 6 v6 [(4, .int v6), (6, .int v4), (5, .int v2), (0, .retAddr b), (1, .ref a1), (2, .ref a2), (3, .ref a3)] hX dL_law_3200 rfl rfl (by rw [hv6, kc_i_6]) (Nat.le_of_ble_eq_true rfl) rfl ?_
      refine g_goto 23 hX dL_law_3203 (by decide) ?_
      refine g_lv [3, 4, 5, 6, 0] rfl ?_
      refine g_widen (k2 := k + 5) (n2 := n + 30) (by omega) (by omega) ?_
      exact h23 r3.2 v6
    · refine g_aload_n 2756 5 hX dL_law_2755 rfl rfl ?_
      refine g_iconst 2757 hX 0 dL_law_2756 rfl kc_i_0 ?_
      refine g_lald 2758 hX dL_law_2757 rfl ?_
      refine g_iload 2760 0 hX dL_law_2758 rfl rfl ?_
      refine g_i2l 2761 hX dL_law_2760 rfl ?_
      refine g_lcmp 2762 hX dL_law_2761 rfl ?_
      refine g_if_eq 2767 2765 hX dL_law_2762 (by decide) rfl (fun _ => ?_) (fun _ => ?_)
      · refine g_goto 3200 hX dL_law_2767 (by decide) ?_
        refine g_kl (fun v7 hv7 => ?_)
        refine g_iinc 3203 4 6 v7 [(4, .int v7), (6, .int v4), (5, .int v2), (0, .retAddr b), (1, .ref a1), (2, .ref a2), (3, .ref a3)] hX dL_law_3200 rfl rfl (by rw [hv7, kc_i_6]) (Nat.le_of_ble_eq_true rfl) rfl ?_
        refine g_goto 23 hX dL_law_3203 (by decide) ?_
        refine g_lv [3, 4, 5, 6, 0] rfl ?_
        refine g_widen (k2 := k + 5) (n2 := n + 30) (by omega) (by omega) ?_
        exact h23 r3.2 v7
      · exact g_none
  · exact g_none
def F_L_law_2770 (N Ls : Nat) (xs : Nat → Int32) (a1 a2 a3 : Nat) (k23 : kMem → Int32 → Option Unit) (M : kMem) (x4 : Int32) : Option Unit :=
    kg (decide (0 ≤ x4 + 1) && decide ((x4 + 1 : Int32).toNatClampNeg < Ls)) <|
    kg (decide (0 ≤ x4 + 2) && decide ((x4 + 2 : Int32).toNatClampNeg < Ls)) <|
    (F_L_swapSeats N M a1 (xs (kx (x4 + 1))) (xs (kx (x4 + 2))) a3).bind fun r1 =>
    kl r1.1 fun v2 =>
    kg (decide (0 ≤ x4 + 1) && decide ((x4 + 1 : Int32).toNatClampNeg < Ls)) <|
    kg (decide (0 ≤ x4 + 2) && decide ((x4 + 2 : Int32).toNatClampNeg < Ls)) <|
    kg (kt r1.2 a2 12) <| (F_X12_swapSeats N r1.2 a2 (xs (kx (x4 + 1))) (xs (kx (x4 + 2)))).bind fun r3 =>
    kl r3.1 fun v4 =>
    kg (kt r3.2 a2 12) <| (F_X12_thrown N r3.2 a2).bind fun r5 =>
    if r5 = v2 then (
      if v2 = 0 then (
        kg (kin r3.2 a3 15 0) <|
        if (lg_cmp (kL r3.2 a3 (kx 0)) v4.toInt64) = 0 then (
          kl (x4 + 6) fun v7 =>
          k23 r3.2 v7) else
        none) else
      kl (x4 + 6) fun v6 =>
      k23 r3.2 v6) else
    none
set_option maxRecDepth 100000 in
set_option maxHeartbeats 4000000 in
theorem k_L_law_2770 {p : Program} {l : Launch} {e : Env} {s : State} {m : MethodId} {below : List Frame} {meth : Method} {c : Code} {g : kG} {b Ls : Nat} {xs : Nat → Int32} (hX : Cok (p, l, e, room_1, s, m, #[Value.ref b], below, meth, c, cL_law, 9, RL, g, 1000)) (hf : l.flags = flags0) (hN : kNc s) (hSc : va_X b Ls xs s s.heap) (hbl : b < s.heap.size) (hbB : s.heap.size = g.2.2.1 + 1) {k n : Nat} (hk : k + 5 ≤ room_1.cells) (hn : n + 30 ≤ room_1.slots) (N a1 a2 a3 : Nat) (k23 : kMem → Int32 → Option Unit) (h23 : ∀ (M : kMem) (x4 : Int32), GG (p, l, e, room_1, s, m, #[Value.ref b], below, meth, c, cL_law, 9, RL, g, 1000) (fun _ : Unit => lw_Z below #[Value.ref b] s) (k + 5) (n + 30) (k23 M x4) 23 [(0, .retAddr b), (1, .ref a1), (2, .ref a2), (3, .ref a3), (4, .int x4)] [] M) (M : kMem) (x4 : Int32) : GG (p, l, e, room_1, s, m, #[Value.ref b], below, meth, c, cL_law, 9, RL, g, 1000) (fun _ : Unit => lw_Z below #[Value.ref b] s) k n (F_L_law_2770 N Ls xs a1 a2 a3 k23 M x4) 2770 [(0, .retAddr b), (1, .ref a1), (2, .ref a2), (3, .ref a3), (4, .int x4)] [] M := by
  unfold F_L_law_2770
  refine g_aload_n 2771 1 hX dL_law_2770 rfl rfl ?_
  refine g_aloadS_n 2772 0 hX dL_law_2771 rfl rfl ?_
  refine g_iload 2774 4 hX dL_law_2772 rfl rfl ?_
  refine g_iconst 2775 hX 1 dL_law_2774 rfl kc_i_1 ?_
  refine g_iadd 2776 hX dL_law_2775 rfl ?_
  refine g_sld 2777 hX hSc hbl hbB dL_law_2776 rfl ?_
  refine g_aloadS_n 2778 0 hX dL_law_2777 rfl rfl ?_
  refine g_iload 2780 4 hX dL_law_2778 rfl rfl ?_
  refine g_iconst 2781 hX 2 dL_law_2780 rfl kc_i_2 ?_
  refine g_iadd 2782 hX dL_law_2781 rfl ?_
  refine g_sld 2783 hX hSc hbl hbB dL_law_2782 rfl ?_
  refine g_aload_n 2784 3 hX dL_law_2783 rfl rfl ?_
  refine g_callSH 2787 hX hN (k_L_swapSeats l g hf N M a1 (xs (kx (x4 + 1))) (xs (kx (x4 + 2))) a3) lkH_L_swapSeats q_1531 (by decide) rfl (Nat.le_of_ble_eq_true rfl) (by omega) (by omega) dL_law_2784 rfl (fun r1 => ?_)
  refine g_klI (fun v2 hv2 => ?_)
  refine g_istore 2789 5 [(5, .int v2), (0, .retAddr b), (1, .ref a1), (2, .ref a2), (3, .ref a3), (4, .int x4)] hX dL_law_2787 rfl (Nat.le_of_ble_eq_true rfl) rfl ?_
  refine g_aload_n 2790 3 hX dL_law_2789 rfl rfl ?_
  refine g_aloadS_n 2791 1 hX dL_law_2790 rfl rfl ?_
  refine g_iload 2793 5 hX dL_law_2791 rfl rfl ?_
  refine g_iconst 2794 hX 1 dL_law_2793 rfl kc_i_1 ?_
  refine g_iadd 2795 hX dL_law_2794 rfl ?_
  refine g_sld 2796 hX hSc hbl hbB dL_law_2795 rfl ?_
  refine g_aloadS_n 2797 1 hX dL_law_2796 rfl rfl ?_
  refine g_iload 2799 5 hX dL_law_2797 rfl rfl ?_
  refine g_iconst 2800 hX 2 dL_law_2799 rfl kc_i_2 ?_
  refine g_iadd 2801 hX dL_law_2800 rfl ?_
  refine g_sld 2802 hX hSc hbl hbB dL_law_2801 rfl ?_
  refine g_callV_i 2805 hX (k_X12_swapSeats l g N r1.2 a2 (xs (kx (x4 + 1))) (xs (kx (x4 + 2)))) lk_X12_swapSeats rfl (ci := 12) rfl (Nat.le_of_ble_eq_true rfl) q_2119 q_2121 (by decide) rfl (Nat.le_of_ble_eq_true rfl) (by omega) (by omega) dL_law_2802 rfl (fun r3 => ?_)
  refine g_klI (fun v4 hv4 => ?_)
  refine g_istore 2807 6 [(6, .int v4), (5, .int v2), (0, .retAddr b), (1, .ref a1), (2, .ref a2), (3, .ref a3), (4, .int x4)] hX dL_law_2805 rfl (Nat.le_of_ble_eq_true rfl) rfl ?_
  refine g_aload_n 2808 4 hX dL_law_2807 rfl rfl ?_
  refine g_callV_ip 2811 hX (k_X12_thrown l g N r3.2 a2) lk_X12_thrown rfl (ci := 12) rfl (Nat.le_of_ble_eq_true rfl) q_1730 q_1732 (by decide) rfl (Nat.le_of_ble_eq_true rfl) (by omega) (by omega) dL_law_2808 rfl (fun r5 => ?_)
  refine g_iload 2813 1 hX dL_law_2811 rfl rfl ?_
  refine g_icmp_eq 2818 2816 hX dL_law_2813 (by decide) rfl (fun _ => ?_) (fun _ => ?_)
  · refine g_iload 2820 1 hX dL_law_2818 rfl rfl ?_
    refine g_if_ne 2835 2823 hX dL_law_2820 (by decide) rfl (fun _ => ?_) (fun _ => ?_)
    · refine g_goto 3200 hX dL_law_2835 (by decide) ?_
      refine g_kl (fun v6 hv6 => ?_)
      refine g_iinc 3203 4 6 v6 [(4, .int v6), (6, .int v4), (5, .int v2), (0, .retAddr b), (1, .ref a1), (2, .ref a2), (3, .ref a3)] hX dL_law_3200 rfl rfl (by rw [hv6, kc_i_6]) (Nat.le_of_ble_eq_true rfl) rfl ?_
      refine g_goto 23 hX dL_law_3203 (by decide) ?_
      refine g_lv [3, 4, 5, 6, 0] rfl ?_
      refine g_widen (k2 := k + 5) (n2 := n + 30) (by omega) (by omega) ?_
      exact h23 r3.2 v6
    · refine g_aload_n 2824 5 hX dL_law_2823 rfl rfl ?_
      refine g_iconst 2825 hX 0 dL_law_2824 rfl kc_i_0 ?_
      refine g_lald 2826 hX dL_law_2825 rfl ?_
      refine g_iload 2828 0 hX dL_law_2826 rfl rfl ?_
      refine g_i2l 2829 hX dL_law_2828 rfl ?_
      refine g_lcmp 2830 hX dL_law_2829 rfl ?_
      refine g_if_eq 2835 2833 hX dL_law_2830 (by decide) rfl (fun _ => ?_) (fun _ => ?_)
      · refine g_goto 3200 hX dL_law_2835 (by decide) ?_
        refine g_kl (fun v7 hv7 => ?_)
        refine g_iinc 3203 4 6 v7 [(4, .int v7), (6, .int v4), (5, .int v2), (0, .retAddr b), (1, .ref a1), (2, .ref a2), (3, .ref a3)] hX dL_law_3200 rfl rfl (by rw [hv7, kc_i_6]) (Nat.le_of_ble_eq_true rfl) rfl ?_
        refine g_goto 23 hX dL_law_3203 (by decide) ?_
        refine g_lv [3, 4, 5, 6, 0] rfl ?_
        refine g_widen (k2 := k + 5) (n2 := n + 30) (by omega) (by omega) ?_
        exact h23 r3.2 v7
      · exact g_none
  · exact g_none
def F_L_law_2838 (N Ls : Nat) (xs : Nat → Int32) (a1 a2 a3 : Nat) (k23 : kMem → Int32 → Option Unit) (M : kMem) (x4 : Int32) : Option Unit :=
    kg (decide (0 ≤ x4 + 1) && decide ((x4 + 1 : Int32).toNatClampNeg < Ls)) <|
    (F_L_setWage N M a1 (xs (kx (x4 + 1))) a3).bind fun r1 =>
    kl r1.1 fun v2 =>
    kg (decide (0 ≤ x4 + 1) && decide ((x4 + 1 : Int32).toNatClampNeg < Ls)) <|
    kg (kt r1.2 a2 12) <| (F_X12_setWage N r1.2 a2 (xs (kx (x4 + 1)))).bind fun r3 =>
    kl r3.1 fun v4 =>
    kg (kt r3.2 a2 12) <| (F_X12_thrown N r3.2 a2).bind fun r5 =>
    if r5 = v2 then (
      if v2 = 0 then (
        kg (kin r3.2 a3 15 0) <|
        if (lg_cmp (kL r3.2 a3 (kx 0)) v4.toInt64) = 0 then (
          kl (x4 + 6) fun v7 =>
          k23 r3.2 v7) else
        none) else
      kl (x4 + 6) fun v6 =>
      k23 r3.2 v6) else
    none
set_option maxRecDepth 100000 in
set_option maxHeartbeats 4000000 in
theorem k_L_law_2838 {p : Program} {l : Launch} {e : Env} {s : State} {m : MethodId} {below : List Frame} {meth : Method} {c : Code} {g : kG} {b Ls : Nat} {xs : Nat → Int32} (hX : Cok (p, l, e, room_1, s, m, #[Value.ref b], below, meth, c, cL_law, 9, RL, g, 1000)) (hf : l.flags = flags0) (hN : kNc s) (hSc : va_X b Ls xs s s.heap) (hbl : b < s.heap.size) (hbB : s.heap.size = g.2.2.1 + 1) {k n : Nat} (hk : k + 5 ≤ room_1.cells) (hn : n + 30 ≤ room_1.slots) (N a1 a2 a3 : Nat) (k23 : kMem → Int32 → Option Unit) (h23 : ∀ (M : kMem) (x4 : Int32), GG (p, l, e, room_1, s, m, #[Value.ref b], below, meth, c, cL_law, 9, RL, g, 1000) (fun _ : Unit => lw_Z below #[Value.ref b] s) (k + 5) (n + 30) (k23 M x4) 23 [(0, .retAddr b), (1, .ref a1), (2, .ref a2), (3, .ref a3), (4, .int x4)] [] M) (M : kMem) (x4 : Int32) : GG (p, l, e, room_1, s, m, #[Value.ref b], below, meth, c, cL_law, 9, RL, g, 1000) (fun _ : Unit => lw_Z below #[Value.ref b] s) k n (F_L_law_2838 N Ls xs a1 a2 a3 k23 M x4) 2838 [(0, .retAddr b), (1, .ref a1), (2, .ref a2), (3, .ref a3), (4, .int x4)] [] M := by
  unfold F_L_law_2838
  refine g_aload_n 2839 1 hX dL_law_2838 rfl rfl ?_
  refine g_aloadS_n 2840 0 hX dL_law_2839 rfl rfl ?_
  refine g_iload 2842 4 hX dL_law_2840 rfl rfl ?_
  refine g_iconst 2843 hX 1 dL_law_2842 rfl kc_i_1 ?_
  refine g_iadd 2844 hX dL_law_2843 rfl ?_
  refine g_sld 2845 hX hSc hbl hbB dL_law_2844 rfl ?_
  refine g_aload_n 2846 3 hX dL_law_2845 rfl rfl ?_
  refine g_callSH 2849 hX hN (k_L_setWage l g hf N M a1 (xs (kx (x4 + 1))) a3) lkH_L_setWage q_1539 (by decide) rfl (Nat.le_of_ble_eq_true rfl) (by omega) (by omega) dL_law_2846 rfl (fun r1 => ?_)
  refine g_klI (fun v2 hv2 => ?_)
  refine g_istore 2851 5 [(5, .int v2), (0, .retAddr b), (1, .ref a1), (2, .ref a2), (3, .ref a3), (4, .int x4)] hX dL_law_2849 rfl (Nat.le_of_ble_eq_true rfl) rfl ?_
  refine g_aload_n 2852 3 hX dL_law_2851 rfl rfl ?_
  refine g_aloadS_n 2853 1 hX dL_law_2852 rfl rfl ?_
  refine g_iload 2855 5 hX dL_law_2853 rfl rfl ?_
  refine g_iconst 2856 hX 1 dL_law_2855 rfl kc_i_1 ?_
  refine g_iadd 2857 hX dL_law_2856 rfl ?_
  refine g_sld 2858 hX hSc hbl hbB dL_law_2857 rfl ?_
  refine g_callV_i 2861 hX (k_X12_setWage l g N r1.2 a2 (xs (kx (x4 + 1)))) lk_X12_setWage rfl (ci := 12) rfl (Nat.le_of_ble_eq_true rfl) q_2127 q_2129 (by decide) rfl (Nat.le_of_ble_eq_true rfl) (by omega) (by omega) dL_law_2858 rfl (fun r3 => ?_)
  refine g_klI (fun v4 hv4 => ?_)
  refine g_istore 2863 6 [(6, .int v4), (5, .int v2), (0, .retAddr b), (1, .ref a1), (2, .ref a2), (3, .ref a3), (4, .int x4)] hX dL_law_2861 rfl (Nat.le_of_ble_eq_true rfl) rfl ?_
  refine g_aload_n 2864 4 hX dL_law_2863 rfl rfl ?_
  refine g_callV_ip 2867 hX (k_X12_thrown l g N r3.2 a2) lk_X12_thrown rfl (ci := 12) rfl (Nat.le_of_ble_eq_true rfl) q_1730 q_1732 (by decide) rfl (Nat.le_of_ble_eq_true rfl) (by omega) (by omega) dL_law_2864 rfl (fun r5 => ?_)
  refine g_iload 2869 1 hX dL_law_2867 rfl rfl ?_
  refine g_icmp_eq 2874 2872 hX dL_law_2869 (by decide) rfl (fun _ => ?_) (fun _ => ?_)
  · refine g_iload 2876 1 hX dL_law_2874 rfl rfl ?_
    refine g_if_ne 2891 2879 hX dL_law_2876 (by decide) rfl (fun _ => ?_) (fun _ => ?_)
    · refine g_goto 3200 hX dL_law_2891 (by decide) ?_
      refine g_kl (fun v6 hv6 => ?_)
      refine g_iinc 3203 4 6 v6 [(4, .int v6), (6, .int v4), (5, .int v2), (0, .retAddr b), (1, .ref a1), (2, .ref a2), (3, .ref a3)] hX dL_law_3200 rfl rfl (by rw [hv6, kc_i_6]) (Nat.le_of_ble_eq_true rfl) rfl ?_
      refine g_goto 23 hX dL_law_3203 (by decide) ?_
      refine g_lv [3, 4, 5, 6, 0] rfl ?_
      refine g_widen (k2 := k + 5) (n2 := n + 30) (by omega) (by omega) ?_
      exact h23 r3.2 v6
    · refine g_aload_n 2880 5 hX dL_law_2879 rfl rfl ?_
      refine g_iconst 2881 hX 0 dL_law_2880 rfl kc_i_0 ?_
      refine g_lald 2882 hX dL_law_2881 rfl ?_
      refine g_iload 2884 0 hX dL_law_2882 rfl rfl ?_
      refine g_i2l 2885 hX dL_law_2884 rfl ?_
      refine g_lcmp 2886 hX dL_law_2885 rfl ?_
      refine g_if_eq 2891 2889 hX dL_law_2886 (by decide) rfl (fun _ => ?_) (fun _ => ?_)
      · refine g_goto 3200 hX dL_law_2891 (by decide) ?_
        refine g_kl (fun v7 hv7 => ?_)
        refine g_iinc 3203 4 6 v7 [(4, .int v7), (6, .int v4), (5, .int v2), (0, .retAddr b), (1, .ref a1), (2, .ref a2), (3, .ref a3)] hX dL_law_3200 rfl rfl (by rw [hv7, kc_i_6]) (Nat.le_of_ble_eq_true rfl) rfl ?_
        refine g_goto 23 hX dL_law_3203 (by decide) ?_
        refine g_lv [3, 4, 5, 6, 0] rfl ?_
        refine g_widen (k2 := k + 5) (n2 := n + 30) (by omega) (by omega) ?_
        exact h23 r3.2 v7
      · exact g_none
  · exact g_none
def F_L_law_2894 (N Ls : Nat) (xs : Nat → Int32) (a1 a2 a3 : Nat) (k23 : kMem → Int32 → Option Unit) (M : kMem) (x4 : Int32) : Option Unit :=
    kg (decide (0 ≤ x4 + 1) && decide ((x4 + 1 : Int32).toNatClampNeg < Ls)) <|
    (F_L_advance N M a1 (xs (kx (x4 + 1))) a3).bind fun r1 =>
    kl r1.1 fun v2 =>
    kg (decide (0 ≤ x4 + 1) && decide ((x4 + 1 : Int32).toNatClampNeg < Ls)) <|
    kg (kt r1.2 a2 12) <| (F_X12_advance N r1.2 a2 (xs (kx (x4 + 1)))).bind fun r3 =>
    kl r3.1 fun v4 =>
    kg (kt r3.2 a2 12) <| (F_X12_thrown N r3.2 a2).bind fun r5 =>
    if r5 = v2 then (
      if v2 = 0 then (
        kg (kin r3.2 a3 15 0) <|
        if (lg_cmp (kL r3.2 a3 (kx 0)) v4.toInt64) = 0 then (
          kl (x4 + 6) fun v7 =>
          k23 r3.2 v7) else
        none) else
      kl (x4 + 6) fun v6 =>
      k23 r3.2 v6) else
    none
set_option maxRecDepth 100000 in
set_option maxHeartbeats 4000000 in
theorem k_L_law_2894 {p : Program} {l : Launch} {e : Env} {s : State} {m : MethodId} {below : List Frame} {meth : Method} {c : Code} {g : kG} {b Ls : Nat} {xs : Nat → Int32} (hX : Cok (p, l, e, room_1, s, m, #[Value.ref b], below, meth, c, cL_law, 9, RL, g, 1000)) (hf : l.flags = flags0) (hN : kNc s) (hSc : va_X b Ls xs s s.heap) (hbl : b < s.heap.size) (hbB : s.heap.size = g.2.2.1 + 1) {k n : Nat} (hk : k + 5 ≤ room_1.cells) (hn : n + 30 ≤ room_1.slots) (N a1 a2 a3 : Nat) (k23 : kMem → Int32 → Option Unit) (h23 : ∀ (M : kMem) (x4 : Int32), GG (p, l, e, room_1, s, m, #[Value.ref b], below, meth, c, cL_law, 9, RL, g, 1000) (fun _ : Unit => lw_Z below #[Value.ref b] s) (k + 5) (n + 30) (k23 M x4) 23 [(0, .retAddr b), (1, .ref a1), (2, .ref a2), (3, .ref a3), (4, .int x4)] [] M) (M : kMem) (x4 : Int32) : GG (p, l, e, room_1, s, m, #[Value.ref b], below, meth, c, cL_law, 9, RL, g, 1000) (fun _ : Unit => lw_Z below #[Value.ref b] s) k n (F_L_law_2894 N Ls xs a1 a2 a3 k23 M x4) 2894 [(0, .retAddr b), (1, .ref a1), (2, .ref a2), (3, .ref a3), (4, .int x4)] [] M := by
  unfold F_L_law_2894
  refine g_aload_n 2895 1 hX dL_law_2894 rfl rfl ?_
  refine g_aloadS_n 2896 0 hX dL_law_2895 rfl rfl ?_
  refine g_iload 2898 4 hX dL_law_2896 rfl rfl ?_
  refine g_iconst 2899 hX 1 dL_law_2898 rfl kc_i_1 ?_
  refine g_iadd 2900 hX dL_law_2899 rfl ?_
  refine g_sld 2901 hX hSc hbl hbB dL_law_2900 rfl ?_
  refine g_aload_n 2902 3 hX dL_law_2901 rfl rfl ?_
  refine g_callSH 2905 hX hN (k_L_advance l g hf N M a1 (xs (kx (x4 + 1))) a3) lkH_L_advance q_1546 (by decide) rfl (Nat.le_of_ble_eq_true rfl) (by omega) (by omega) dL_law_2902 rfl (fun r1 => ?_)
  refine g_klI (fun v2 hv2 => ?_)
  refine g_istore 2907 5 [(5, .int v2), (0, .retAddr b), (1, .ref a1), (2, .ref a2), (3, .ref a3), (4, .int x4)] hX dL_law_2905 rfl (Nat.le_of_ble_eq_true rfl) rfl ?_
  refine g_aload_n 2908 3 hX dL_law_2907 rfl rfl ?_
  refine g_aloadS_n 2909 1 hX dL_law_2908 rfl rfl ?_
  refine g_iload 2911 5 hX dL_law_2909 rfl rfl ?_
  refine g_iconst 2912 hX 1 dL_law_2911 rfl kc_i_1 ?_
  refine g_iadd 2913 hX dL_law_2912 rfl ?_
  refine g_sld 2914 hX hSc hbl hbB dL_law_2913 rfl ?_
  refine g_callV_i 2917 hX (k_X12_advance l g N r1.2 a2 (xs (kx (x4 + 1)))) lk_X12_advance rfl (ci := 12) rfl (Nat.le_of_ble_eq_true rfl) q_2132 q_2134 (by decide) rfl (Nat.le_of_ble_eq_true rfl) (by omega) (by omega) dL_law_2914 rfl (fun r3 => ?_)
  refine g_klI (fun v4 hv4 => ?_)
  refine g_istore 2919 6 [(6, .int v4), (5, .int v2), (0, .retAddr b), (1, .ref a1), (2, .ref a2), (3, .ref a3), (4, .int x4)] hX dL_law_2917 rfl (Nat.le_of_ble_eq_true rfl) rfl ?_
  refine g_aload_n 2920 4 hX dL_law_2919 rfl rfl ?_
  refine g_callV_ip 2923 hX (k_X12_thrown l g N r3.2 a2) lk_X12_thrown rfl (ci := 12) rfl (Nat.le_of_ble_eq_true rfl) q_1730 q_1732 (by decide) rfl (Nat.le_of_ble_eq_true rfl) (by omega) (by omega) dL_law_2920 rfl (fun r5 => ?_)
  refine g_iload 2925 1 hX dL_law_2923 rfl rfl ?_
  refine g_icmp_eq 2930 2928 hX dL_law_2925 (by decide) rfl (fun _ => ?_) (fun _ => ?_)
  · refine g_iload 2932 1 hX dL_law_2930 rfl rfl ?_
    refine g_if_ne 2947 2935 hX dL_law_2932 (by decide) rfl (fun _ => ?_) (fun _ => ?_)
    · refine g_goto 3200 hX dL_law_2947 (by decide) ?_
      refine g_kl (fun v6 hv6 => ?_)
      refine g_iinc 3203 4 6 v6 [(4, .int v6), (6, .int v4), (5, .int v2), (0, .retAddr b), (1, .ref a1), (2, .ref a2), (3, .ref a3)] hX dL_law_3200 rfl rfl (by rw [hv6, kc_i_6]) (Nat.le_of_ble_eq_true rfl) rfl ?_
      refine g_goto 23 hX dL_law_3203 (by decide) ?_
      refine g_lv [3, 4, 5, 6, 0] rfl ?_
      refine g_widen (k2 := k + 5) (n2 := n + 30) (by omega) (by omega) ?_
      exact h23 r3.2 v6
    · refine g_aload_n 2936 5 hX dL_law_2935 rfl rfl ?_
      refine g_iconst 2937 hX 0 dL_law_2936 rfl kc_i_0 ?_
      refine g_lald 2938 hX dL_law_2937 rfl ?_
      refine g_iload 2940 0 hX dL_law_2938 rfl rfl ?_
      refine g_i2l 2941 hX dL_law_2940 rfl ?_
      refine g_lcmp 2942 hX dL_law_2941 rfl ?_
      refine g_if_eq 2947 2945 hX dL_law_2942 (by decide) rfl (fun _ => ?_) (fun _ => ?_)
      · refine g_goto 3200 hX dL_law_2947 (by decide) ?_
        refine g_kl (fun v7 hv7 => ?_)
        refine g_iinc 3203 4 6 v7 [(4, .int v7), (6, .int v4), (5, .int v2), (0, .retAddr b), (1, .ref a1), (2, .ref a2), (3, .ref a3)] hX dL_law_3200 rfl rfl (by rw [hv7, kc_i_6]) (Nat.le_of_ble_eq_true rfl) rfl ?_
        refine g_goto 23 hX dL_law_3203 (by decide) ?_
        refine g_lv [3, 4, 5, 6, 0] rfl ?_
        refine g_widen (k2 := k + 5) (n2 := n + 30) (by omega) (by omega) ?_
        exact h23 r3.2 v7
      · exact g_none
  · exact g_none
def F_L_law_2950 (N Ls : Nat) (xs : Nat → Int32) (a1 a2 a3 : Nat) (k23 : kMem → Int32 → Option Unit) (M : kMem) (x4 : Int32) : Option Unit :=
    kg (decide (0 ≤ x4 + 1) && decide ((x4 + 1 : Int32).toNatClampNeg < Ls)) <|
    (F_L_writeBoard N M a1 (xs (kx (x4 + 1))) a3).bind fun r1 =>
    kl r1.1 fun v2 =>
    kg (decide (0 ≤ x4 + 1) && decide ((x4 + 1 : Int32).toNatClampNeg < Ls)) <|
    kg (kt r1.2 a2 12) <| (F_X12_writeBoard N r1.2 a2 (xs (kx (x4 + 1)))).bind fun r3 =>
    kl r3.1 fun v4 =>
    kg (kt r3.2 a2 12) <| (F_X12_thrown N r3.2 a2).bind fun r5 =>
    if r5 = v2 then (
      if v2 = 0 then (
        kg (kin r3.2 a3 15 0) <|
        if (lg_cmp (kL r3.2 a3 (kx 0)) v4.toInt64) = 0 then (
          kl (x4 + 6) fun v7 =>
          k23 r3.2 v7) else
        none) else
      kl (x4 + 6) fun v6 =>
      k23 r3.2 v6) else
    none
set_option maxRecDepth 100000 in
set_option maxHeartbeats 4000000 in
theorem k_L_law_2950 {p : Program} {l : Launch} {e : Env} {s : State} {m : MethodId} {below : List Frame} {meth : Method} {c : Code} {g : kG} {b Ls : Nat} {xs : Nat → Int32} (hX : Cok (p, l, e, room_1, s, m, #[Value.ref b], below, meth, c, cL_law, 9, RL, g, 1000)) (hf : l.flags = flags0) (hN : kNc s) (hSc : va_X b Ls xs s s.heap) (hbl : b < s.heap.size) (hbB : s.heap.size = g.2.2.1 + 1) {k n : Nat} (hk : k + 5 ≤ room_1.cells) (hn : n + 30 ≤ room_1.slots) (N a1 a2 a3 : Nat) (k23 : kMem → Int32 → Option Unit) (h23 : ∀ (M : kMem) (x4 : Int32), GG (p, l, e, room_1, s, m, #[Value.ref b], below, meth, c, cL_law, 9, RL, g, 1000) (fun _ : Unit => lw_Z below #[Value.ref b] s) (k + 5) (n + 30) (k23 M x4) 23 [(0, .retAddr b), (1, .ref a1), (2, .ref a2), (3, .ref a3), (4, .int x4)] [] M) (M : kMem) (x4 : Int32) : GG (p, l, e, room_1, s, m, #[Value.ref b], below, meth, c, cL_law, 9, RL, g, 1000) (fun _ : Unit => lw_Z below #[Value.ref b] s) k n (F_L_law_2950 N Ls xs a1 a2 a3 k23 M x4) 2950 [(0, .retAddr b), (1, .ref a1), (2, .ref a2), (3, .ref a3), (4, .int x4)] [] M := by
  unfold F_L_law_2950
  refine g_aload_n 2951 1 hX dL_law_2950 rfl rfl ?_
  refine g_aloadS_n 2952 0 hX dL_law_2951 rfl rfl ?_
  refine g_iload 2954 4 hX dL_law_2952 rfl rfl ?_
  refine g_iconst 2955 hX 1 dL_law_2954 rfl kc_i_1 ?_
  refine g_iadd 2956 hX dL_law_2955 rfl ?_
  refine g_sld 2957 hX hSc hbl hbB dL_law_2956 rfl ?_
  refine g_aload_n 2958 3 hX dL_law_2957 rfl rfl ?_
  refine g_callSH 2961 hX hN (k_L_writeBoard l g hf N M a1 (xs (kx (x4 + 1))) a3) lkH_L_writeBoard q_1555 (by decide) rfl (Nat.le_of_ble_eq_true rfl) (by omega) (by omega) dL_law_2958 rfl (fun r1 => ?_)
  refine g_klI (fun v2 hv2 => ?_)
  refine g_istore 2963 5 [(5, .int v2), (0, .retAddr b), (1, .ref a1), (2, .ref a2), (3, .ref a3), (4, .int x4)] hX dL_law_2961 rfl (Nat.le_of_ble_eq_true rfl) rfl ?_
  refine g_aload_n 2964 3 hX dL_law_2963 rfl rfl ?_
  refine g_aloadS_n 2965 1 hX dL_law_2964 rfl rfl ?_
  refine g_iload 2967 5 hX dL_law_2965 rfl rfl ?_
  refine g_iconst 2968 hX 1 dL_law_2967 rfl kc_i_1 ?_
  refine g_iadd 2969 hX dL_law_2968 rfl ?_
  refine g_sld 2970 hX hSc hbl hbB dL_law_2969 rfl ?_
  refine g_callV_i 2973 hX (k_X12_writeBoard l g N r1.2 a2 (xs (kx (x4 + 1)))) lk_X12_writeBoard rfl (ci := 12) rfl (Nat.le_of_ble_eq_true rfl) q_2376 q_2378 (by decide) rfl (Nat.le_of_ble_eq_true rfl) (by omega) (by omega) dL_law_2970 rfl (fun r3 => ?_)
  refine g_klI (fun v4 hv4 => ?_)
  refine g_istore 2975 6 [(6, .int v4), (5, .int v2), (0, .retAddr b), (1, .ref a1), (2, .ref a2), (3, .ref a3), (4, .int x4)] hX dL_law_2973 rfl (Nat.le_of_ble_eq_true rfl) rfl ?_
  refine g_aload_n 2976 4 hX dL_law_2975 rfl rfl ?_
  refine g_callV_ip 2979 hX (k_X12_thrown l g N r3.2 a2) lk_X12_thrown rfl (ci := 12) rfl (Nat.le_of_ble_eq_true rfl) q_1730 q_1732 (by decide) rfl (Nat.le_of_ble_eq_true rfl) (by omega) (by omega) dL_law_2976 rfl (fun r5 => ?_)
  refine g_iload 2981 1 hX dL_law_2979 rfl rfl ?_
  refine g_icmp_eq 2986 2984 hX dL_law_2981 (by decide) rfl (fun _ => ?_) (fun _ => ?_)
  · refine g_iload 2988 1 hX dL_law_2986 rfl rfl ?_
    refine g_if_ne 3003 2991 hX dL_law_2988 (by decide) rfl (fun _ => ?_) (fun _ => ?_)
    · refine g_goto 3200 hX dL_law_3003 (by decide) ?_
      refine g_kl (fun v6 hv6 => ?_)
      refine g_iinc 3203 4 6 v6 [(4, .int v6), (6, .int v4), (5, .int v2), (0, .retAddr b), (1, .ref a1), (2, .ref a2), (3, .ref a3)] hX dL_law_3200 rfl rfl (by rw [hv6, kc_i_6]) (Nat.le_of_ble_eq_true rfl) rfl ?_
      refine g_goto 23 hX dL_law_3203 (by decide) ?_
      refine g_lv [3, 4, 5, 6, 0] rfl ?_
      refine g_widen (k2 := k + 5) (n2 := n + 30) (by omega) (by omega) ?_
      exact h23 r3.2 v6
    · refine g_aload_n 2992 5 hX dL_law_2991 rfl rfl ?_
      refine g_iconst 2993 hX 0 dL_law_2992 rfl kc_i_0 ?_
      refine g_lald 2994 hX dL_law_2993 rfl ?_
      refine g_iload 2996 0 hX dL_law_2994 rfl rfl ?_
      refine g_i2l 2997 hX dL_law_2996 rfl ?_
      refine g_lcmp 2998 hX dL_law_2997 rfl ?_
      refine g_if_eq 3003 3001 hX dL_law_2998 (by decide) rfl (fun _ => ?_) (fun _ => ?_)
      · refine g_goto 3200 hX dL_law_3003 (by decide) ?_
        refine g_kl (fun v7 hv7 => ?_)
        refine g_iinc 3203 4 6 v7 [(4, .int v7), (6, .int v4), (5, .int v2), (0, .retAddr b), (1, .ref a1), (2, .ref a2), (3, .ref a3)] hX dL_law_3200 rfl rfl (by rw [hv7, kc_i_6]) (Nat.le_of_ble_eq_true rfl) rfl ?_
        refine g_goto 23 hX dL_law_3203 (by decide) ?_
        refine g_lv [3, 4, 5, 6, 0] rfl ?_
        refine g_widen (k2 := k + 5) (n2 := n + 30) (by omega) (by omega) ?_
        exact h23 r3.2 v7
      · exact g_none
  · exact g_none
def F_L_law_3006 (N Ls : Nat) (xs : Nat → Int32) (a1 a2 a3 : Nat) (k23 : kMem → Int32 → Option Unit) (M : kMem) (x4 : Int32) : Option Unit :=
    kg (decide (0 ≤ x4 + 1) && decide ((x4 + 1 : Int32).toNatClampNeg < Ls)) <|
    kg (kt M a1 11) <| (F_X11_outputByte N M a1 (xs (kx (x4 + 1)))).bind fun r1 =>
    kg (decide (0 ≤ x4 + 1) && decide ((x4 + 1 : Int32).toNatClampNeg < Ls)) <|
    kg (kt M a2 12) <| (F_X12_outputByte N M a2 (xs (kx (x4 + 1)))).bind fun r2 =>
    if r1 = r2.1 then (
      kl (x4 + 6) fun v3 =>
      k23 r2.2 v3) else
    none
set_option maxRecDepth 100000 in
set_option maxHeartbeats 4000000 in
theorem k_L_law_3006 {p : Program} {l : Launch} {e : Env} {s : State} {m : MethodId} {below : List Frame} {meth : Method} {c : Code} {g : kG} {b Ls : Nat} {xs : Nat → Int32} (hX : Cok (p, l, e, room_1, s, m, #[Value.ref b], below, meth, c, cL_law, 9, RL, g, 1000)) (hf : l.flags = flags0) (hN : kNc s) (hSc : va_X b Ls xs s s.heap) (hbl : b < s.heap.size) (hbB : s.heap.size = g.2.2.1 + 1) {k n : Nat} (hk : k + 5 ≤ room_1.cells) (hn : n + 30 ≤ room_1.slots) (N a1 a2 a3 : Nat) (k23 : kMem → Int32 → Option Unit) (h23 : ∀ (M : kMem) (x4 : Int32), GG (p, l, e, room_1, s, m, #[Value.ref b], below, meth, c, cL_law, 9, RL, g, 1000) (fun _ : Unit => lw_Z below #[Value.ref b] s) (k + 5) (n + 30) (k23 M x4) 23 [(0, .retAddr b), (1, .ref a1), (2, .ref a2), (3, .ref a3), (4, .int x4)] [] M) (M : kMem) (x4 : Int32) : GG (p, l, e, room_1, s, m, #[Value.ref b], below, meth, c, cL_law, 9, RL, g, 1000) (fun _ : Unit => lw_Z below #[Value.ref b] s) k n (F_L_law_3006 N Ls xs a1 a2 a3 k23 M x4) 3006 [(0, .retAddr b), (1, .ref a1), (2, .ref a2), (3, .ref a3), (4, .int x4)] [] M := by
  unfold F_L_law_3006
  refine g_aload_n 3007 1 hX dL_law_3006 rfl rfl ?_
  refine g_aloadS_n 3008 0 hX dL_law_3007 rfl rfl ?_
  refine g_iload 3010 4 hX dL_law_3008 rfl rfl ?_
  refine g_iconst 3011 hX 1 dL_law_3010 rfl kc_i_1 ?_
  refine g_iadd 3012 hX dL_law_3011 rfl ?_
  refine g_sld 3013 hX hSc hbl hbB dL_law_3012 rfl ?_
  refine g_callV_ip 3016 hX (k_X11_outputByte l g N M a1 (xs (kx (x4 + 1)))) lk_X11_outputByte rfl (ci := 11) rfl (Nat.le_of_ble_eq_true rfl) q_1121 q_1123 (by decide) rfl (Nat.le_of_ble_eq_true rfl) (by omega) (by omega) dL_law_3013 rfl (fun r1 => ?_)
  refine g_aload_n 3017 2 hX dL_law_3016 rfl rfl ?_
  refine g_aloadS_n 3018 0 hX dL_law_3017 rfl rfl ?_
  refine g_iload 3020 4 hX dL_law_3018 rfl rfl ?_
  refine g_iconst 3021 hX 1 dL_law_3020 rfl kc_i_1 ?_
  refine g_iadd 3022 hX dL_law_3021 rfl ?_
  refine g_sld 3023 hX hSc hbl hbB dL_law_3022 rfl ?_
  refine g_callV_i 3026 hX (k_X12_outputByte l g N M a2 (xs (kx (x4 + 1)))) lk_X12_outputByte rfl (ci := 12) rfl (Nat.le_of_ble_eq_true rfl) q_2388 q_2390 (by decide) rfl (Nat.le_of_ble_eq_true rfl) (by omega) (by omega) dL_law_3023 rfl (fun r2 => ?_)
  refine g_icmp_eq 3200 3029 hX dL_law_3026 (by decide) rfl (fun _ => ?_) (fun _ => ?_)
  · refine g_kl (fun v3 hv3 => ?_)
    refine g_iinc 3203 4 4 v3 [(4, .int v3), (0, .retAddr b), (1, .ref a1), (2, .ref a2), (3, .ref a3)] hX dL_law_3200 rfl rfl (by rw [hv3, kc_i_6]) (Nat.le_of_ble_eq_true rfl) rfl ?_
    refine g_goto 23 hX dL_law_3203 (by decide) ?_
    refine g_lv [1, 2, 3, 4, 0] rfl ?_
    refine g_widen (k2 := k + 5) (n2 := n + 30) (by omega) (by omega) ?_
    exact h23 r2.2 v3
  · exact g_none
def F_L_law_3031 (N Ls : Nat) (xs : Nat → Int32) (a1 a2 a3 : Nat) (k23 : kMem → Int32 → Option Unit) (M : kMem) (x4 : Int32) : Option Unit :=
    kg (kt M a1 11) <| (F_X11_undoCount N M a1).bind fun r1 =>
    kg (kt M a2 12) <| (F_X12_undoCount N M a2).bind fun r2 =>
    if r1 = r2.1 then (
      kl (x4 + 6) fun v3 =>
      k23 r2.2 v3) else
    none
set_option maxRecDepth 100000 in
set_option maxHeartbeats 4000000 in
theorem k_L_law_3031 {p : Program} {l : Launch} {e : Env} {s : State} {m : MethodId} {below : List Frame} {meth : Method} {c : Code} {g : kG} {b Ls : Nat} {xs : Nat → Int32} (hX : Cok (p, l, e, room_1, s, m, #[Value.ref b], below, meth, c, cL_law, 9, RL, g, 1000)) (hf : l.flags = flags0) (hN : kNc s) (hSc : va_X b Ls xs s s.heap) (hbl : b < s.heap.size) (hbB : s.heap.size = g.2.2.1 + 1) {k n : Nat} (hk : k + 5 ≤ room_1.cells) (hn : n + 30 ≤ room_1.slots) (N a1 a2 a3 : Nat) (k23 : kMem → Int32 → Option Unit) (h23 : ∀ (M : kMem) (x4 : Int32), GG (p, l, e, room_1, s, m, #[Value.ref b], below, meth, c, cL_law, 9, RL, g, 1000) (fun _ : Unit => lw_Z below #[Value.ref b] s) (k + 5) (n + 30) (k23 M x4) 23 [(0, .retAddr b), (1, .ref a1), (2, .ref a2), (3, .ref a3), (4, .int x4)] [] M) (M : kMem) (x4 : Int32) : GG (p, l, e, room_1, s, m, #[Value.ref b], below, meth, c, cL_law, 9, RL, g, 1000) (fun _ : Unit => lw_Z below #[Value.ref b] s) k n (F_L_law_3031 N Ls xs a1 a2 a3 k23 M x4) 3031 [(0, .retAddr b), (1, .ref a1), (2, .ref a2), (3, .ref a3), (4, .int x4)] [] M := by
  unfold F_L_law_3031
  refine g_aload_n 3032 1 hX dL_law_3031 rfl rfl ?_
  refine g_callV_ip 3035 hX (k_X11_undoCount l g N M a1) lk_X11_undoCount rfl (ci := 11) rfl (Nat.le_of_ble_eq_true rfl) q_1126 q_1128 (by decide) rfl (Nat.le_of_ble_eq_true rfl) (by omega) (by omega) dL_law_3032 rfl (fun r1 => ?_)
  refine g_aload_n 3036 2 hX dL_law_3035 rfl rfl ?_
  refine g_callV_i 3039 hX (k_X12_undoCount l g N M a2) lk_X12_undoCount rfl (ci := 12) rfl (Nat.le_of_ble_eq_true rfl) q_2137 q_2139 (by decide) rfl (Nat.le_of_ble_eq_true rfl) (by omega) (by omega) dL_law_3036 rfl (fun r2 => ?_)
  refine g_icmp_eq 3200 3042 hX dL_law_3039 (by decide) rfl (fun _ => ?_) (fun _ => ?_)
  · refine g_kl (fun v3 hv3 => ?_)
    refine g_iinc 3203 4 4 v3 [(4, .int v3), (0, .retAddr b), (1, .ref a1), (2, .ref a2), (3, .ref a3)] hX dL_law_3200 rfl rfl (by rw [hv3, kc_i_6]) (Nat.le_of_ble_eq_true rfl) rfl ?_
    refine g_goto 23 hX dL_law_3203 (by decide) ?_
    refine g_lv [1, 2, 3, 4, 0] rfl ?_
    refine g_widen (k2 := k + 5) (n2 := n + 30) (by omega) (by omega) ?_
    exact h23 r2.2 v3
  · exact g_none
def F_L_law_3044 (N Ls : Nat) (xs : Nat → Int32) (a1 a2 a3 : Nat) (k23 : kMem → Int32 → Option Unit) (M : kMem) (x4 : Int32) : Option Unit :=
    (F_L_undo N M a1 a3).bind fun r1 =>
    kl r1.1 fun v2 =>
    kg (kt r1.2 a2 12) <| (F_X12_undo N r1.2 a2).bind fun r3 =>
    kl r3.1 fun v4 =>
    kg (kt r3.2 a2 12) <| (F_X12_thrown N r3.2 a2).bind fun r5 =>
    if r5 = v2 then (
      if v2 = 0 then (
        kg (kin r3.2 a3 15 0) <|
        if (lg_cmp (kL r3.2 a3 (kx 0)) v4.toInt64) = 0 then (
          kl (x4 + 6) fun v7 =>
          k23 r3.2 v7) else
        none) else
      kl (x4 + 6) fun v6 =>
      k23 r3.2 v6) else
    none
set_option maxRecDepth 100000 in
set_option maxHeartbeats 4000000 in
theorem k_L_law_3044 {p : Program} {l : Launch} {e : Env} {s : State} {m : MethodId} {below : List Frame} {meth : Method} {c : Code} {g : kG} {b Ls : Nat} {xs : Nat → Int32} (hX : Cok (p, l, e, room_1, s, m, #[Value.ref b], below, meth, c, cL_law, 9, RL, g, 1000)) (hf : l.flags = flags0) (hN : kNc s) (hSc : va_X b Ls xs s s.heap) (hbl : b < s.heap.size) (hbB : s.heap.size = g.2.2.1 + 1) {k n : Nat} (hk : k + 5 ≤ room_1.cells) (hn : n + 30 ≤ room_1.slots) (N a1 a2 a3 : Nat) (k23 : kMem → Int32 → Option Unit) (h23 : ∀ (M : kMem) (x4 : Int32), GG (p, l, e, room_1, s, m, #[Value.ref b], below, meth, c, cL_law, 9, RL, g, 1000) (fun _ : Unit => lw_Z below #[Value.ref b] s) (k + 5) (n + 30) (k23 M x4) 23 [(0, .retAddr b), (1, .ref a1), (2, .ref a2), (3, .ref a3), (4, .int x4)] [] M) (M : kMem) (x4 : Int32) : GG (p, l, e, room_1, s, m, #[Value.ref b], below, meth, c, cL_law, 9, RL, g, 1000) (fun _ : Unit => lw_Z below #[Value.ref b] s) k n (F_L_law_3044 N Ls xs a1 a2 a3 k23 M x4) 3044 [(0, .retAddr b), (1, .ref a1), (2, .ref a2), (3, .ref a3), (4, .int x4)] [] M := by
  unfold F_L_law_3044
  refine g_aload_n 3045 1 hX dL_law_3044 rfl rfl ?_
  refine g_aload_n 3046 3 hX dL_law_3045 rfl rfl ?_
  refine g_callSH 3049 hX hN (k_L_undo l g hf N M a1 a3) lkH_L_undo q_1572 (by decide) rfl (Nat.le_of_ble_eq_true rfl) (by omega) (by omega) dL_law_3046 rfl (fun r1 => ?_)
  refine g_klI (fun v2 hv2 => ?_)
  refine g_istore 3051 5 [(5, .int v2), (0, .retAddr b), (1, .ref a1), (2, .ref a2), (3, .ref a3), (4, .int x4)] hX dL_law_3049 rfl (Nat.le_of_ble_eq_true rfl) rfl ?_
  refine g_aload_n 3052 3 hX dL_law_3051 rfl rfl ?_
  refine g_callV_i 3055 hX (k_X12_undo l g N r1.2 a2) lk_X12_undo rfl (ci := 12) rfl (Nat.le_of_ble_eq_true rfl) q_2141 q_2143 (by decide) rfl (Nat.le_of_ble_eq_true rfl) (by omega) (by omega) dL_law_3052 rfl (fun r3 => ?_)
  refine g_klI (fun v4 hv4 => ?_)
  refine g_istore 3057 6 [(6, .int v4), (5, .int v2), (0, .retAddr b), (1, .ref a1), (2, .ref a2), (3, .ref a3), (4, .int x4)] hX dL_law_3055 rfl (Nat.le_of_ble_eq_true rfl) rfl ?_
  refine g_aload_n 3058 4 hX dL_law_3057 rfl rfl ?_
  refine g_callV_ip 3061 hX (k_X12_thrown l g N r3.2 a2) lk_X12_thrown rfl (ci := 12) rfl (Nat.le_of_ble_eq_true rfl) q_1730 q_1732 (by decide) rfl (Nat.le_of_ble_eq_true rfl) (by omega) (by omega) dL_law_3058 rfl (fun r5 => ?_)
  refine g_iload 3063 1 hX dL_law_3061 rfl rfl ?_
  refine g_icmp_eq 3068 3066 hX dL_law_3063 (by decide) rfl (fun _ => ?_) (fun _ => ?_)
  · refine g_iload 3070 1 hX dL_law_3068 rfl rfl ?_
    refine g_if_ne 3085 3073 hX dL_law_3070 (by decide) rfl (fun _ => ?_) (fun _ => ?_)
    · refine g_goto 3200 hX dL_law_3085 (by decide) ?_
      refine g_kl (fun v6 hv6 => ?_)
      refine g_iinc 3203 4 6 v6 [(4, .int v6), (6, .int v4), (5, .int v2), (0, .retAddr b), (1, .ref a1), (2, .ref a2), (3, .ref a3)] hX dL_law_3200 rfl rfl (by rw [hv6, kc_i_6]) (Nat.le_of_ble_eq_true rfl) rfl ?_
      refine g_goto 23 hX dL_law_3203 (by decide) ?_
      refine g_lv [3, 4, 5, 6, 0] rfl ?_
      refine g_widen (k2 := k + 5) (n2 := n + 30) (by omega) (by omega) ?_
      exact h23 r3.2 v6
    · refine g_aload_n 3074 5 hX dL_law_3073 rfl rfl ?_
      refine g_iconst 3075 hX 0 dL_law_3074 rfl kc_i_0 ?_
      refine g_lald 3076 hX dL_law_3075 rfl ?_
      refine g_iload 3078 0 hX dL_law_3076 rfl rfl ?_
      refine g_i2l 3079 hX dL_law_3078 rfl ?_
      refine g_lcmp 3080 hX dL_law_3079 rfl ?_
      refine g_if_eq 3085 3083 hX dL_law_3080 (by decide) rfl (fun _ => ?_) (fun _ => ?_)
      · refine g_goto 3200 hX dL_law_3085 (by decide) ?_
        refine g_kl (fun v7 hv7 => ?_)
        refine g_iinc 3203 4 6 v7 [(4, .int v7), (6, .int v4), (5, .int v2), (0, .retAddr b), (1, .ref a1), (2, .ref a2), (3, .ref a3)] hX dL_law_3200 rfl rfl (by rw [hv7, kc_i_6]) (Nat.le_of_ble_eq_true rfl) rfl ?_
        refine g_goto 23 hX dL_law_3203 (by decide) ?_
        refine g_lv [3, 4, 5, 6, 0] rfl ?_
        refine g_widen (k2 := k + 5) (n2 := n + 30) (by omega) (by omega) ?_
        exact h23 r3.2 v7
      · exact g_none
  · exact g_none
def F_L_law_3088 (N Ls : Nat) (xs : Nat → Int32) (a1 a2 a3 : Nat) (k23 : kMem → Int32 → Option Unit) (M : kMem) (x4 : Int32) : Option Unit :=
    kg (decide (0 ≤ x4 + 1) && decide ((x4 + 1 : Int32).toNatClampNeg < Ls)) <|
    (F_L_save N M a1 (xs (kx (x4 + 1))) a3).bind fun r1 =>
    kl r1.1 fun v2 =>
    kg (decide (0 ≤ x4 + 1) && decide ((x4 + 1 : Int32).toNatClampNeg < Ls)) <|
    kg (kt r1.2 a2 12) <| (F_X12_save N r1.2 a2 (xs (kx (x4 + 1)))).bind fun r3 =>
    kl r3.1 fun v4 =>
    kg (kt r3.2 a2 12) <| (F_X12_thrown N r3.2 a2).bind fun r5 =>
    if r5 = v2 then (
      if v2 = 0 then (
        kg (kin r3.2 a3 15 0) <|
        if (lg_cmp (kL r3.2 a3 (kx 0)) v4.toInt64) = 0 then (
          kl (x4 + 6) fun v7 =>
          k23 r3.2 v7) else
        none) else
      kl (x4 + 6) fun v6 =>
      k23 r3.2 v6) else
    none
set_option maxRecDepth 100000 in
set_option maxHeartbeats 4000000 in
theorem k_L_law_3088 {p : Program} {l : Launch} {e : Env} {s : State} {m : MethodId} {below : List Frame} {meth : Method} {c : Code} {g : kG} {b Ls : Nat} {xs : Nat → Int32} (hX : Cok (p, l, e, room_1, s, m, #[Value.ref b], below, meth, c, cL_law, 9, RL, g, 1000)) (hf : l.flags = flags0) (hN : kNc s) (hSc : va_X b Ls xs s s.heap) (hbl : b < s.heap.size) (hbB : s.heap.size = g.2.2.1 + 1) {k n : Nat} (hk : k + 5 ≤ room_1.cells) (hn : n + 30 ≤ room_1.slots) (N a1 a2 a3 : Nat) (k23 : kMem → Int32 → Option Unit) (h23 : ∀ (M : kMem) (x4 : Int32), GG (p, l, e, room_1, s, m, #[Value.ref b], below, meth, c, cL_law, 9, RL, g, 1000) (fun _ : Unit => lw_Z below #[Value.ref b] s) (k + 5) (n + 30) (k23 M x4) 23 [(0, .retAddr b), (1, .ref a1), (2, .ref a2), (3, .ref a3), (4, .int x4)] [] M) (M : kMem) (x4 : Int32) : GG (p, l, e, room_1, s, m, #[Value.ref b], below, meth, c, cL_law, 9, RL, g, 1000) (fun _ : Unit => lw_Z below #[Value.ref b] s) k n (F_L_law_3088 N Ls xs a1 a2 a3 k23 M x4) 3088 [(0, .retAddr b), (1, .ref a1), (2, .ref a2), (3, .ref a3), (4, .int x4)] [] M := by
  unfold F_L_law_3088
  refine g_aload_n 3089 1 hX dL_law_3088 rfl rfl ?_
  refine g_aloadS_n 3090 0 hX dL_law_3089 rfl rfl ?_
  refine g_iload 3092 4 hX dL_law_3090 rfl rfl ?_
  refine g_iconst 3093 hX 1 dL_law_3092 rfl kc_i_1 ?_
  refine g_iadd 3094 hX dL_law_3093 rfl ?_
  refine g_sld 3095 hX hSc hbl hbB dL_law_3094 rfl ?_
  refine g_aload_n 3096 3 hX dL_law_3095 rfl rfl ?_
  refine g_callSH 3099 hX hN (k_L_save l g hf N M a1 (xs (kx (x4 + 1))) a3) lkH_L_save q_1584 (by decide) rfl (Nat.le_of_ble_eq_true rfl) (by omega) (by omega) dL_law_3096 rfl (fun r1 => ?_)
  refine g_klI (fun v2 hv2 => ?_)
  refine g_istore 3101 5 [(5, .int v2), (0, .retAddr b), (1, .ref a1), (2, .ref a2), (3, .ref a3), (4, .int x4)] hX dL_law_3099 rfl (Nat.le_of_ble_eq_true rfl) rfl ?_
  refine g_aload_n 3102 3 hX dL_law_3101 rfl rfl ?_
  refine g_aloadS_n 3103 1 hX dL_law_3102 rfl rfl ?_
  refine g_iload 3105 5 hX dL_law_3103 rfl rfl ?_
  refine g_iconst 3106 hX 1 dL_law_3105 rfl kc_i_1 ?_
  refine g_iadd 3107 hX dL_law_3106 rfl ?_
  refine g_sld 3108 hX hSc hbl hbB dL_law_3107 rfl ?_
  refine g_callV_i 3111 hX (k_X12_save l g N r1.2 a2 (xs (kx (x4 + 1)))) lk_X12_save rfl (ci := 12) rfl (Nat.le_of_ble_eq_true rfl) q_2145 q_2147 (by decide) rfl (Nat.le_of_ble_eq_true rfl) (by omega) (by omega) dL_law_3108 rfl (fun r3 => ?_)
  refine g_klI (fun v4 hv4 => ?_)
  refine g_istore 3113 6 [(6, .int v4), (5, .int v2), (0, .retAddr b), (1, .ref a1), (2, .ref a2), (3, .ref a3), (4, .int x4)] hX dL_law_3111 rfl (Nat.le_of_ble_eq_true rfl) rfl ?_
  refine g_aload_n 3114 4 hX dL_law_3113 rfl rfl ?_
  refine g_callV_ip 3117 hX (k_X12_thrown l g N r3.2 a2) lk_X12_thrown rfl (ci := 12) rfl (Nat.le_of_ble_eq_true rfl) q_1730 q_1732 (by decide) rfl (Nat.le_of_ble_eq_true rfl) (by omega) (by omega) dL_law_3114 rfl (fun r5 => ?_)
  refine g_iload 3119 1 hX dL_law_3117 rfl rfl ?_
  refine g_icmp_eq 3124 3122 hX dL_law_3119 (by decide) rfl (fun _ => ?_) (fun _ => ?_)
  · refine g_iload 3126 1 hX dL_law_3124 rfl rfl ?_
    refine g_if_ne 3141 3129 hX dL_law_3126 (by decide) rfl (fun _ => ?_) (fun _ => ?_)
    · refine g_goto 3200 hX dL_law_3141 (by decide) ?_
      refine g_kl (fun v6 hv6 => ?_)
      refine g_iinc 3203 4 6 v6 [(4, .int v6), (6, .int v4), (5, .int v2), (0, .retAddr b), (1, .ref a1), (2, .ref a2), (3, .ref a3)] hX dL_law_3200 rfl rfl (by rw [hv6, kc_i_6]) (Nat.le_of_ble_eq_true rfl) rfl ?_
      refine g_goto 23 hX dL_law_3203 (by decide) ?_
      refine g_lv [3, 4, 5, 6, 0] rfl ?_
      refine g_widen (k2 := k + 5) (n2 := n + 30) (by omega) (by omega) ?_
      exact h23 r3.2 v6
    · refine g_aload_n 3130 5 hX dL_law_3129 rfl rfl ?_
      refine g_iconst 3131 hX 0 dL_law_3130 rfl kc_i_0 ?_
      refine g_lald 3132 hX dL_law_3131 rfl ?_
      refine g_iload 3134 0 hX dL_law_3132 rfl rfl ?_
      refine g_i2l 3135 hX dL_law_3134 rfl ?_
      refine g_lcmp 3136 hX dL_law_3135 rfl ?_
      refine g_if_eq 3141 3139 hX dL_law_3136 (by decide) rfl (fun _ => ?_) (fun _ => ?_)
      · refine g_goto 3200 hX dL_law_3141 (by decide) ?_
        refine g_kl (fun v7 hv7 => ?_)
        refine g_iinc 3203 4 6 v7 [(4, .int v7), (6, .int v4), (5, .int v2), (0, .retAddr b), (1, .ref a1), (2, .ref a2), (3, .ref a3)] hX dL_law_3200 rfl rfl (by rw [hv7, kc_i_6]) (Nat.le_of_ble_eq_true rfl) rfl ?_
        refine g_goto 23 hX dL_law_3203 (by decide) ?_
        refine g_lv [3, 4, 5, 6, 0] rfl ?_
        refine g_widen (k2 := k + 5) (n2 := n + 30) (by omega) (by omega) ?_
        exact h23 r3.2 v7
      · exact g_none
  · exact g_none
def F_L_law_3144 (N Ls : Nat) (xs : Nat → Int32) (a1 a2 a3 : Nat) (k23 : kMem → Int32 → Option Unit) (M : kMem) (x4 : Int32) : Option Unit :=
    kg (decide (0 ≤ x4 + 1) && decide ((x4 + 1 : Int32).toNatClampNeg < Ls)) <|
    (F_L_restore N M a1 (xs (kx (x4 + 1))) a3).bind fun r1 =>
    kl r1.1 fun v2 =>
    kg (decide (0 ≤ x4 + 1) && decide ((x4 + 1 : Int32).toNatClampNeg < Ls)) <|
    kg (kt r1.2 a2 12) <| (F_X12_restore N r1.2 a2 (xs (kx (x4 + 1)))).bind fun r3 =>
    kl r3.1 fun v4 =>
    kg (kt r3.2 a2 12) <| (F_X12_thrown N r3.2 a2).bind fun r5 =>
    if r5 = v2 then (
      if v2 = 0 then (
        kg (kin r3.2 a3 15 0) <|
        if (lg_cmp (kL r3.2 a3 (kx 0)) v4.toInt64) = 0 then (
          kl (x4 + 6) fun v7 =>
          k23 r3.2 v7) else
        none) else
      kl (x4 + 6) fun v6 =>
      k23 r3.2 v6) else
    none
set_option maxRecDepth 100000 in
set_option maxHeartbeats 4000000 in
theorem k_L_law_3144 {p : Program} {l : Launch} {e : Env} {s : State} {m : MethodId} {below : List Frame} {meth : Method} {c : Code} {g : kG} {b Ls : Nat} {xs : Nat → Int32} (hX : Cok (p, l, e, room_1, s, m, #[Value.ref b], below, meth, c, cL_law, 9, RL, g, 1000)) (hf : l.flags = flags0) (hN : kNc s) (hSc : va_X b Ls xs s s.heap) (hbl : b < s.heap.size) (hbB : s.heap.size = g.2.2.1 + 1) {k n : Nat} (hk : k + 5 ≤ room_1.cells) (hn : n + 30 ≤ room_1.slots) (N a1 a2 a3 : Nat) (k23 : kMem → Int32 → Option Unit) (h23 : ∀ (M : kMem) (x4 : Int32), GG (p, l, e, room_1, s, m, #[Value.ref b], below, meth, c, cL_law, 9, RL, g, 1000) (fun _ : Unit => lw_Z below #[Value.ref b] s) (k + 5) (n + 30) (k23 M x4) 23 [(0, .retAddr b), (1, .ref a1), (2, .ref a2), (3, .ref a3), (4, .int x4)] [] M) (M : kMem) (x4 : Int32) : GG (p, l, e, room_1, s, m, #[Value.ref b], below, meth, c, cL_law, 9, RL, g, 1000) (fun _ : Unit => lw_Z below #[Value.ref b] s) k n (F_L_law_3144 N Ls xs a1 a2 a3 k23 M x4) 3144 [(0, .retAddr b), (1, .ref a1), (2, .ref a2), (3, .ref a3), (4, .int x4)] [] M := by
  unfold F_L_law_3144
  refine g_aload_n 3145 1 hX dL_law_3144 rfl rfl ?_
  refine g_aloadS_n 3146 0 hX dL_law_3145 rfl rfl ?_
  refine g_iload 3148 4 hX dL_law_3146 rfl rfl ?_
  refine g_iconst 3149 hX 1 dL_law_3148 rfl kc_i_1 ?_
  refine g_iadd 3150 hX dL_law_3149 rfl ?_
  refine g_sld 3151 hX hSc hbl hbB dL_law_3150 rfl ?_
  refine g_aload_n 3152 3 hX dL_law_3151 rfl rfl ?_
  refine g_callSH 3155 hX hN (k_L_restore l g hf N M a1 (xs (kx (x4 + 1))) a3) lkH_L_restore q_1596 (by decide) rfl (Nat.le_of_ble_eq_true rfl) (by omega) (by omega) dL_law_3152 rfl (fun r1 => ?_)
  refine g_klI (fun v2 hv2 => ?_)
  refine g_istore 3157 5 [(5, .int v2), (0, .retAddr b), (1, .ref a1), (2, .ref a2), (3, .ref a3), (4, .int x4)] hX dL_law_3155 rfl (Nat.le_of_ble_eq_true rfl) rfl ?_
  refine g_aload_n 3158 3 hX dL_law_3157 rfl rfl ?_
  refine g_aloadS_n 3159 1 hX dL_law_3158 rfl rfl ?_
  refine g_iload 3161 5 hX dL_law_3159 rfl rfl ?_
  refine g_iconst 3162 hX 1 dL_law_3161 rfl kc_i_1 ?_
  refine g_iadd 3163 hX dL_law_3162 rfl ?_
  refine g_sld 3164 hX hSc hbl hbB dL_law_3163 rfl ?_
  refine g_callV_i 3167 hX (k_X12_restore l g N r1.2 a2 (xs (kx (x4 + 1)))) lk_X12_restore rfl (ci := 12) rfl (Nat.le_of_ble_eq_true rfl) q_2153 q_2155 (by decide) rfl (Nat.le_of_ble_eq_true rfl) (by omega) (by omega) dL_law_3164 rfl (fun r3 => ?_)
  refine g_klI (fun v4 hv4 => ?_)
  refine g_istore 3169 6 [(6, .int v4), (5, .int v2), (0, .retAddr b), (1, .ref a1), (2, .ref a2), (3, .ref a3), (4, .int x4)] hX dL_law_3167 rfl (Nat.le_of_ble_eq_true rfl) rfl ?_
  refine g_aload_n 3170 4 hX dL_law_3169 rfl rfl ?_
  refine g_callV_ip 3173 hX (k_X12_thrown l g N r3.2 a2) lk_X12_thrown rfl (ci := 12) rfl (Nat.le_of_ble_eq_true rfl) q_1730 q_1732 (by decide) rfl (Nat.le_of_ble_eq_true rfl) (by omega) (by omega) dL_law_3170 rfl (fun r5 => ?_)
  refine g_iload 3175 1 hX dL_law_3173 rfl rfl ?_
  refine g_icmp_eq 3180 3178 hX dL_law_3175 (by decide) rfl (fun _ => ?_) (fun _ => ?_)
  · refine g_iload 3182 1 hX dL_law_3180 rfl rfl ?_
    refine g_if_ne 3197 3185 hX dL_law_3182 (by decide) rfl (fun _ => ?_) (fun _ => ?_)
    · refine g_goto 3200 hX dL_law_3197 (by decide) ?_
      refine g_kl (fun v6 hv6 => ?_)
      refine g_iinc 3203 4 6 v6 [(4, .int v6), (6, .int v4), (5, .int v2), (0, .retAddr b), (1, .ref a1), (2, .ref a2), (3, .ref a3)] hX dL_law_3200 rfl rfl (by rw [hv6, kc_i_6]) (Nat.le_of_ble_eq_true rfl) rfl ?_
      refine g_goto 23 hX dL_law_3203 (by decide) ?_
      refine g_lv [3, 4, 5, 6, 0] rfl ?_
      refine g_widen (k2 := k + 5) (n2 := n + 30) (by omega) (by omega) ?_
      exact h23 r3.2 v6
    · refine g_aload_n 3186 5 hX dL_law_3185 rfl rfl ?_
      refine g_iconst 3187 hX 0 dL_law_3186 rfl kc_i_0 ?_
      refine g_lald 3188 hX dL_law_3187 rfl ?_
      refine g_iload 3190 0 hX dL_law_3188 rfl rfl ?_
      refine g_i2l 3191 hX dL_law_3190 rfl ?_
      refine g_lcmp 3192 hX dL_law_3191 rfl ?_
      refine g_if_eq 3197 3195 hX dL_law_3192 (by decide) rfl (fun _ => ?_) (fun _ => ?_)
      · refine g_goto 3200 hX dL_law_3197 (by decide) ?_
        refine g_kl (fun v7 hv7 => ?_)
        refine g_iinc 3203 4 6 v7 [(4, .int v7), (6, .int v4), (5, .int v2), (0, .retAddr b), (1, .ref a1), (2, .ref a2), (3, .ref a3)] hX dL_law_3200 rfl rfl (by rw [hv7, kc_i_6]) (Nat.le_of_ble_eq_true rfl) rfl ?_
        refine g_goto 23 hX dL_law_3203 (by decide) ?_
        refine g_lv [3, 4, 5, 6, 0] rfl ?_
        refine g_widen (k2 := k + 5) (n2 := n + 30) (by omega) (by omega) ?_
        exact h23 r3.2 v7
      · exact g_none
  · exact g_none
