def F_L_law_308 (N Ls : Nat) (xs : Nat → Int32) (a1 a2 a3 : Nat) (k23 : kMem → Int32 → Option Unit) (M : kMem) (x4 : Int32) : Option Unit :=
    kg (decide (0 ≤ x4 + 1) && decide ((x4 + 1 : Int32).toNatClampNeg < Ls)) <|
    kg (decide (0 ≤ x4 + 2) && decide ((x4 + 2 : Int32).toNatClampNeg < Ls)) <|
    kg (decide (0 ≤ x4 + 3) && decide ((x4 + 3 : Int32).toNatClampNeg < Ls)) <|
    kg (decide (0 ≤ x4 + 4) && decide ((x4 + 4 : Int32).toNatClampNeg < Ls)) <|
    kg (decide (0 ≤ x4 + 5) && decide ((x4 + 5 : Int32).toNatClampNeg < Ls)) <|
    (F_L_append N M a1 (xs (kx (x4 + 1))) (xs (kx (x4 + 2))) (xs (kx (x4 + 3))) (xs (kx (x4 + 4))) (xs (kx (x4 + 5))) a3).bind fun r1 =>
    kl r1.1 fun v2 =>
    kg (decide (0 ≤ x4 + 1) && decide ((x4 + 1 : Int32).toNatClampNeg < Ls)) <|
    kg (decide (0 ≤ x4 + 2) && decide ((x4 + 2 : Int32).toNatClampNeg < Ls)) <|
    kg (decide (0 ≤ x4 + 3) && decide ((x4 + 3 : Int32).toNatClampNeg < Ls)) <|
    kg (decide (0 ≤ x4 + 4) && decide ((x4 + 4 : Int32).toNatClampNeg < Ls)) <|
    kg (decide (0 ≤ x4 + 5) && decide ((x4 + 5 : Int32).toNatClampNeg < Ls)) <|
    kg (kt r1.2 a2 12) <| (F_X12_append N r1.2 a2 (xs (kx (x4 + 1))) (xs (kx (x4 + 2))) (xs (kx (x4 + 3))) (xs (kx (x4 + 4))) (xs (kx (x4 + 5)))).bind fun r3 =>
    kl r3.1 fun v4 =>
    kg (kt r3.2 a2 12) <| (F_X12_thrown N r3.2 a2).bind fun r5 =>
    if r5 = v2 then (
      if v2 = 0 then (
        kg (kin r3.2 a3 15 0) <|
        if (lg_cmp (kL r3.2 a3 (kx 0)) v4.toInt64) = 0 then (
          kl (x4 + 6) fun v7 =>
          k23 r3.2 v7) else
        none) else
      kl (x4 + 6) fun v6 =>
      k23 r3.2 v6) else
    none
set_option maxRecDepth 100000 in
set_option maxHeartbeats 4000000 in
theorem k_L_law_308 {p : Program} {l : Launch} {e : Env} {s : State} {m : MethodId} {below : List Frame} {meth : Method} {c : Code} {g : kG} {b Ls : Nat} {xs : Nat → Int32} (hX : Cok (p, l, e, room_1, s, m, #[Value.ref b], below, meth, c, cL_law, 9, RL, g, 1000)) (hf : l.flags = flags0) (hN : kNc s) (hSc : va_X b Ls xs s s.heap) (hbl : b < s.heap.size) (hbB : s.heap.size = g.2.2.1 + 1) {k n : Nat} (hk : k + 5 ≤ room_1.cells) (hn : n + 30 ≤ room_1.slots) (N a1 a2 a3 : Nat) (k23 : kMem → Int32 → Option Unit) (h23 : ∀ (M : kMem) (x4 : Int32), GG (p, l, e, room_1, s, m, #[Value.ref b], below, meth, c, cL_law, 9, RL, g, 1000) (fun _ : Unit => lw_Z below #[Value.ref b] s) (k + 5) (n + 30) (k23 M x4) 23 [(0, .retAddr b), (1, .ref a1), (2, .ref a2), (3, .ref a3), (4, .int x4)] [] M) (M : kMem) (x4 : Int32) : GG (p, l, e, room_1, s, m, #[Value.ref b], below, meth, c, cL_law, 9, RL, g, 1000) (fun _ : Unit => lw_Z below #[Value.ref b] s) k n (F_L_law_308 N Ls xs a1 a2 a3 k23 M x4) 308 [(0, .retAddr b), (1, .ref a1), (2, .ref a2), (3, .ref a3), (4, .int x4)] [] M := by
  unfold F_L_law_308
  refine g_aload_n 309 1 hX dL_law_308 rfl rfl ?_
  refine g_aloadS_n 310 0 hX dL_law_309 rfl rfl ?_
  refine g_iload 312 4 hX dL_law_310 rfl rfl ?_
  refine g_iconst 313 hX 1 dL_law_312 rfl kc_i_1 ?_
  refine g_iadd 314 hX dL_law_313 rfl ?_
  refine g_sld 315 hX hSc hbl hbB dL_law_314 rfl ?_
  refine g_aloadS_n 316 0 hX dL_law_315 rfl rfl ?_
  refine g_iload 318 4 hX dL_law_316 rfl rfl ?_
  refine g_iconst 319 hX 2 dL_law_318 rfl kc_i_2 ?_
  refine g_iadd 320 hX dL_law_319 rfl ?_
  refine g_sld 321 hX hSc hbl hbB dL_law_320 rfl ?_
  refine g_aloadS_n 322 0 hX dL_law_321 rfl rfl ?_
  refine g_iload 324 4 hX dL_law_322 rfl rfl ?_
  refine g_iconst 325 hX 3 dL_law_324 rfl kc_i_3 ?_
  refine g_iadd 326 hX dL_law_325 rfl ?_
  refine g_sld 327 hX hSc hbl hbB dL_law_326 rfl ?_
  refine g_aloadS_n 328 0 hX dL_law_327 rfl rfl ?_
  refine g_iload 330 4 hX dL_law_328 rfl rfl ?_
  refine g_iconst 331 hX 4 dL_law_330 rfl kc_i_4 ?_
  refine g_iadd 332 hX dL_law_331 rfl ?_
  refine g_sld 333 hX hSc hbl hbB dL_law_332 rfl ?_
  refine g_aloadS_n 334 0 hX dL_law_333 rfl rfl ?_
  refine g_iload 336 4 hX dL_law_334 rfl rfl ?_
  refine g_iconst 337 hX 5 dL_law_336 rfl kc_i_5 ?_
  refine g_iadd 338 hX dL_law_337 rfl ?_
  refine g_sld 339 hX hSc hbl hbB dL_law_338 rfl ?_
  refine g_aload_n 340 3 hX dL_law_339 rfl rfl ?_
  refine g_callSH 343 hX hN (k_L_append l g hf N M a1 (xs (kx (x4 + 1))) (xs (kx (x4 + 2))) (xs (kx (x4 + 3))) (xs (kx (x4 + 4))) (xs (kx (x4 + 5))) a3) lkH_L_append q_1130 (by decide) rfl (Nat.le_of_ble_eq_true rfl) (by omega) (by omega) dL_law_340 rfl (fun r1 => ?_)
  refine g_klI (fun v2 hv2 => ?_)
  refine g_istore 345 5 [(5, .int v2), (0, .retAddr b), (1, .ref a1), (2, .ref a2), (3, .ref a3), (4, .int x4)] hX dL_law_343 rfl (Nat.le_of_ble_eq_true rfl) rfl ?_
  refine g_aload_n 346 3 hX dL_law_345 rfl rfl ?_
  refine g_aloadS_n 347 1 hX dL_law_346 rfl rfl ?_
  refine g_iload 349 5 hX dL_law_347 rfl rfl ?_
  refine g_iconst 350 hX 1 dL_law_349 rfl kc_i_1 ?_
  refine g_iadd 351 hX dL_law_350 rfl ?_
  refine g_sld 352 hX hSc hbl hbB dL_law_351 rfl ?_
  refine g_aloadS_n 353 1 hX dL_law_352 rfl rfl ?_
  refine g_iload 355 5 hX dL_law_353 rfl rfl ?_
  refine g_iconst 356 hX 2 dL_law_355 rfl kc_i_2 ?_
  refine g_iadd 357 hX dL_law_356 rfl ?_
  refine g_sld 358 hX hSc hbl hbB dL_law_357 rfl ?_
  refine g_aloadS_n 359 1 hX dL_law_358 rfl rfl ?_
  refine g_iload 361 5 hX dL_law_359 rfl rfl ?_
  refine g_iconst 362 hX 3 dL_law_361 rfl kc_i_3 ?_
  refine g_iadd 363 hX dL_law_362 rfl ?_
  refine g_sld 364 hX hSc hbl hbB dL_law_363 rfl ?_
  refine g_aloadS_n 365 1 hX dL_law_364 rfl rfl ?_
  refine g_iload 367 5 hX dL_law_365 rfl rfl ?_
  refine g_iconst 368 hX 4 dL_law_367 rfl kc_i_4 ?_
  refine g_iadd 369 hX dL_law_368 rfl ?_
  refine g_sld 370 hX hSc hbl hbB dL_law_369 rfl ?_
  refine g_aloadS_n 371 1 hX dL_law_370 rfl rfl ?_
  refine g_iload 373 5 hX dL_law_371 rfl rfl ?_
  refine g_iconst 374 hX 5 dL_law_373 rfl kc_i_5 ?_
  refine g_iadd 375 hX dL_law_374 rfl ?_
  refine g_sld 376 hX hSc hbl hbB dL_law_375 rfl ?_
  refine g_callV_i 379 hX (k_X12_append l g N r1.2 a2 (xs (kx (x4 + 1))) (xs (kx (x4 + 2))) (xs (kx (x4 + 3))) (xs (kx (x4 + 4))) (xs (kx (x4 + 5)))) lk_X12_append rfl (ci := 12) rfl (Nat.le_of_ble_eq_true rfl) q_1734 q_1736 (by decide) rfl (Nat.le_of_ble_eq_true rfl) (by omega) (by omega) dL_law_376 rfl (fun r3 => ?_)
  refine g_klI (fun v4 hv4 => ?_)
  refine g_istore 381 6 [(6, .int v4), (5, .int v2), (0, .retAddr b), (1, .ref a1), (2, .ref a2), (3, .ref a3), (4, .int x4)] hX dL_law_379 rfl (Nat.le_of_ble_eq_true rfl) rfl ?_
  refine g_aload_n 382 4 hX dL_law_381 rfl rfl ?_
  refine g_callV_ip 385 hX (k_X12_thrown l g N r3.2 a2) lk_X12_thrown rfl (ci := 12) rfl (Nat.le_of_ble_eq_true rfl) q_1730 q_1732 (by decide) rfl (Nat.le_of_ble_eq_true rfl) (by omega) (by omega) dL_law_382 rfl (fun r5 => ?_)
  refine g_iload 387 1 hX dL_law_385 rfl rfl ?_
  refine g_icmp_eq 392 390 hX dL_law_387 (by decide) rfl (fun _ => ?_) (fun _ => ?_)
  · refine g_iload 394 1 hX dL_law_392 rfl rfl ?_
    refine g_if_ne 409 397 hX dL_law_394 (by decide) rfl (fun _ => ?_) (fun _ => ?_)
    · refine g_goto 3200 hX dL_law_409 (by decide) ?_
      refine g_kl (fun v6 hv6 => ?_)
      refine g_iinc 3203 4 6 v6 [(4, .int v6), (6, .int v4), (5, .int v2), (0, .retAddr b), (1, .ref a1), (2, .ref a2), (3, .ref a3)] hX dL_law_3200 rfl rfl (by rw [hv6, kc_i_6]) (Nat.le_of_ble_eq_true rfl) rfl ?_
      refine g_goto 23 hX dL_law_3203 (by decide) ?_
      refine g_lv [3, 4, 5, 6, 0] rfl ?_
      refine g_widen (k2 := k + 5) (n2 := n + 30) (by omega) (by omega) ?_
      exact h23 r3.2 v6
    · refine g_aload_n 398 5 hX dL_law_397 rfl rfl ?_
      refine g_iconst 399 hX 0 dL_law_398 rfl kc_i_0 ?_
      refine g_lald 400 hX dL_law_399 rfl ?_
      refine g_iload 402 0 hX dL_law_400 rfl rfl ?_
      refine g_i2l 403 hX dL_law_402 rfl ?_
      refine g_lcmp 404 hX dL_law_403 rfl ?_
      refine g_if_eq 409 407 hX dL_law_404 (by decide) rfl (fun _ => ?_) (fun _ => ?_)
      · refine g_goto 3200 hX dL_law_409 (by decide) ?_
        refine g_kl (fun v7 hv7 => ?_)
        refine g_iinc 3203 4 6 v7 [(4, .int v7), (6, .int v4), (5, .int v2), (0, .retAddr b), (1, .ref a1), (2, .ref a2), (3, .ref a3)] hX dL_law_3200 rfl rfl (by rw [hv7, kc_i_6]) (Nat.le_of_ble_eq_true rfl) rfl ?_
        refine g_goto 23 hX dL_law_3203 (by decide) ?_
        refine g_lv [3, 4, 5, 6, 0] rfl ?_
        refine g_widen (k2 := k + 5) (n2 := n + 30) (by omega) (by omega) ?_
        exact h23 r3.2 v7
      · exact g_none
  · exact g_none
def F_L_law_412 (N Ls : Nat) (xs : Nat → Int32) (a1 a2 a3 : Nat) (k23 : kMem → Int32 → Option Unit) (M : kMem) (x4 : Int32) : Option Unit :=
    kg (decide (0 ≤ x4 + 1) && decide ((x4 + 1 : Int32).toNatClampNeg < Ls)) <|
    (F_L_truncate N M a1 (xs (kx (x4 + 1))) a3).bind fun r1 =>
    kl r1.1 fun v2 =>
    kg (decide (0 ≤ x4 + 1) && decide ((x4 + 1 : Int32).toNatClampNeg < Ls)) <|
    kg (kt r1.2 a2 12) <| (F_X12_truncate N r1.2 a2 (xs (kx (x4 + 1)))).bind fun r3 =>
    kl r3.1 fun v4 =>
    kg (kt r3.2 a2 12) <| (F_X12_thrown N r3.2 a2).bind fun r5 =>
    if r5 = v2 then (
      if v2 = 0 then (
        kg (kin r3.2 a3 15 0) <|
        if (lg_cmp (kL r3.2 a3 (kx 0)) v4.toInt64) = 0 then (
          kl (x4 + 6) fun v7 =>
          k23 r3.2 v7) else
        none) else
      kl (x4 + 6) fun v6 =>
      k23 r3.2 v6) else
    none
set_option maxRecDepth 100000 in
set_option maxHeartbeats 4000000 in
theorem k_L_law_412 {p : Program} {l : Launch} {e : Env} {s : State} {m : MethodId} {below : List Frame} {meth : Method} {c : Code} {g : kG} {b Ls : Nat} {xs : Nat → Int32} (hX : Cok (p, l, e, room_1, s, m, #[Value.ref b], below, meth, c, cL_law, 9, RL, g, 1000)) (hf : l.flags = flags0) (hN : kNc s) (hSc : va_X b Ls xs s s.heap) (hbl : b < s.heap.size) (hbB : s.heap.size = g.2.2.1 + 1) {k n : Nat} (hk : k + 5 ≤ room_1.cells) (hn : n + 30 ≤ room_1.slots) (N a1 a2 a3 : Nat) (k23 : kMem → Int32 → Option Unit) (h23 : ∀ (M : kMem) (x4 : Int32), GG (p, l, e, room_1, s, m, #[Value.ref b], below, meth, c, cL_law, 9, RL, g, 1000) (fun _ : Unit => lw_Z below #[Value.ref b] s) (k + 5) (n + 30) (k23 M x4) 23 [(0, .retAddr b), (1, .ref a1), (2, .ref a2), (3, .ref a3), (4, .int x4)] [] M) (M : kMem) (x4 : Int32) : GG (p, l, e, room_1, s, m, #[Value.ref b], below, meth, c, cL_law, 9, RL, g, 1000) (fun _ : Unit => lw_Z below #[Value.ref b] s) k n (F_L_law_412 N Ls xs a1 a2 a3 k23 M x4) 412 [(0, .retAddr b), (1, .ref a1), (2, .ref a2), (3, .ref a3), (4, .int x4)] [] M := by
  unfold F_L_law_412
  refine g_aload_n 413 1 hX dL_law_412 rfl rfl ?_
  refine g_aloadS_n 414 0 hX dL_law_413 rfl rfl ?_
  refine g_iload 416 4 hX dL_law_414 rfl rfl ?_
  refine g_iconst 417 hX 1 dL_law_416 rfl kc_i_1 ?_
  refine g_iadd 418 hX dL_law_417 rfl ?_
  refine g_sld 419 hX hSc hbl hbB dL_law_418 rfl ?_
  refine g_aload_n 420 3 hX dL_law_419 rfl rfl ?_
  refine g_callSH 423 hX hN (k_L_truncate l g hf N M a1 (xs (kx (x4 + 1))) a3) lkH_L_truncate q_1212 (by decide) rfl (Nat.le_of_ble_eq_true rfl) (by omega) (by omega) dL_law_420 rfl (fun r1 => ?_)
  refine g_klI (fun v2 hv2 => ?_)
  refine g_istore 425 5 [(5, .int v2), (0, .retAddr b), (1, .ref a1), (2, .ref a2), (3, .ref a3), (4, .int x4)] hX dL_law_423 rfl (Nat.le_of_ble_eq_true rfl) rfl ?_
  refine g_aload_n 426 3 hX dL_law_425 rfl rfl ?_
  refine g_aloadS_n 427 1 hX dL_law_426 rfl rfl ?_
  refine g_iload 429 5 hX dL_law_427 rfl rfl ?_
  refine g_iconst 430 hX 1 dL_law_429 rfl kc_i_1 ?_
  refine g_iadd 431 hX dL_law_430 rfl ?_
  refine g_sld 432 hX hSc hbl hbB dL_law_431 rfl ?_
  refine g_callV_i 435 hX (k_X12_truncate l g N r1.2 a2 (xs (kx (x4 + 1)))) lk_X12_truncate rfl (ci := 12) rfl (Nat.le_of_ble_eq_true rfl) q_1750 q_1752 (by decide) rfl (Nat.le_of_ble_eq_true rfl) (by omega) (by omega) dL_law_432 rfl (fun r3 => ?_)
  refine g_klI (fun v4 hv4 => ?_)
  refine g_istore 437 6 [(6, .int v4), (5, .int v2), (0, .retAddr b), (1, .ref a1), (2, .ref a2), (3, .ref a3), (4, .int x4)] hX dL_law_435 rfl (Nat.le_of_ble_eq_true rfl) rfl ?_
  refine g_aload_n 438 4 hX dL_law_437 rfl rfl ?_
  refine g_callV_ip 441 hX (k_X12_thrown l g N r3.2 a2) lk_X12_thrown rfl (ci := 12) rfl (Nat.le_of_ble_eq_true rfl) q_1730 q_1732 (by decide) rfl (Nat.le_of_ble_eq_true rfl) (by omega) (by omega) dL_law_438 rfl (fun r5 => ?_)
  refine g_iload 443 1 hX dL_law_441 rfl rfl ?_
  refine g_icmp_eq 448 446 hX dL_law_443 (by decide) rfl (fun _ => ?_) (fun _ => ?_)
  · refine g_iload 450 1 hX dL_law_448 rfl rfl ?_
    refine g_if_ne 465 453 hX dL_law_450 (by decide) rfl (fun _ => ?_) (fun _ => ?_)
    · refine g_goto 3200 hX dL_law_465 (by decide) ?_
      refine g_kl (fun v6 hv6 => ?_)
      refine g_iinc 3203 4 6 v6 [(4, .int v6), (6, .int v4), (5, .int v2), (0, .retAddr b), (1, .ref a1), (2, .ref a2), (3, .ref a3)] hX dL_law_3200 rfl rfl (by rw [hv6, kc_i_6]) (Nat.le_of_ble_eq_true rfl) rfl ?_
      refine g_goto 23 hX dL_law_3203 (by decide) ?_
      refine g_lv [3, 4, 5, 6, 0] rfl ?_
      refine g_widen (k2 := k + 5) (n2 := n + 30) (by omega) (by omega) ?_
      exact h23 r3.2 v6
    · refine g_aload_n 454 5 hX dL_law_453 rfl rfl ?_
      refine g_iconst 455 hX 0 dL_law_454 rfl kc_i_0 ?_
      refine g_lald 456 hX dL_law_455 rfl ?_
      refine g_iload 458 0 hX dL_law_456 rfl rfl ?_
      refine g_i2l 459 hX dL_law_458 rfl ?_
      refine g_lcmp 460 hX dL_law_459 rfl ?_
      refine g_if_eq 465 463 hX dL_law_460 (by decide) rfl (fun _ => ?_) (fun _ => ?_)
      · refine g_goto 3200 hX dL_law_465 (by decide) ?_
        refine g_kl (fun v7 hv7 => ?_)
        refine g_iinc 3203 4 6 v7 [(4, .int v7), (6, .int v4), (5, .int v2), (0, .retAddr b), (1, .ref a1), (2, .ref a2), (3, .ref a3)] hX dL_law_3200 rfl rfl (by rw [hv7, kc_i_6]) (Nat.le_of_ble_eq_true rfl) rfl ?_
        refine g_goto 23 hX dL_law_3203 (by decide) ?_
        refine g_lv [3, 4, 5, 6, 0] rfl ?_
        refine g_widen (k2 := k + 5) (n2 := n + 30) (by omega) (by omega) ?_
        exact h23 r3.2 v7
      · exact g_none
  · exact g_none
def F_L_law_468 (N Ls : Nat) (xs : Nat → Int32) (a1 a2 a3 : Nat) (k23 : kMem → Int32 → Option Unit) (M : kMem) (x4 : Int32) : Option Unit :=
    kg (kt M a1 11) <| (F_X11_load N M a1).bind fun r1 =>
    kg (kt r1.2 a2 12) <| (F_X12_load N r1.2 a2).bind fun r2 =>
    if r1.1 = r2.1 then (
      kl (x4 + 6) fun v3 =>
      k23 r2.2 v3) else
    none
set_option maxRecDepth 100000 in
set_option maxHeartbeats 4000000 in
theorem k_L_law_468 {p : Program} {l : Launch} {e : Env} {s : State} {m : MethodId} {below : List Frame} {meth : Method} {c : Code} {g : kG} {b Ls : Nat} {xs : Nat → Int32} (hX : Cok (p, l, e, room_1, s, m, #[Value.ref b], below, meth, c, cL_law, 9, RL, g, 1000)) (hf : l.flags = flags0) (hN : kNc s) (hSc : va_X b Ls xs s s.heap) (hbl : b < s.heap.size) (hbB : s.heap.size = g.2.2.1 + 1) {k n : Nat} (hk : k + 5 ≤ room_1.cells) (hn : n + 30 ≤ room_1.slots) (N a1 a2 a3 : Nat) (k23 : kMem → Int32 → Option Unit) (h23 : ∀ (M : kMem) (x4 : Int32), GG (p, l, e, room_1, s, m, #[Value.ref b], below, meth, c, cL_law, 9, RL, g, 1000) (fun _ : Unit => lw_Z below #[Value.ref b] s) (k + 5) (n + 30) (k23 M x4) 23 [(0, .retAddr b), (1, .ref a1), (2, .ref a2), (3, .ref a3), (4, .int x4)] [] M) (M : kMem) (x4 : Int32) : GG (p, l, e, room_1, s, m, #[Value.ref b], below, meth, c, cL_law, 9, RL, g, 1000) (fun _ : Unit => lw_Z below #[Value.ref b] s) k n (F_L_law_468 N Ls xs a1 a2 a3 k23 M x4) 468 [(0, .retAddr b), (1, .ref a1), (2, .ref a2), (3, .ref a3), (4, .int x4)] [] M := by
  unfold F_L_law_468
  refine g_aload_n 469 1 hX dL_law_468 rfl rfl ?_
  refine g_callV_i 472 hX (k_X11_load l g N M a1) lk_X11_load rfl (ci := 11) rfl (Nat.le_of_ble_eq_true rfl) q_749 q_751 (by decide) rfl (Nat.le_of_ble_eq_true rfl) (by omega) (by omega) dL_law_469 rfl (fun r1 => ?_)
  refine g_aload_n 473 2 hX dL_law_472 rfl rfl ?_
  refine g_callV_i 476 hX (k_X12_load l g N r1.2 a2) lk_X12_load rfl (ci := 12) rfl (Nat.le_of_ble_eq_true rfl) q_1757 q_1759 (by decide) rfl (Nat.le_of_ble_eq_true rfl) (by omega) (by omega) dL_law_473 rfl (fun r2 => ?_)
  refine g_icmp_eq 3200 479 hX dL_law_476 (by decide) rfl (fun _ => ?_) (fun _ => ?_)
  · refine g_kl (fun v3 hv3 => ?_)
    refine g_iinc 3203 4 4 v3 [(4, .int v3), (0, .retAddr b), (1, .ref a1), (2, .ref a2), (3, .ref a3)] hX dL_law_3200 rfl rfl (by rw [hv3, kc_i_6]) (Nat.le_of_ble_eq_true rfl) rfl ?_
    refine g_goto 23 hX dL_law_3203 (by decide) ?_
    refine g_lv [1, 2, 3, 4, 0] rfl ?_
    refine g_widen (k2 := k + 5) (n2 := n + 30) (by omega) (by omega) ?_
    exact h23 r2.2 v3
  · exact g_none
def F_L_law_481 (N Ls : Nat) (xs : Nat → Int32) (a1 a2 a3 : Nat) (k23 : kMem → Int32 → Option Unit) (M : kMem) (x4 : Int32) : Option Unit :=
    kg (kt M a1 11) <| (F_X11_runScript N M a1).bind fun r1 =>
    kg (kt r1.2 a2 12) <| (F_X12_runScript N r1.2 a2).bind fun r2 =>
    if r1.1 = r2.1 then (
      kl (x4 + 6) fun v3 =>
      k23 r2.2 v3) else
    none
set_option maxRecDepth 100000 in
set_option maxHeartbeats 4000000 in
theorem k_L_law_481 {p : Program} {l : Launch} {e : Env} {s : State} {m : MethodId} {below : List Frame} {meth : Method} {c : Code} {g : kG} {b Ls : Nat} {xs : Nat → Int32} (hX : Cok (p, l, e, room_1, s, m, #[Value.ref b], below, meth, c, cL_law, 9, RL, g, 1000)) (hf : l.flags = flags0) (hN : kNc s) (hSc : va_X b Ls xs s s.heap) (hbl : b < s.heap.size) (hbB : s.heap.size = g.2.2.1 + 1) {k n : Nat} (hk : k + 5 ≤ room_1.cells) (hn : n + 30 ≤ room_1.slots) (N a1 a2 a3 : Nat) (k23 : kMem → Int32 → Option Unit) (h23 : ∀ (M : kMem) (x4 : Int32), GG (p, l, e, room_1, s, m, #[Value.ref b], below, meth, c, cL_law, 9, RL, g, 1000) (fun _ : Unit => lw_Z below #[Value.ref b] s) (k + 5) (n + 30) (k23 M x4) 23 [(0, .retAddr b), (1, .ref a1), (2, .ref a2), (3, .ref a3), (4, .int x4)] [] M) (M : kMem) (x4 : Int32) : GG (p, l, e, room_1, s, m, #[Value.ref b], below, meth, c, cL_law, 9, RL, g, 1000) (fun _ : Unit => lw_Z below #[Value.ref b] s) k n (F_L_law_481 N Ls xs a1 a2 a3 k23 M x4) 481 [(0, .retAddr b), (1, .ref a1), (2, .ref a2), (3, .ref a3), (4, .int x4)] [] M := by
  unfold F_L_law_481
  refine g_aload_n 482 1 hX dL_law_481 rfl rfl ?_
  refine g_callV_i 485 hX (k_X11_runScript l g N M a1) lk_X11_runScript rfl (ci := 11) rfl (Nat.le_of_ble_eq_true rfl) q_753 q_755 (by decide) rfl (Nat.le_of_ble_eq_true rfl) (by omega) (by omega) dL_law_482 rfl (fun r1 => ?_)
  refine g_aload_n 486 2 hX dL_law_485 rfl rfl ?_
  refine g_callV_i 489 hX (k_X12_runScript l g N r1.2 a2) lk_X12_runScript rfl (ci := 12) rfl (Nat.le_of_ble_eq_true rfl) q_1879 q_1881 (by decide) rfl (Nat.le_of_ble_eq_true rfl) (by omega) (by omega) dL_law_486 rfl (fun r2 => ?_)
  refine g_icmp_eq 3200 492 hX dL_law_489 (by decide) rfl (fun _ => ?_) (fun _ => ?_)
  · refine g_kl (fun v3 hv3 => ?_)
    refine g_iinc 3203 4 4 v3 [(4, .int v3), (0, .retAddr b), (1, .ref a1), (2, .ref a2), (3, .ref a3)] hX dL_law_3200 rfl rfl (by rw [hv3, kc_i_6]) (Nat.le_of_ble_eq_true rfl) rfl ?_
    refine g_goto 23 hX dL_law_3203 (by decide) ?_
    refine g_lv [1, 2, 3, 4, 0] rfl ?_
    refine g_widen (k2 := k + 5) (n2 := n + 30) (by omega) (by omega) ?_
    exact h23 r2.2 v3
  · exact g_none
def F_L_law_494 (N Ls : Nat) (xs : Nat → Int32) (a1 a2 a3 : Nat) (k23 : kMem → Int32 → Option Unit) (M : kMem) (x4 : Int32) : Option Unit :=
    kg (kt M a1 11) <| (F_X11_errorCode N M a1).bind fun r1 =>
    kg (kt M a2 12) <| (F_X12_errorCode N M a2).bind fun r2 =>
    if r1 = r2.1 then (
      kl (x4 + 6) fun v3 =>
      k23 r2.2 v3) else
    none
set_option maxRecDepth 100000 in
set_option maxHeartbeats 4000000 in
theorem k_L_law_494 {p : Program} {l : Launch} {e : Env} {s : State} {m : MethodId} {below : List Frame} {meth : Method} {c : Code} {g : kG} {b Ls : Nat} {xs : Nat → Int32} (hX : Cok (p, l, e, room_1, s, m, #[Value.ref b], below, meth, c, cL_law, 9, RL, g, 1000)) (hf : l.flags = flags0) (hN : kNc s) (hSc : va_X b Ls xs s s.heap) (hbl : b < s.heap.size) (hbB : s.heap.size = g.2.2.1 + 1) {k n : Nat} (hk : k + 5 ≤ room_1.cells) (hn : n + 30 ≤ room_1.slots) (N a1 a2 a3 : Nat) (k23 : kMem → Int32 → Option Unit) (h23 : ∀ (M : kMem) (x4 : Int32), GG (p, l, e, room_1, s, m, #[Value.ref b], below, meth, c, cL_law, 9, RL, g, 1000) (fun _ : Unit => lw_Z below #[Value.ref b] s) (k + 5) (n + 30) (k23 M x4) 23 [(0, .retAddr b), (1, .ref a1), (2, .ref a2), (3, .ref a3), (4, .int x4)] [] M) (M : kMem) (x4 : Int32) : GG (p, l, e, room_1, s, m, #[Value.ref b], below, meth, c, cL_law, 9, RL, g, 1000) (fun _ : Unit => lw_Z below #[Value.ref b] s) k n (F_L_law_494 N Ls xs a1 a2 a3 k23 M x4) 494 [(0, .retAddr b), (1, .ref a1), (2, .ref a2), (3, .ref a3), (4, .int x4)] [] M := by
  unfold F_L_law_494
  refine g_aload_n 495 1 hX dL_law_494 rfl rfl ?_
  refine g_callV_ip 498 hX (k_X11_errorCode l g N M a1) lk_X11_errorCode rfl (ci := 11) rfl (Nat.le_of_ble_eq_true rfl) q_982 q_984 (by decide) rfl (Nat.le_of_ble_eq_true rfl) (by omega) (by omega) dL_law_495 rfl (fun r1 => ?_)
  refine g_aload_n 499 2 hX dL_law_498 rfl rfl ?_
  refine g_callV_i 502 hX (k_X12_errorCode l g N M a2) lk_X12_errorCode rfl (ci := 12) rfl (Nat.le_of_ble_eq_true rfl) q_2072 q_2074 (by decide) rfl (Nat.le_of_ble_eq_true rfl) (by omega) (by omega) dL_law_499 rfl (fun r2 => ?_)
  refine g_icmp_eq 3200 505 hX dL_law_502 (by decide) rfl (fun _ => ?_) (fun _ => ?_)
  · refine g_kl (fun v3 hv3 => ?_)
    refine g_iinc 3203 4 4 v3 [(4, .int v3), (0, .retAddr b), (1, .ref a1), (2, .ref a2), (3, .ref a3)] hX dL_law_3200 rfl rfl (by rw [hv3, kc_i_6]) (Nat.le_of_ble_eq_true rfl) rfl ?_
    refine g_goto 23 hX dL_law_3203 (by decide) ?_
    refine g_lv [1, 2, 3, 4, 0] rfl ?_
    refine g_widen (k2 := k + 5) (n2 := n + 30) (by omega) (by omega) ?_
    exact h23 r2.2 v3
  · exact g_none
def F_L_law_507 (N Ls : Nat) (xs : Nat → Int32) (a1 a2 a3 : Nat) (k23 : kMem → Int32 → Option Unit) (M : kMem) (x4 : Int32) : Option Unit :=
    kg (kt M a1 11) <| (F_X11_errorPosition N M a1).bind fun r1 =>
    kg (kt M a2 12) <| (F_X12_errorPosition N M a2).bind fun r2 =>
    if r1 = r2.1 then (
      kl (x4 + 6) fun v3 =>
      k23 r2.2 v3) else
    none
set_option maxRecDepth 100000 in
set_option maxHeartbeats 4000000 in
theorem k_L_law_507 {p : Program} {l : Launch} {e : Env} {s : State} {m : MethodId} {below : List Frame} {meth : Method} {c : Code} {g : kG} {b Ls : Nat} {xs : Nat → Int32} (hX : Cok (p, l, e, room_1, s, m, #[Value.ref b], below, meth, c, cL_law, 9, RL, g, 1000)) (hf : l.flags = flags0) (hN : kNc s) (hSc : va_X b Ls xs s s.heap) (hbl : b < s.heap.size) (hbB : s.heap.size = g.2.2.1 + 1) {k n : Nat} (hk : k + 5 ≤ room_1.cells) (hn : n + 30 ≤ room_1.slots) (N a1 a2 a3 : Nat) (k23 : kMem → Int32 → Option Unit) (h23 : ∀ (M : kMem) (x4 : Int32), GG (p, l, e, room_1, s, m, #[Value.ref b], below, meth, c, cL_law, 9, RL, g, 1000) (fun _ : Unit => lw_Z below #[Value.ref b] s) (k + 5) (n + 30) (k23 M x4) 23 [(0, .retAddr b), (1, .ref a1), (2, .ref a2), (3, .ref a3), (4, .int x4)] [] M) (M : kMem) (x4 : Int32) : GG (p, l, e, room_1, s, m, #[Value.ref b], below, meth, c, cL_law, 9, RL, g, 1000) (fun _ : Unit => lw_Z below #[Value.ref b] s) k n (F_L_law_507 N Ls xs a1 a2 a3 k23 M x4) 507 [(0, .retAddr b), (1, .ref a1), (2, .ref a2), (3, .ref a3), (4, .int x4)] [] M := by
  unfold F_L_law_507
  refine g_aload_n 508 1 hX dL_law_507 rfl rfl ?_
  refine g_callV_ip 511 hX (k_X11_errorPosition l g N M a1) lk_X11_errorPosition rfl (ci := 11) rfl (Nat.le_of_ble_eq_true rfl) q_986 q_988 (by decide) rfl (Nat.le_of_ble_eq_true rfl) (by omega) (by omega) dL_law_508 rfl (fun r1 => ?_)
  refine g_aload_n 512 2 hX dL_law_511 rfl rfl ?_
  refine g_callV_i 515 hX (k_X12_errorPosition l g N M a2) lk_X12_errorPosition rfl (ci := 12) rfl (Nat.le_of_ble_eq_true rfl) q_2076 q_2078 (by decide) rfl (Nat.le_of_ble_eq_true rfl) (by omega) (by omega) dL_law_512 rfl (fun r2 => ?_)
  refine g_icmp_eq 3200 518 hX dL_law_515 (by decide) rfl (fun _ => ?_) (fun _ => ?_)
  · refine g_kl (fun v3 hv3 => ?_)
    refine g_iinc 3203 4 4 v3 [(4, .int v3), (0, .retAddr b), (1, .ref a1), (2, .ref a2), (3, .ref a3)] hX dL_law_3200 rfl rfl (by rw [hv3, kc_i_6]) (Nat.le_of_ble_eq_true rfl) rfl ?_
    refine g_goto 23 hX dL_law_3203 (by decide) ?_
    refine g_lv [1, 2, 3, 4, 0] rfl ?_
    refine g_widen (k2 := k + 5) (n2 := n + 30) (by omega) (by omega) ?_
    exact h23 r2.2 v3
  · exact g_none
def F_L_law_520 (N Ls : Nat) (xs : Nat → Int32) (a1 a2 a3 : Nat) (k23 : kMem → Int32 → Option Unit) (M : kMem) (x4 : Int32) : Option Unit :=
    kg (kt M a1 11) <| (F_X11_day N M a1).bind fun r1 =>
    kg (kt M a2 12) <| (F_X12_day N M a2).bind fun r2 =>
    if r1 = r2.1 then (
      kl (x4 + 6) fun v3 =>
      k23 r2.2 v3) else
    none
set_option maxRecDepth 100000 in
set_option maxHeartbeats 4000000 in
theorem k_L_law_520 {p : Program} {l : Launch} {e : Env} {s : State} {m : MethodId} {below : List Frame} {meth : Method} {c : Code} {g : kG} {b Ls : Nat} {xs : Nat → Int32} (hX : Cok (p, l, e, room_1, s, m, #[Value.ref b], below, meth, c, cL_law, 9, RL, g, 1000)) (hf : l.flags = flags0) (hN : kNc s) (hSc : va_X b Ls xs s s.heap) (hbl : b < s.heap.size) (hbB : s.heap.size = g.2.2.1 + 1) {k n : Nat} (hk : k + 5 ≤ room_1.cells) (hn : n + 30 ≤ room_1.slots) (N a1 a2 a3 : Nat) (k23 : kMem → Int32 → Option Unit) (h23 : ∀ (M : kMem) (x4 : Int32), GG (p, l, e, room_1, s, m, #[Value.ref b], below, meth, c, cL_law, 9, RL, g, 1000) (fun _ : Unit => lw_Z below #[Value.ref b] s) (k + 5) (n + 30) (k23 M x4) 23 [(0, .retAddr b), (1, .ref a1), (2, .ref a2), (3, .ref a3), (4, .int x4)] [] M) (M : kMem) (x4 : Int32) : GG (p, l, e, room_1, s, m, #[Value.ref b], below, meth, c, cL_law, 9, RL, g, 1000) (fun _ : Unit => lw_Z below #[Value.ref b] s) k n (F_L_law_520 N Ls xs a1 a2 a3 k23 M x4) 520 [(0, .retAddr b), (1, .ref a1), (2, .ref a2), (3, .ref a3), (4, .int x4)] [] M := by
  unfold F_L_law_520
  refine g_aload_n 521 1 hX dL_law_520 rfl rfl ?_
  refine g_callV_ip 524 hX (k_X11_day l g N M a1) lk_X11_day rfl (ci := 11) rfl (Nat.le_of_ble_eq_true rfl) q_990 q_992 (by decide) rfl (Nat.le_of_ble_eq_true rfl) (by omega) (by omega) dL_law_521 rfl (fun r1 => ?_)
  refine g_aload_n 525 2 hX dL_law_524 rfl rfl ?_
  refine g_callV_i 528 hX (k_X12_day l g N M a2) lk_X12_day rfl (ci := 12) rfl (Nat.le_of_ble_eq_true rfl) q_2157 q_2159 (by decide) rfl (Nat.le_of_ble_eq_true rfl) (by omega) (by omega) dL_law_525 rfl (fun r2 => ?_)
  refine g_icmp_eq 3200 531 hX dL_law_528 (by decide) rfl (fun _ => ?_) (fun _ => ?_)
  · refine g_kl (fun v3 hv3 => ?_)
    refine g_iinc 3203 4 4 v3 [(4, .int v3), (0, .retAddr b), (1, .ref a1), (2, .ref a2), (3, .ref a3)] hX dL_law_3200 rfl rfl (by rw [hv3, kc_i_6]) (Nat.le_of_ble_eq_true rfl) rfl ?_
    refine g_goto 23 hX dL_law_3203 (by decide) ?_
    refine g_lv [1, 2, 3, 4, 0] rfl ?_
    refine g_widen (k2 := k + 5) (n2 := n + 30) (by omega) (by omega) ?_
    exact h23 r2.2 v3
  · exact g_none
def F_L_law_533 (N Ls : Nat) (xs : Nat → Int32) (a1 a2 a3 : Nat) (k23 : kMem → Int32 → Option Unit) (M : kMem) (x4 : Int32) : Option Unit :=
    kg (kt M a1 11) <| (F_X11_bank N M a1).bind fun r1 =>
    kg (kt M a2 12) <| (F_X12_bank N M a2).bind fun r2 =>
    if r1 = r2.1 then (
      kl (x4 + 6) fun v3 =>
      k23 r2.2 v3) else
    none
set_option maxRecDepth 100000 in
set_option maxHeartbeats 4000000 in
theorem k_L_law_533 {p : Program} {l : Launch} {e : Env} {s : State} {m : MethodId} {below : List Frame} {meth : Method} {c : Code} {g : kG} {b Ls : Nat} {xs : Nat → Int32} (hX : Cok (p, l, e, room_1, s, m, #[Value.ref b], below, meth, c, cL_law, 9, RL, g, 1000)) (hf : l.flags = flags0) (hN : kNc s) (hSc : va_X b Ls xs s s.heap) (hbl : b < s.heap.size) (hbB : s.heap.size = g.2.2.1 + 1) {k n : Nat} (hk : k + 5 ≤ room_1.cells) (hn : n + 30 ≤ room_1.slots) (N a1 a2 a3 : Nat) (k23 : kMem → Int32 → Option Unit) (h23 : ∀ (M : kMem) (x4 : Int32), GG (p, l, e, room_1, s, m, #[Value.ref b], below, meth, c, cL_law, 9, RL, g, 1000) (fun _ : Unit => lw_Z below #[Value.ref b] s) (k + 5) (n + 30) (k23 M x4) 23 [(0, .retAddr b), (1, .ref a1), (2, .ref a2), (3, .ref a3), (4, .int x4)] [] M) (M : kMem) (x4 : Int32) : GG (p, l, e, room_1, s, m, #[Value.ref b], below, meth, c, cL_law, 9, RL, g, 1000) (fun _ : Unit => lw_Z below #[Value.ref b] s) k n (F_L_law_533 N Ls xs a1 a2 a3 k23 M x4) 533 [(0, .retAddr b), (1, .ref a1), (2, .ref a2), (3, .ref a3), (4, .int x4)] [] M := by
  unfold F_L_law_533
  refine g_aload_n 534 1 hX dL_law_533 rfl rfl ?_
  refine g_callV_ip 537 hX (k_X11_bank l g N M a1) lk_X11_bank rfl (ci := 11) rfl (Nat.le_of_ble_eq_true rfl) q_994 q_996 (by decide) rfl (Nat.le_of_ble_eq_true rfl) (by omega) (by omega) dL_law_534 rfl (fun r1 => ?_)
  refine g_aload_n 538 2 hX dL_law_537 rfl rfl ?_
  refine g_callV_i 541 hX (k_X12_bank l g N M a2) lk_X12_bank rfl (ci := 12) rfl (Nat.le_of_ble_eq_true rfl) q_2161 q_2163 (by decide) rfl (Nat.le_of_ble_eq_true rfl) (by omega) (by omega) dL_law_538 rfl (fun r2 => ?_)
  refine g_icmp_eq 3200 544 hX dL_law_541 (by decide) rfl (fun _ => ?_) (fun _ => ?_)
  · refine g_kl (fun v3 hv3 => ?_)
    refine g_iinc 3203 4 4 v3 [(4, .int v3), (0, .retAddr b), (1, .ref a1), (2, .ref a2), (3, .ref a3)] hX dL_law_3200 rfl rfl (by rw [hv3, kc_i_6]) (Nat.le_of_ble_eq_true rfl) rfl ?_
    refine g_goto 23 hX dL_law_3203 (by decide) ?_
    refine g_lv [1, 2, 3, 4, 0] rfl ?_
    refine g_widen (k2 := k + 5) (n2 := n + 30) (by omega) (by omega) ?_
    exact h23 r2.2 v3
  · exact g_none
def F_L_law_546 (N Ls : Nat) (xs : Nat → Int32) (a1 a2 a3 : Nat) (k23 : kMem → Int32 → Option Unit) (M : kMem) (x4 : Int32) : Option Unit :=
    kg (kt M a1 11) <| (F_X11_wage N M a1).bind fun r1 =>
    kg (kt M a2 12) <| (F_X12_wage N M a2).bind fun r2 =>
    if r1 = r2.1 then (
      kl (x4 + 6) fun v3 =>
      k23 r2.2 v3) else
    none
set_option maxRecDepth 100000 in
set_option maxHeartbeats 4000000 in
theorem k_L_law_546 {p : Program} {l : Launch} {e : Env} {s : State} {m : MethodId} {below : List Frame} {meth : Method} {c : Code} {g : kG} {b Ls : Nat} {xs : Nat → Int32} (hX : Cok (p, l, e, room_1, s, m, #[Value.ref b], below, meth, c, cL_law, 9, RL, g, 1000)) (hf : l.flags = flags0) (hN : kNc s) (hSc : va_X b Ls xs s s.heap) (hbl : b < s.heap.size) (hbB : s.heap.size = g.2.2.1 + 1) {k n : Nat} (hk : k + 5 ≤ room_1.cells) (hn : n + 30 ≤ room_1.slots) (N a1 a2 a3 : Nat) (k23 : kMem → Int32 → Option Unit) (h23 : ∀ (M : kMem) (x4 : Int32), GG (p, l, e, room_1, s, m, #[Value.ref b], below, meth, c, cL_law, 9, RL, g, 1000) (fun _ : Unit => lw_Z below #[Value.ref b] s) (k + 5) (n + 30) (k23 M x4) 23 [(0, .retAddr b), (1, .ref a1), (2, .ref a2), (3, .ref a3), (4, .int x4)] [] M) (M : kMem) (x4 : Int32) : GG (p, l, e, room_1, s, m, #[Value.ref b], below, meth, c, cL_law, 9, RL, g, 1000) (fun _ : Unit => lw_Z below #[Value.ref b] s) k n (F_L_law_546 N Ls xs a1 a2 a3 k23 M x4) 546 [(0, .retAddr b), (1, .ref a1), (2, .ref a2), (3, .ref a3), (4, .int x4)] [] M := by
  unfold F_L_law_546
  refine g_aload_n 547 1 hX dL_law_546 rfl rfl ?_
  refine g_callV_ip 550 hX (k_X11_wage l g N M a1) lk_X11_wage rfl (ci := 11) rfl (Nat.le_of_ble_eq_true rfl) q_998 q_1000 (by decide) rfl (Nat.le_of_ble_eq_true rfl) (by omega) (by omega) dL_law_547 rfl (fun r1 => ?_)
  refine g_aload_n 551 2 hX dL_law_550 rfl rfl ?_
  refine g_callV_i 554 hX (k_X12_wage l g N M a2) lk_X12_wage rfl (ci := 12) rfl (Nat.le_of_ble_eq_true rfl) q_2165 q_2167 (by decide) rfl (Nat.le_of_ble_eq_true rfl) (by omega) (by omega) dL_law_551 rfl (fun r2 => ?_)
  refine g_icmp_eq 3200 557 hX dL_law_554 (by decide) rfl (fun _ => ?_) (fun _ => ?_)
  · refine g_kl (fun v3 hv3 => ?_)
    refine g_iinc 3203 4 4 v3 [(4, .int v3), (0, .retAddr b), (1, .ref a1), (2, .ref a2), (3, .ref a3)] hX dL_law_3200 rfl rfl (by rw [hv3, kc_i_6]) (Nat.le_of_ble_eq_true rfl) rfl ?_
    refine g_goto 23 hX dL_law_3203 (by decide) ?_
    refine g_lv [1, 2, 3, 4, 0] rfl ?_
    refine g_widen (k2 := k + 5) (n2 := n + 30) (by omega) (by omega) ?_
    exact h23 r2.2 v3
  · exact g_none
def F_L_law_559 (N Ls : Nat) (xs : Nat → Int32) (a1 a2 a3 : Nat) (k23 : kMem → Int32 → Option Unit) (M : kMem) (x4 : Int32) : Option Unit :=
    kg (kt M a1 11) <| (F_X11_basePrice N M a1).bind fun r1 =>
    kg (kt M a2 12) <| (F_X12_basePrice N M a2).bind fun r2 =>
    if r1 = r2.1 then (
      kl (x4 + 6) fun v3 =>
      k23 r2.2 v3) else
    none
set_option maxRecDepth 100000 in
set_option maxHeartbeats 4000000 in
theorem k_L_law_559 {p : Program} {l : Launch} {e : Env} {s : State} {m : MethodId} {below : List Frame} {meth : Method} {c : Code} {g : kG} {b Ls : Nat} {xs : Nat → Int32} (hX : Cok (p, l, e, room_1, s, m, #[Value.ref b], below, meth, c, cL_law, 9, RL, g, 1000)) (hf : l.flags = flags0) (hN : kNc s) (hSc : va_X b Ls xs s s.heap) (hbl : b < s.heap.size) (hbB : s.heap.size = g.2.2.1 + 1) {k n : Nat} (hk : k + 5 ≤ room_1.cells) (hn : n + 30 ≤ room_1.slots) (N a1 a2 a3 : Nat) (k23 : kMem → Int32 → Option Unit) (h23 : ∀ (M : kMem) (x4 : Int32), GG (p, l, e, room_1, s, m, #[Value.ref b], below, meth, c, cL_law, 9, RL, g, 1000) (fun _ : Unit => lw_Z below #[Value.ref b] s) (k + 5) (n + 30) (k23 M x4) 23 [(0, .retAddr b), (1, .ref a1), (2, .ref a2), (3, .ref a3), (4, .int x4)] [] M) (M : kMem) (x4 : Int32) : GG (p, l, e, room_1, s, m, #[Value.ref b], below, meth, c, cL_law, 9, RL, g, 1000) (fun _ : Unit => lw_Z below #[Value.ref b] s) k n (F_L_law_559 N Ls xs a1 a2 a3 k23 M x4) 559 [(0, .retAddr b), (1, .ref a1), (2, .ref a2), (3, .ref a3), (4, .int x4)] [] M := by
  unfold F_L_law_559
  refine g_aload_n 560 1 hX dL_law_559 rfl rfl ?_
  refine g_callV_ip 563 hX (k_X11_basePrice l g N M a1) lk_X11_basePrice rfl (ci := 11) rfl (Nat.le_of_ble_eq_true rfl) q_1002 q_1004 (by decide) rfl (Nat.le_of_ble_eq_true rfl) (by omega) (by omega) dL_law_560 rfl (fun r1 => ?_)
  refine g_aload_n 564 2 hX dL_law_563 rfl rfl ?_
  refine g_callV_i 567 hX (k_X12_basePrice l g N M a2) lk_X12_basePrice rfl (ci := 12) rfl (Nat.le_of_ble_eq_true rfl) q_2169 q_2171 (by decide) rfl (Nat.le_of_ble_eq_true rfl) (by omega) (by omega) dL_law_564 rfl (fun r2 => ?_)
  refine g_icmp_eq 3200 570 hX dL_law_567 (by decide) rfl (fun _ => ?_) (fun _ => ?_)
  · refine g_kl (fun v3 hv3 => ?_)
    refine g_iinc 3203 4 4 v3 [(4, .int v3), (0, .retAddr b), (1, .ref a1), (2, .ref a2), (3, .ref a3)] hX dL_law_3200 rfl rfl (by rw [hv3, kc_i_6]) (Nat.le_of_ble_eq_true rfl) rfl ?_
    refine g_goto 23 hX dL_law_3203 (by decide) ?_
    refine g_lv [1, 2, 3, 4, 0] rfl ?_
    refine g_widen (k2 := k + 5) (n2 := n + 30) (by omega) (by omega) ?_
    exact h23 r2.2 v3
  · exact g_none
def F_L_law_572 (N Ls : Nat) (xs : Nat → Int32) (a1 a2 a3 : Nat) (k23 : kMem → Int32 → Option Unit) (M : kMem) (x4 : Int32) : Option Unit :=
    kg (kt M a1 11) <| (F_X11_retirementAge N M a1).bind fun r1 =>
    kg (kt M a2 12) <| (F_X12_retirementAge N M a2).bind fun r2 =>
    if r1 = r2.1 then (
      kl (x4 + 6) fun v3 =>
      k23 r2.2 v3) else
    none
set_option maxRecDepth 100000 in
set_option maxHeartbeats 4000000 in
theorem k_L_law_572 {p : Program} {l : Launch} {e : Env} {s : State} {m : MethodId} {below : List Frame} {meth : Method} {c : Code} {g : kG} {b Ls : Nat} {xs : Nat → Int32} (hX : Cok (p, l, e, room_1, s, m, #[Value.ref b], below, meth, c, cL_law, 9, RL, g, 1000)) (hf : l.flags = flags0) (hN : kNc s) (hSc : va_X b Ls xs s s.heap) (hbl : b < s.heap.size) (hbB : s.heap.size = g.2.2.1 + 1) {k n : Nat} (hk : k + 5 ≤ room_1.cells) (hn : n + 30 ≤ room_1.slots) (N a1 a2 a3 : Nat) (k23 : kMem → Int32 → Option Unit) (h23 : ∀ (M : kMem) (x4 : Int32), GG (p, l, e, room_1, s, m, #[Value.ref b], below, meth, c, cL_law, 9, RL, g, 1000) (fun _ : Unit => lw_Z below #[Value.ref b] s) (k + 5) (n + 30) (k23 M x4) 23 [(0, .retAddr b), (1, .ref a1), (2, .ref a2), (3, .ref a3), (4, .int x4)] [] M) (M : kMem) (x4 : Int32) : GG (p, l, e, room_1, s, m, #[Value.ref b], below, meth, c, cL_law, 9, RL, g, 1000) (fun _ : Unit => lw_Z below #[Value.ref b] s) k n (F_L_law_572 N Ls xs a1 a2 a3 k23 M x4) 572 [(0, .retAddr b), (1, .ref a1), (2, .ref a2), (3, .ref a3), (4, .int x4)] [] M := by
  unfold F_L_law_572
  refine g_aload_n 573 1 hX dL_law_572 rfl rfl ?_
  refine g_callV_ip 576 hX (k_X11_retirementAge l g N M a1) lk_X11_retirementAge rfl (ci := 11) rfl (Nat.le_of_ble_eq_true rfl) q_1006 q_1008 (by decide) rfl (Nat.le_of_ble_eq_true rfl) (by omega) (by omega) dL_law_573 rfl (fun r1 => ?_)
  refine g_aload_n 577 2 hX dL_law_576 rfl rfl ?_
  refine g_callV_i 580 hX (k_X12_retirementAge l g N M a2) lk_X12_retirementAge rfl (ci := 12) rfl (Nat.le_of_ble_eq_true rfl) q_2173 q_2175 (by decide) rfl (Nat.le_of_ble_eq_true rfl) (by omega) (by omega) dL_law_577 rfl (fun r2 => ?_)
  refine g_icmp_eq 3200 583 hX dL_law_580 (by decide) rfl (fun _ => ?_) (fun _ => ?_)
  · refine g_kl (fun v3 hv3 => ?_)
    refine g_iinc 3203 4 4 v3 [(4, .int v3), (0, .retAddr b), (1, .ref a1), (2, .ref a2), (3, .ref a3)] hX dL_law_3200 rfl rfl (by rw [hv3, kc_i_6]) (Nat.le_of_ble_eq_true rfl) rfl ?_
    refine g_goto 23 hX dL_law_3203 (by decide) ?_
    refine g_lv [1, 2, 3, 4, 0] rfl ?_
    refine g_widen (k2 := k + 5) (n2 := n + 30) (by omega) (by omega) ?_
    exact h23 r2.2 v3
  · exact g_none
def F_L_law_585 (N Ls : Nat) (xs : Nat → Int32) (a1 a2 a3 : Nat) (k23 : kMem → Int32 → Option Unit) (M : kMem) (x4 : Int32) : Option Unit :=
    kg (kt M a1 11) <| (F_X11_boardCount N M a1).bind fun r1 =>
    kg (kt M a2 12) <| (F_X12_boardCount N M a2).bind fun r2 =>
    if r1 = r2.1 then (
      kl (x4 + 6) fun v3 =>
      k23 r2.2 v3) else
    none
set_option maxRecDepth 100000 in
set_option maxHeartbeats 4000000 in
theorem k_L_law_585 {p : Program} {l : Launch} {e : Env} {s : State} {m : MethodId} {below : List Frame} {meth : Method} {c : Code} {g : kG} {b Ls : Nat} {xs : Nat → Int32} (hX : Cok (p, l, e, room_1, s, m, #[Value.ref b], below, meth, c, cL_law, 9, RL, g, 1000)) (hf : l.flags = flags0) (hN : kNc s) (hSc : va_X b Ls xs s s.heap) (hbl : b < s.heap.size) (hbB : s.heap.size = g.2.2.1 + 1) {k n : Nat} (hk : k + 5 ≤ room_1.cells) (hn : n + 30 ≤ room_1.slots) (N a1 a2 a3 : Nat) (k23 : kMem → Int32 → Option Unit) (h23 : ∀ (M : kMem) (x4 : Int32), GG (p, l, e, room_1, s, m, #[Value.ref b], below, meth, c, cL_law, 9, RL, g, 1000) (fun _ : Unit => lw_Z below #[Value.ref b] s) (k + 5) (n + 30) (k23 M x4) 23 [(0, .retAddr b), (1, .ref a1), (2, .ref a2), (3, .ref a3), (4, .int x4)] [] M) (M : kMem) (x4 : Int32) : GG (p, l, e, room_1, s, m, #[Value.ref b], below, meth, c, cL_law, 9, RL, g, 1000) (fun _ : Unit => lw_Z below #[Value.ref b] s) k n (F_L_law_585 N Ls xs a1 a2 a3 k23 M x4) 585 [(0, .retAddr b), (1, .ref a1), (2, .ref a2), (3, .ref a3), (4, .int x4)] [] M := by
  unfold F_L_law_585
  refine g_aload_n 586 1 hX dL_law_585 rfl rfl ?_
  refine g_callV_ip 589 hX (k_X11_boardCount l g N M a1) lk_X11_boardCount rfl (ci := 11) rfl (Nat.le_of_ble_eq_true rfl) q_1010 q_1012 (by decide) rfl (Nat.le_of_ble_eq_true rfl) (by omega) (by omega) dL_law_586 rfl (fun r1 => ?_)
  refine g_aload_n 590 2 hX dL_law_589 rfl rfl ?_
  refine g_callV_i 593 hX (k_X12_boardCount l g N M a2) lk_X12_boardCount rfl (ci := 12) rfl (Nat.le_of_ble_eq_true rfl) q_2177 q_2179 (by decide) rfl (Nat.le_of_ble_eq_true rfl) (by omega) (by omega) dL_law_590 rfl (fun r2 => ?_)
  refine g_icmp_eq 3200 596 hX dL_law_593 (by decide) rfl (fun _ => ?_) (fun _ => ?_)
  · refine g_kl (fun v3 hv3 => ?_)
    refine g_iinc 3203 4 4 v3 [(4, .int v3), (0, .retAddr b), (1, .ref a1), (2, .ref a2), (3, .ref a3)] hX dL_law_3200 rfl rfl (by rw [hv3, kc_i_6]) (Nat.le_of_ble_eq_true rfl) rfl ?_
    refine g_goto 23 hX dL_law_3203 (by decide) ?_
    refine g_lv [1, 2, 3, 4, 0] rfl ?_
    refine g_widen (k2 := k + 5) (n2 := n + 30) (by omega) (by omega) ?_
    exact h23 r2.2 v3
  · exact g_none
def F_L_law_598 (N Ls : Nat) (xs : Nat → Int32) (a1 a2 a3 : Nat) (k23 : kMem → Int32 → Option Unit) (M : kMem) (x4 : Int32) : Option Unit :=
    kg (decide (0 ≤ x4 + 1) && decide ((x4 + 1 : Int32).toNatClampNeg < Ls)) <|
    (F_L_armLength N M a1 (xs (kx (x4 + 1))) a3).bind fun r1 =>
    kl r1.1 fun v2 =>
    kg (decide (0 ≤ x4 + 1) && decide ((x4 + 1 : Int32).toNatClampNeg < Ls)) <|
    kg (kt r1.2 a2 12) <| (F_X12_armLength N r1.2 a2 (xs (kx (x4 + 1)))).bind fun r3 =>
    kl r3.1 fun v4 =>
    kg (kt r3.2 a2 12) <| (F_X12_thrown N r3.2 a2).bind fun r5 =>
    if r5 = v2 then (
      if v2 = 0 then (
        kg (kin r3.2 a3 15 0) <|
        if (lg_cmp (kL r3.2 a3 (kx 0)) v4.toInt64) = 0 then (
          kl (x4 + 6) fun v7 =>
          k23 r3.2 v7) else
        none) else
      kl (x4 + 6) fun v6 =>
      k23 r3.2 v6) else
    none
set_option maxRecDepth 100000 in
set_option maxHeartbeats 4000000 in
theorem k_L_law_598 {p : Program} {l : Launch} {e : Env} {s : State} {m : MethodId} {below : List Frame} {meth : Method} {c : Code} {g : kG} {b Ls : Nat} {xs : Nat → Int32} (hX : Cok (p, l, e, room_1, s, m, #[Value.ref b], below, meth, c, cL_law, 9, RL, g, 1000)) (hf : l.flags = flags0) (hN : kNc s) (hSc : va_X b Ls xs s s.heap) (hbl : b < s.heap.size) (hbB : s.heap.size = g.2.2.1 + 1) {k n : Nat} (hk : k + 5 ≤ room_1.cells) (hn : n + 30 ≤ room_1.slots) (N a1 a2 a3 : Nat) (k23 : kMem → Int32 → Option Unit) (h23 : ∀ (M : kMem) (x4 : Int32), GG (p, l, e, room_1, s, m, #[Value.ref b], below, meth, c, cL_law, 9, RL, g, 1000) (fun _ : Unit => lw_Z below #[Value.ref b] s) (k + 5) (n + 30) (k23 M x4) 23 [(0, .retAddr b), (1, .ref a1), (2, .ref a2), (3, .ref a3), (4, .int x4)] [] M) (M : kMem) (x4 : Int32) : GG (p, l, e, room_1, s, m, #[Value.ref b], below, meth, c, cL_law, 9, RL, g, 1000) (fun _ : Unit => lw_Z below #[Value.ref b] s) k n (F_L_law_598 N Ls xs a1 a2 a3 k23 M x4) 598 [(0, .retAddr b), (1, .ref a1), (2, .ref a2), (3, .ref a3), (4, .int x4)] [] M := by
  unfold F_L_law_598
  refine g_aload_n 599 1 hX dL_law_598 rfl rfl ?_
  refine g_aloadS_n 600 0 hX dL_law_599 rfl rfl ?_
  refine g_iload 602 4 hX dL_law_600 rfl rfl ?_
  refine g_iconst 603 hX 1 dL_law_602 rfl kc_i_1 ?_
  refine g_iadd 604 hX dL_law_603 rfl ?_
  refine g_sld 605 hX hSc hbl hbB dL_law_604 rfl ?_
  refine g_aload_n 606 3 hX dL_law_605 rfl rfl ?_
  refine g_callSH 609 hX hN (k_L_armLength l g hf N M a1 (xs (kx (x4 + 1))) a3) lkH_L_armLength q_1239 (by decide) rfl (Nat.le_of_ble_eq_true rfl) (by omega) (by omega) dL_law_606 rfl (fun r1 => ?_)
  refine g_klI (fun v2 hv2 => ?_)
  refine g_istore 611 5 [(5, .int v2), (0, .retAddr b), (1, .ref a1), (2, .ref a2), (3, .ref a3), (4, .int x4)] hX dL_law_609 rfl (Nat.le_of_ble_eq_true rfl) rfl ?_
  refine g_aload_n 612 3 hX dL_law_611 rfl rfl ?_
  refine g_aloadS_n 613 1 hX dL_law_612 rfl rfl ?_
  refine g_iload 615 5 hX dL_law_613 rfl rfl ?_
  refine g_iconst 616 hX 1 dL_law_615 rfl kc_i_1 ?_
  refine g_iadd 617 hX dL_law_616 rfl ?_
  refine g_sld 618 hX hSc hbl hbB dL_law_617 rfl ?_
  refine g_callV_i 621 hX (k_X12_armLength l g N r1.2 a2 (xs (kx (x4 + 1)))) lk_X12_armLength rfl (ci := 12) rfl (Nat.le_of_ble_eq_true rfl) q_2181 q_2183 (by decide) rfl (Nat.le_of_ble_eq_true rfl) (by omega) (by omega) dL_law_618 rfl (fun r3 => ?_)
  refine g_klI (fun v4 hv4 => ?_)
  refine g_istore 623 6 [(6, .int v4), (5, .int v2), (0, .retAddr b), (1, .ref a1), (2, .ref a2), (3, .ref a3), (4, .int x4)] hX dL_law_621 rfl (Nat.le_of_ble_eq_true rfl) rfl ?_
  refine g_aload_n 624 4 hX dL_law_623 rfl rfl ?_
  refine g_callV_ip 627 hX (k_X12_thrown l g N r3.2 a2) lk_X12_thrown rfl (ci := 12) rfl (Nat.le_of_ble_eq_true rfl) q_1730 q_1732 (by decide) rfl (Nat.le_of_ble_eq_true rfl) (by omega) (by omega) dL_law_624 rfl (fun r5 => ?_)
  refine g_iload 629 1 hX dL_law_627 rfl rfl ?_
  refine g_icmp_eq 634 632 hX dL_law_629 (by decide) rfl (fun _ => ?_) (fun _ => ?_)
  · refine g_iload 636 1 hX dL_law_634 rfl rfl ?_
    refine g_if_ne 651 639 hX dL_law_636 (by decide) rfl (fun _ => ?_) (fun _ => ?_)
    · refine g_goto 3200 hX dL_law_651 (by decide) ?_
      refine g_kl (fun v6 hv6 => ?_)
      refine g_iinc 3203 4 6 v6 [(4, .int v6), (6, .int v4), (5, .int v2), (0, .retAddr b), (1, .ref a1), (2, .ref a2), (3, .ref a3)] hX dL_law_3200 rfl rfl (by rw [hv6, kc_i_6]) (Nat.le_of_ble_eq_true rfl) rfl ?_
      refine g_goto 23 hX dL_law_3203 (by decide) ?_
      refine g_lv [3, 4, 5, 6, 0] rfl ?_
      refine g_widen (k2 := k + 5) (n2 := n + 30) (by omega) (by omega) ?_
      exact h23 r3.2 v6
    · refine g_aload_n 640 5 hX dL_law_639 rfl rfl ?_
      refine g_iconst 641 hX 0 dL_law_640 rfl kc_i_0 ?_
      refine g_lald 642 hX dL_law_641 rfl ?_
      refine g_iload 644 0 hX dL_law_642 rfl rfl ?_
      refine g_i2l 645 hX dL_law_644 rfl ?_
      refine g_lcmp 646 hX dL_law_645 rfl ?_
      refine g_if_eq 651 649 hX dL_law_646 (by decide) rfl (fun _ => ?_) (fun _ => ?_)
      · refine g_goto 3200 hX dL_law_651 (by decide) ?_
        refine g_kl (fun v7 hv7 => ?_)
        refine g_iinc 3203 4 6 v7 [(4, .int v7), (6, .int v4), (5, .int v2), (0, .retAddr b), (1, .ref a1), (2, .ref a2), (3, .ref a3)] hX dL_law_3200 rfl rfl (by rw [hv7, kc_i_6]) (Nat.le_of_ble_eq_true rfl) rfl ?_
        refine g_goto 23 hX dL_law_3203 (by decide) ?_
        refine g_lv [3, 4, 5, 6, 0] rfl ?_
        refine g_widen (k2 := k + 5) (n2 := n + 30) (by omega) (by omega) ?_
        exact h23 r3.2 v7
      · exact g_none
  · exact g_none
def F_L_law_654 (N Ls : Nat) (xs : Nat → Int32) (a1 a2 a3 : Nat) (k23 : kMem → Int32 → Option Unit) (M : kMem) (x4 : Int32) : Option Unit :=
    kg (decide (0 ≤ x4 + 1) && decide ((x4 + 1 : Int32).toNatClampNeg < Ls)) <|
    (F_L_stiffness N M a1 (xs (kx (x4 + 1))) a3).bind fun r1 =>
    kl r1.1 fun v2 =>
    kg (decide (0 ≤ x4 + 1) && decide ((x4 + 1 : Int32).toNatClampNeg < Ls)) <|
    kg (kt r1.2 a2 12) <| (F_X12_stiffness N r1.2 a2 (xs (kx (x4 + 1)))).bind fun r3 =>
    kl r3.1 fun v4 =>
    kg (kt r3.2 a2 12) <| (F_X12_thrown N r3.2 a2).bind fun r5 =>
    if r5 = v2 then (
      if v2 = 0 then (
        kg (kin r3.2 a3 15 0) <|
        if (lg_cmp (kL r3.2 a3 (kx 0)) v4.toInt64) = 0 then (
          kl (x4 + 6) fun v7 =>
          k23 r3.2 v7) else
        none) else
      kl (x4 + 6) fun v6 =>
      k23 r3.2 v6) else
    none
set_option maxRecDepth 100000 in
set_option maxHeartbeats 4000000 in
theorem k_L_law_654 {p : Program} {l : Launch} {e : Env} {s : State} {m : MethodId} {below : List Frame} {meth : Method} {c : Code} {g : kG} {b Ls : Nat} {xs : Nat → Int32} (hX : Cok (p, l, e, room_1, s, m, #[Value.ref b], below, meth, c, cL_law, 9, RL, g, 1000)) (hf : l.flags = flags0) (hN : kNc s) (hSc : va_X b Ls xs s s.heap) (hbl : b < s.heap.size) (hbB : s.heap.size = g.2.2.1 + 1) {k n : Nat} (hk : k + 5 ≤ room_1.cells) (hn : n + 30 ≤ room_1.slots) (N a1 a2 a3 : Nat) (k23 : kMem → Int32 → Option Unit) (h23 : ∀ (M : kMem) (x4 : Int32), GG (p, l, e, room_1, s, m, #[Value.ref b], below, meth, c, cL_law, 9, RL, g, 1000) (fun _ : Unit => lw_Z below #[Value.ref b] s) (k + 5) (n + 30) (k23 M x4) 23 [(0, .retAddr b), (1, .ref a1), (2, .ref a2), (3, .ref a3), (4, .int x4)] [] M) (M : kMem) (x4 : Int32) : GG (p, l, e, room_1, s, m, #[Value.ref b], below, meth, c, cL_law, 9, RL, g, 1000) (fun _ : Unit => lw_Z below #[Value.ref b] s) k n (F_L_law_654 N Ls xs a1 a2 a3 k23 M x4) 654 [(0, .retAddr b), (1, .ref a1), (2, .ref a2), (3, .ref a3), (4, .int x4)] [] M := by
  unfold F_L_law_654
  refine g_aload_n 655 1 hX dL_law_654 rfl rfl ?_
  refine g_aloadS_n 656 0 hX dL_law_655 rfl rfl ?_
  refine g_iload 658 4 hX dL_law_656 rfl rfl ?_
  refine g_iconst 659 hX 1 dL_law_658 rfl kc_i_1 ?_
  refine g_iadd 660 hX dL_law_659 rfl ?_
  refine g_sld 661 hX hSc hbl hbB dL_law_660 rfl ?_
  refine g_aload_n 662 3 hX dL_law_661 rfl rfl ?_
  refine g_callSH 665 hX hN (k_L_stiffness l g hf N M a1 (xs (kx (x4 + 1))) a3) lkH_L_stiffness q_1268 (by decide) rfl (Nat.le_of_ble_eq_true rfl) (by omega) (by omega) dL_law_662 rfl (fun r1 => ?_)
  refine g_klI (fun v2 hv2 => ?_)
  refine g_istore 667 5 [(5, .int v2), (0, .retAddr b), (1, .ref a1), (2, .ref a2), (3, .ref a3), (4, .int x4)] hX dL_law_665 rfl (Nat.le_of_ble_eq_true rfl) rfl ?_
  refine g_aload_n 668 3 hX dL_law_667 rfl rfl ?_
  refine g_aloadS_n 669 1 hX dL_law_668 rfl rfl ?_
  refine g_iload 671 5 hX dL_law_669 rfl rfl ?_
  refine g_iconst 672 hX 1 dL_law_671 rfl kc_i_1 ?_
  refine g_iadd 673 hX dL_law_672 rfl ?_
  refine g_sld 674 hX hSc hbl hbB dL_law_673 rfl ?_
  refine g_callV_i 677 hX (k_X12_stiffness l g N r1.2 a2 (xs (kx (x4 + 1)))) lk_X12_stiffness rfl (ci := 12) rfl (Nat.le_of_ble_eq_true rfl) q_2185 q_2187 (by decide) rfl (Nat.le_of_ble_eq_true rfl) (by omega) (by omega) dL_law_674 rfl (fun r3 => ?_)
  refine g_klI (fun v4 hv4 => ?_)
  refine g_istore 679 6 [(6, .int v4), (5, .int v2), (0, .retAddr b), (1, .ref a1), (2, .ref a2), (3, .ref a3), (4, .int x4)] hX dL_law_677 rfl (Nat.le_of_ble_eq_true rfl) rfl ?_
  refine g_aload_n 680 4 hX dL_law_679 rfl rfl ?_
  refine g_callV_ip 683 hX (k_X12_thrown l g N r3.2 a2) lk_X12_thrown rfl (ci := 12) rfl (Nat.le_of_ble_eq_true rfl) q_1730 q_1732 (by decide) rfl (Nat.le_of_ble_eq_true rfl) (by omega) (by omega) dL_law_680 rfl (fun r5 => ?_)
  refine g_iload 685 1 hX dL_law_683 rfl rfl ?_
  refine g_icmp_eq 690 688 hX dL_law_685 (by decide) rfl (fun _ => ?_) (fun _ => ?_)
  · refine g_iload 692 1 hX dL_law_690 rfl rfl ?_
    refine g_if_ne 707 695 hX dL_law_692 (by decide) rfl (fun _ => ?_) (fun _ => ?_)
    · refine g_goto 3200 hX dL_law_707 (by decide) ?_
      refine g_kl (fun v6 hv6 => ?_)
      refine g_iinc 3203 4 6 v6 [(4, .int v6), (6, .int v4), (5, .int v2), (0, .retAddr b), (1, .ref a1), (2, .ref a2), (3, .ref a3)] hX dL_law_3200 rfl rfl (by rw [hv6, kc_i_6]) (Nat.le_of_ble_eq_true rfl) rfl ?_
      refine g_goto 23 hX dL_law_3203 (by decide) ?_
      refine g_lv [3, 4, 5, 6, 0] rfl ?_
      refine g_widen (k2 := k + 5) (n2 := n + 30) (by omega) (by omega) ?_
      exact h23 r3.2 v6
    · refine g_aload_n 696 5 hX dL_law_695 rfl rfl ?_
      refine g_iconst 697 hX 0 dL_law_696 rfl kc_i_0 ?_
      refine g_lald 698 hX dL_law_697 rfl ?_
      refine g_iload 700 0 hX dL_law_698 rfl rfl ?_
      refine g_i2l 701 hX dL_law_700 rfl ?_
      refine g_lcmp 702 hX dL_law_701 rfl ?_
      refine g_if_eq 707 705 hX dL_law_702 (by decide) rfl (fun _ => ?_) (fun _ => ?_)
      · refine g_goto 3200 hX dL_law_707 (by decide) ?_
        refine g_kl (fun v7 hv7 => ?_)
        refine g_iinc 3203 4 6 v7 [(4, .int v7), (6, .int v4), (5, .int v2), (0, .retAddr b), (1, .ref a1), (2, .ref a2), (3, .ref a3)] hX dL_law_3200 rfl rfl (by rw [hv7, kc_i_6]) (Nat.le_of_ble_eq_true rfl) rfl ?_
        refine g_goto 23 hX dL_law_3203 (by decide) ?_
        refine g_lv [3, 4, 5, 6, 0] rfl ?_
        refine g_widen (k2 := k + 5) (n2 := n + 30) (by omega) (by omega) ?_
        exact h23 r3.2 v7
      · exact g_none
  · exact g_none
def F_L_law_710 (N Ls : Nat) (xs : Nat → Int32) (a1 a2 a3 : Nat) (k23 : kMem → Int32 → Option Unit) (M : kMem) (x4 : Int32) : Option Unit :=
    kg (decide (0 ≤ x4 + 1) && decide ((x4 + 1 : Int32).toNatClampNeg < Ls)) <|
    (F_L_torque N M a1 (xs (kx (x4 + 1))) a3).bind fun r1 =>
    kl r1.1 fun v2 =>
    kg (decide (0 ≤ x4 + 1) && decide ((x4 + 1 : Int32).toNatClampNeg < Ls)) <|
    kg (kt r1.2 a2 12) <| (F_X12_torque N r1.2 a2 (xs (kx (x4 + 1)))).bind fun r3 =>
    kl r3.1 fun v4 =>
    kg (kt r3.2 a2 12) <| (F_X12_thrown N r3.2 a2).bind fun r5 =>
    if r5 = v2 then (
      if v2 = 0 then (
        kg (kin r3.2 a3 15 0) <|
        if (lg_cmp (kL r3.2 a3 (kx 0)) v4.toInt64) = 0 then (
          kl (x4 + 6) fun v7 =>
          k23 r3.2 v7) else
        none) else
      kl (x4 + 6) fun v6 =>
      k23 r3.2 v6) else
    none
set_option maxRecDepth 100000 in
set_option maxHeartbeats 4000000 in
theorem k_L_law_710 {p : Program} {l : Launch} {e : Env} {s : State} {m : MethodId} {below : List Frame} {meth : Method} {c : Code} {g : kG} {b Ls : Nat} {xs : Nat → Int32} (hX : Cok (p, l, e, room_1, s, m, #[Value.ref b], below, meth, c, cL_law, 9, RL, g, 1000)) (hf : l.flags = flags0) (hN : kNc s) (hSc : va_X b Ls xs s s.heap) (hbl : b < s.heap.size) (hbB : s.heap.size = g.2.2.1 + 1) {k n : Nat} (hk : k + 5 ≤ room_1.cells) (hn : n + 30 ≤ room_1.slots) (N a1 a2 a3 : Nat) (k23 : kMem → Int32 → Option Unit) (h23 : ∀ (M : kMem) (x4 : Int32), GG (p, l, e, room_1, s, m, #[Value.ref b], below, meth, c, cL_law, 9, RL, g, 1000) (fun _ : Unit => lw_Z below #[Value.ref b] s) (k + 5) (n + 30) (k23 M x4) 23 [(0, .retAddr b), (1, .ref a1), (2, .ref a2), (3, .ref a3), (4, .int x4)] [] M) (M : kMem) (x4 : Int32) : GG (p, l, e, room_1, s, m, #[Value.ref b], below, meth, c, cL_law, 9, RL, g, 1000) (fun _ : Unit => lw_Z below #[Value.ref b] s) k n (F_L_law_710 N Ls xs a1 a2 a3 k23 M x4) 710 [(0, .retAddr b), (1, .ref a1), (2, .ref a2), (3, .ref a3), (4, .int x4)] [] M := by
  unfold F_L_law_710
  refine g_aload_n 711 1 hX dL_law_710 rfl rfl ?_
  refine g_aloadS_n 712 0 hX dL_law_711 rfl rfl ?_
  refine g_iload 714 4 hX dL_law_712 rfl rfl ?_
  refine g_iconst 715 hX 1 dL_law_714 rfl kc_i_1 ?_
  refine g_iadd 716 hX dL_law_715 rfl ?_
  refine g_sld 717 hX hSc hbl hbB dL_law_716 rfl ?_
  refine g_aload_n 718 3 hX dL_law_717 rfl rfl ?_
  refine g_callSH 721 hX hN (k_L_torque l g hf N M a1 (xs (kx (x4 + 1))) a3) lkH_L_torque q_1275 (by decide) rfl (Nat.le_of_ble_eq_true rfl) (by omega) (by omega) dL_law_718 rfl (fun r1 => ?_)
  refine g_klI (fun v2 hv2 => ?_)
  refine g_istore 723 5 [(5, .int v2), (0, .retAddr b), (1, .ref a1), (2, .ref a2), (3, .ref a3), (4, .int x4)] hX dL_law_721 rfl (Nat.le_of_ble_eq_true rfl) rfl ?_
  refine g_aload_n 724 3 hX dL_law_723 rfl rfl ?_
  refine g_aloadS_n 725 1 hX dL_law_724 rfl rfl ?_
  refine g_iload 727 5 hX dL_law_725 rfl rfl ?_
  refine g_iconst 728 hX 1 dL_law_727 rfl kc_i_1 ?_
  refine g_iadd 729 hX dL_law_728 rfl ?_
  refine g_sld 730 hX hSc hbl hbB dL_law_729 rfl ?_
  refine g_callV_i 733 hX (k_X12_torque l g N r1.2 a2 (xs (kx (x4 + 1)))) lk_X12_torque rfl (ci := 12) rfl (Nat.le_of_ble_eq_true rfl) q_2189 q_2191 (by decide) rfl (Nat.le_of_ble_eq_true rfl) (by omega) (by omega) dL_law_730 rfl (fun r3 => ?_)
  refine g_klI (fun v4 hv4 => ?_)
  refine g_istore 735 6 [(6, .int v4), (5, .int v2), (0, .retAddr b), (1, .ref a1), (2, .ref a2), (3, .ref a3), (4, .int x4)] hX dL_law_733 rfl (Nat.le_of_ble_eq_true rfl) rfl ?_
  refine g_aload_n 736 4 hX dL_law_735 rfl rfl ?_
  refine g_callV_ip 739 hX (k_X12_thrown l g N r3.2 a2) lk_X12_thrown rfl (ci := 12) rfl (Nat.le_of_ble_eq_true rfl) q_1730 q_1732 (by decide) rfl (Nat.le_of_ble_eq_true rfl) (by omega) (by omega) dL_law_736 rfl (fun r5 => ?_)
  refine g_iload 741 1 hX dL_law_739 rfl rfl ?_
  refine g_icmp_eq 746 744 hX dL_law_741 (by decide) rfl (fun _ => ?_) (fun _ => ?_)
  · refine g_iload 748 1 hX dL_law_746 rfl rfl ?_
    refine g_if_ne 763 751 hX dL_law_748 (by decide) rfl (fun _ => ?_) (fun _ => ?_)
    · refine g_goto 3200 hX dL_law_763 (by decide) ?_
      refine g_kl (fun v6 hv6 => ?_)
      refine g_iinc 3203 4 6 v6 [(4, .int v6), (6, .int v4), (5, .int v2), (0, .retAddr b), (1, .ref a1), (2, .ref a2), (3, .ref a3)] hX dL_law_3200 rfl rfl (by rw [hv6, kc_i_6]) (Nat.le_of_ble_eq_true rfl) rfl ?_
      refine g_goto 23 hX dL_law_3203 (by decide) ?_
      refine g_lv [3, 4, 5, 6, 0] rfl ?_
      refine g_widen (k2 := k + 5) (n2 := n + 30) (by omega) (by omega) ?_
      exact h23 r3.2 v6
    · refine g_aload_n 752 5 hX dL_law_751 rfl rfl ?_
      refine g_iconst 753 hX 0 dL_law_752 rfl kc_i_0 ?_
      refine g_lald 754 hX dL_law_753 rfl ?_
      refine g_iload 756 0 hX dL_law_754 rfl rfl ?_
      refine g_i2l 757 hX dL_law_756 rfl ?_
      refine g_lcmp 758 hX dL_law_757 rfl ?_
      refine g_if_eq 763 761 hX dL_law_758 (by decide) rfl (fun _ => ?_) (fun _ => ?_)
      · refine g_goto 3200 hX dL_law_763 (by decide) ?_
        refine g_kl (fun v7 hv7 => ?_)
        refine g_iinc 3203 4 6 v7 [(4, .int v7), (6, .int v4), (5, .int v2), (0, .retAddr b), (1, .ref a1), (2, .ref a2), (3, .ref a3)] hX dL_law_3200 rfl rfl (by rw [hv7, kc_i_6]) (Nat.le_of_ble_eq_true rfl) rfl ?_
        refine g_goto 23 hX dL_law_3203 (by decide) ?_
        refine g_lv [3, 4, 5, 6, 0] rfl ?_
        refine g_widen (k2 := k + 5) (n2 := n + 30) (by omega) (by omega) ?_
        exact h23 r3.2 v7
      · exact g_none
  · exact g_none
def F_L_law_766 (N Ls : Nat) (xs : Nat → Int32) (a1 a2 a3 : Nat) (k23 : kMem → Int32 → Option Unit) (M : kMem) (x4 : Int32) : Option Unit :=
    kg (decide (0 ≤ x4 + 1) && decide ((x4 + 1 : Int32).toNatClampNeg < Ls)) <|
    (F_L_tilt N M a1 (xs (kx (x4 + 1))) a3).bind fun r1 =>
    kl r1.1 fun v2 =>
    kg (decide (0 ≤ x4 + 1) && decide ((x4 + 1 : Int32).toNatClampNeg < Ls)) <|
    kg (kt r1.2 a2 12) <| (F_X12_tilt N r1.2 a2 (xs (kx (x4 + 1)))).bind fun r3 =>
    kl r3.1 fun v4 =>
    kg (kt r3.2 a2 12) <| (F_X12_thrown N r3.2 a2).bind fun r5 =>
    if r5 = v2 then (
      if v2 = 0 then (
        kg (kin r3.2 a3 15 0) <|
        if (lg_cmp (kL r3.2 a3 (kx 0)) v4.toInt64) = 0 then (
          kl (x4 + 6) fun v7 =>
          k23 r3.2 v7) else
        none) else
      kl (x4 + 6) fun v6 =>
      k23 r3.2 v6) else
    none
set_option maxRecDepth 100000 in
set_option maxHeartbeats 4000000 in
theorem k_L_law_766 {p : Program} {l : Launch} {e : Env} {s : State} {m : MethodId} {below : List Frame} {meth : Method} {c : Code} {g : kG} {b Ls : Nat} {xs : Nat → Int32} (hX : Cok (p, l, e, room_1, s, m, #[Value.ref b], below, meth, c, cL_law, 9, RL, g, 1000)) (hf : l.flags = flags0) (hN : kNc s) (hSc : va_X b Ls xs s s.heap) (hbl : b < s.heap.size) (hbB : s.heap.size = g.2.2.1 + 1) {k n : Nat} (hk : k + 5 ≤ room_1.cells) (hn : n + 30 ≤ room_1.slots) (N a1 a2 a3 : Nat) (k23 : kMem → Int32 → Option Unit) (h23 : ∀ (M : kMem) (x4 : Int32), GG (p, l, e, room_1, s, m, #[Value.ref b], below, meth, c, cL_law, 9, RL, g, 1000) (fun _ : Unit => lw_Z below #[Value.ref b] s) (k + 5) (n + 30) (k23 M x4) 23 [(0, .retAddr b), (1, .ref a1), (2, .ref a2), (3, .ref a3), (4, .int x4)] [] M) (M : kMem) (x4 : Int32) : GG (p, l, e, room_1, s, m, #[Value.ref b], below, meth, c, cL_law, 9, RL, g, 1000) (fun _ : Unit => lw_Z below #[Value.ref b] s) k n (F_L_law_766 N Ls xs a1 a2 a3 k23 M x4) 766 [(0, .retAddr b), (1, .ref a1), (2, .ref a2), (3, .ref a3), (4, .int x4)] [] M := by
  unfold F_L_law_766
  refine g_aload_n 767 1 hX dL_law_766 rfl rfl ?_
  refine g_aloadS_n 768 0 hX dL_law_767 rfl rfl ?_
  refine g_iload 770 4 hX dL_law_768 rfl rfl ?_
  refine g_iconst 771 hX 1 dL_law_770 rfl kc_i_1 ?_
  refine g_iadd 772 hX dL_law_771 rfl ?_
  refine g_sld 773 hX hSc hbl hbB dL_law_772 rfl ?_
  refine g_aload_n 774 3 hX dL_law_773 rfl rfl ?_
  refine g_callSH 777 hX hN (k_L_tilt l g hf N M a1 (xs (kx (x4 + 1))) a3) lkH_L_tilt q_1283 (by decide) rfl (Nat.le_of_ble_eq_true rfl) (by omega) (by omega) dL_law_774 rfl (fun r1 => ?_)
  refine g_klI (fun v2 hv2 => ?_)
  refine g_istore 779 5 [(5, .int v2), (0, .retAddr b), (1, .ref a1), (2, .ref a2), (3, .ref a3), (4, .int x4)] hX dL_law_777 rfl (Nat.le_of_ble_eq_true rfl) rfl ?_
  refine g_aload_n 780 3 hX dL_law_779 rfl rfl ?_
  refine g_aloadS_n 781 1 hX dL_law_780 rfl rfl ?_
  refine g_iload 783 5 hX dL_law_781 rfl rfl ?_
  refine g_iconst 784 hX 1 dL_law_783 rfl kc_i_1 ?_
  refine g_iadd 785 hX dL_law_784 rfl ?_
  refine g_sld 786 hX hSc hbl hbB dL_law_785 rfl ?_
  refine g_callV_i 789 hX (k_X12_tilt l g N r1.2 a2 (xs (kx (x4 + 1)))) lk_X12_tilt rfl (ci := 12) rfl (Nat.le_of_ble_eq_true rfl) q_2193 q_2195 (by decide) rfl (Nat.le_of_ble_eq_true rfl) (by omega) (by omega) dL_law_786 rfl (fun r3 => ?_)
  refine g_klI (fun v4 hv4 => ?_)
  refine g_istore 791 6 [(6, .int v4), (5, .int v2), (0, .retAddr b), (1, .ref a1), (2, .ref a2), (3, .ref a3), (4, .int x4)] hX dL_law_789 rfl (Nat.le_of_ble_eq_true rfl) rfl ?_
  refine g_aload_n 792 4 hX dL_law_791 rfl rfl ?_
  refine g_callV_ip 795 hX (k_X12_thrown l g N r3.2 a2) lk_X12_thrown rfl (ci := 12) rfl (Nat.le_of_ble_eq_true rfl) q_1730 q_1732 (by decide) rfl (Nat.le_of_ble_eq_true rfl) (by omega) (by omega) dL_law_792 rfl (fun r5 => ?_)
  refine g_iload 797 1 hX dL_law_795 rfl rfl ?_
  refine g_icmp_eq 802 800 hX dL_law_797 (by decide) rfl (fun _ => ?_) (fun _ => ?_)
  · refine g_iload 804 1 hX dL_law_802 rfl rfl ?_
    refine g_if_ne 819 807 hX dL_law_804 (by decide) rfl (fun _ => ?_) (fun _ => ?_)
    · refine g_goto 3200 hX dL_law_819 (by decide) ?_
      refine g_kl (fun v6 hv6 => ?_)
      refine g_iinc 3203 4 6 v6 [(4, .int v6), (6, .int v4), (5, .int v2), (0, .retAddr b), (1, .ref a1), (2, .ref a2), (3, .ref a3)] hX dL_law_3200 rfl rfl (by rw [hv6, kc_i_6]) (Nat.le_of_ble_eq_true rfl) rfl ?_
      refine g_goto 23 hX dL_law_3203 (by decide) ?_
      refine g_lv [3, 4, 5, 6, 0] rfl ?_
      refine g_widen (k2 := k + 5) (n2 := n + 30) (by omega) (by omega) ?_
      exact h23 r3.2 v6
    · refine g_aload_n 808 5 hX dL_law_807 rfl rfl ?_
      refine g_iconst 809 hX 0 dL_law_808 rfl kc_i_0 ?_
      refine g_lald 810 hX dL_law_809 rfl ?_
      refine g_iload 812 0 hX dL_law_810 rfl rfl ?_
      refine g_i2l 813 hX dL_law_812 rfl ?_
      refine g_lcmp 814 hX dL_law_813 rfl ?_
      refine g_if_eq 819 817 hX dL_law_814 (by decide) rfl (fun _ => ?_) (fun _ => ?_)
      · refine g_goto 3200 hX dL_law_819 (by decide) ?_
        refine g_kl (fun v7 hv7 => ?_)
        refine g_iinc 3203 4 6 v7 [(4, .int v7), (6, .int v4), (5, .int v2), (0, .retAddr b), (1, .ref a1), (2, .ref a2), (3, .ref a3)] hX dL_law_3200 rfl rfl (by rw [hv7, kc_i_6]) (Nat.le_of_ble_eq_true rfl) rfl ?_
        refine g_goto 23 hX dL_law_3203 (by decide) ?_
        refine g_lv [3, 4, 5, 6, 0] rfl ?_
        refine g_widen (k2 := k + 5) (n2 := n + 30) (by omega) (by omega) ?_
        exact h23 r3.2 v7
      · exact g_none
  · exact g_none
