def F_L_law_23 (N Ls : Nat) (xs : Nat → Int32) (a1 a2 a3 : Nat) : Nat → kMem → Int32 → Option Unit
  | 0, _, _ => none
  | n + 1, M, x4 =>
    if Int32.ofNat Ls - 6 < x4 then some () else
    kg (decide (0 ≤ x4) && decide ((x4 : Int32).toNatClampNeg < Ls)) <|
    kl (xs (kx x4) &&& 63) fun v =>
    if v = 0 then F_L_law_308 N Ls xs a1 a2 a3 (F_L_law_23 N Ls xs a1 a2 a3 n) M x4 else
    if v = 1 then F_L_law_412 N Ls xs a1 a2 a3 (F_L_law_23 N Ls xs a1 a2 a3 n) M x4 else
    if v = 2 then F_L_law_468 N Ls xs a1 a2 a3 (F_L_law_23 N Ls xs a1 a2 a3 n) M x4 else
    if v = 3 then F_L_law_481 N Ls xs a1 a2 a3 (F_L_law_23 N Ls xs a1 a2 a3 n) M x4 else
    if v = 4 then F_L_law_494 N Ls xs a1 a2 a3 (F_L_law_23 N Ls xs a1 a2 a3 n) M x4 else
    if v = 5 then F_L_law_507 N Ls xs a1 a2 a3 (F_L_law_23 N Ls xs a1 a2 a3 n) M x4 else
    if v = 6 then F_L_law_520 N Ls xs a1 a2 a3 (F_L_law_23 N Ls xs a1 a2 a3 n) M x4 else
    if v = 7 then F_L_law_533 N Ls xs a1 a2 a3 (F_L_law_23 N Ls xs a1 a2 a3 n) M x4 else
    if v = 8 then F_L_law_546 N Ls xs a1 a2 a3 (F_L_law_23 N Ls xs a1 a2 a3 n) M x4 else
    if v = 9 then F_L_law_559 N Ls xs a1 a2 a3 (F_L_law_23 N Ls xs a1 a2 a3 n) M x4 else
    if v = 10 then F_L_law_572 N Ls xs a1 a2 a3 (F_L_law_23 N Ls xs a1 a2 a3 n) M x4 else
    if v = 11 then F_L_law_585 N Ls xs a1 a2 a3 (F_L_law_23 N Ls xs a1 a2 a3 n) M x4 else
    if v = 12 then F_L_law_598 N Ls xs a1 a2 a3 (F_L_law_23 N Ls xs a1 a2 a3 n) M x4 else
    if v = 13 then F_L_law_654 N Ls xs a1 a2 a3 (F_L_law_23 N Ls xs a1 a2 a3 n) M x4 else
    if v = 14 then F_L_law_710 N Ls xs a1 a2 a3 (F_L_law_23 N Ls xs a1 a2 a3 n) M x4 else
    if v = 15 then F_L_law_766 N Ls xs a1 a2 a3 (F_L_law_23 N Ls xs a1 a2 a3 n) M x4 else
    if v = 16 then F_L_law_822 N Ls xs a1 a2 a3 (F_L_law_23 N Ls xs a1 a2 a3 n) M x4 else
    if v = 17 then F_L_law_885 N Ls xs a1 a2 a3 (F_L_law_23 N Ls xs a1 a2 a3 n) M x4 else
    if v = 18 then F_L_law_953 N Ls xs a1 a2 a3 (F_L_law_23 N Ls xs a1 a2 a3 n) M x4 else
    if v = 19 then F_L_law_1021 N Ls xs a1 a2 a3 (F_L_law_23 N Ls xs a1 a2 a3 n) M x4 else
    if v = 20 then F_L_law_1089 N Ls xs a1 a2 a3 (F_L_law_23 N Ls xs a1 a2 a3 n) M x4 else
    if v = 21 then F_L_law_1157 N Ls xs a1 a2 a3 (F_L_law_23 N Ls xs a1 a2 a3 n) M x4 else
    if v = 22 then F_L_law_1170 N Ls xs a1 a2 a3 (F_L_law_23 N Ls xs a1 a2 a3 n) M x4 else
    if v = 23 then F_L_law_1183 N Ls xs a1 a2 a3 (F_L_law_23 N Ls xs a1 a2 a3 n) M x4 else
    if v = 24 then F_L_law_1251 N Ls xs a1 a2 a3 (F_L_law_23 N Ls xs a1 a2 a3 n) M x4 else
    if v = 25 then F_L_law_1307 N Ls xs a1 a2 a3 (F_L_law_23 N Ls xs a1 a2 a3 n) M x4 else
    if v = 26 then F_L_law_1363 N Ls xs a1 a2 a3 (F_L_law_23 N Ls xs a1 a2 a3 n) M x4 else
    if v = 27 then F_L_law_1419 N Ls xs a1 a2 a3 (F_L_law_23 N Ls xs a1 a2 a3 n) M x4 else
    if v = 28 then F_L_law_1482 N Ls xs a1 a2 a3 (F_L_law_23 N Ls xs a1 a2 a3 n) M x4 else
    if v = 29 then F_L_law_1538 N Ls xs a1 a2 a3 (F_L_law_23 N Ls xs a1 a2 a3 n) M x4 else
    if v = 30 then F_L_law_1594 N Ls xs a1 a2 a3 (F_L_law_23 N Ls xs a1 a2 a3 n) M x4 else
    if v = 31 then F_L_law_1650 N Ls xs a1 a2 a3 (F_L_law_23 N Ls xs a1 a2 a3 n) M x4 else
    if v = 32 then F_L_law_1675 N Ls xs a1 a2 a3 (F_L_law_23 N Ls xs a1 a2 a3 n) M x4 else
    if v = 33 then F_L_law_1755 N Ls xs a1 a2 a3 (F_L_law_23 N Ls xs a1 a2 a3 n) M x4 else
    if v = 34 then F_L_law_1835 N Ls xs a1 a2 a3 (F_L_law_23 N Ls xs a1 a2 a3 n) M x4 else
    if v = 35 then F_L_law_1903 N Ls xs a1 a2 a3 (F_L_law_23 N Ls xs a1 a2 a3 n) M x4 else
    if v = 36 then F_L_law_1971 N Ls xs a1 a2 a3 (F_L_law_23 N Ls xs a1 a2 a3 n) M x4 else
    if v = 37 then F_L_law_2039 N Ls xs a1 a2 a3 (F_L_law_23 N Ls xs a1 a2 a3 n) M x4 else
    if v = 38 then F_L_law_2052 N Ls xs a1 a2 a3 (F_L_law_23 N Ls xs a1 a2 a3 n) M x4 else
    if v = 39 then F_L_law_2065 N Ls xs a1 a2 a3 (F_L_law_23 N Ls xs a1 a2 a3 n) M x4 else
    if v = 40 then F_L_law_2078 N Ls xs a1 a2 a3 (F_L_law_23 N Ls xs a1 a2 a3 n) M x4 else
    if v = 41 then F_L_law_2119 N Ls xs a1 a2 a3 (F_L_law_23 N Ls xs a1 a2 a3 n) M x4 else
    if v = 42 then F_L_law_2162 N Ls xs a1 a2 a3 (F_L_law_23 N Ls xs a1 a2 a3 n) M x4 else
    if v = 43 then F_L_law_2175 N Ls xs a1 a2 a3 (F_L_law_23 N Ls xs a1 a2 a3 n) M x4 else
    if v = 44 then F_L_law_2200 N Ls xs a1 a2 a3 (F_L_law_23 N Ls xs a1 a2 a3 n) M x4 else
    if v = 45 then F_L_law_2225 N Ls xs a1 a2 a3 (F_L_law_23 N Ls xs a1 a2 a3 n) M x4 else
    if v = 46 then F_L_law_2250 N Ls xs a1 a2 a3 (F_L_law_23 N Ls xs a1 a2 a3 n) M x4 else
    if v = 47 then F_L_law_2318 N Ls xs a1 a2 a3 (F_L_law_23 N Ls xs a1 a2 a3 n) M x4 else
    if v = 48 then F_L_law_2374 N Ls xs a1 a2 a3 (F_L_law_23 N Ls xs a1 a2 a3 n) M x4 else
    if v = 49 then F_L_law_2430 N Ls xs a1 a2 a3 (F_L_law_23 N Ls xs a1 a2 a3 n) M x4 else
    if v = 50 then F_L_law_2486 N Ls xs a1 a2 a3 (F_L_law_23 N Ls xs a1 a2 a3 n) M x4 else
    if v = 51 then F_L_law_2554 N Ls xs a1 a2 a3 (F_L_law_23 N Ls xs a1 a2 a3 n) M x4 else
    if v = 52 then F_L_law_2634 N Ls xs a1 a2 a3 (F_L_law_23 N Ls xs a1 a2 a3 n) M x4 else
    if v = 53 then F_L_law_2690 N Ls xs a1 a2 a3 (F_L_law_23 N Ls xs a1 a2 a3 n) M x4 else
    if v = 54 then F_L_law_2770 N Ls xs a1 a2 a3 (F_L_law_23 N Ls xs a1 a2 a3 n) M x4 else
    if v = 55 then F_L_law_2838 N Ls xs a1 a2 a3 (F_L_law_23 N Ls xs a1 a2 a3 n) M x4 else
    if v = 56 then F_L_law_2894 N Ls xs a1 a2 a3 (F_L_law_23 N Ls xs a1 a2 a3 n) M x4 else
    if v = 57 then F_L_law_2950 N Ls xs a1 a2 a3 (F_L_law_23 N Ls xs a1 a2 a3 n) M x4 else
    if v = 58 then F_L_law_3006 N Ls xs a1 a2 a3 (F_L_law_23 N Ls xs a1 a2 a3 n) M x4 else
    if v = 59 then F_L_law_3031 N Ls xs a1 a2 a3 (F_L_law_23 N Ls xs a1 a2 a3 n) M x4 else
    if v = 60 then F_L_law_3044 N Ls xs a1 a2 a3 (F_L_law_23 N Ls xs a1 a2 a3 n) M x4 else
    if v = 61 then F_L_law_3088 N Ls xs a1 a2 a3 (F_L_law_23 N Ls xs a1 a2 a3 n) M x4 else
    if v = 62 then F_L_law_3144 N Ls xs a1 a2 a3 (F_L_law_23 N Ls xs a1 a2 a3 n) M x4 else
    F_L_law_23 N Ls xs a1 a2 a3 n M (x4 + 6)
set_option maxRecDepth 100000 in
set_option maxHeartbeats 4000000 in
theorem k_L_law_23 {p : Program} {l : Launch} {e : Env} {s : State} {m : MethodId} {below : List Frame} {meth : Method} {c : Code} {g : kG} {b Ls : Nat} {xs : Nat → Int32} (hX : Cok (p, l, e, room_1, s, m, #[Value.ref b], below, meth, c, cL_law, 9, RL, g, 1000)) (hf : l.flags = flags0) (hN : kNc s) (hSc : va_X b Ls xs s s.heap) (hbl : b < s.heap.size) (hbB : s.heap.size = g.2.2.1 + 1) (hr : meth.sig.returnType = ret) (N a1 a2 a3 : Nat) : ∀ (fu : Nat) {k n : Nat} (_ : k + 5 * fu ≤ room_1.cells) (_ : n + 30 * fu ≤ room_1.slots) (M : kMem) (x4 : Int32), GG (p, l, e, room_1, s, m, #[Value.ref b], below, meth, c, cL_law, 9, RL, g, 1000) (fun _ : Unit => lw_Z below #[Value.ref b] s) k n (F_L_law_23 N Ls xs a1 a2 a3 fu M x4) 23 [(0, .retAddr b), (1, .ref a1), (2, .ref a2), (3, .ref a3), (4, .int x4)] [] M := by
  intro fu
  induction fu with
  | zero => intro k n _ _ M x4; exact g_none
  | succ fu ih =>
    intro k n hk hn M x4
    have h23 : ∀ (M : kMem) (x4 : Int32), GG (p, l, e, room_1, s, m, #[Value.ref b], below, meth, c, cL_law, 9, RL, g, 1000) (fun _ : Unit => lw_Z below #[Value.ref b] s) (k + 5) (n + 30) (F_L_law_23 N Ls xs a1 a2 a3 fu M x4) 23 [(0, .retAddr b), (1, .ref a1), (2, .ref a2), (3, .ref a3), (4, .int x4)] [] M := fun M x4 => ih (by omega) (by omega) M x4
    have hc0 : room_1.cells = 601024 := rfl
    have hs0 : room_1.slots = 7293034 := rfl
    have hk5 : k + 5 ≤ room_1.cells := by omega
    have hn5 : n + 30 ≤ room_1.slots := by omega
    unfold F_L_law_23
    refine g_iload 25 4 hX dL_law_23 rfl rfl ?_
    refine g_aloadS_n 26 0 hX dL_law_25 rfl rfl ?_
    refine g_sclen 27 hX hSc hbl hbB dL_law_26 rfl ?_
    refine g_bipush 29 hX 6 dL_law_27 rfl kc_b_6 ?_
    refine g_isub 30 hX dL_law_29 rfl ?_
    refine g_icmp_gt 3206 33 hX dL_law_30 (by decide) rfl (fun _ => ?_) (fun _ => ?_)
    · refine g_iconst 3207 hX 1 dL_law_3206 rfl kc_i_1 ?_
      exact g_lawend (st := []) hX hr hbB (by omega) (by omega) dL_law_3207
    refine g_aloadS_n 34 0 hX dL_law_33 rfl rfl ?_
    refine g_iload 36 4 hX dL_law_34 rfl rfl ?_
    refine g_sld 37 hX hSc hbl hbB dL_law_36 rfl ?_
    refine g_bipush 39 hX 63 dL_law_37 rfl kc_b_63 ?_
    refine g_iand 40 hX dL_law_39 rfl ?_
    refine g_klI (fun v hv => ?_)
    refine g_ite (fun e0 => ?_) (fun e0 => ?_)
    · refine g_tswIn 308 hX 0 e0 dL_law_40 (by decide) (by decide) rfl (by decide) ?_
      exact k_L_law_308 hX hf hN hSc hbl hbB hk5 hn5 N a1 a2 a3 _ h23 M x4
    refine g_ite (fun e1 => ?_) (fun e1 => ?_)
    · refine g_tswIn 412 hX 1 e1 dL_law_40 (by decide) (by decide) rfl (by decide) ?_
      exact k_L_law_412 hX hf hN hSc hbl hbB hk5 hn5 N a1 a2 a3 _ h23 M x4
    refine g_ite (fun e2 => ?_) (fun e2 => ?_)
    · refine g_tswIn 468 hX 2 e2 dL_law_40 (by decide) (by decide) rfl (by decide) ?_
      exact k_L_law_468 hX hf hN hSc hbl hbB hk5 hn5 N a1 a2 a3 _ h23 M x4
    refine g_ite (fun e3 => ?_) (fun e3 => ?_)
    · refine g_tswIn 481 hX 3 e3 dL_law_40 (by decide) (by decide) rfl (by decide) ?_
      exact k_L_law_481 hX hf hN hSc hbl hbB hk5 hn5 N a1 a2 a3 _ h23 M x4
    refine g_ite (fun e4 => ?_) (fun e4 => ?_)
    · refine g_tswIn 494 hX 4 e4 dL_law_40 (by decide) (by decide) rfl (by decide) ?_
      exact k_L_law_494 hX hf hN hSc hbl hbB hk5 hn5 N a1 a2 a3 _ h23 M x4
    refine g_ite (fun e5 => ?_) (fun e5 => ?_)
    · refine g_tswIn 507 hX 5 e5 dL_law_40 (by decide) (by decide) rfl (by decide) ?_
      exact k_L_law_507 hX hf hN hSc hbl hbB hk5 hn5 N a1 a2 a3 _ h23 M x4
    refine g_ite (fun e6 => ?_) (fun e6 => ?_)
    · refine g_tswIn 520 hX 6 e6 dL_law_40 (by decide) (by decide) rfl (by decide) ?_
      exact k_L_law_520 hX hf hN hSc hbl hbB hk5 hn5 N a1 a2 a3 _ h23 M x4
    refine g_ite (fun e7 => ?_) (fun e7 => ?_)
    · refine g_tswIn 533 hX 7 e7 dL_law_40 (by decide) (by decide) rfl (by decide) ?_
      exact k_L_law_533 hX hf hN hSc hbl hbB hk5 hn5 N a1 a2 a3 _ h23 M x4
    refine g_ite (fun e8 => ?_) (fun e8 => ?_)
    · refine g_tswIn 546 hX 8 e8 dL_law_40 (by decide) (by decide) rfl (by decide) ?_
      exact k_L_law_546 hX hf hN hSc hbl hbB hk5 hn5 N a1 a2 a3 _ h23 M x4
    refine g_ite (fun e9 => ?_) (fun e9 => ?_)
    · refine g_tswIn 559 hX 9 e9 dL_law_40 (by decide) (by decide) rfl (by decide) ?_
      exact k_L_law_559 hX hf hN hSc hbl hbB hk5 hn5 N a1 a2 a3 _ h23 M x4
    refine g_ite (fun e10 => ?_) (fun e10 => ?_)
    · refine g_tswIn 572 hX 10 e10 dL_law_40 (by decide) (by decide) rfl (by decide) ?_
      exact k_L_law_572 hX hf hN hSc hbl hbB hk5 hn5 N a1 a2 a3 _ h23 M x4
    refine g_ite (fun e11 => ?_) (fun e11 => ?_)
    · refine g_tswIn 585 hX 11 e11 dL_law_40 (by decide) (by decide) rfl (by decide) ?_
      exact k_L_law_585 hX hf hN hSc hbl hbB hk5 hn5 N a1 a2 a3 _ h23 M x4
    refine g_ite (fun e12 => ?_) (fun e12 => ?_)
    · refine g_tswIn 598 hX 12 e12 dL_law_40 (by decide) (by decide) rfl (by decide) ?_
      exact k_L_law_598 hX hf hN hSc hbl hbB hk5 hn5 N a1 a2 a3 _ h23 M x4
    refine g_ite (fun e13 => ?_) (fun e13 => ?_)
    · refine g_tswIn 654 hX 13 e13 dL_law_40 (by decide) (by decide) rfl (by decide) ?_
      exact k_L_law_654 hX hf hN hSc hbl hbB hk5 hn5 N a1 a2 a3 _ h23 M x4
    refine g_ite (fun e14 => ?_) (fun e14 => ?_)
    · refine g_tswIn 710 hX 14 e14 dL_law_40 (by decide) (by decide) rfl (by decide) ?_
      exact k_L_law_710 hX hf hN hSc hbl hbB hk5 hn5 N a1 a2 a3 _ h23 M x4
    refine g_ite (fun e15 => ?_) (fun e15 => ?_)
    · refine g_tswIn 766 hX 15 e15 dL_law_40 (by decide) (by decide) rfl (by decide) ?_
      exact k_L_law_766 hX hf hN hSc hbl hbB hk5 hn5 N a1 a2 a3 _ h23 M x4
    refine g_ite (fun e16 => ?_) (fun e16 => ?_)
    · refine g_tswIn 822 hX 16 e16 dL_law_40 (by decide) (by decide) rfl (by decide) ?_
      exact k_L_law_822 hX hf hN hSc hbl hbB hk5 hn5 N a1 a2 a3 _ h23 M x4
    refine g_ite (fun e17 => ?_) (fun e17 => ?_)
    · refine g_tswIn 885 hX 17 e17 dL_law_40 (by decide) (by decide) rfl (by decide) ?_
      exact k_L_law_885 hX hf hN hSc hbl hbB hk5 hn5 N a1 a2 a3 _ h23 M x4
    refine g_ite (fun e18 => ?_) (fun e18 => ?_)
    · refine g_tswIn 953 hX 18 e18 dL_law_40 (by decide) (by decide) rfl (by decide) ?_
      exact k_L_law_953 hX hf hN hSc hbl hbB hk5 hn5 N a1 a2 a3 _ h23 M x4
    refine g_ite (fun e19 => ?_) (fun e19 => ?_)
    · refine g_tswIn 1021 hX 19 e19 dL_law_40 (by decide) (by decide) rfl (by decide) ?_
      exact k_L_law_1021 hX hf hN hSc hbl hbB hk5 hn5 N a1 a2 a3 _ h23 M x4
    refine g_ite (fun e20 => ?_) (fun e20 => ?_)
    · refine g_tswIn 1089 hX 20 e20 dL_law_40 (by decide) (by decide) rfl (by decide) ?_
      exact k_L_law_1089 hX hf hN hSc hbl hbB hk5 hn5 N a1 a2 a3 _ h23 M x4
    refine g_ite (fun e21 => ?_) (fun e21 => ?_)
    · refine g_tswIn 1157 hX 21 e21 dL_law_40 (by decide) (by decide) rfl (by decide) ?_
      exact k_L_law_1157 hX hf hN hSc hbl hbB hk5 hn5 N a1 a2 a3 _ h23 M x4
    refine g_ite (fun e22 => ?_) (fun e22 => ?_)
    · refine g_tswIn 1170 hX 22 e22 dL_law_40 (by decide) (by decide) rfl (by decide) ?_
      exact k_L_law_1170 hX hf hN hSc hbl hbB hk5 hn5 N a1 a2 a3 _ h23 M x4
    refine g_ite (fun e23 => ?_) (fun e23 => ?_)
    · refine g_tswIn 1183 hX 23 e23 dL_law_40 (by decide) (by decide) rfl (by decide) ?_
      exact k_L_law_1183 hX hf hN hSc hbl hbB hk5 hn5 N a1 a2 a3 _ h23 M x4
    refine g_ite (fun e24 => ?_) (fun e24 => ?_)
    · refine g_tswIn 1251 hX 24 e24 dL_law_40 (by decide) (by decide) rfl (by decide) ?_
      exact k_L_law_1251 hX hf hN hSc hbl hbB hk5 hn5 N a1 a2 a3 _ h23 M x4
    refine g_ite (fun e25 => ?_) (fun e25 => ?_)
    · refine g_tswIn 1307 hX 25 e25 dL_law_40 (by decide) (by decide) rfl (by decide) ?_
      exact k_L_law_1307 hX hf hN hSc hbl hbB hk5 hn5 N a1 a2 a3 _ h23 M x4
    refine g_ite (fun e26 => ?_) (fun e26 => ?_)
    · refine g_tswIn 1363 hX 26 e26 dL_law_40 (by decide) (by decide) rfl (by decide) ?_
      exact k_L_law_1363 hX hf hN hSc hbl hbB hk5 hn5 N a1 a2 a3 _ h23 M x4
    refine g_ite (fun e27 => ?_) (fun e27 => ?_)
    · refine g_tswIn 1419 hX 27 e27 dL_law_40 (by decide) (by decide) rfl (by decide) ?_
      exact k_L_law_1419 hX hf hN hSc hbl hbB hk5 hn5 N a1 a2 a3 _ h23 M x4
    refine g_ite (fun e28 => ?_) (fun e28 => ?_)
    · refine g_tswIn 1482 hX 28 e28 dL_law_40 (by decide) (by decide) rfl (by decide) ?_
      exact k_L_law_1482 hX hf hN hSc hbl hbB hk5 hn5 N a1 a2 a3 _ h23 M x4
    refine g_ite (fun e29 => ?_) (fun e29 => ?_)
    · refine g_tswIn 1538 hX 29 e29 dL_law_40 (by decide) (by decide) rfl (by decide) ?_
      exact k_L_law_1538 hX hf hN hSc hbl hbB hk5 hn5 N a1 a2 a3 _ h23 M x4
    refine g_ite (fun e30 => ?_) (fun e30 => ?_)
    · refine g_tswIn 1594 hX 30 e30 dL_law_40 (by decide) (by decide) rfl (by decide) ?_
      exact k_L_law_1594 hX hf hN hSc hbl hbB hk5 hn5 N a1 a2 a3 _ h23 M x4
    refine g_ite (fun e31 => ?_) (fun e31 => ?_)
    · refine g_tswIn 1650 hX 31 e31 dL_law_40 (by decide) (by decide) rfl (by decide) ?_
      exact k_L_law_1650 hX hf hN hSc hbl hbB hk5 hn5 N a1 a2 a3 _ h23 M x4
    refine g_ite (fun e32 => ?_) (fun e32 => ?_)
    · refine g_tswIn 1675 hX 32 e32 dL_law_40 (by decide) (by decide) rfl (by decide) ?_
      exact k_L_law_1675 hX hf hN hSc hbl hbB hk5 hn5 N a1 a2 a3 _ h23 M x4
    refine g_ite (fun e33 => ?_) (fun e33 => ?_)
    · refine g_tswIn 1755 hX 33 e33 dL_law_40 (by decide) (by decide) rfl (by decide) ?_
      exact k_L_law_1755 hX hf hN hSc hbl hbB hk5 hn5 N a1 a2 a3 _ h23 M x4
    refine g_ite (fun e34 => ?_) (fun e34 => ?_)
    · refine g_tswIn 1835 hX 34 e34 dL_law_40 (by decide) (by decide) rfl (by decide) ?_
      exact k_L_law_1835 hX hf hN hSc hbl hbB hk5 hn5 N a1 a2 a3 _ h23 M x4
    refine g_ite (fun e35 => ?_) (fun e35 => ?_)
    · refine g_tswIn 1903 hX 35 e35 dL_law_40 (by decide) (by decide) rfl (by decide) ?_
      exact k_L_law_1903 hX hf hN hSc hbl hbB hk5 hn5 N a1 a2 a3 _ h23 M x4
    refine g_ite (fun e36 => ?_) (fun e36 => ?_)
    · refine g_tswIn 1971 hX 36 e36 dL_law_40 (by decide) (by decide) rfl (by decide) ?_
      exact k_L_law_1971 hX hf hN hSc hbl hbB hk5 hn5 N a1 a2 a3 _ h23 M x4
    refine g_ite (fun e37 => ?_) (fun e37 => ?_)
    · refine g_tswIn 2039 hX 37 e37 dL_law_40 (by decide) (by decide) rfl (by decide) ?_
      exact k_L_law_2039 hX hf hN hSc hbl hbB hk5 hn5 N a1 a2 a3 _ h23 M x4
    refine g_ite (fun e38 => ?_) (fun e38 => ?_)
    · refine g_tswIn 2052 hX 38 e38 dL_law_40 (by decide) (by decide) rfl (by decide) ?_
      exact k_L_law_2052 hX hf hN hSc hbl hbB hk5 hn5 N a1 a2 a3 _ h23 M x4
    refine g_ite (fun e39 => ?_) (fun e39 => ?_)
    · refine g_tswIn 2065 hX 39 e39 dL_law_40 (by decide) (by decide) rfl (by decide) ?_
      exact k_L_law_2065 hX hf hN hSc hbl hbB hk5 hn5 N a1 a2 a3 _ h23 M x4
    refine g_ite (fun e40 => ?_) (fun e40 => ?_)
    · refine g_tswIn 2078 hX 40 e40 dL_law_40 (by decide) (by decide) rfl (by decide) ?_
      exact k_L_law_2078 hX hf hN hSc hbl hbB hk5 hn5 N a1 a2 a3 _ h23 M x4
    refine g_ite (fun e41 => ?_) (fun e41 => ?_)
    · refine g_tswIn 2119 hX 41 e41 dL_law_40 (by decide) (by decide) rfl (by decide) ?_
      exact k_L_law_2119 hX hf hN hSc hbl hbB hk5 hn5 N a1 a2 a3 _ h23 M x4
    refine g_ite (fun e42 => ?_) (fun e42 => ?_)
    · refine g_tswIn 2162 hX 42 e42 dL_law_40 (by decide) (by decide) rfl (by decide) ?_
      exact k_L_law_2162 hX hf hN hSc hbl hbB hk5 hn5 N a1 a2 a3 _ h23 M x4
    refine g_ite (fun e43 => ?_) (fun e43 => ?_)
    · refine g_tswIn 2175 hX 43 e43 dL_law_40 (by decide) (by decide) rfl (by decide) ?_
      exact k_L_law_2175 hX hf hN hSc hbl hbB hk5 hn5 N a1 a2 a3 _ h23 M x4
    refine g_ite (fun e44 => ?_) (fun e44 => ?_)
    · refine g_tswIn 2200 hX 44 e44 dL_law_40 (by decide) (by decide) rfl (by decide) ?_
      exact k_L_law_2200 hX hf hN hSc hbl hbB hk5 hn5 N a1 a2 a3 _ h23 M x4
    refine g_ite (fun e45 => ?_) (fun e45 => ?_)
    · refine g_tswIn 2225 hX 45 e45 dL_law_40 (by decide) (by decide) rfl (by decide) ?_
      exact k_L_law_2225 hX hf hN hSc hbl hbB hk5 hn5 N a1 a2 a3 _ h23 M x4
    refine g_ite (fun e46 => ?_) (fun e46 => ?_)
    · refine g_tswIn 2250 hX 46 e46 dL_law_40 (by decide) (by decide) rfl (by decide) ?_
      exact k_L_law_2250 hX hf hN hSc hbl hbB hk5 hn5 N a1 a2 a3 _ h23 M x4
    refine g_ite (fun e47 => ?_) (fun e47 => ?_)
    · refine g_tswIn 2318 hX 47 e47 dL_law_40 (by decide) (by decide) rfl (by decide) ?_
      exact k_L_law_2318 hX hf hN hSc hbl hbB hk5 hn5 N a1 a2 a3 _ h23 M x4
    refine g_ite (fun e48 => ?_) (fun e48 => ?_)
    · refine g_tswIn 2374 hX 48 e48 dL_law_40 (by decide) (by decide) rfl (by decide) ?_
      exact k_L_law_2374 hX hf hN hSc hbl hbB hk5 hn5 N a1 a2 a3 _ h23 M x4
    refine g_ite (fun e49 => ?_) (fun e49 => ?_)
    · refine g_tswIn 2430 hX 49 e49 dL_law_40 (by decide) (by decide) rfl (by decide) ?_
      exact k_L_law_2430 hX hf hN hSc hbl hbB hk5 hn5 N a1 a2 a3 _ h23 M x4
    refine g_ite (fun e50 => ?_) (fun e50 => ?_)
    · refine g_tswIn 2486 hX 50 e50 dL_law_40 (by decide) (by decide) rfl (by decide) ?_
      exact k_L_law_2486 hX hf hN hSc hbl hbB hk5 hn5 N a1 a2 a3 _ h23 M x4
    refine g_ite (fun e51 => ?_) (fun e51 => ?_)
    · refine g_tswIn 2554 hX 51 e51 dL_law_40 (by decide) (by decide) rfl (by decide) ?_
      exact k_L_law_2554 hX hf hN hSc hbl hbB hk5 hn5 N a1 a2 a3 _ h23 M x4
    refine g_ite (fun e52 => ?_) (fun e52 => ?_)
    · refine g_tswIn 2634 hX 52 e52 dL_law_40 (by decide) (by decide) rfl (by decide) ?_
      exact k_L_law_2634 hX hf hN hSc hbl hbB hk5 hn5 N a1 a2 a3 _ h23 M x4
    refine g_ite (fun e53 => ?_) (fun e53 => ?_)
    · refine g_tswIn 2690 hX 53 e53 dL_law_40 (by decide) (by decide) rfl (by decide) ?_
      exact k_L_law_2690 hX hf hN hSc hbl hbB hk5 hn5 N a1 a2 a3 _ h23 M x4
    refine g_ite (fun e54 => ?_) (fun e54 => ?_)
    · refine g_tswIn 2770 hX 54 e54 dL_law_40 (by decide) (by decide) rfl (by decide) ?_
      exact k_L_law_2770 hX hf hN hSc hbl hbB hk5 hn5 N a1 a2 a3 _ h23 M x4
    refine g_ite (fun e55 => ?_) (fun e55 => ?_)
    · refine g_tswIn 2838 hX 55 e55 dL_law_40 (by decide) (by decide) rfl (by decide) ?_
      exact k_L_law_2838 hX hf hN hSc hbl hbB hk5 hn5 N a1 a2 a3 _ h23 M x4
    refine g_ite (fun e56 => ?_) (fun e56 => ?_)
    · refine g_tswIn 2894 hX 56 e56 dL_law_40 (by decide) (by decide) rfl (by decide) ?_
      exact k_L_law_2894 hX hf hN hSc hbl hbB hk5 hn5 N a1 a2 a3 _ h23 M x4
    refine g_ite (fun e57 => ?_) (fun e57 => ?_)
    · refine g_tswIn 2950 hX 57 e57 dL_law_40 (by decide) (by decide) rfl (by decide) ?_
      exact k_L_law_2950 hX hf hN hSc hbl hbB hk5 hn5 N a1 a2 a3 _ h23 M x4
    refine g_ite (fun e58 => ?_) (fun e58 => ?_)
    · refine g_tswIn 3006 hX 58 e58 dL_law_40 (by decide) (by decide) rfl (by decide) ?_
      exact k_L_law_3006 hX hf hN hSc hbl hbB hk5 hn5 N a1 a2 a3 _ h23 M x4
    refine g_ite (fun e59 => ?_) (fun e59 => ?_)
    · refine g_tswIn 3031 hX 59 e59 dL_law_40 (by decide) (by decide) rfl (by decide) ?_
      exact k_L_law_3031 hX hf hN hSc hbl hbB hk5 hn5 N a1 a2 a3 _ h23 M x4
    refine g_ite (fun e60 => ?_) (fun e60 => ?_)
    · refine g_tswIn 3044 hX 60 e60 dL_law_40 (by decide) (by decide) rfl (by decide) ?_
      exact k_L_law_3044 hX hf hN hSc hbl hbB hk5 hn5 N a1 a2 a3 _ h23 M x4
    refine g_ite (fun e61 => ?_) (fun e61 => ?_)
    · refine g_tswIn 3088 hX 61 e61 dL_law_40 (by decide) (by decide) rfl (by decide) ?_
      exact k_L_law_3088 hX hf hN hSc hbl hbB hk5 hn5 N a1 a2 a3 _ h23 M x4
    refine g_ite (fun e62 => ?_) (fun e62 => ?_)
    · refine g_tswIn 3144 hX 62 e62 dL_law_40 (by decide) (by decide) rfl (by decide) ?_
      exact k_L_law_3144 hX hf hN hSc hbl hbB hk5 hn5 N a1 a2 a3 _ h23 M x4
    have e0 := lv_neT e0 (k := 0) (a := 0) (by decide)
    have e1 := lv_neT e1 (k := 1) (a := 1) (by decide)
    have e2 := lv_neT e2 (k := 2) (a := 2) (by decide)
    have e3 := lv_neT e3 (k := 3) (a := 3) (by decide)
    have e4 := lv_neT e4 (k := 4) (a := 4) (by decide)
    have e5 := lv_neT e5 (k := 5) (a := 5) (by decide)
    have e6 := lv_neT e6 (k := 6) (a := 6) (by decide)
    have e7 := lv_neT e7 (k := 7) (a := 7) (by decide)
    have e8 := lv_neT e8 (k := 8) (a := 8) (by decide)
    have e9 := lv_neT e9 (k := 9) (a := 9) (by decide)
    have e10 := lv_neT e10 (k := 10) (a := 10) (by decide)
    have e11 := lv_neT e11 (k := 11) (a := 11) (by decide)
    have e12 := lv_neT e12 (k := 12) (a := 12) (by decide)
    have e13 := lv_neT e13 (k := 13) (a := 13) (by decide)
    have e14 := lv_neT e14 (k := 14) (a := 14) (by decide)
    have e15 := lv_neT e15 (k := 15) (a := 15) (by decide)
    have e16 := lv_neT e16 (k := 16) (a := 16) (by decide)
    have e17 := lv_neT e17 (k := 17) (a := 17) (by decide)
    have e18 := lv_neT e18 (k := 18) (a := 18) (by decide)
    have e19 := lv_neT e19 (k := 19) (a := 19) (by decide)
    have e20 := lv_neT e20 (k := 20) (a := 20) (by decide)
    have e21 := lv_neT e21 (k := 21) (a := 21) (by decide)
    have e22 := lv_neT e22 (k := 22) (a := 22) (by decide)
    have e23 := lv_neT e23 (k := 23) (a := 23) (by decide)
    have e24 := lv_neT e24 (k := 24) (a := 24) (by decide)
    have e25 := lv_neT e25 (k := 25) (a := 25) (by decide)
    have e26 := lv_neT e26 (k := 26) (a := 26) (by decide)
    have e27 := lv_neT e27 (k := 27) (a := 27) (by decide)
    have e28 := lv_neT e28 (k := 28) (a := 28) (by decide)
    have e29 := lv_neT e29 (k := 29) (a := 29) (by decide)
    have e30 := lv_neT e30 (k := 30) (a := 30) (by decide)
    have e31 := lv_neT e31 (k := 31) (a := 31) (by decide)
    have e32 := lv_neT e32 (k := 32) (a := 32) (by decide)
    have e33 := lv_neT e33 (k := 33) (a := 33) (by decide)
    have e34 := lv_neT e34 (k := 34) (a := 34) (by decide)
    have e35 := lv_neT e35 (k := 35) (a := 35) (by decide)
    have e36 := lv_neT e36 (k := 36) (a := 36) (by decide)
    have e37 := lv_neT e37 (k := 37) (a := 37) (by decide)
    have e38 := lv_neT e38 (k := 38) (a := 38) (by decide)
    have e39 := lv_neT e39 (k := 39) (a := 39) (by decide)
    have e40 := lv_neT e40 (k := 40) (a := 40) (by decide)
    have e41 := lv_neT e41 (k := 41) (a := 41) (by decide)
    have e42 := lv_neT e42 (k := 42) (a := 42) (by decide)
    have e43 := lv_neT e43 (k := 43) (a := 43) (by decide)
    have e44 := lv_neT e44 (k := 44) (a := 44) (by decide)
    have e45 := lv_neT e45 (k := 45) (a := 45) (by decide)
    have e46 := lv_neT e46 (k := 46) (a := 46) (by decide)
    have e47 := lv_neT e47 (k := 47) (a := 47) (by decide)
    have e48 := lv_neT e48 (k := 48) (a := 48) (by decide)
    have e49 := lv_neT e49 (k := 49) (a := 49) (by decide)
    have e50 := lv_neT e50 (k := 50) (a := 50) (by decide)
    have e51 := lv_neT e51 (k := 51) (a := 51) (by decide)
    have e52 := lv_neT e52 (k := 52) (a := 52) (by decide)
    have e53 := lv_neT e53 (k := 53) (a := 53) (by decide)
    have e54 := lv_neT e54 (k := 54) (a := 54) (by decide)
    have e55 := lv_neT e55 (k := 55) (a := 55) (by decide)
    have e56 := lv_neT e56 (k := 56) (a := 56) (by decide)
    have e57 := lv_neT e57 (k := 57) (a := 57) (by decide)
    have e58 := lv_neT e58 (k := 58) (a := 58) (by decide)
    have e59 := lv_neT e59 (k := 59) (a := 59) (by decide)
    have e60 := lv_neT e60 (k := 60) (a := 60) (by decide)
    have e61 := lv_neT e61 (k := 61) (a := 61) (by decide)
    have e62 := lv_neT e62 (k := 62) (a := 62) (by decide)
    refine g_tswOut 3200 hX dL_law_40 (by omega) (by decide) ?_
    refine g_iinc 3203 4 4 (x4 + 6) [(4, .int (x4 + 6)), (0, .retAddr b), (1, .ref a1), (2, .ref a2), (3, .ref a3)] hX dL_law_3200 rfl rfl (by rw [kc_i_6]) (Nat.le_of_ble_eq_true rfl) rfl ?_
    refine g_goto 23 hX dL_law_3203 (by decide) ?_
    refine g_lv [1, 2, 3, 4, 0] rfl ?_
    refine g_widen (k2 := k + 5) (n2 := n + 30) (by omega) (by omega) ?_
    exact h23 M (x4 + 6)
