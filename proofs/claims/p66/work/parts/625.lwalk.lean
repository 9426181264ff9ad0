/-! the law's body is walked: pc 52 the inner loop, 13 the outer, 0 the entry -/
/-- the law's end -/
theorem g_lawend {p : Program} {l : Launch} {e : Env} {s : State} {m : MethodId} {below : List Frame} {meth : Method} {c : Code} {g : kG} {dep b k n pc : Nat} {lv : List (Nat × Value)} {st : List Value} {M : kMem} (hX : Cok (p, l, e, room_1, s, m, #[Value.ref b], below, meth, c, cL_law, 7, RL, g, dep)) (hr : meth.sig.returnType = ret) (hbB : s.heap.size = g.2.2.1 + 1) (hk : k ≤ 832019) (hn : n ≤ 6605640) (d : decode cL_law pc = .ok (.ireturn, 1)) :
    GG (p, l, e, room_1, s, m, #[Value.ref b], below, meth, c, cL_law, 7, RL, g, dep) (fun _ : Unit => lw_Z below #[Value.ref b] s) k n (some ()) pc lv [.int 1] M := fun b2 h H locs ls hH hS hl => by
  refine W.widen hk hn ?_
  refine va_forget (fun q hq => ?_) ?_
  · rw [hbB]; exact hS.2.2 q hq
  exact lw_ret hX.1 hX.2.1 hr hX.2.2.2.2.2.1 d
section kLaw
variable {p : Program} {l : Launch} {e : Env} {s : State} {m : MethodId} {below : List Frame} {meth : Method} {c : Code} {g : kG} {b Ls : Nat} {xs : Nat → Int32}
set_option maxRecDepth 100000 in
set_option maxHeartbeats 4000000 in
theorem k_L_law_52 (hX : Cok (p, l, e, room_1, s, m, #[Value.ref b], below, meth, c, cL_law, 7, RL, g, 14)) (hsz : s.heap.size = g.2.2.1 + 1 + 0) (N a4 a5 : Nat) (x2 x3 : Int32) (K : kMem → Option Unit) (hK : ∀ M : kMem, GG (p, l, e, room_1, s, m, #[Value.ref b], below, meth, c, cL_law, 7, RL, g, 14) (fun _ : Unit => lw_Z below #[Value.ref b] s) (M.1.length - 0) (ksl 0 M) (K M) 98 [(0, .retAddr b), (1, .ref 1), (2, .int x2), (3, .int x3), (4, .ref a4), (5, .ref a5)] [] M) : ∀ (n : Nat) (M : kMem) (x6 : Int32), GG (p, l, e, room_1, s, m, #[Value.ref b], below, meth, c, cL_law, 7, RL, g, 14) (fun _ : Unit => lw_Z below #[Value.ref b] s) (M.1.length - 0) (ksl 0 M) (F_L_law_52 N K a5 a4 n M x6) 52 [(0, .retAddr b), (1, .ref 1), (2, .int x2), (3, .int x3), (4, .ref a4), (5, .ref a5), (6, .int x6)] [] M := by
  intro n
  induction n with
  | zero => intro M x6; exact g_none
  | succ n ih =>
    intro M x6
    unfold F_L_law_52 kroom
    refine g_iload 54 6 hX dL_law_52 rfl rfl ?_
    refine g_bipush 56 hX 14 dL_law_54 rfl kc_b_14 ?_
    refine g_icmp_ge 87 59 hX dL_law_56 (by decide) rfl (fun _ => ?_) (fun _ => ?_)
    · refine g_aload_n 88 1 hX dL_law_87 rfl rfl ?_
      refine g_aload 90 5 hX dL_law_88 rfl rfl ?_
      refine g_callD (fin1 := (fun r : Int32 × kMem => (some (.int r.1), r.2))) (mc := 832019) (ms := 6605640) 93 hX (k_L_still l g N M 1 a5) lk_L_still wl_184 (by decide) rfl (Nat.le_of_ble_eq_true rfl) hsz (Nat.zero_le _) (Nat.le_refl 832019) (Nat.le_refl 6605640) dL_law_90 rfl (fun r4 => ?_)
      show GG _ _ (r4.2.1.length - 0) (ksl 0 r4.2) _ _ _ [.int r4.1] r4.2
      refine g_if_ne 98 96 hX dL_law_93 (by decide) rfl (fun _ => ?_) (fun _ => ?_)
      · refine g_lv [0, 1, 2, 3, 4, 5] rfl ?_
        exact hK r4.2
      · exact g_none
    · refine g_aload_n 60 1 hX dL_law_59 rfl rfl ?_
      refine g_aload 62 5 hX dL_law_60 rfl rfl ?_
      refine g_callD (fin1 := (fun r : Int32 × kMem => (some (.int r.1), r.2))) (mc := 832019) (ms := 6605640) 65 hX (k_L_still l g N M 1 a5) lk_L_still wl_184 (by decide) rfl (Nat.le_of_ble_eq_true rfl) hsz (Nat.zero_le _) (Nat.le_refl 832019) (Nat.le_refl 6605640) dL_law_62 rfl (fun r1 => ?_)
      show GG _ _ (r1.2.1.length - 0) (ksl 0 r1.2) _ _ _ [.int r1.1] r1.2
      refine g_if_eq 79 68 hX dL_law_65 (by decide) rfl (fun _ => g_none) (fun _ => ?_)
      refine g_aload_n 69 1 hX dL_law_68 rfl rfl ?_
      refine g_aload 71 5 hX dL_law_69 rfl rfl ?_
      refine g_aload 73 4 hX dL_law_71 rfl rfl ?_
      refine g_callD (fin1 := (fun r : Int32 × kMem => (some (.int r.1), r.2))) (mc := 832019) (ms := 6605640) 76 hX (k_L_act l g N r1.2 1 a5 a4) lk_L_act wl_188 (by decide) rfl (Nat.le_of_ble_eq_true rfl) hsz (Nat.zero_le _) (Nat.le_refl 832019) (Nat.le_refl 6605640) dL_law_73 rfl (fun r2 => ?_)
      show GG _ _ (r2.2.1.length - 0) (ksl 0 r2.2) _ _ _ [.int r2.1] r2.2
      refine g_if_ne 81 79 hX dL_law_76 (by decide) rfl (fun _ => ?_) (fun _ => g_none)
      refine g_kl (fun v3 hv3 => ?_)
      refine g_iinc 84 6 6 v3 [(6, .int v3), (0, .retAddr b), (1, .ref 1), (2, .int x2), (3, .int x3), (4, .ref a4), (5, .ref a5)] hX dL_law_81 rfl rfl (by rw [hv3, kc_i_1]) (Nat.le_of_ble_eq_true rfl) rfl ?_
      refine g_goto 52 hX dL_law_84 (by decide) ?_
      refine g_lv [1, 2, 3, 4, 5, 6, 0] rfl ?_
      exact ih r2.2 v3
set_option maxRecDepth 100000 in
set_option maxHeartbeats 4000000 in
theorem k_L_law_13 (hX : Cok (p, l, e, room_1, s, m, #[Value.ref b], below, meth, c, cL_law, 7, RL, g, 14)) (hSc : va_X b Ls xs s s.heap) (hbl : b < s.heap.size) (hbB : s.heap.size = g.2.2.1 + 1) (hr : meth.sig.returnType = ret) (N : Nat) : ∀ (n : Nat) (M : kMem) (x3 : Int32), GG (p, l, e, room_1, s, m, #[Value.ref b], below, meth, c, cL_law, 7, RL, g, 14) (fun _ : Unit => lw_Z below #[Value.ref b] s) (M.1.length - 0) (ksl 0 M) (F_L_law_13 N Ls xs n M x3) 13 [(0, .retAddr b), (1, .ref 1), (2, .int (nI Ls)), (3, .int x3)] [] M := by
  have hsz : s.heap.size = g.2.2.1 + 1 + 0 := hbB
  intro n
  induction n with
  | zero => intro M x3; exact g_none
  | succ n ih =>
    intro M x3
    unfold F_L_law_13 kroom
    refine g_iload_n 14 3 hX dL_law_13 rfl rfl ?_
    refine g_iload_n 15 2 hX dL_law_14 rfl rfl ?_
    refine g_icmp_ge 104 18 hX dL_law_15 (by decide) rfl (fun _ => ?_) (fun _ => ?_)
    · refine g_guard (fun hg => ?_)
      refine g_iconst 105 hX 1 dL_law_104 rfl kc_i_1 ?_
      exact g_lawend (st := []) hX hr hbB (kend_spec hg).2.1 (kend_spec hg).2.2 dL_law_105
    · refine g_iload_n 19 3 hX dL_law_18 rfl rfl ?_
      refine g_iconst 20 hX 2 dL_law_19 rfl kc_i_2 ?_
      refine g_icmp_ge 104 23 hX dL_law_20 (by decide) rfl (fun _ => ?_) (fun _ => ?_)
      · refine g_guard (fun hg => ?_)
        refine g_iconst 105 hX 1 dL_law_104 rfl kc_i_1 ?_
        exact g_lawend (st := []) hX hr hbB (kend_spec hg).2.1 (kend_spec hg).2.2 dL_law_105
      · refine g_iconst 24 hX 1 dL_law_23 rfl kc_i_1 ?_
        refine g_newaI 26 hX (z := 1) (by decide) (by decide) hsz (mc := 832019) (ms := 6605640) (Nat.le_refl 832019) (Nat.le_refl 6605640) dL_law_24 rfl ?_
        refine g_klMn (fun M1 hM1 => ?_)
        refine g_klR (fun w2 hw2 => ?_)
        refine g_dup 27 hX dL_law_26 rfl rfl ?_
        refine g_iconst 28 hX 0 dL_law_27 rfl kc_i_0 ?_
        refine g_aloadS_n 29 0 hX dL_law_28 rfl rfl ?_
        refine g_iload_n 30 3 hX dL_law_29 rfl rfl ?_
        refine g_sld 31 hX hSc hbl hbB dL_law_30 rfl ?_
        refine g_iast 32 hX dL_law_31 rfl ?_
        refine g_klMA rfl (fun M3 hM3 => ?_)
        refine g_astore 34 4 [(4, .ref w2), (0, .retAddr b), (1, .ref 1), (2, .int (nI Ls)), (3, .int x3)] hX dL_law_32 rfl (Nat.le_of_ble_eq_true rfl) rfl ?_
        refine g_aload_n 35 2 hX dL_law_34 rfl rfl ?_
        refine g_aload 37 0 hX dL_law_35 rfl rfl ?_
        refine g_callD (fin1 := (fun r : Nat × kMem => (some (.ref r.1), r.2))) (mc := 832019) (ms := 6605640) 40 hX (k_L_begins l g N M3 1 w2) lk_L_begins wl_180 (by decide) rfl (Nat.le_of_ble_eq_true rfl) hsz (Nat.zero_le _) (Nat.le_refl 832019) (Nat.le_refl 6605640) dL_law_37 rfl (fun r4 => ?_)
        show GG _ _ (r4.2.1.length - 0) (ksl 0 r4.2) _ _ _ [.ref r4.1] r4.2
        refine g_astore 42 5 [(5, .ref r4.1), (4, .ref w2), (0, .retAddr b), (1, .ref 1), (2, .int (nI Ls)), (3, .int x3)] hX dL_law_40 rfl (Nat.le_of_ble_eq_true rfl) rfl ?_
        refine g_aload 44 0 hX dL_law_42 rfl rfl ?_
        refine g_ifnonnull 49 47 hX dL_law_44 (by decide) rfl (fun _ => ?_) (fun _ => g_none)
        refine g_iconst 50 hX 0 dL_law_49 rfl kc_i_0 ?_
        refine g_istore 52 6 [(6, .int 0), (5, .ref r4.1), (4, .ref w2), (0, .retAddr b), (1, .ref 1), (2, .int (nI Ls)), (3, .int x3)] hX dL_law_50 rfl (Nat.le_of_ble_eq_true rfl) rfl ?_
        refine g_lv [3, 4, 5, 6, 2, 1, 0] rfl ?_
        refine k_L_law_52 hX hsz N w2 r4.1 (nI Ls) x3 _ (fun M5 => ?_) N r4.2 0
        refine g_kl (fun v6 hv6 => ?_)
        refine g_iinc 101 3 3 v6 [(3, .int v6), (0, .retAddr b), (1, .ref 1), (2, .int (nI Ls)), (4, .ref w2), (5, .ref r4.1)] hX dL_law_98 rfl rfl (by rw [hv6, kc_i_1]) (Nat.le_of_ble_eq_true rfl) rfl ?_
        refine g_goto 13 hX dL_law_101 (by decide) ?_
        refine g_lv [1, 2, 3, 0] rfl ?_
        exact ih M5 v6
set_option maxRecDepth 100000 in
set_option maxHeartbeats 4000000 in
theorem k_L_law_0 (hX : Cok (p, l, e, room_1, s, m, #[Value.ref b], below, meth, c, cL_law, 7, RL, g, 14)) (hSc : va_X b Ls xs s s.heap) (hbl : b < s.heap.size) (hbB : s.heap.size = g.2.2.1 + 1) (hr : meth.sig.returnType = ret) (N : Nat) (M : kMem) : GG (p, l, e, room_1, s, m, #[Value.ref b], below, meth, c, cL_law, 7, RL, g, 14) (fun _ : Unit => lw_Z below #[Value.ref b] s) (M.1.length - 0) (ksl 0 M) (F_L_law_0 N Ls xs M) 0 [(0, .retAddr b)] [] M := by
  have hsz : s.heap.size = g.2.2.1 + 1 + 0 := hbB
  unfold F_L_law_0
  refine g_new (ci := 11) (idx := 20) (N := 9) (C := RX11) (T := TX11) 3 hX rfl (Nat.le_of_ble_eq_true rfl) inX11 tyX11_ok hdefX11 wl_20 wl_x wl_y hsz (mc := 832019) (ms := 6605640) (Nat.le_refl 832019) (Nat.le_refl 6605640) dL_law_0 rfl ?_
  refine g_klMn (fun M1 hM1 => ?_)
  refine g_klR (fun w2 hw2 => ?_)
  refine g_dup 4 hX dL_law_3 rfl rfl ?_
  refine g_callI 7 hX (mc9 := 832019) (ms9 := 6605640) (by rw [hw2]; exact Nat.succ_ne_zero _) (k_X11_init l g N M1 w2) lk_X11_init rfl wl_179 (by decide) rfl (Nat.le_of_ble_eq_true rfl) hsz (Nat.le_refl 832019) (Nat.le_refl 6605640) dL_law_4 rfl (fun M3 => ?_)
  refine g_guard (fun hg => ?_)
  have h1 : w2 = 1 := of_decide_eq_true hg
  subst h1
  refine g_astore_n 8 1 [(1, .ref 1), (0, .retAddr b)] hX dL_law_7 rfl rfl (Nat.le_of_ble_eq_true rfl) rfl ?_
  refine g_aloadS_n 9 1 hX dL_law_8 rfl rfl ?_
  refine g_sclen 10 hX hSc hbl hbB dL_law_9 rfl ?_
  refine g_istore_n 11 2 [(2, .int (Int32.ofNat Ls)), (1, .ref 1), (0, .retAddr b)] hX dL_law_10 rfl rfl (Nat.le_of_ble_eq_true rfl) rfl ?_
  refine g_iconst 12 hX 0 dL_law_11 rfl kc_i_0 ?_
  refine g_istore_n 13 3 [(3, .int 0), (2, .int (Int32.ofNat Ls)), (1, .ref 1), (0, .retAddr b)] hX dL_law_12 rfl rfl (Nat.le_of_ble_eq_true rfl) rfl ?_
  refine g_lv [3, 2, 1, 0] rfl ?_
  exact k_L_law_13 hX hSc hbl hbB hr N 3 M3 0
end kLaw
