/-! the law's entry -/
theorem q_129 : Cond.initialized RX11 ∈ WT := kw 129 (by decide +kernel) rfl
theorem q_146 : Cond.initialized RX12 ∈ WT := kw 146 (by decide +kernel) rfl
theorem q_153 : Cond.classLink RL 8 RX11 ∈ WT := kw 153 (by decide +kernel) rfl
theorem q_154 : Cond.instantiable RX11 9 ∈ WT := kw 154 (by decide +kernel) rfl
theorem q_155 : Cond.methodLink RL 138 yX11_init ∈ WT := kw 155 (by decide +kernel) rfl
theorem q_1604 : Cond.classLink RL 139 RX12 ∈ WT := kw 1604 (by decide +kernel) rfl
theorem q_1605 : Cond.instantiable RX12 30 ∈ WT := kw 1605 (by decide +kernel) rfl
theorem q_1606 : Cond.methodLink RL 141 yX12_init ∈ WT := kw 1606 (by decide +kernel) rfl
section kInst
variable {β : Type} {p : Program} {l : Launch} {e : Env} {R : Room} {s : State} {m : MethodId} {args : Array Value} {below : List Frame} {meth : Method} {c : Code} {cc : ByteArray} {nL : Nat} {g : kG} {dep : Nat} {Q : β → State → Prop} {k n : Nat} {o : Option β} {pc : Nat} {lv : List (Nat × Value)} {st : List Value} {M : kMem}
end kInst
theorem lk_X11_init : kLk yX11_init cX11_init 2 none 0 := ⟨kw 157 (by decide +kernel) rfl, kw 156 (by decide +kernel) rfl, kw 129 (by decide +kernel) rfl, ⟨by decide, by decide, by decide +kernel⟩, Nat.le_of_ble_eq_true rfl⟩
theorem lk_X12_init : kLk yX12_init cX12_init 1 none 0 := ⟨kw 1608 (by decide +kernel) rfl, kw 1607 (by decide +kernel) rfl, kw 146 (by decide +kernel) rfl, ⟨by decide, by decide, by decide +kernel⟩, Nat.le_of_ble_eq_true rfl⟩

def F_L_law_0 (N Ls : Nat) (xs : Nat → Int32) (M : kMem) : Option Unit :=
    kg (krm 0 552 14112 M 9) <| kl (kNew M 11 9) fun M1 =>
    kl (M.1.length + 1) fun w2 =>
    kg (kok 0 552 14112 M1 538 8722) <| (F_X11_init N M1 w2).bind fun M3 => kg (kgr 0 M1 M3 538 8722) <|
    kg (krm 0 552 14112 M3 30) <| kl (kNew M3 12 30) fun M4 =>
    kl (M3.1.length + 1) fun w5 =>
    kg (kok 0 552 14112 M4 11 5350) <| (F_X12_init N M4 w5).bind fun M6 => kg (kgr 0 M4 M6 11 5350) <|
    kg (krm 0 552 14112 M6 (1 : Int32).toNatClampNeg) <| kl (kNew M6 15 (1 : Int32).toNatClampNeg) fun M7 =>
    kl (M6.1.length + 1) fun w8 =>
    kg (kend 0 552 14112 M7) <| F_L_law_23 N Ls xs w2 w5 w8 520 M7 0
set_option maxRecDepth 100000 in
set_option maxHeartbeats 4000000 in
theorem k_L_law_0 {p : Program} {l : Launch} {e : Env} {s : State} {m : MethodId} {below : List Frame} {meth : Method} {c : Code} {g : kG} {b Ls : Nat} {xs : Nat → Int32} (hX : Cok (p, l, e, room_1, s, m, #[Value.ref b], below, meth, c, cL_law, 9, RL, g, 1000)) (hf : l.flags = flags0) (hN : kNc s) (hSc : va_X b Ls xs s s.heap) (hbl : b < s.heap.size) (hbB : s.heap.size = g.2.2.1 + 1) (hr : meth.sig.returnType = ret) (N : Nat) (M : kMem) : GG (p, l, e, room_1, s, m, #[Value.ref b], below, meth, c, cL_law, 9, RL, g, 1000) (fun _ : Unit => lw_Z below #[Value.ref b] s) (M.1.length - 0) (ksl 0 M) (F_L_law_0 N Ls xs M) 0 [(0, .retAddr b)] [] M := by
  have hsz : s.heap.size = g.2.2.1 + 1 + 0 := hbB
  unfold F_L_law_0
  refine g_new (ci := 11) (idx := 8) (N := 9) (C := RX11) (T := TX11) 3 hX rfl (Nat.le_of_ble_eq_true rfl) inX11 tyX11_ok hdefX11 q_153 q_154 q_129 hsz (mc := 552) (ms := 14112) (by decide) (by decide) dL_law_0 rfl ?_
  refine g_klMn (fun M1 hM1 => ?_)
  refine g_klR (fun w2 hw2 => ?_)
  refine g_dup 4 hX dL_law_3 rfl rfl ?_
  refine g_callI 7 hX (mc9 := 552) (ms9 := 14112) (by rw [hw2]; exact Nat.succ_ne_zero _) (k_X11_init l g N M1 w2) lk_X11_init rfl q_155 (by omega) rfl (Nat.le_of_ble_eq_true rfl) hsz (by decide) (by decide) dL_law_4 rfl (fun M3 => ?_)
  refine g_astore_n 8 1 [(1, .ref w2), (0, .retAddr b)] hX dL_law_7 rfl rfl (Nat.le_of_ble_eq_true rfl) rfl ?_
  refine g_new (ci := 12) (idx := 139) (N := 30) (C := RX12) (T := TX12) 11 hX rfl (Nat.le_of_ble_eq_true rfl) inX12 tyX12_ok hdefX12 q_1604 q_1605 q_146 hsz (mc := 552) (ms := 14112) (by decide) (by decide) dL_law_8 rfl ?_
  refine g_klMn (fun M4 hM4 => ?_)
  refine g_klR (fun w5 hw5 => ?_)
  refine g_dup 12 hX dL_law_11 rfl rfl ?_
  refine g_callI 15 hX (mc9 := 552) (ms9 := 14112) (by rw [hw5]; exact Nat.succ_ne_zero _) (k_X12_init l g N M4 w5) lk_X12_init rfl q_1606 (by omega) rfl (Nat.le_of_ble_eq_true rfl) hsz (by decide) (by decide) dL_law_12 rfl (fun M6 => ?_)
  refine g_astore_n 16 2 [(2, .ref w5), (1, .ref w2), (0, .retAddr b)] hX dL_law_15 rfl rfl (Nat.le_of_ble_eq_true rfl) rfl ?_
  refine g_iconst 17 hX 1 dL_law_16 rfl kc_i_1 ?_
  refine g_newaL 19 hX (z := 1) (by decide) (by decide) hsz (mc := 552) (ms := 14112) (by decide) (by decide) dL_law_17 rfl ?_
  refine g_klMn (fun M7 hM7 => ?_)
  refine g_klR (fun w8 hw8 => ?_)
  refine g_astore_n 20 3 [(3, .ref w8), (2, .ref w5), (1, .ref w2), (0, .retAddr b)] hX dL_law_19 rfl rfl (Nat.le_of_ble_eq_true rfl) rfl ?_
  refine g_iconst 21 hX 0 dL_law_20 rfl kc_i_0 ?_
  refine g_istore 23 4 [(4, .int 0), (3, .ref w8), (2, .ref w5), (1, .ref w2), (0, .retAddr b)] hX dL_law_21 rfl (Nat.le_of_ble_eq_true rfl) rfl ?_
  refine g_guard (fun hg => ?_)
  refine g_lv [4, 3, 2, 1, 0] rfl ?_
  refine g_widen (k2 := 552) (n2 := 14112) (kend_spec hg).2.1 (kend_spec hg).2.2 ?_
  exact k_L_law_23 hX hf hN hSc hbl hbB hr N w2 w5 w8 520 (by decide) (by decide) M7 0
