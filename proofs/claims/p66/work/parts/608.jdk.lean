/-! the JDK's methods on constant strings -/
section kJdk
variable {β β2 : Type} {p : Program} {l : Launch} {e : Env} {R : Room} {s : State} {m : MethodId} {args : Array Value} {below : List Frame} {meth : Method} {c : Code} {cc : ByteArray} {nL : Nat} {own : String} {g : kG} {dep : Nat} {Q : β → State → Prop} {k n : Nat} {o : Option β} {pc : Nat} {lv : List (Nat × Value)} {st : List Value} {M : kMem}
theorem q_j_cs : Cond.fieldLink RJ0 38 "java/lang/String" "COMPACT_STRINGS" "Z" ∈ WT := kw 383 (by decide +kernel) rfl
theorem q_j_fmt : Cond.fieldLink RJ0 1053 "jdk/internal/util/Preconditions" "SIOOBE_FORMATTER" "Ljava/util/function/BiFunction;" ∈ WT := kw 399 (by decide +kernel) rfl
theorem q_j_sv : Cond.fieldLink RJ0 9 "java/lang/String" "value" "[B" ∈ WT := kw 1481 (by decide +kernel) rfl
theorem q_j_sc : Cond.fieldLink RJ0 15 "java/lang/String" "coder" "B" ∈ WT := kw 1482 (by decide +kernel) rfl
theorem g_cs (q : Nat) (hX : Cok (p, l, e, R, s, m, args, below, meth, c, cc, nL, RJ0, g, dep)) (d : decode cc pc = .ok (.getstatic 38, 3)) (e9 : pc + 3 = q) (kk : GG (p, l, e, R, s, m, args, below, meth, c, cc, nL, RJ0, g, dep) Q k n o q lv (.int 1 :: st) M) : GG (p, l, e, R, s, m, args, below, meth, c, cc, nL, RJ0, g, dep) Q k n o pc lv st M := fun b h H locs ls hH hS hl => by
  subst e9
  exact va_gets hX.1 hX.2.1 hX.2.2.2.2.2.2.2.1.2.1 hS hX.2.2.2.1 (hX.2.2.2.2.1 _ q_j_cs) (fun _ h9 => h9) d (kk b h H locs ls hH hS hl)
theorem g_fmt (q : Nat) (hX : Cok (p, l, e, R, s, m, args, below, meth, c, cc, nL, RJ0, g, dep)) (d : decode cc pc = .ok (.getstatic 1053, 3)) (e9 : pc + 3 = q) (kk : ∀ v : Value, v.category = 1 → GG (p, l, e, R, s, m, args, below, meth, c, cc, nL, RJ0, g, dep) Q k n o q lv (v :: st) M) : GG (p, l, e, R, s, m, args, below, meth, c, cc, nL, RJ0, g, dep) Q k n o pc lv st M := fun b h H locs ls hH hS hl => by
  subst e9
  rcases hX.2.2.2.2.2.2.2.1.2.2.1 with hZ | ⟨t, hZ⟩
  · exact va_gets hX.1 hX.2.1 hZ hS hX.2.2.2.1 (hX.2.2.2.2.1 _ q_j_fmt) (fun _ h9 => h9) d (kk (.ref 0) rfl b h H locs ls hH hS hl)
  · exact va_gets hX.1 hX.2.1 hZ hS hX.2.2.2.1 (hX.2.2.2.2.1 _ q_j_fmt) (fun _ h9 => h9) d (kk (.retAddr t) rfl b h H locs ls hH hS hl)
theorem g_scoder (q : Nat) (hX : Cok (p, l, e, R, s, m, args, below, meth, c, cc, nL, RJ0, g, dep)) {i : Nat} (d : decode cc pc = .ok (.getfield 15, 3)) (e9 : pc + 3 = q) (kk : GG (p, l, e, R, s, m, args, below, meth, c, cc, nL, RJ0, g, dep) Q k n o q lv (.int 0 :: st) M) : GG (p, l, e, R, s, m, args, below, meth, c, cc, nL, RJ0, g, dep) Q k n (kg (decide (i < kSn)) o) pc lv (.retAddr (g.2.2.2.1 i) :: st) M := fun b h H locs ls hH hS hl => by
  subst e9
  obtain ⟨hb, h9⟩ := kg_some h
  have hi : i < kSn := of_decide_eq_true hb
  have hE := hX.2.2.2.2.2.2.2.1.1 i hi
  exact vk_getf hX.1 hX.2.1 hE.2.1 hS hX.2.2.2.1 (hX.2.2.2.2.1 _ q_j_sc) (fun _ h9 => h9) d (kk b h9 H locs ls hH hS hl)
theorem g_sval (q : Nat) (hX : Cok (p, l, e, R, s, m, args, below, meth, c, cc, nL, RJ0, g, dep)) {i : Nat} (d : decode cc pc = .ok (.getfield 9, 3)) (e9 : pc + 3 = q) (kk : GG (p, l, e, R, s, m, args, below, meth, c, cc, nL, RJ0, g, dep) Q k n o q lv (.retAddr (g.2.2.2.2 i) :: st) M) : GG (p, l, e, R, s, m, args, below, meth, c, cc, nL, RJ0, g, dep) Q k n (kg (decide (i < kSn)) o) pc lv (.retAddr (g.2.2.2.1 i) :: st) M := fun b h H locs ls hH hS hl => by
  subst e9
  obtain ⟨hb, h9⟩ := kg_some h
  have hi : i < kSn := of_decide_eq_true hb
  have hE := hX.2.2.2.2.2.2.2.1.1 i hi
  exact vk_getf hX.1 hX.2.1 hE.2.2.1 hS hX.2.2.2.1 (hX.2.2.2.2.1 _ q_j_sv) (fun _ h9 => h9) d (kk b h9 H locs ls hH hS hl)
theorem g_slen (q : Nat) (hX : Cok (p, l, e, R, s, m, args, below, meth, c, cc, nL, own, g, dep)) {i : Nat} (d : decode cc pc = .ok (.arraylength, 1)) (e9 : pc + 1 = q) (kk : GG (p, l, e, R, s, m, args, below, meth, c, cc, nL, own, g, dep) Q k n o q lv (.int (Int32.ofNat (kSlen.getD i 0)) :: st) M) : GG (p, l, e, R, s, m, args, below, meth, c, cc, nL, own, g, dep) Q k n (kg (decide (i < kSn)) o) pc lv (.retAddr (g.2.2.2.2 i) :: st) M := fun b h H locs ls hH hS hl => by
  subst e9
  obtain ⟨hb, h9⟩ := kg_some h
  have hi : i < kSn := of_decide_eq_true hb
  have hE := hX.2.2.2.2.2.2.2.1.1 i hi
  exact va_tlen hX.1 hX.2.1 hE.2.2.2 hS rfl d (kk b h9 H locs ls hH hS hl)
theorem g_sbald (q : Nat) (hX : Cok (p, l, e, R, s, m, args, below, meth, c, cc, nL, own, g, dep)) {i : Nat} {j : Int32} (d : decode cc pc = .ok (.baload, 1)) (e9 : pc + 1 = q) (kk : GG (p, l, e, R, s, m, args, below, meth, c, cc, nL, own, g, dep) Q k n o q lv (.int ((kSbyt.getD i []).getD j.toNatClampNeg 0) :: st) M) : GG (p, l, e, R, s, m, args, below, meth, c, cc, nL, own, g, dep) Q k n (kg (ksAt i j) o) pc lv (.int j :: .retAddr (g.2.2.2.2 i) :: st) M := fun b h H locs ls hH hS hl => by
  subst e9
  obtain ⟨hb, h9⟩ := kg_some h
  unfold ksAt at hb
  simp only [Bool.and_eq_true, decide_eq_true_eq] at hb
  obtain ⟨hi, h1, h2⟩ := hb
  have hE := hX.2.2.2.2.2.2.2.1.1 i hi
  refine va_tb hX.1 hX.2.1 hE.2.2.2 hS ?_ rfl d (kk b h9 H locs ls hH hS hl)
  rintro (h4 | h4)
  · exact absurd h1 (Int32.not_le.mpr h4)
  · omega
theorem g_i2c (q : Nat) (hX : Cok (p, l, e, R, s, m, args, below, meth, c, cc, nL, own, g, dep)) {x : Int32} (v : Int32) (d : decode cc pc = .ok (.i2c, 1)) (e9 : pc + 1 = q) (hv : (x.toUInt32 % 65536).toInt32 = v) (kk : GG (p, l, e, R, s, m, args, below, meth, c, cc, nL, own, g, dep) Q k n o q lv (.int v :: st) M) : GG (p, l, e, R, s, m, args, below, meth, c, cc, nL, own, g, dep) Q k n o pc lv (.int x :: st) M := fun b h H locs ls hH hS hl => by
  subst e9
  exact lv_i2c hX.1 hX.2.1 d hv (kk b h H locs ls hH hS hl)
theorem g_ifF (q q2 : Nat) (hX : Cok (p, l, e, R, s, m, args, below, meth, c, cc, nL, own, g, dep)) {x : Int32} {z : Int} (hx : ¬ x = 0) (d : decode cc pc = .ok (.ifCond .eq z, 3)) (ht : (pc : Int) + z = (q : Int)) (e9 : pc + 3 = q2) (kk : GG (p, l, e, R, s, m, args, below, meth, c, cc, nL, own, g, dep) Q k n o q2 lv st M) : GG (p, l, e, R, s, m, args, below, meth, c, cc, nL, own, g, dep) Q k n o pc lv (.int x :: st) M := fun b h H locs ls hH hS hl => by
  subst e9
  exact lv_if_eq hX.1 hX.2.1 d ht (fun hc => absurd hc hx) (fun _ => kk b h H locs ls hH hS hl)
theorem g_ifN (q q2 : Nat) (hX : Cok (p, l, e, R, s, m, args, below, meth, c, cc, nL, own, g, dep)) {x : Int32} {z : Int} (hx : x = 0) (d : decode cc pc = .ok (.ifCond .ne z, 3)) (ht : (pc : Int) + z = (q : Int)) (e9 : pc + 3 = q2) (kk : GG (p, l, e, R, s, m, args, below, meth, c, cc, nL, own, g, dep) Q k n o q2 lv st M) : GG (p, l, e, R, s, m, args, below, meth, c, cc, nL, own, g, dep) Q k n o pc lv (.int x :: st) M := fun b h H locs ls hH hS hl => by
  subst e9
  exact lv_if_ne hX.1 hX.2.1 d ht (fun hc => absurd hx hc) (fun _ => kk b h H locs ls hH hS hl)
theorem g_nret {fin : β → Option Value × kMem} {b0 : β} {mc ms : Nat} {v : Int32} {ty : FieldType} (hX : Cok (p, l, e, R, s, m, args, below, meth, c, cc, nL, own, g, dep)) (hr : meth.sig.returnType = some ty) (hv : narrow ty (.int v) = .int v) (hf : fin b0 = (some (.int v), M)) (hc : k ≤ mc) (hs : n ≤ ms) (d : decode cc pc = .ok (.ireturn, 1)) : GG (p, l, e, R, s, m, args, below, meth, c, cc, nL, own, g, dep) (fun b => MQ below (kQ g (fin b)) args s mc ms (kZ g.2.2.1)) k n (some b0) pc lv [.int v] M := fun b h H locs ls hH hS hl => by
  cases h
  refine W.widen (k := mc) (n := ms) hc hs ?_
  exact W.zret hX.1 hX.2.1 hr hv (fun t ht hW => ⟨by rw [hf]; rfl, by rw [hf, ht]; exact hH, hS.F ht⟩) hS.2.2 d hX.2.2.2.2.2.1
/-- a call on a constant string -/
theorem g_callJ (q : Nat) {y : MethodName} {bc : ByteArray} {nLc nA depc index i : Nat} {ret : Option FieldType} {As rest : List Value} {fin : β2 → Option Value × kMem} {o1 : Option β2} {f : β2 → Option β}
    (hX : Cok (p, l, e, R, s, m, args, below, meth, c, cc, nL, own, g, dep)) (hM : kMet l g y bc nLc ret depc 0 0 (.retAddr (g.2.2.2.1 i) :: As) M fin o1) (hi : ∀ b, o1 = some b → i < kSn) (hk : kLk y bc nLc ret nA) (wl : Cond.methodLink own index y ∈ WT) (ws : Cond.selects "java/lang/String" y y ∈ WT) (hdep : depc + 1 ≤ dep) (hlen : As.length = nA) (hrest : (rest.map (fun v => v.category)).sum ≤ 8) (hRc : k ≤ R.cells) (hRs : n ≤ R.slots)
    (d : decode cc pc = .ok (.invokevirtual index, 3)) (e9 : pc + 3 = q) (kk : ∀ b : β2, o1 = some b → GG (p, l, e, R, s, m, args, below, meth, c, cc, nL, own, g, dep) Q k n (f b) q lv ((fin b).1.toList ++ rest) (fin b).2) : GG (p, l, e, R, s, m, args, below, meth, c, cc, nL, own, g, dep) Q k n (o1.bind f) pc lv (As.reverse ++ .retAddr (g.2.2.2.1 i) :: rest) M := fun b h H locs ls hH hS hl => by
  subst e9
  obtain ⟨b1, h1, h2⟩ := Option.bind_eq_some_iff.mp h
  have hMb := hM b1 h1
  simp only [List.map_append, List.map_reverse, List.map_cons, kT] at hMb ⊢
  have hts := hX.2.2.2.2.1
  have hE := hX.2.2.2.2.2.2.2.1.1 i (hi b1 h1)
  have hrec : ∃ cell : Cell, H[g.2.2.2.1 i]? = some cell ∧ cell.vm.isStatics = false ∧ s.vm.findClass "java/lang/String" = some cell.cls := by
    obtain ⟨cell, c1, c2, c3, -⟩ := hE.1.kept (H1 := H) hS.2.1
    exact ⟨cell, c1, c2, c3⟩
  have cw : CallW R s args own "java/lang/String" index y bc nLc ret (.code y bc nLc ret :: WT) { frames := depc, cells := 0, slots := 0, locals := 60 * depc } 0 0 nA := ⟨k_callB hX hk.1 hk.2.2.1 hk.2.2.2.1 hk.2.2.2.2 hdep wl, hts _ hk.2.1, hts _ ws⟩
  refine k_after (r := fin b1) (va_runV (Ts := WT) (own := own) (nL := nL) (As := As.map (kT g.2.2.1)) (b := g.2.2.2.1 i) ⟨hX.1, hX.2.1, hX.2.2.1, hX.2.2.2.1, hts⟩ hMb cw ⟨kP_blind _ g M, hrec, fun U hU hW => ⟨rfl, kP_at hX hH hS U hU hW⟩⟩ rfl (by rw [List.length_map]; exact hlen) hl.1 rfl (lv_room (kcat_le hrest)) d ⟨hRc, hRs⟩) hS (fun H1 locs1 hH1 hS1 => ?_)
  have kk := kk b1 h1 b h2 H1 locs1 ls hH1 hS1 hl
  have e9 : List.map (kT g.2.2.1) ((fin b1).1.toList ++ rest) = ((fin b1).1.map (kT g.2.2.1)).toList ++ List.map (kT g.2.2.1) rest := by
    rw [List.map_append]
    cases (fin b1).1 <;> rfl
  rw [e9] at kk
  exact kk
theorem g_callJS (q : Nat) {y : MethodName} {bc : ByteArray} {nLc nA depc index i : Nat} {ret : Option FieldType} {As rest : List Value} {o1 : Option Int32} {f : Int32 → Option β}
    (hX : Cok (p, l, e, R, s, m, args, below, meth, c, cc, nL, own, g, dep)) (hM : kMet l g y bc nLc ret depc 0 0 (.retAddr (g.2.2.2.1 i) :: As) M (fun r : Int32 => (some (.int r), M)) o1) (hi : ∀ b, o1 = some b → i < kSn) (hk : kLk y bc nLc ret nA) (wl : Cond.methodLink own index y ∈ WT) (ws : Cond.selects "java/lang/String" y y ∈ WT) (hdep : depc + 1 ≤ dep) (hlen : As.length = nA) (hrest : (rest.map (fun v => v.category)).sum ≤ 8) (hRc : k ≤ R.cells) (hRs : n ≤ R.slots)
    (d : decode cc pc = .ok (.invokevirtual index, 3)) (e9 : pc + 3 = q) (kk : ∀ r : Int32, GG (p, l, e, R, s, m, args, below, meth, c, cc, nL, own, g, dep) Q k n (f r) q lv (.int r :: rest) M) : GG (p, l, e, R, s, m, args, below, meth, c, cc, nL, own, g, dep) Q k n (o1.bind f) pc lv (As.reverse ++ .retAddr (g.2.2.2.1 i) :: rest) M := g_callJ q hX hM hi hk wl ws hdep hlen hrest hRc hRs d e9 (fun r _ => kk r)
end kJdk
theorem lk_J0_length : kLk yJ0_length_8abf5 cJ0_length_8abf5 1 (some .int) 0 := ⟨kw 378 (by decide +kernel) rfl, kw 376 (by decide +kernel) rfl, kw 52 (by decide +kernel) rfl, ⟨by decide, by decide, by decide +kernel⟩, Nat.le_of_ble_eq_true rfl⟩
theorem ws_J0_length : Cond.selects "java/lang/String" yJ0_length_8abf5 yJ0_length_8abf5 ∈ WT := kw 377 (by decide +kernel) rfl
theorem lk_J0_charAt : kLk yJ0_charAt_5068e cJ0_charAt_5068e 2 (some .char) 1 := ⟨kw 388 (by decide +kernel) rfl, kw 386 (by decide +kernel) rfl, kw 52 (by decide +kernel) rfl, ⟨by decide, by decide, by decide +kernel⟩, Nat.le_of_ble_eq_true rfl⟩
theorem ws_J0_charAt : Cond.selects "java/lang/String" yJ0_charAt_5068e yJ0_charAt_5068e ∈ WT := kw 387 (by decide +kernel) rfl
theorem lk_J0_coder : kLk yJ0_coder_7d493 cJ0_coder_7d493 1 (some .byte) 0 := ⟨kw 382 (by decide +kernel) rfl, kw 380 (by decide +kernel) rfl, kw 52 (by decide +kernel) rfl, ⟨by decide, by decide, by decide +kernel⟩, Nat.le_of_ble_eq_true rfl⟩
theorem ws_J0_coder : Cond.selects "java/lang/String" yJ0_coder_7d493 yJ0_coder_7d493 ∈ WT := kw 381 (by decide +kernel) rfl
theorem lk_J0_isLatin1 : kLk yJ0_isLatin1_aae02 cJ0_isLatin1_aae02 1 (some .boolean) 0 := ⟨kw 392 (by decide +kernel) rfl, kw 390 (by decide +kernel) rfl, kw 52 (by decide +kernel) rfl, ⟨by decide, by decide, by decide +kernel⟩, Nat.le_of_ble_eq_true rfl⟩
theorem ws_J0_isLatin1 : Cond.selects "java/lang/String" yJ0_isLatin1_aae02 yJ0_isLatin1_aae02 ∈ WT := kw 391 (by decide +kernel) rfl
theorem lk_J0_check : kLs yJ0_checkIndex_df160 cJ0_checkIndex_df160 2 none 2 := ⟨kw 398 (by decide +kernel) rfl, kw 397 (by decide +kernel) rfl, kw 52 (by decide +kernel) rfl, ⟨by decide, by decide, by decide +kernel⟩, Nat.le_of_ble_eq_true rfl⟩
theorem lk_J1_charAt : kLs yJ1_charAt_3b067 cJ1_charAt_3b067 2 (some .char) 2 := ⟨kw 395 (by decide +kernel) rfl, kw 394 (by decide +kernel) rfl, kw 53 (by decide +kernel) rfl, ⟨by decide, by decide, by decide +kernel⟩, Nat.le_of_ble_eq_true rfl⟩
theorem lk_J3_check : kLs yJ3_checkIndex_8e157 cJ3_checkIndex_8e157 3 (some .int) 3 := ⟨kw 403 (by decide +kernel) rfl, kw 402 (by decide +kernel) rfl, kw 54 (by decide +kernel) rfl, ⟨by decide, by decide, by decide +kernel⟩, Nat.le_of_ble_eq_true rfl⟩
theorem q_j_coder : Cond.methodLink RJ0 335 yJ0_coder_7d493 ∈ WT := kw 379 (by decide +kernel) rfl
theorem q_j_latin : Cond.methodLink RJ0 492 yJ0_isLatin1_aae02 ∈ WT := kw 389 (by decide +kernel) rfl
theorem q_j_char1 : Cond.methodLink RJ0 495 yJ1_charAt_3b067 ∈ WT := kw 393 (by decide +kernel) rfl
theorem q_j_chk0 : Cond.methodLink RJ1 9 yJ0_checkIndex_df160 ∈ WT := kw 396 (by decide +kernel) rfl
theorem q_j_chk3 : Cond.methodLink RJ0 1059 yJ3_checkIndex_8e157 ∈ WT := kw 401 (by decide +kernel) rfl
set_option maxRecDepth 100000 in
set_option maxHeartbeats 4000000 in
theorem k_J0_coder (l : Launch) (g : kG) (M : kMem) (i : Nat) : kMet l g yJ0_coder_7d493 cJ0_coder_7d493 1 (some .byte) 1 0 0 [.retAddr (g.2.2.2.1 i)] M (fun r : Int32 => (some (.int r), M)) (F_J0_coder i) := by
  refine k_of (lv := [(0, .retAddr (g.2.2.2.1 i))]) RJ0 (by decide) rfl rfl (Nat.le_of_ble_eq_true rfl) ?_
  intro p e s m args below meth c hX hr _
  unfold F_J0_coder
  refine g_cs 3 hX dJ0_coder_7d493_0 rfl ?_
  refine g_ifF 13 6 hX (by decide) dJ0_coder_7d493_3 (by decide) rfl ?_
  refine g_aloadS_n 7 0 hX dJ0_coder_7d493_6 rfl rfl ?_
  refine g_scoder 10 hX dJ0_coder_7d493_7 rfl ?_
  refine g_goto 14 hX dJ0_coder_7d493_10 (by decide) ?_
  exact g_nret hX hr rfl rfl (Nat.le_refl 0) (Nat.le_refl 0) dJ0_coder_7d493_14
set_option maxRecDepth 100000 in
set_option maxHeartbeats 4000000 in
theorem k_J0_isLatin1 (l : Launch) (g : kG) (M : kMem) (i : Nat) : kMet l g yJ0_isLatin1_aae02 cJ0_isLatin1_aae02 1 (some .boolean) 1 0 0 [.retAddr (g.2.2.2.1 i)] M (fun r : Int32 => (some (.int r), M)) (F_J0_isLatin1 i) := by
  refine k_of (lv := [(0, .retAddr (g.2.2.2.1 i))]) RJ0 (by decide) rfl rfl (Nat.le_of_ble_eq_true rfl) ?_
  intro p e s m args below meth c hX hr _
  unfold F_J0_isLatin1
  refine g_cs 3 hX dJ0_isLatin1_aae02_0 rfl ?_
  refine g_ifF 17 6 hX (by decide) dJ0_isLatin1_aae02_3 (by decide) rfl ?_
  refine g_aloadS_n 7 0 hX dJ0_isLatin1_aae02_6 rfl rfl ?_
  refine g_scoder 10 hX dJ0_isLatin1_aae02_7 rfl ?_
  refine g_ifN 17 13 hX rfl dJ0_isLatin1_aae02_10 (by decide) rfl ?_
  refine g_iconst 14 hX 1 dJ0_isLatin1_aae02_13 rfl (by decide) ?_
  refine g_goto 18 hX dJ0_isLatin1_aae02_14 (by decide) ?_
  exact g_nret hX hr rfl rfl (Nat.le_refl 0) (Nat.le_refl 0) dJ0_isLatin1_aae02_18
theorem F_J0_length_i (i : Nat) (b : Int32) (h : F_J0_length i = some b) : i < kSn := of_decide_eq_true (kg_some h).1
set_option maxRecDepth 100000 in
set_option maxHeartbeats 4000000 in
theorem k_J0_length (l : Launch) (g : kG) (M : kMem) (i : Nat) : kMet l g yJ0_length_8abf5 cJ0_length_8abf5 1 (some .int) 2 0 0 [.retAddr (g.2.2.2.1 i)] M (fun r : Int32 => (some (.int r), M)) (F_J0_length i) := by
  refine k_of (lv := [(0, .retAddr (g.2.2.2.1 i))]) RJ0 (by decide) rfl rfl (Nat.le_of_ble_eq_true rfl) ?_
  intro p e s m args below meth c hX hr _
  have e0 : F_J0_length i = kg (decide (i < kSn)) (kg (decide (i < kSn)) ((F_J0_coder i).bind fun r => some (Int32.ofNat (kSlen.getD i 0) >>> (r &&& 31)))) := by
    unfold F_J0_length F_J0_coder
    cases decide (i < kSn) <;> rfl
  rw [e0]
  refine g_aloadS_n 1 0 hX dJ0_length_8abf5_0 rfl rfl ?_
  refine g_sval 4 hX dJ0_length_8abf5_1 rfl ?_
  refine g_slen 5 hX dJ0_length_8abf5_4 rfl ?_
  refine g_aloadS_n 6 0 hX dJ0_length_8abf5_5 rfl rfl ?_
  refine g_callJS 9 hX (k_J0_coder l g M i) (fun b h => of_decide_eq_true (kg_some h).1) lk_J0_coder q_j_coder ws_J0_coder (by omega) rfl (Nat.le_of_ble_eq_true rfl) (Nat.zero_le _) (Nat.zero_le _) dJ0_length_8abf5_6 rfl (fun r => ?_)
  refine g_ishr 10 hX dJ0_length_8abf5_9 rfl ?_
  exact g_iret hX hr rfl (Nat.le_refl 0) (Nat.le_refl 0) dJ0_length_8abf5_10
set_option maxRecDepth 100000 in
set_option maxHeartbeats 4000000 in
theorem k_J3_check (l : Launch) (g : kG) (M : kMem) (i n : Int32) (v : Value) (hv : v.category = 1) : kMet l g yJ3_checkIndex_8e157 cJ3_checkIndex_8e157 3 (some .int) 1 0 0 [.int i, .int n, v] M (fun r : Int32 => (some (.int r), M)) (F_J3_check i n) := by
  refine k_of (lv := [(0, .int i), (1, .int n), (2, v)]) RJ3 (by decide) rfl rfl ?_ ?_
  · have h2 : (Value.int i).category = 1 := rfl
    have h3 : (Value.int n).category = 1 := rfl
    unfold lg_sl
    simp [hv, h2, h3]
  intro p e s m args below meth c hX hr _
  unfold F_J3_check
  refine g_iload_n 1 0 hX dJ3_checkIndex_8e157_0 rfl rfl ?_
  refine g_if_lt 9 4 hX dJ3_checkIndex_8e157_1 (by decide) rfl (fun _ => g_none) (fun _ => ?_)
  refine g_iload_n 5 0 hX dJ3_checkIndex_8e157_4 rfl rfl ?_
  refine g_iload_n 6 1 hX dJ3_checkIndex_8e157_5 rfl rfl ?_
  refine g_icmp_lt 16 9 hX dJ3_checkIndex_8e157_6 (by decide) rfl (fun _ => ?_) (fun _ => g_none)
  refine g_iload_n 17 0 hX dJ3_checkIndex_8e157_16 rfl rfl ?_
  exact g_iret hX hr rfl (Nat.le_refl 0) (Nat.le_refl 0) dJ3_checkIndex_8e157_17
set_option maxRecDepth 100000 in
set_option maxHeartbeats 4000000 in
theorem k_J0_check (l : Launch) (g : kG) (M : kMem) (i n : Int32) : kMet l g yJ0_checkIndex_df160 cJ0_checkIndex_df160 2 none 2 0 0 [.int i, .int n] M (fun _ : Int32 => (none, M)) (F_J3_check i n) := by
  refine k_of (lv := [(0, .int i), (1, .int n)]) RJ0 (by decide) rfl rfl (Nat.le_of_ble_eq_true rfl) ?_
  intro p e s m args below meth c hX hr _
  have e0 : F_J3_check i n = (F_J3_check i n).bind fun r => some r := by cases F_J3_check i n <;> rfl
  rw [e0]
  refine g_iload_n 1 0 hX dJ0_checkIndex_df160_0 rfl rfl ?_
  refine g_iload_n 2 1 hX dJ0_checkIndex_df160_1 rfl rfl ?_
  refine g_fmt 5 hX dJ0_checkIndex_df160_2 rfl (fun v hv => ?_)
  refine g_callS 8 (As := [.int i, .int n, v]) (rest := []) hX (k_J3_check l g M i n v hv) lk_J3_check q_j_chk3 (by omega) rfl (Nat.le_of_ble_eq_true rfl) (Nat.zero_le _) (Nat.zero_le _) dJ0_checkIndex_df160_5 rfl (fun r _ => ?_)
  refine g_pop 9 hX (v := .int r) (st := []) dJ0_checkIndex_df160_8 rfl rfl ?_
  exact g_vret hX hr rfl (Nat.le_refl 0) (Nat.le_refl 0) dJ0_checkIndex_df160_9
set_option maxRecDepth 100000 in
set_option maxHeartbeats 4000000 in
theorem k_J1_charAt (l : Launch) (g : kG) (M : kMem) (i : Nat) (j : Int32) : kMet l g yJ1_charAt_3b067 cJ1_charAt_3b067 2 (some .char) 3 0 0 [.retAddr (g.2.2.2.2 i), .int j] M (fun r : Int32 => (some (.int r), M)) (F_J1_charAt i j) := by
  refine k_of (lv := [(0, .retAddr (g.2.2.2.2 i)), (1, .int j)]) RJ1 (by decide) rfl rfl (Nat.le_of_ble_eq_true rfl) ?_
  intro p e s m args below meth c hX hr _
  unfold F_J1_charAt
  refine g_iload_n 1 1 hX dJ1_charAt_3b067_0 rfl rfl ?_
  refine g_aloadS_n 2 0 hX dJ1_charAt_3b067_1 rfl rfl ?_
  refine g_slen 3 hX dJ1_charAt_3b067_2 rfl ?_
  refine g_callS 6 (As := [.int j, .int (Int32.ofNat (kSlen.getD i 0))]) (rest := []) hX (k_J0_check l g M j (Int32.ofNat (kSlen.getD i 0))) lk_J0_check q_j_chk0 (by omega) rfl (Nat.le_of_ble_eq_true rfl) (Nat.zero_le _) (Nat.zero_le _) dJ1_charAt_3b067_3 rfl (fun r _ => ?_)
  refine g_aloadS_n 7 0 hX dJ1_charAt_3b067_6 rfl rfl ?_
  refine g_iload_n 8 1 hX dJ1_charAt_3b067_7 rfl rfl ?_
  refine g_sbald 9 hX (st := []) dJ1_charAt_3b067_8 rfl ?_
  refine g_sipush 12 hX 255 dJ1_charAt_3b067_9 rfl (by decide) ?_
  refine g_iand 13 hX dJ1_charAt_3b067_12 rfl ?_
  refine g_i2c 14 hX (ksCh i j) dJ1_charAt_3b067_13 rfl rfl ?_
  by_cases h : narrow .char (.int (ksCh i j)) = .int (ksCh i j)
  · rw [dif_pos h]
    exact g_nret hX hr h rfl (Nat.le_refl 0) (Nat.le_refl 0) dJ1_charAt_3b067_14
  · rw [dif_neg h]
    exact g_none
theorem F_J0_charAt_i (i : Nat) (j : Int32) (b : Int32) (h : F_J0_charAt i j = some b) : i < kSn := of_decide_eq_true (kg_some h).1
set_option maxRecDepth 100000 in
set_option maxHeartbeats 4000000 in
theorem k_J0_charAt (l : Launch) (g : kG) (M : kMem) (i : Nat) (j : Int32) : kMet l g yJ0_charAt_5068e cJ0_charAt_5068e 2 (some .char) 4 0 0 [.retAddr (g.2.2.2.1 i), .int j] M (fun r : Int32 => (some (.int r), M)) (F_J0_charAt i j) := by
  refine k_of (lv := [(0, .retAddr (g.2.2.2.1 i)), (1, .int j)]) RJ0 (by decide) rfl rfl (Nat.le_of_ble_eq_true rfl) ?_
  intro p e s m args below meth c hX hr _
  have e0 : F_J0_charAt i j = (F_J0_isLatin1 i).bind fun r => if r = 0 then none else kg (decide (i < kSn)) ((F_J1_charAt i j).bind fun x => if h : narrow .char (.int x) = .int x then some x else none) := by
    unfold F_J0_charAt F_J0_isLatin1
    cases hd : decide (i < kSn)
    · rfl
    · show F_J1_charAt i j = (F_J1_charAt i j).bind _
      unfold F_J1_charAt
      rw [hd]
      show (F_J3_check j _).bind _ = ((F_J3_check j _).bind _).bind _
      cases F_J3_check j (Int32.ofNat (kSlen.getD i 0)) with
      | none => rfl
      | some r =>
        show kg (ksAt i j) _ = (kg (ksAt i j) _).bind _
        cases ksAt i j
        · rfl
        · by_cases h : narrow .char (.int (ksCh i j)) = .int (ksCh i j)
          · simp [kg, h]
          · simp [kg, h]
  rw [e0]
  refine g_aloadS_n 1 0 hX dJ0_charAt_5068e_0 rfl rfl ?_
  refine g_callJS 4 hX (k_J0_isLatin1 l g M i) (fun b h => of_decide_eq_true (kg_some h).1) lk_J0_isLatin1 q_j_latin ws_J0_isLatin1 (by omega) rfl (Nat.le_of_ble_eq_true rfl) (Nat.zero_le _) (Nat.zero_le _) dJ0_charAt_5068e_1 rfl (fun r => ?_)
  refine g_if_eq 16 7 hX dJ0_charAt_5068e_4 (by decide) rfl (fun _ => g_none) (fun _ => ?_)
  refine g_aloadS_n 8 0 hX dJ0_charAt_5068e_7 rfl rfl ?_
  refine g_sval 11 hX dJ0_charAt_5068e_8 rfl ?_
  refine g_iload_n 12 1 hX dJ0_charAt_5068e_11 rfl rfl ?_
  refine g_callS_ip 15 (As := [.retAddr (g.2.2.2.2 i), .int j]) (rest := []) hX (k_J1_charAt l g M i j) lk_J1_charAt q_j_char1 (by omega) rfl (Nat.le_of_ble_eq_true rfl) (Nat.zero_le _) (Nat.zero_le _) dJ0_charAt_5068e_12 rfl (fun r => ?_)
  by_cases h : narrow .char (.int r) = .int r
  · rw [dif_pos h]
    exact g_nret hX hr h rfl (Nat.le_refl 0) (Nat.le_refl 0) dJ0_charAt_5068e_15
  · rw [dif_neg h]
    exact g_none
