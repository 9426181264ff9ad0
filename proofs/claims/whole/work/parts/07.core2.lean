section kRows2
variable {β : Type} {p : Program} {l : Launch} {e : Env} {R : Room} {s : State} {m : MethodId} {args : Array Value} {below : List Frame} {meth : Method} {c : Code} {cc : ByteArray} {nL : Nat} {own : String} {g : kG} {dep : Nat} {Q : β → State → Prop} {k n : Nat} {o o1 o2 : Option β} {pc : Nat} {lv : List (Nat × Value)} {st : List Value} {M : kMem}
theorem g_ldcw (q : Nat) (hX : Cok (p, l, e, R, s, m, args, below, meth, c, cc, nL, own, g, dep)) {i : Nat} (v : Int32) (d : decode cc pc = .ok (.ldc_w i, 3)) (e9 : pc + 3 = q) (w : Jvm.Cond.constant own i v ∈ WT) (kk : GG (p, l, e, R, s, m, args, below, meth, c, cc, nL, own, g, dep) Q k n o q lv (.int v :: st) M) : GG (p, l, e, R, s, m, args, below, meth, c, cc, nL, own, g, dep) Q k n o pc lv st M := fun b h H locs ls hH hS hl => by
  subst e9
  exact lv_ldcw hX.1 hX.2.1 hX.2.2.2.1 (hX.2.2.2.2.1 _ w) d (kk b h H locs ls hH hS hl)
theorem g_ite {X : kX} {cnd : Prop} [Decidable cnd] (kt : cnd → GG X Q k n o1 pc lv st M) (kf : ¬ cnd → GG X Q k n o2 pc lv st M) : GG X Q k n (if cnd then o1 else o2) pc lv st M := by
  by_cases h : cnd
  · rw [if_pos h]; exact kt h
  · rw [if_neg h]; exact kf h
theorem g_tswIn (q : Nat) (hX : Cok (p, l, e, R, s, m, args, below, meth, c, cc, nL, own, g, dep)) (v : Int32) {x : Int32} (hx : x = v) {dflt lo hi : Int} {offs : Array Int} {len : Nat} {off : Int} (d : decode cc pc = .ok (.tableswitch dflt lo hi offs, len)) (h1 : ¬ v.toInt < lo) (h2 : ¬ hi < v.toInt) (ho : offs[(v.toInt - lo).toNat]? = some off) (ht : (pc : Int) + off = (q : Int)) (kk : GG (p, l, e, R, s, m, args, below, meth, c, cc, nL, own, g, dep) Q k n o q lv st M) : GG (p, l, e, R, s, m, args, below, meth, c, cc, nL, own, g, dep) Q k n o pc lv (.int x :: st) M := fun b h H locs ls hH hS hl => by
  subst hx
  exact lv_tableIn hX.1 hX.2.1 d h1 h2 ho ht (kk b h H locs ls hH hS hl)
theorem g_tswOut (q : Nat) (hX : Cok (p, l, e, R, s, m, args, below, meth, c, cc, nL, own, g, dep)) {x : Int32} {dflt lo hi : Int} {offs : Array Int} {len : Nat} (d : decode cc pc = .ok (.tableswitch dflt lo hi offs, len)) (h1 : x.toInt < lo ∨ hi < x.toInt) (ht : (pc : Int) + dflt = (q : Int)) (kk : GG (p, l, e, R, s, m, args, below, meth, c, cc, nL, own, g, dep) Q k n o q lv st M) : GG (p, l, e, R, s, m, args, below, meth, c, cc, nL, own, g, dep) Q k n o pc lv (.int x :: st) M := fun b h H locs ls hH hS hl => lv_tableOut hX.1 hX.2.1 d h1 ht (kk b h H locs ls hH hS hl)
end kRows2
/-! methods that throw -/
def kEx (x : Nat) : String := match x with
  | 1 => "java/lang/IndexOutOfBoundsException"
  | 2 => "java/lang/IllegalArgumentException"
  | _ => "java/lang/IllegalStateException"
abbrev kRX : Type := (Option Value ⊕ Nat) × kMem
def kQX (g : kG) (r : kRX) : Array Value → State → Outcome → State → Prop := fun a st o t => ∃ v, r.1 = .inl v ∧ kQ g (v, r.2) a st o t
def kXX (g : kG) (r : kRX) : String → State → State → Prop := fun E st t => ∃ x, r.1 = .inr x ∧ E = kEx x ∧ kHd g.1 g.2.1 g.2.2.1 r.2 t.heap ∧ va_F (kZ g.2.2.1) st t
def kfin {α : Type} (tv : α → Option Value) : (α ⊕ Nat) × kMem → kRX := fun r => (match r.1 with | .inl v => .inl (tv v) | .inr x => .inr x, r.2)
def kMetX {β : Type} (l : Launch) (g : kG) (y : MethodName) (bc : ByteArray) (nL : Nat) (ret : Option FieldType) (dep mc ms : Nat) (av : List Value) (M : kMem) (fin : β → kRX) (o : Option β) : Prop :=
  ∀ b : β, o = some b → vx_Met l y (.code y bc nL ret :: WT) { frames := 2 * dep, cells := mc, slots := ms, locals := 60 * dep } (va_Pc (av.map (kT g.2.2.1)) (kP g M)) (kQX g (fin b)) (kXX g (fin b)) mc ms (kZ g.2.2.1)
theorem kat1_g : (vx_atS RX11 390 "java/lang/IndexOutOfBoundsException" ["java/lang/RuntimeException", "java/lang/Exception"]).filter goodWord = [147, 1163, 1172, 1176, 1179, 1181, 1164, 1165, 159, 160, 1166, 1171, 1177, 1197, 1153, 1198, 1155, 1199, 1157, 1167, 1169, 1159, 1193, 1194, 1196, 1159, 1263, 1264, 1265, 1187, 1187, 1188, 1189, 1190, 1190, 1191, 1192, 1193, 1262, 1253, 1255, 1175, 1256, 1257, 1258, 1259, 1162, 1161, 1260].filterMap (fun i => lw_tbl[i]?) := by decide +kernel
theorem kat1_b : (vx_atS RX11 390 "java/lang/IndexOutOfBoundsException" ["java/lang/RuntimeException", "java/lang/Exception"]).filter (fun w => !goodWord w) = [Cond.declares (Bundle.initS "java/lang/RuntimeException"), Cond.declares (Bundle.initS "java/lang/Exception"), Cond.declares (Bundle.initS "java/lang/Throwable"), Cond.castable "java/lang/IndexOutOfBoundsException" "java/lang/IndexOutOfBoundsException"] := by decide +kernel
theorem kat1_o : (vx_atS RX11 390 "java/lang/IndexOutOfBoundsException" ["java/lang/RuntimeException", "java/lang/Exception"]).all vx_ot = true := by decide +kernel
theorem kat1 {args : Array Value} {s : State} (hts : ∀ w ∈ WT, w.before args s = true) (h : kExc s) : ∀ w ∈ (vx_atS RX11 390 "java/lang/IndexOutOfBoundsException" ["java/lang/RuntimeException", "java/lang/Exception"]), w.before args s = true := by
  refine vx_hat (B := [Cond.declares (Bundle.initS "java/lang/RuntimeException"), Cond.declares (Bundle.initS "java/lang/Exception"), Cond.declares (Bundle.initS "java/lang/Throwable"), Cond.castable "java/lang/IndexOutOfBoundsException" "java/lang/IndexOutOfBoundsException"]) (fun w hw => ?_) (fun w hw => ?_) (vx_c (va_Nw.use rfl h.1.1) (vx_c (va_Nw.use rfl h.1.2.1) (vx_c (va_Nw.use rfl h.1.2.2) (vx_c (va_Nw.use rfl h.2.1) vx_n))))
  · have g9 := (List.mem_filter.mp hw).2
    rw [kat1_g] at hw
    obtain ⟨i, -, hi⟩ := List.mem_filterMap.mp hw
    exact hts w (kw i hi g9)
  · rw [kat1_b] at hw
    exact hw
theorem kcl1_in : Cond.classLink RX11 386 "java/lang/IndexOutOfBoundsException" ∈ WT := kw 1252 (by decide +kernel) rfl
theorem kci1_in : Cond.initialized "java/lang/IndexOutOfBoundsException" ∈ WT := kw 152 (by decide +kernel) rfl
theorem kat2_g : (vx_atS RX11 404 "java/lang/IllegalArgumentException" ["java/lang/RuntimeException", "java/lang/Exception"]).filter goodWord = [147, 1163, 1172, 1176, 1179, 1181, 1164, 1165, 159, 160, 1166, 1171, 1177, 1197, 1153, 1198, 1155, 1199, 1157, 1167, 1169, 1159, 1193, 1194, 1196, 1159, 1234, 1235, 1236, 1187, 1187, 1188, 1189, 1190, 1190, 1191, 1192, 1193, 1233, 1224, 1226, 1174, 1227, 1228, 1229, 1230, 1162, 1161, 1231].filterMap (fun i => lw_tbl[i]?) := by decide +kernel
theorem kat2_b : (vx_atS RX11 404 "java/lang/IllegalArgumentException" ["java/lang/RuntimeException", "java/lang/Exception"]).filter (fun w => !goodWord w) = [Cond.declares (Bundle.initS "java/lang/RuntimeException"), Cond.declares (Bundle.initS "java/lang/Exception"), Cond.declares (Bundle.initS "java/lang/Throwable"), Cond.castable "java/lang/IllegalArgumentException" "java/lang/IllegalArgumentException"] := by decide +kernel
theorem kat2_o : (vx_atS RX11 404 "java/lang/IllegalArgumentException" ["java/lang/RuntimeException", "java/lang/Exception"]).all vx_ot = true := by decide +kernel
theorem kat2 {args : Array Value} {s : State} (hts : ∀ w ∈ WT, w.before args s = true) (h : kExc s) : ∀ w ∈ (vx_atS RX11 404 "java/lang/IllegalArgumentException" ["java/lang/RuntimeException", "java/lang/Exception"]), w.before args s = true := by
  refine vx_hat (B := [Cond.declares (Bundle.initS "java/lang/RuntimeException"), Cond.declares (Bundle.initS "java/lang/Exception"), Cond.declares (Bundle.initS "java/lang/Throwable"), Cond.castable "java/lang/IllegalArgumentException" "java/lang/IllegalArgumentException"]) (fun w hw => ?_) (fun w hw => ?_) (vx_c (va_Nw.use rfl h.1.1) (vx_c (va_Nw.use rfl h.1.2.1) (vx_c (va_Nw.use rfl h.1.2.2) (vx_c (va_Nw.use rfl h.2.2.1) vx_n))))
  · have g9 := (List.mem_filter.mp hw).2
    rw [kat2_g] at hw
    obtain ⟨i, -, hi⟩ := List.mem_filterMap.mp hw
    exact hts w (kw i hi g9)
  · rw [kat2_b] at hw
    exact hw
theorem kcl2_in : Cond.classLink RX11 400 "java/lang/IllegalArgumentException" ∈ WT := kw 1223 (by decide +kernel) rfl
theorem kci2_in : Cond.initialized "java/lang/IllegalArgumentException" ∈ WT := kw 151 (by decide +kernel) rfl
theorem kat3_g : (vx_atS RX11 85 "java/lang/IllegalStateException" ["java/lang/RuntimeException", "java/lang/Exception"]).filter goodWord = [147, 1163, 1172, 1176, 1179, 1181, 1164, 1165, 159, 160, 1166, 1171, 1177, 1197, 1153, 1198, 1155, 1199, 1157, 1167, 1169, 1159, 1193, 1194, 1196, 1159, 1184, 1185, 1186, 1187, 1187, 1188, 1189, 1190, 1190, 1191, 1192, 1193, 1183, 1142, 1150, 1151, 1152, 1154, 1156, 1158, 1162, 1161, 1160].filterMap (fun i => lw_tbl[i]?) := by decide +kernel
theorem kat3_b : (vx_atS RX11 85 "java/lang/IllegalStateException" ["java/lang/RuntimeException", "java/lang/Exception"]).filter (fun w => !goodWord w) = [Cond.declares (Bundle.initS "java/lang/RuntimeException"), Cond.declares (Bundle.initS "java/lang/Exception"), Cond.declares (Bundle.initS "java/lang/Throwable"), Cond.castable "java/lang/IllegalStateException" "java/lang/IllegalStateException"] := by decide +kernel
theorem kat3_o : (vx_atS RX11 85 "java/lang/IllegalStateException" ["java/lang/RuntimeException", "java/lang/Exception"]).all vx_ot = true := by decide +kernel
theorem kat3 {args : Array Value} {s : State} (hts : ∀ w ∈ WT, w.before args s = true) (h : kExc s) : ∀ w ∈ (vx_atS RX11 85 "java/lang/IllegalStateException" ["java/lang/RuntimeException", "java/lang/Exception"]), w.before args s = true := by
  refine vx_hat (B := [Cond.declares (Bundle.initS "java/lang/RuntimeException"), Cond.declares (Bundle.initS "java/lang/Exception"), Cond.declares (Bundle.initS "java/lang/Throwable"), Cond.castable "java/lang/IllegalStateException" "java/lang/IllegalStateException"]) (fun w hw => ?_) (fun w hw => ?_) (vx_c (va_Nw.use rfl h.1.1) (vx_c (va_Nw.use rfl h.1.2.1) (vx_c (va_Nw.use rfl h.1.2.2) (vx_c (va_Nw.use rfl h.2.2.2) vx_n))))
  · have g9 := (List.mem_filter.mp hw).2
    rw [kat3_g] at hw
    obtain ⟨i, -, hi⟩ := List.mem_filterMap.mp hw
    exact hts w (kw i hi g9)
  · rw [kat3_b] at hw
    exact hw
theorem kcl3_in : Cond.classLink RX11 81 "java/lang/IllegalStateException" ∈ WT := kw 1141 (by decide +kernel) rfl
theorem kci3_in : Cond.initialized "java/lang/IllegalStateException" ∈ WT := kw 150 (by decide +kernel) rfl
section kCallsX
variable {β β2 : Type} {p : Program} {l : Launch} {e : Env} {R : Room} {s : State} {m : MethodId} {args : Array Value} {below : List Frame} {meth : Method} {c : Code} {cc : ByteArray} {nL : Nat} {own : String} {g : kG} {dep : Nat} {Q : β → State → Prop} {k n : Nat} {o : Option β} {pc : Nat} {lv : List (Nat × Value)} {st : List Value} {M : kMem}
theorem kx_S {H : Heap} {locs L : List Loc} {st₀ t T' : State} (h0 : st₀.heap = H) (e1 : T'.heap = t.heap) (hF : va_F (kZ g.2.2.1) st₀ t) (hL : ∀ q ∈ L, kZ g.2.2.1 q.base) (hS : va_S (kZ g.2.2.1) s.heap H locs) : va_S (kZ g.2.2.1) s.heap T'.heap (locs ++ L) := by
  obtain ⟨hz, hk⟩ := hF
  rw [h0] at hz hk
  exact ⟨Nat.le_trans hS.1 (by rw [e1]; exact hz), fun q h1 h2 => by rw [e1, hk q (Nat.lt_of_lt_of_le h1 hS.1) h2]; exact hS.2.1 q h1 h2, fun q hq => by
      rcases List.mem_append.mp hq with h | h
      · exact hS.2.2 q h
      · exact hL q h⟩
theorem kx_after {Q0 : State → Prop} {H : Heap} {locs : List Loc} {mc ms : Nat} {ls : Array Slot} {st0 rest : List Value} {a : Array Value} {r : kRX}
    (hr : vx_Run p l e R s m args below meth c H locs k n mc ms (F0 m pc ls st0) rest (kQX g r a) (kXX g r) (kZ g.2.2.1)) (hS : va_S (kZ g.2.2.1) s.heap H locs)
    (kx : ∀ (x : Nat) (ce : Cell) (q9 : Addr) (H1 : Heap) (locs1 : List Loc), r.1 = .inr x → kHd g.1 g.2.1 g.2.2.1 r.2 H1 → va_S (kZ g.2.2.1) s.heap H1 locs1 → H1[q9]? = some ce → ce.vm = .none → s.vm.findClass (kEx x) = some ce.cls → vx_W p l e R s m args below meth c H1 locs1 (k + mc) (n + ms) Q0 (F0 m pc ls rest) q9)
    (kk : ∀ (v : Option Value) (H1 : Heap) (locs1 : List Loc), r.1 = .inl v → kHd g.1 g.2.1 g.2.2.1 r.2 H1 → va_S (kZ g.2.2.1) s.heap H1 locs1 → W p l e R s m args below meth c H1 locs1 (k + mc) (n + ms) Q0 (F0 m (pc + 3) ls ((v.map (kT g.2.2.1)).toList ++ rest))) :
    W p l e R s m args below meth c H locs k n Q0 (F0 m pc ls st0) := by
  intro T hT X
  rcases hr T hT X with ⟨v, st₀, t, T', L, h0, X', hL, e1, e2, ⟨w, hw, hv, hH1, hF⟩, st⟩ | ⟨q, st₀, t, T', L, E, ce, h0, X', hL, e1, e2, ⟨x, hx, hE, hH1, hF⟩, hce, hcv, hcl, st⟩
  · have hv2 : v = w.map (kT g.2.2.1) := by injection hv
    subst hv2
    obtain ⟨t2, a1, b1⟩ := kk w T'.heap (locs ++ L) hw (by rw [e1]; exact hH1) (kx_S h0 e1 hF hL hS) T' rfl X'
    exact ⟨t2, st t2 a1, b1⟩
  · subst hE
    obtain ⟨t2, a1, b1⟩ := kx x ce q T'.heap (locs ++ L) hx (by rw [e1]; exact hH1) (kx_S h0 e1 hF hL hS) (by rw [e1]; exact hce) hcv hcl T' rfl X'
    exact ⟨t2, st.trans a1, b1⟩
/-- a call that may throw, in a method that lets it pass -/
theorem g_callVX {α β' : Type} (q : Nat) {y : MethodName} {bc : ByteArray} {nLc nA depc index a ci mc ms mc9 ms9 : Nat} {ret : Option FieldType} {C : String} {T : u_T} {N : Nat} {As rest : List Value} {tv : α → Option Value} {fin : (β' ⊕ Nat) × kMem → kRX} {o1 : Option ((α ⊕ Nat) × kMem)} {f : α → kMem → Option ((β' ⊕ Nat) × kMem)}
    (hX : Cok (p, l, e, R, s, m, args, below, meth, c, cc, nL, own, g, dep)) (hM : kMetX l g y bc nLc ret depc mc ms (.ref a :: As) M (kfin tv) o1) (hk : kLk y bc nLc ret nA) (hy : y.cls = C) (hc : vwCl[kci ci]? = some (C, T, N)) (h13 : ci < 13) (wl : Cond.methodLink own index y ∈ WT) (ws : Cond.selects C y y ∈ WT) (hdep : depc + 1 ≤ dep) (hlen : As.length = nA) (hrest : (rest.map (fun v => v.category)).sum ≤ 8) (hRc : k + mc ≤ R.cells) (hRs : n + ms ≤ R.slots)
    (hfin : ∀ x M, fin (.inr x, M) = (.inr x, M)) (hh : c.exceptionTable.toList = []) (hmc : k + mc ≤ mc9) (hms : n + ms ≤ ms9)
    (d : decode cc pc = .ok (.invokevirtual index, 3)) (e9 : pc + 3 = q) (kk : ∀ (v : α) (M1 : kMem), GG (p, l, e, R, s, m, args, below, meth, c, cc, nL, own, g, dep) (fun b => vx_MQ below (kQX g (fin b)) (kXX g (fin b)) args s mc9 ms9 (kZ g.2.2.1)) (k + mc) (n + ms) (f v M1) q lv ((tv v).toList ++ rest) M1) : GG (p, l, e, R, s, m, args, below, meth, c, cc, nL, own, g, dep) (fun b => vx_MQ below (kQX g (fin b)) (kXX g (fin b)) args s mc9 ms9 (kZ g.2.2.1)) k n (kg (kt M a ci) (kbx o1 f)) pc lv (As.reverse ++ .ref a :: rest) M := fun b h H locs ls hH hS hl => by
  subst e9
  obtain ⟨hb, h9⟩ := kg_some h
  obtain ⟨j0, n0, rfl, hj, -⟩ := kt_spec hb
  have hts := hX.2.2.2.2.1
  have cw : CallW R s args own C index y bc nLc ret (.code y bc nLc ret :: WT) { frames := 2 * depc, cells := mc, slots := ms, locals := 60 * depc } mc ms nA := ⟨k_callB hX hk.1 hk.2.2.1 hk.2.2.2.1 hk.2.2.2.2 hdep wl, hts _ hk.2.1, hts _ ws⟩
  rcases kbx_some h9 with ⟨v, M1, h1, h2⟩ | ⟨x, M1, h1, rfl⟩
  · have hMb := hM _ h1
    simp only [List.map_append, List.map_reverse, List.map_cons, kT] at hMb ⊢
    rw [kr_succ] at hMb ⊢
    refine kx_after (vx_runV (Ts := WT) (own := own) (nL := nL) (As := As.map (kT g.2.2.1)) (b := g.2.2.1 + 1 + j0) ⟨hX.1, hX.2.1, hX.2.2.1, hX.2.2.2.1, hts⟩ hMb cw ⟨kP_blind _ g M, va_recv hX.2.2.2.2.2.2.2.2.1.1 hH hc (kEnt_obj hj h13), fun U hU hW => ⟨rfl, kP_at hX hH hS U hU hW⟩⟩ rfl (by rw [List.length_map]; exact hlen) hl.1 rfl (lv_room (kcat_le hrest)) d ⟨hRc, hRs⟩) hS (fun x ce q9 H1 locs1 hx _ _ _ _ _ => by cases hx) (fun w H1 locs1 hw hH1 hS1 => ?_)
    cases hw
    have kk := kk v M1 b h2 H1 locs1 ls hH1 hS1 hl
    have e9 : List.map (kT g.2.2.1) ((tv v).toList ++ rest) = ((tv v).map (kT g.2.2.1)).toList ++ List.map (kT g.2.2.1) rest := by
      rw [List.map_append]
      cases tv v <;> rfl
    rw [e9] at kk
    exact kk
  · have hMb := hM _ h1
    simp only [List.map_append, List.map_reverse, List.map_cons, kT] at hMb ⊢
    rw [kr_succ] at hMb ⊢
    refine kx_after (vx_runV (Ts := WT) (own := own) (nL := nL) (As := As.map (kT g.2.2.1)) (b := g.2.2.1 + 1 + j0) ⟨hX.1, hX.2.1, hX.2.2.1, hX.2.2.2.1, hts⟩ hMb cw ⟨kP_blind _ g M, va_recv hX.2.2.2.2.2.2.2.2.1.1 hH hc (kEnt_obj hj h13), fun U hU hW => ⟨rfl, kP_at hX hH hS U hU hW⟩⟩ rfl (by rw [List.length_map]; exact hlen) hl.1 rfl (lv_room (kcat_le hrest)) d ⟨hRc, hRs⟩) hS (fun x9 ce q9 H1 locs1 hx hH1 hS1 hce hcv hcl => ?_) (fun w H1 locs1 hw _ _ => by cases hw)
    cases hx
    refine vx_out (fun z hz => by rw [hh] at hz; cases hz) hX.2.2.2.2.2.1 hce hcv hcl (fun t ht hvm => ?_) hS1.2.2 hmc hms
    exact ⟨x, by rw [hfin], rfl, by rw [hfin, ht]; exact hH1, hS1.F ht⟩
theorem g_callSX {α β' : Type} (q : Nat) {y : MethodName} {bc : ByteArray} {nLc nA depc index mc ms mc9 ms9 : Nat} {ret : Option FieldType} {As rest : List Value} {tv : α → Option Value} {fin : (β' ⊕ Nat) × kMem → kRX} {o1 : Option ((α ⊕ Nat) × kMem)} {f : α → kMem → Option ((β' ⊕ Nat) × kMem)}
    (hX : Cok (p, l, e, R, s, m, args, below, meth, c, cc, nL, own, g, dep)) (hM : kMetX l g y bc nLc ret depc mc ms As M (kfin tv) o1) (hk : kLs y bc nLc ret nA) (wl : Cond.methodLink own index y ∈ WT) (hdep : depc + 1 ≤ dep) (hlen : As.length = nA) (hrest : (rest.map (fun v => v.category)).sum ≤ 8) (hRc : k + mc ≤ R.cells) (hRs : n + ms ≤ R.slots)
    (hfin : ∀ x M, fin (.inr x, M) = (.inr x, M)) (hh : c.exceptionTable.toList = []) (hmc : k + mc ≤ mc9) (hms : n + ms ≤ ms9)
    (d : decode cc pc = .ok (.invokestatic index, 3)) (e9 : pc + 3 = q) (kk : ∀ (v : α) (M1 : kMem), GG (p, l, e, R, s, m, args, below, meth, c, cc, nL, own, g, dep) (fun b => vx_MQ below (kQX g (fin b)) (kXX g (fin b)) args s mc9 ms9 (kZ g.2.2.1)) (k + mc) (n + ms) (f v M1) q lv ((tv v).toList ++ rest) M1) : GG (p, l, e, R, s, m, args, below, meth, c, cc, nL, own, g, dep) (fun b => vx_MQ below (kQX g (fin b)) (kXX g (fin b)) args s mc9 ms9 (kZ g.2.2.1)) k n (kbx o1 f) pc lv (As.reverse ++ rest) M := fun b h H locs ls hH hS hl => by
  subst e9
  have hts := hX.2.2.2.2.1
  have cw : CallB R s args own index y bc nLc ret (.code y bc nLc ret :: WT) { frames := 2 * depc, cells := mc, slots := ms, locals := 60 * depc } mc ms nA ∧ (Cond.static y).before args s = true := ⟨k_callB hX hk.1 hk.2.2.1 hk.2.2.2.1 hk.2.2.2.2 hdep wl, hts _ hk.2.1⟩
  rcases kbx_some h with ⟨v, M1, h1, h2⟩ | ⟨x, M1, h1, rfl⟩
  · have hMb := hM _ h1
    simp only [List.map_append, List.map_reverse]
    refine kx_after (vx_runS (Ts := WT) (own := own) (nL := nL) (As := As.map (kT g.2.2.1)) ⟨hX.1, hX.2.1, hX.2.2.1, hX.2.2.2.1, hts⟩ hMb cw ⟨kP_blind _ g M, fun U hU hW => ⟨rfl, kP_at hX hH hS U hU hW⟩⟩ rfl (by rw [List.length_map]; exact hlen) hl.1 rfl (lv_room (kcat_le hrest)) d ⟨hRc, hRs⟩) hS (fun x ce q9 H1 locs1 hx _ _ _ _ _ => by cases hx) (fun w H1 locs1 hw hH1 hS1 => ?_)
    cases hw
    have kk := kk v M1 b h2 H1 locs1 ls hH1 hS1 hl
    have e9 : List.map (kT g.2.2.1) ((tv v).toList ++ rest) = ((tv v).map (kT g.2.2.1)).toList ++ List.map (kT g.2.2.1) rest := by
      rw [List.map_append]
      cases tv v <;> rfl
    rw [e9] at kk
    exact kk
  · have hMb := hM _ h1
    simp only [List.map_append, List.map_reverse]
    refine kx_after (vx_runS (Ts := WT) (own := own) (nL := nL) (As := As.map (kT g.2.2.1)) ⟨hX.1, hX.2.1, hX.2.2.1, hX.2.2.2.1, hts⟩ hMb cw ⟨kP_blind _ g M, fun U hU hW => ⟨rfl, kP_at hX hH hS U hU hW⟩⟩ rfl (by rw [List.length_map]; exact hlen) hl.1 rfl (lv_room (kcat_le hrest)) d ⟨hRc, hRs⟩) hS (fun x9 ce q9 H1 locs1 hx hH1 hS1 hce hcv hcl => ?_) (fun w H1 locs1 hw _ _ => by cases hw)
    cases hx
    refine vx_out (fun z hz => by rw [hh] at hz; cases hz) hX.2.2.2.2.2.1 hce hcv hcl (fun t ht hvm => ?_) hS1.2.2 hmc hms
    exact ⟨x, by rw [hfin], rfl, by rw [hfin, ht]; exact hH1, hS1.F ht⟩
/-- an end that returns, in a method that may throw -/
theorem g_xr {fin : β → kRX} {v0 : Option Value} {mc ms : Nat} {b0 : β} (hf : ∀ b, o = some b → fin b = (.inl v0, (fin b).2)) (kk : GG (p, l, e, R, s, m, args, below, meth, c, cc, nL, own, g, dep) (fun b => MQ below (kQ g (v0, (fin b).2)) args s mc ms (kZ g.2.2.1)) k n o pc lv st M) : GG (p, l, e, R, s, m, args, below, meth, c, cc, nL, own, g, dep) (fun b => vx_MQ below (kQX g (fin b)) (kXX g (fin b)) args s mc ms (kZ g.2.2.1)) k n o pc lv st M := fun b h H locs ls hH hS hl => by
  have h9 := kk b h H locs ls hH hS hl
  refine vx_ret ?_
  intro T hT X
  obtain ⟨t, a1, o9, b1, b2, b3, b4⟩ := h9 T hT X
  exact ⟨t, a1, o9, b1, b2, ⟨v0, by rw [hf b h], b3⟩, b4⟩
theorem g_throw1 {α : Type} {tv : α → Option Value} {i is mc ms : Nat} {t : String} (hX : Cok (p, l, e, R, s, m, args, below, meth, c, cc, nL, RX11, g, dep)) (hf : l.flags = flags0) (hh : c.exceptionTable.toList = []) (hi : kStrs[i]? = some (RX11, is, t)) (d0 : decode cc pc = .ok (.new 386, 3)) (d3 : decode cc (pc + 3) = .ok (.dup, 1)) (d4 : decode cc (pc + 4) = .ok (.ldc is, 2)) (d6 : decode cc (pc + 6) = .ok (.invokespecial 390, 3)) (d9 : decode cc (pc + 9) = .ok (.athrow, 1)) (hRc : k + 1 ≤ R.cells) (hRs : n + 6 ≤ R.slots) (hc : k + 1 ≤ mc) (hs : n + 6 ≤ ms) (hst : (st.map (fun v => v.category)).sum ≤ 8) (hdp : 3 ≤ dep) : GG (p, l, e, R, s, m, args, below, meth, c, cc, nL, RX11, g, dep) (fun b => vx_MQ below (kQX g (kfin tv b)) (kXX g (kfin tv b)) args s mc ms (kZ g.2.2.1)) k n (some (.inr 1, M)) pc lv st M := fun b h H locs ls hH hS hl => by
  cases h
  have hts := hX.2.2.2.2.1
  have h1 := hX.2.2.2.2.2.2.2.2.2.1
  have h2 := hX.2.2.2.2.2.2.2.2.2.2
  have h3 := kcat_le (B := g.2.2.1) hst
  have hsT : l.stackTraces = false := by unfold Launch.stackTraces; rw [hf]; decide
  have hO := hX.2.2.2.2.2.2.2.1
  refine vx_throwS hX.1 hX.2.1 hsT (own := RX11) (cls := "java/lang/IndexOutOfBoundsException") (text := t) (names := ["java/lang/RuntimeException", "java/lang/Exception"]) (sa := g.2.2.2.1 i) (A := kZ g.2.2.1) hX.2.2.2.1 (by decide) (by decide) (hts _ kcl1_in) (hts _ kci1_in) (hX.2.2.2.2.2.2.2.2.1.2.2.1 i _ hi) (kat1 hts hX.2.2.2.2.2.2.2.2.1.2.2.2.2) ?_ hO.2.2.1 hO.2.2.2.1 hS (by rw [hX.2.2.1]; exact hl.1) d0 d3 d4 d6 d9 (fun z hz => by rw [hh] at hz; cases hz) (by show 2 + 3 < R.frames; omega) (by show _ + (13 * (2 + 1) + 43) ≤ R.locals; omega) hRc hRs hX.2.2.2.2.2.1 (fun t9 hvm hz hq => ?_) hS.2.2 hc hs
  · intro w hw
    unfold vx_ot
    rw [Bool.or_eq_true]
    rcases List.mem_cons.mp hw with rfl | hw
    · exact Or.inl rfl
    · rcases List.mem_cons.mp hw with rfl | hw
      · exact Or.inl rfl
      · have h6 := List.all_eq_true.mp kat1_o w hw
        unfold vx_ot at h6
        rwa [Bool.or_eq_true] at h6
  · refine ⟨1, rfl, rfl, fun j q9 hj => (hH j q9 hj).kept (hq _ (hH j q9 hj).lt), Nat.le_trans hS.1 hz, fun q h8 h7 => ?_⟩
    rw [hq q (Nat.lt_of_lt_of_le h8 hS.1)]
    exact hS.2.1 q h8 h7
theorem g_throw2 {α : Type} {tv : α → Option Value} {i is mc ms : Nat} {t : String} (hX : Cok (p, l, e, R, s, m, args, below, meth, c, cc, nL, RX11, g, dep)) (hf : l.flags = flags0) (hh : c.exceptionTable.toList = []) (hi : kStrs[i]? = some (RX11, is, t)) (d0 : decode cc pc = .ok (.new 400, 3)) (d3 : decode cc (pc + 3) = .ok (.dup, 1)) (d4 : decode cc (pc + 4) = .ok (.ldc is, 2)) (d6 : decode cc (pc + 6) = .ok (.invokespecial 404, 3)) (d9 : decode cc (pc + 9) = .ok (.athrow, 1)) (hRc : k + 1 ≤ R.cells) (hRs : n + 6 ≤ R.slots) (hc : k + 1 ≤ mc) (hs : n + 6 ≤ ms) (hst : (st.map (fun v => v.category)).sum ≤ 8) (hdp : 3 ≤ dep) : GG (p, l, e, R, s, m, args, below, meth, c, cc, nL, RX11, g, dep) (fun b => vx_MQ below (kQX g (kfin tv b)) (kXX g (kfin tv b)) args s mc ms (kZ g.2.2.1)) k n (some (.inr 2, M)) pc lv st M := fun b h H locs ls hH hS hl => by
  cases h
  have hts := hX.2.2.2.2.1
  have h1 := hX.2.2.2.2.2.2.2.2.2.1
  have h2 := hX.2.2.2.2.2.2.2.2.2.2
  have h3 := kcat_le (B := g.2.2.1) hst
  have hsT : l.stackTraces = false := by unfold Launch.stackTraces; rw [hf]; decide
  have hO := hX.2.2.2.2.2.2.2.1
  refine vx_throwS hX.1 hX.2.1 hsT (own := RX11) (cls := "java/lang/IllegalArgumentException") (text := t) (names := ["java/lang/RuntimeException", "java/lang/Exception"]) (sa := g.2.2.2.1 i) (A := kZ g.2.2.1) hX.2.2.2.1 (by decide) (by decide) (hts _ kcl2_in) (hts _ kci2_in) (hX.2.2.2.2.2.2.2.2.1.2.2.1 i _ hi) (kat2 hts hX.2.2.2.2.2.2.2.2.1.2.2.2.2) ?_ hO.2.2.1 hO.2.2.2.1 hS (by rw [hX.2.2.1]; exact hl.1) d0 d3 d4 d6 d9 (fun z hz => by rw [hh] at hz; cases hz) (by show 2 + 3 < R.frames; omega) (by show _ + (13 * (2 + 1) + 43) ≤ R.locals; omega) hRc hRs hX.2.2.2.2.2.1 (fun t9 hvm hz hq => ?_) hS.2.2 hc hs
  · intro w hw
    unfold vx_ot
    rw [Bool.or_eq_true]
    rcases List.mem_cons.mp hw with rfl | hw
    · exact Or.inl rfl
    · rcases List.mem_cons.mp hw with rfl | hw
      · exact Or.inl rfl
      · have h6 := List.all_eq_true.mp kat2_o w hw
        unfold vx_ot at h6
        rwa [Bool.or_eq_true] at h6
  · refine ⟨2, rfl, rfl, fun j q9 hj => (hH j q9 hj).kept (hq _ (hH j q9 hj).lt), Nat.le_trans hS.1 hz, fun q h8 h7 => ?_⟩
    rw [hq q (Nat.lt_of_lt_of_le h8 hS.1)]
    exact hS.2.1 q h8 h7
theorem g_throw3 {α : Type} {tv : α → Option Value} {i is mc ms : Nat} {t : String} (hX : Cok (p, l, e, R, s, m, args, below, meth, c, cc, nL, RX11, g, dep)) (hf : l.flags = flags0) (hh : c.exceptionTable.toList = []) (hi : kStrs[i]? = some (RX11, is, t)) (d0 : decode cc pc = .ok (.new 81, 3)) (d3 : decode cc (pc + 3) = .ok (.dup, 1)) (d4 : decode cc (pc + 4) = .ok (.ldc is, 2)) (d6 : decode cc (pc + 6) = .ok (.invokespecial 85, 3)) (d9 : decode cc (pc + 9) = .ok (.athrow, 1)) (hRc : k + 1 ≤ R.cells) (hRs : n + 6 ≤ R.slots) (hc : k + 1 ≤ mc) (hs : n + 6 ≤ ms) (hst : (st.map (fun v => v.category)).sum ≤ 8) (hdp : 3 ≤ dep) : GG (p, l, e, R, s, m, args, below, meth, c, cc, nL, RX11, g, dep) (fun b => vx_MQ below (kQX g (kfin tv b)) (kXX g (kfin tv b)) args s mc ms (kZ g.2.2.1)) k n (some (.inr 3, M)) pc lv st M := fun b h H locs ls hH hS hl => by
  cases h
  have hts := hX.2.2.2.2.1
  have h1 := hX.2.2.2.2.2.2.2.2.2.1
  have h2 := hX.2.2.2.2.2.2.2.2.2.2
  have h3 := kcat_le (B := g.2.2.1) hst
  have hsT : l.stackTraces = false := by unfold Launch.stackTraces; rw [hf]; decide
  have hO := hX.2.2.2.2.2.2.2.1
  refine vx_throwS hX.1 hX.2.1 hsT (own := RX11) (cls := "java/lang/IllegalStateException") (text := t) (names := ["java/lang/RuntimeException", "java/lang/Exception"]) (sa := g.2.2.2.1 i) (A := kZ g.2.2.1) hX.2.2.2.1 (by decide) (by decide) (hts _ kcl3_in) (hts _ kci3_in) (hX.2.2.2.2.2.2.2.2.1.2.2.1 i _ hi) (kat3 hts hX.2.2.2.2.2.2.2.2.1.2.2.2.2) ?_ hO.2.2.1 hO.2.2.2.1 hS (by rw [hX.2.2.1]; exact hl.1) d0 d3 d4 d6 d9 (fun z hz => by rw [hh] at hz; cases hz) (by show 2 + 3 < R.frames; omega) (by show _ + (13 * (2 + 1) + 43) ≤ R.locals; omega) hRc hRs hX.2.2.2.2.2.1 (fun t9 hvm hz hq => ?_) hS.2.2 hc hs
  · intro w hw
    unfold vx_ot
    rw [Bool.or_eq_true]
    rcases List.mem_cons.mp hw with rfl | hw
    · exact Or.inl rfl
    · rcases List.mem_cons.mp hw with rfl | hw
      · exact Or.inl rfl
      · have h6 := List.all_eq_true.mp kat3_o w hw
        unfold vx_ot at h6
        rwa [Bool.or_eq_true] at h6
  · refine ⟨3, rfl, rfl, fun j q9 hj => (hH j q9 hj).kept (hq _ (hH j q9 hj).lt), Nat.le_trans hS.1 hz, fun q h8 h7 => ?_⟩
    rw [hq q (Nat.lt_of_lt_of_le h8 hS.1)]
    exact hS.2.1 q h8 h7
theorem g_throwW1 {α : Type} {tv : α → Option Value} {i is mc ms : Nat} {t : String} (hX : Cok (p, l, e, R, s, m, args, below, meth, c, cc, nL, RX11, g, dep)) (hf : l.flags = flags0) (hh : c.exceptionTable.toList = []) (hi : kStrs[i]? = some (RX11, is, t)) (d0 : decode cc pc = .ok (.new 386, 3)) (d3 : decode cc (pc + 3) = .ok (.dup, 1)) (d4 : decode cc (pc + 4) = .ok (.ldc_w is, 3)) (d6 : decode cc (pc + 7) = .ok (.invokespecial 390, 3)) (d9 : decode cc (pc + 10) = .ok (.athrow, 1)) (hRc : k + 1 ≤ R.cells) (hRs : n + 6 ≤ R.slots) (hc : k + 1 ≤ mc) (hs : n + 6 ≤ ms) (hst : (st.map (fun v => v.category)).sum ≤ 8) (hdp : 3 ≤ dep) : GG (p, l, e, R, s, m, args, below, meth, c, cc, nL, RX11, g, dep) (fun b => vx_MQ below (kQX g (kfin tv b)) (kXX g (kfin tv b)) args s mc ms (kZ g.2.2.1)) k n (some (.inr 1, M)) pc lv st M := fun b h H locs ls hH hS hl => by
  cases h
  have hts := hX.2.2.2.2.1
  have h1 := hX.2.2.2.2.2.2.2.2.2.1
  have h2 := hX.2.2.2.2.2.2.2.2.2.2
  have h3 := kcat_le (B := g.2.2.1) hst
  have hsT : l.stackTraces = false := by unfold Launch.stackTraces; rw [hf]; decide
  have hO := hX.2.2.2.2.2.2.2.1
  refine vx_throwSW hX.1 hX.2.1 hsT (own := RX11) (cls := "java/lang/IndexOutOfBoundsException") (text := t) (names := ["java/lang/RuntimeException", "java/lang/Exception"]) (sa := g.2.2.2.1 i) (A := kZ g.2.2.1) hX.2.2.2.1 (by decide) (by decide) (hts _ kcl1_in) (hts _ kci1_in) (hX.2.2.2.2.2.2.2.2.1.2.2.1 i _ hi) (kat1 hts hX.2.2.2.2.2.2.2.2.1.2.2.2.2) ?_ hO.2.2.1 hO.2.2.2.1 hS (by rw [hX.2.2.1]; exact hl.1) d0 d3 d4 d6 d9 (fun z hz => by rw [hh] at hz; cases hz) (by show 2 + 3 < R.frames; omega) (by show _ + (13 * (2 + 1) + 43) ≤ R.locals; omega) hRc hRs hX.2.2.2.2.2.1 (fun t9 hvm hz hq => ?_) hS.2.2 hc hs
  · intro w hw
    unfold vx_ot
    rw [Bool.or_eq_true]
    rcases List.mem_cons.mp hw with rfl | hw
    · exact Or.inl rfl
    · rcases List.mem_cons.mp hw with rfl | hw
      · exact Or.inl rfl
      · have h6 := List.all_eq_true.mp kat1_o w hw
        unfold vx_ot at h6
        rwa [Bool.or_eq_true] at h6
  · refine ⟨1, rfl, rfl, fun j q9 hj => (hH j q9 hj).kept (hq _ (hH j q9 hj).lt), Nat.le_trans hS.1 hz, fun q h8 h7 => ?_⟩
    rw [hq q (Nat.lt_of_lt_of_le h8 hS.1)]
    exact hS.2.1 q h8 h7
theorem g_throwW2 {α : Type} {tv : α → Option Value} {i is mc ms : Nat} {t : String} (hX : Cok (p, l, e, R, s, m, args, below, meth, c, cc, nL, RX11, g, dep)) (hf : l.flags = flags0) (hh : c.exceptionTable.toList = []) (hi : kStrs[i]? = some (RX11, is, t)) (d0 : decode cc pc = .ok (.new 400, 3)) (d3 : decode cc (pc + 3) = .ok (.dup, 1)) (d4 : decode cc (pc + 4) = .ok (.ldc_w is, 3)) (d6 : decode cc (pc + 7) = .ok (.invokespecial 404, 3)) (d9 : decode cc (pc + 10) = .ok (.athrow, 1)) (hRc : k + 1 ≤ R.cells) (hRs : n + 6 ≤ R.slots) (hc : k + 1 ≤ mc) (hs : n + 6 ≤ ms) (hst : (st.map (fun v => v.category)).sum ≤ 8) (hdp : 3 ≤ dep) : GG (p, l, e, R, s, m, args, below, meth, c, cc, nL, RX11, g, dep) (fun b => vx_MQ below (kQX g (kfin tv b)) (kXX g (kfin tv b)) args s mc ms (kZ g.2.2.1)) k n (some (.inr 2, M)) pc lv st M := fun b h H locs ls hH hS hl => by
  cases h
  have hts := hX.2.2.2.2.1
  have h1 := hX.2.2.2.2.2.2.2.2.2.1
  have h2 := hX.2.2.2.2.2.2.2.2.2.2
  have h3 := kcat_le (B := g.2.2.1) hst
  have hsT : l.stackTraces = false := by unfold Launch.stackTraces; rw [hf]; decide
  have hO := hX.2.2.2.2.2.2.2.1
  refine vx_throwSW hX.1 hX.2.1 hsT (own := RX11) (cls := "java/lang/IllegalArgumentException") (text := t) (names := ["java/lang/RuntimeException", "java/lang/Exception"]) (sa := g.2.2.2.1 i) (A := kZ g.2.2.1) hX.2.2.2.1 (by decide) (by decide) (hts _ kcl2_in) (hts _ kci2_in) (hX.2.2.2.2.2.2.2.2.1.2.2.1 i _ hi) (kat2 hts hX.2.2.2.2.2.2.2.2.1.2.2.2.2) ?_ hO.2.2.1 hO.2.2.2.1 hS (by rw [hX.2.2.1]; exact hl.1) d0 d3 d4 d6 d9 (fun z hz => by rw [hh] at hz; cases hz) (by show 2 + 3 < R.frames; omega) (by show _ + (13 * (2 + 1) + 43) ≤ R.locals; omega) hRc hRs hX.2.2.2.2.2.1 (fun t9 hvm hz hq => ?_) hS.2.2 hc hs
  · intro w hw
    unfold vx_ot
    rw [Bool.or_eq_true]
    rcases List.mem_cons.mp hw with rfl | hw
    · exact Or.inl rfl
    · rcases List.mem_cons.mp hw with rfl | hw
      · exact Or.inl rfl
      · have h6 := List.all_eq_true.mp kat2_o w hw
        unfold vx_ot at h6
        rwa [Bool.or_eq_true] at h6
  · refine ⟨2, rfl, rfl, fun j q9 hj => (hH j q9 hj).kept (hq _ (hH j q9 hj).lt), Nat.le_trans hS.1 hz, fun q h8 h7 => ?_⟩
    rw [hq q (Nat.lt_of_lt_of_le h8 hS.1)]
    exact hS.2.1 q h8 h7
theorem g_throwW3 {α : Type} {tv : α → Option Value} {i is mc ms : Nat} {t : String} (hX : Cok (p, l, e, R, s, m, args, below, meth, c, cc, nL, RX11, g, dep)) (hf : l.flags = flags0) (hh : c.exceptionTable.toList = []) (hi : kStrs[i]? = some (RX11, is, t)) (d0 : decode cc pc = .ok (.new 81, 3)) (d3 : decode cc (pc + 3) = .ok (.dup, 1)) (d4 : decode cc (pc + 4) = .ok (.ldc_w is, 3)) (d6 : decode cc (pc + 7) = .ok (.invokespecial 85, 3)) (d9 : decode cc (pc + 10) = .ok (.athrow, 1)) (hRc : k + 1 ≤ R.cells) (hRs : n + 6 ≤ R.slots) (hc : k + 1 ≤ mc) (hs : n + 6 ≤ ms) (hst : (st.map (fun v => v.category)).sum ≤ 8) (hdp : 3 ≤ dep) : GG (p, l, e, R, s, m, args, below, meth, c, cc, nL, RX11, g, dep) (fun b => vx_MQ below (kQX g (kfin tv b)) (kXX g (kfin tv b)) args s mc ms (kZ g.2.2.1)) k n (some (.inr 3, M)) pc lv st M := fun b h H locs ls hH hS hl => by
  cases h
  have hts := hX.2.2.2.2.1
  have h1 := hX.2.2.2.2.2.2.2.2.2.1
  have h2 := hX.2.2.2.2.2.2.2.2.2.2
  have h3 := kcat_le (B := g.2.2.1) hst
  have hsT : l.stackTraces = false := by unfold Launch.stackTraces; rw [hf]; decide
  have hO := hX.2.2.2.2.2.2.2.1
  refine vx_throwSW hX.1 hX.2.1 hsT (own := RX11) (cls := "java/lang/IllegalStateException") (text := t) (names := ["java/lang/RuntimeException", "java/lang/Exception"]) (sa := g.2.2.2.1 i) (A := kZ g.2.2.1) hX.2.2.2.1 (by decide) (by decide) (hts _ kcl3_in) (hts _ kci3_in) (hX.2.2.2.2.2.2.2.2.1.2.2.1 i _ hi) (kat3 hts hX.2.2.2.2.2.2.2.2.1.2.2.2.2) ?_ hO.2.2.1 hO.2.2.2.1 hS (by rw [hX.2.2.1]; exact hl.1) d0 d3 d4 d6 d9 (fun z hz => by rw [hh] at hz; cases hz) (by show 2 + 3 < R.frames; omega) (by show _ + (13 * (2 + 1) + 43) ≤ R.locals; omega) hRc hRs hX.2.2.2.2.2.1 (fun t9 hvm hz hq => ?_) hS.2.2 hc hs
  · intro w hw
    unfold vx_ot
    rw [Bool.or_eq_true]
    rcases List.mem_cons.mp hw with rfl | hw
    · exact Or.inl rfl
    · rcases List.mem_cons.mp hw with rfl | hw
      · exact Or.inl rfl
      · have h6 := List.all_eq_true.mp kat3_o w hw
        unfold vx_ot at h6
        rwa [Bool.or_eq_true] at h6
  · refine ⟨3, rfl, rfl, fun j q9 hj => (hH j q9 hj).kept (hq _ (hH j q9 hj).lt), Nat.le_trans hS.1 hz, fun q h8 h7 => ?_⟩
    rw [hq q (Nat.lt_of_lt_of_le h8 hS.1)]
    exact hS.2.1 q h8 h7
end kCallsX
theorem k_ofX {α : Type} {l : Launch} {g : kG} {y : MethodName} {bc : ByteArray} {nL : Nat} {ret : Option FieldType} {dep mc ms : Nat} {av : List Value} {M : kMem} {tv : α → Option Value} {o : Option ((α ⊕ Nat) × kMem)} {lv : List (Nat × Value)} (own : String) (hy : plainName y.cls = true) (hown : y.cls = own) (h1 : lv_args 0 av = lv) (h2 : (lg_sl av).length ≤ nL)
    (body : ∀ (p : Program) (e : Env) (s : State) (m : MethodId) (args : Array Value) (below : List Frame) (meth : Method) (c : Code), Cok (p, l, e, { frames := 2 * dep, cells := mc, slots := ms, locals := 60 * dep }, s, m, args, below, meth, c, bc, nL, own, g, dep) → meth.sig.returnType = ret → c.exceptionTable.toList = [] →
      GG (p, l, e, { frames := 2 * dep, cells := mc, slots := ms, locals := 60 * dep }, s, m, args, below, meth, c, bc, nL, own, g, dep) (fun b => vx_MQ below (kQX g (kfin tv b)) (kXX g (kfin tv b)) args s mc ms (kZ g.2.2.1)) 0 0 o 0 lv [] M) : kMetX l g y bc nL ret dep mc ms av M (kfin tv) o := by
  intro b hb
  refine vx_ofW (cc := bc) (maxL := nL) (ret := ret) hy rfl ?_
  intro p e s m args below meth c s₁ B hml ht hv
  obtain ⟨rfl, hH, hO, hT⟩ := hv
  have hts := atoms_spec (ws := .code y bc nL ret :: WT) B.pre
  have hX : Cok (p, l, e, { frames := 2 * dep, cells := mc, slots := ms, locals := 60 * dep }, s, m, (av.map (kT g.2.2.1)).toArray, below, meth, c, bc, nL, own, g, dep) := by
    refine ⟨B.exec, B.bytes, hml, ?_, fun w hw => hts w (List.mem_cons_of_mem _ hw), B.notSynchronized, ?_, hO, hT, Nat.le_refl _, Nat.le_refl _⟩
    · rw [← hown]; exact findClass_of_methodNamed B.named
    · exact hH.2
  have hl := lv_entry (av.map (kT g.2.2.1)) (n := nL) (by rw [kT_len]; exact h2)
  rw [kT_args, h1] at hl
  rw [lg_entry_eq]
  have hh : c.exceptionTable.toList = [] := List.eq_nil_iff_forall_not_mem.mpr ht
  exact body p e s m _ below meth c hX B.returns hh b hb s.heap [] _ hH.1 va_S.rf hl
