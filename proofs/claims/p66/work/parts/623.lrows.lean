/-! rows of the law's body -/
section kRowsL
variable {β β1 : Type} {p : Program} {l : Launch} {e : Env} {R : Room} {s : State} {m : MethodId} {args : Array Value} {below : List Frame} {meth : Method} {c : Code} {cc : ByteArray} {nL : Nat} {own : String} {g : kG} {dep : Nat} {Q : β → State → Prop} {k n : Nat} {o : Option β} {pc : Nat} {lv : List (Nat × Value)} {st : List Value} {M : kMem} {o1 : Option β1} {fin1 : β1 → Option Value × kMem}
/-- a static call of a method that makes cells -/
theorem g_callD (q : Nat) {y : MethodName} {bc : ByteArray} {nLc nA depc index L mc ms : Nat} {ret1 : Option FieldType} {As rest : List Value} {f : β1 → Option β} (hX : Cok (p, l, e, R, s, m, args, below, meth, c, cc, nL, own, g, dep)) (hM : kMetD l g y bc nLc ret1 depc As M fin1 o1) (hk : kLs y bc nLc ret1 nA) (wl : Cond.methodLink own index y ∈ WT) (hdep : depc + 1 ≤ dep) (hlen : As.length = nA) (hrest : (rest.map (fun v => v.category)).sum ≤ 8) (hsz : s.heap.size = g.2.2.1 + 1 + L) (hL : L ≤ M.1.length) (hRc : mc ≤ R.cells) (hRs : ms ≤ R.slots) (d : decode cc pc = .ok (.invokestatic index, 3)) (e9 : pc + 3 = q) (kk : ∀ b1, GG (p, l, e, R, s, m, args, below, meth, c, cc, nL, own, g, dep) Q ((fin1 b1).2.1.length - L) (ksl L (fin1 b1).2) (f b1) q lv ((fin1 b1).1.toList ++ rest) (fin1 b1).2) : GG (p, l, e, R, s, m, args, below, meth, c, cc, nL, own, g, dep) Q (M.1.length - L) (ksl L M) (o1.bind fun b1 => kg (kend L mc ms (fin1 b1).2) (f b1)) pc lv (As.reverse ++ rest) M := fun b h H locs ls hH hS hl => by
  subst e9
  obtain ⟨b1, h1, h2⟩ := Option.bind_eq_some_iff.mp h
  obtain ⟨hb, h2⟩ := kg_some h2
  obtain ⟨hr0, hr1, hr2⟩ := kend_spec hb
  have hp1 := hM.1 b1 h1
  have hl1 := hp1.length_le
  have hMb := hM.2 b1 h1
  refine k_size (fun hle => ?_)
  have hzz := k_exact hX hH hS hsz (by omega) hle
  have hts := hX.2.2.2.2.1
  have hR1 := hX.2.2.2.2.2.2.2.2.2.1
  have hR2 := hX.2.2.2.2.2.2.2.2.2.2
  rw [ksl_add hp1 hL] at hr2
  simp only [List.map_append, List.map_reverse] at hMb ⊢
  have cw : CallB R s args own index y bc nLc ret1 (.code y bc nLc ret1 :: WT) (DR depc M.1.length (fin1 b1).2) ((fin1 b1).2.1.length - M.1.length) (ksl M.1.length (fin1 b1).2) nA ∧ (Cond.static y).before args s = true := ⟨k_callB hX hk.1 hk.2.2.1 hk.2.2.2.1 hk.2.2.2.2 hdep wl, hts _ hk.2.1⟩
  refine k_after (r := fin1 b1) (k_runA (va_runS (Ts := WT) (own := own) (nL := nL) (As := As.map (kT g.2.2.1)) ⟨hX.1, hX.2.1, hX.2.2.1, hX.2.2.2.1, hts⟩ hMb cw ⟨kPA_blind _ g M, fun U hU hW => ⟨rfl, kP_at hX hH hS U hU hW, by rw [hU]; exact hzz⟩⟩ rfl (by rw [List.length_map]; exact hlen) hl.1 rfl (lv_room (kcat_le hrest)) d ⟨(by show (M.1.length - L) + ((fin1 b1).2.1.length - M.1.length) ≤ R.cells; omega), by omega⟩)) hS (fun H1 locs1 hH1 hS1 => ?_)
  have kk2 := kk b1 b h2 H1 locs1 ls hH1 hS1 hl
  rw [k_map9, show (fin1 b1).2.1.length - L = M.1.length - L + ((fin1 b1).2.1.length - M.1.length) by omega, ksl_add hp1 hL] at kk2
  exact kk2
theorem g_sld (q : Nat) (hX : Cok (p, l, e, R, s, m, args, below, meth, c, cc, nL, own, g, dep)) {b Ls : Nat} {xs : Nat → Int32} (hSc : va_X b Ls xs s s.heap) (hbl : b < s.heap.size) (hbB : s.heap.size = g.2.2.1 + 1) {i : Int32} (d : decode cc pc = .ok (.iaload, 1)) (e9 : pc + 1 = q) (kk : GG (p, l, e, R, s, m, args, below, meth, c, cc, nL, own, g, dep) Q k n o q lv (.int (xs (kx i)) :: st) M) : GG (p, l, e, R, s, m, args, below, meth, c, cc, nL, own, g, dep) Q k n (kg (decide (0 ≤ i) && decide (i.toNatClampNeg < Ls)) o) pc lv (.int i :: .retAddr b :: st) M := fun b2 h H locs ls hH hS hl => by
  subst e9
  obtain ⟨hb, h9⟩ := kg_some h
  rw [Bool.and_eq_true] at hb
  have h1 := of_decide_eq_true hb.1
  have h2 := of_decide_eq_true hb.2
  refine va_sld hX.1 hX.2.1 hSc hbl (fun h8 : g.2.2.1 + 1 ≤ b => by omega) hS (fun h8 => h8.elim (fun h7 => absurd h1 (by rw [Int32.not_le]; exact h7)) (fun h7 => by omega)) d ?_
  exact kk b2 h9 H locs ls hH hS hl
theorem g_sclen (q : Nat) (hX : Cok (p, l, e, R, s, m, args, below, meth, c, cc, nL, own, g, dep)) {b Ls : Nat} {xs : Nat → Int32} (hSc : va_X b Ls xs s s.heap) (hbl : b < s.heap.size) (hbB : s.heap.size = g.2.2.1 + 1) (d : decode cc pc = .ok (.arraylength, 1)) (e9 : pc + 1 = q) (kk : GG (p, l, e, R, s, m, args, below, meth, c, cc, nL, own, g, dep) Q k n o q lv (.int (Int32.ofNat Ls) :: st) M) : GG (p, l, e, R, s, m, args, below, meth, c, cc, nL, own, g, dep) Q k n o pc lv (.retAddr b :: st) M := fun b2 h H locs ls hH hS hl => by
  subst e9
  refine va_slen hX.1 hX.2.1 hSc hbl (fun h8 : g.2.2.1 + 1 ≤ b => by omega) hS d ?_
  exact kk b2 h H locs ls hH hS hl
end kRowsL
