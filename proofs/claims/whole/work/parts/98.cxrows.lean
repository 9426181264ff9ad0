/-! rows of the law's body -/
def kLkH (y : MethodName) (bc : ByteArray) (nLc : Nat) (hh : List (Nat × Nat × Nat × Nat)) (nA : Nat) : Prop := Cond.codeWith y bc nLc (some .int) hh ∈ WT ∧ Cond.static y ∈ WT ∧ Cond.initialized y.cls ∈ WT ∧ (y.cls ≠ "java/lang/invoke/MethodHandle" ∧ y.cls ≠ "java/lang/invoke/VarHandle" ∧ (parseMethodDescriptor y.desc).map (fun d => d.parameters.length) = some nA) ∧ nLc ≤ 41
section kRowsB
variable {β : Type} {p : Program} {l : Launch} {e : Env} {R : Room} {s : State} {m : MethodId} {args : Array Value} {below : List Frame} {meth : Method} {c : Code} {cc : ByteArray} {nL : Nat} {own : String} {g : kG} {dep : Nat} {Q : β → State → Prop} {k n : Nat} {o : Option β} {pc : Nat} {lv : List (Nat × Value)} {st : List Value} {M : kMem}
theorem g_callSH (q : Nat) {y : MethodName} {bc : ByteArray} {nLc nA depc index mc ms : Nat} {hh : List (Nat × Nat × Nat × Nat)} {As rest : List Value} {o1 : Option (Int32 × kMem)} {f : Int32 × kMem → Option β}
    (hX : Cok (p, l, e, R, s, m, args, below, meth, c, cc, nL, own, g, dep)) (hN : kNc s) (hM : kMetH l g y bc nLc (some .int) hh depc mc ms As M (fun r : Int32 × kMem => (some (.int r.1), r.2)) o1) (hk : kLkH y bc nLc hh nA) (wl : Cond.methodLink own index y ∈ WT) (hdep : depc + 1 ≤ dep) (hlen : As.length = nA) (hrest : (rest.map (fun v => v.category)).sum ≤ 8) (hRc : k + mc ≤ R.cells) (hRs : n + ms ≤ R.slots)
    (d : decode cc pc = .ok (.invokestatic index, 3)) (e9 : pc + 3 = q) (kk : ∀ r : Int32 × kMem, GG (p, l, e, R, s, m, args, below, meth, c, cc, nL, own, g, dep) Q (k + mc) (n + ms) (f r) q lv (.int r.1 :: rest) r.2) : GG (p, l, e, R, s, m, args, below, meth, c, cc, nL, own, g, dep) Q k n (o1.bind f) pc lv (As.reverse ++ rest) M := fun b h H locs ls hH hS hl => by
  subst e9
  obtain ⟨b1, h1, h2⟩ := Option.bind_eq_some_iff.mp h
  have hMb := hM b1 h1
  simp only [List.map_append, List.map_reverse] at hMb ⊢
  have hts := hX.2.2.2.2.1
  have hR1 := hX.2.2.2.2.2.2.2.2.2.1
  have hR2 := hX.2.2.2.2.2.2.2.2.2.2
  have cw : vx_CSW R s args own index y bc nLc (some .int) hh (.codeWith y bc nLc (some .int) hh :: WT) { frames := 2 * depc, cells := mc, slots := ms, locals := 60 * depc } mc ms nA :=
    ⟨⟨rfl, rfl, by show 2 * depc + 1 ≤ R.frames; omega, by have := hk.2.2.2.2; show 8 + (nLc + 11) + 60 * depc ≤ R.locals; omega, pay_in hts (kgood fun w hw => (List.mem_cons.mp hw).elim (fun e => by rw [e]; exact hk.1) id), List.mem_cons_self⟩, hts _ hk.1, hts _ hk.2.2.1, ⟨hk.2.2.2.1.1, hk.2.2.2.1.2.1⟩, fun sig h => by
      have h2 := hk.2.2.2.1.2.2
      rw [h] at h2
      exact (Option.some.inj h2).symm, hts _ wl, hts _ hk.2.1⟩
  refine k_after (r := (some (.int b1.1), b1.2)) (vx_runSW (Ts := WT) (own := own) (nL := nL) (As := As.map (kT g.2.2.1)) ⟨hX.1, hX.2.1, hX.2.2.1, hX.2.2.2.1, hts⟩ hMb cw ⟨kPH_blind _ g M, fun U hU hW => ⟨rfl, kP_at hX hH hS U hU hW, hN.moved hW.alike⟩⟩ rfl (by rw [List.length_map]; exact hlen) hl.1 rfl (lv_room (kcat_le hrest)) d ⟨hRc, hRs⟩) hS (fun H1 locs1 hH1 hS1 => ?_)
  exact kk b1 b h2 H1 locs1 ls hH1 hS1 hl
theorem g_sld (q : Nat) (hX : Cok (p, l, e, R, s, m, args, below, meth, c, cc, nL, own, g, dep)) {b Ls : Nat} {xs : Nat → Int32} (hSc : va_X b Ls xs s s.heap) (hbl : b < s.heap.size) (hbB : s.heap.size = g.2.2.1 + 1) {i : Int32} (d : decode cc pc = .ok (.iaload, 1)) (e9 : pc + 1 = q) (kk : GG (p, l, e, R, s, m, args, below, meth, c, cc, nL, own, g, dep) Q k n o q lv (.int (xs (kx i)) :: st) M) : GG (p, l, e, R, s, m, args, below, meth, c, cc, nL, own, g, dep) Q k n (kg (decide (0 ≤ i) && decide (i.toNatClampNeg < Ls)) o) pc lv (.int i :: .retAddr b :: st) M := fun b2 h H locs ls hH hS hl => by
  subst e9
  obtain ⟨hb, h9⟩ := kg_some h
  rw [Bool.and_eq_true] at hb
  have h1 := of_decide_eq_true hb.1
  have h2 := of_decide_eq_true hb.2
  refine va_sld hX.1 hX.2.1 hSc hbl (fun h8 : g.2.2.1 + 1 ≤ b => by omega) hS (fun h8 => h8.elim (fun h7 => absurd h1 (by rw [Int32.not_le]; exact h7)) (fun h7 => by omega)) d ?_
  exact kk b2 h9 H locs ls hH hS hl
theorem g_sclen (q : Nat) (hX : Cok (p, l, e, R, s, m, args, below, meth, c, cc, nL, own, g, dep)) {b Ls : Nat} {xs : Nat → Int32} (hSc : va_X b Ls xs s s.heap) (hbl : b < s.heap.size) (hbB : s.heap.size = g.2.2.1 + 1) (d : decode cc pc = .ok (.arraylength, 1)) (e9 : pc + 1 = q) (kk : GG (p, l, e, R, s, m, args, below, meth, c, cc, nL, own, g, dep) Q k n o q lv (.int (Int32.ofNat Ls) :: st) M) : GG (p, l, e, R, s, m, args, below, meth, c, cc, nL, own, g, dep) Q k n o pc lv (.retAddr b :: st) M := fun b2 h H locs ls hH hS hl => by
  subst e9
  refine va_slen hX.1 hX.2.1 hSc hbl (fun h8 : g.2.2.1 + 1 ≤ b => by omega) hS d ?_
  exact kk b2 h H locs ls hH hS hl
end kRowsB
/-- the law's end -/
theorem g_lawend {p : Program} {l : Launch} {e : Env} {s : State} {m : MethodId} {below : List Frame} {meth : Method} {c : Code} {g : kG} {dep b k n pc : Nat} {lv : List (Nat × Value)} {st : List Value} {M : kMem} (hX : Cok (p, l, e, room_1, s, m, #[Value.ref b], below, meth, c, cL_law, 9, RL, g, dep)) (hr : meth.sig.returnType = ret) (hbB : s.heap.size = g.2.2.1 + 1) (hk : k ≤ 601024) (hn : n ≤ 7293034) (d : decode cL_law pc = .ok (.ireturn, 1)) :
    GG (p, l, e, room_1, s, m, #[Value.ref b], below, meth, c, cL_law, 9, RL, g, dep) (fun _ : Unit => lw_Z below #[Value.ref b] s) k n (some ()) pc lv [.int 1] M := fun b2 h H locs ls hH hS hl => by
  refine W.widen hk hn ?_
  refine va_forget (fun q hq => ?_) ?_
  · rw [hbB]; exact hS.2.2 q hq
  refine W.base ?_
  exact lw_ret (Drawn.sameBut.refl s.drawn lw_cs) hX.1 hX.2.1 hr hX.2.2.2.2.2.1 d
