/-! rows for the law: catching, the script, its calls, its end -/
/-- which exceptions a catch clause of another class lets pass -/
def kNc (U : State) : Prop := va_Nc "java/lang/IllegalArgumentException" "java/lang/IndexOutOfBoundsException" U ∧ va_Nc "java/lang/IllegalStateException" "java/lang/IndexOutOfBoundsException" U ∧ va_Nc "java/lang/IllegalStateException" "java/lang/IllegalArgumentException" U
theorem kNc.moved {u U : State} (hv : u.vm.Alike U.vm) (h : kNc u) : kNc U := ⟨va_Nc.moved hv h.1, va_Nc.moved hv h.2.1, va_Nc.moved hv h.2.2⟩
def kPH (g : kG) (M : kMem) (U : State) : Prop := kP g M U ∧ kNc U
theorem kPH_blind (av : List Value) (g : kG) (M : kMem) : FrameBlind (va_Pc av (kPH g M)) := fun a U gf mk q => ⟨q.1, kP_same rfl rfl q.2.1, q.2.2⟩
/-- the contract of a helper of the law, which has a table of its own -/
def kMetH {β : Type} (l : Launch) (g : kG) (y : MethodName) (bc : ByteArray) (nL : Nat) (ret : Option FieldType) (hh : List (Nat × Nat × Nat × Nat)) (dep mc ms : Nat) (av : List Value) (M : kMem) (fin : β → Option Value × kMem) (o : Option β) : Prop :=
  ∀ b : β, o = some b → Met l y (.codeWith y bc nL ret hh :: WT) { frames := 2 * dep, cells := mc, slots := ms, locals := 60 * dep } (va_Pc (av.map (kT g.2.2.1)) (kPH g M)) (kQ g (fin b)) mc ms (kZ g.2.2.1)
theorem k_ofH {β : Type} {l : Launch} {g : kG} {y : MethodName} {bc : ByteArray} {nL : Nat} {ret : Option FieldType} {hh : List (Nat × Nat × Nat × Nat)} {dep mc ms : Nat} {av : List Value} {M : kMem} {fin : β → Option Value × kMem} {o : Option β} {lv : List (Nat × Value)} (own : String) (hy : plainName y.cls = true) (hown : y.cls = own) (h1 : lv_args 0 av = lv) (h2 : (lg_sl av).length ≤ nL)
    (body : ∀ (p : Program) (e : Env) (s : State) (m : MethodId) (args : Array Value) (below : List Frame) (meth : Method) (c : Code), Cok (p, l, e, { frames := 2 * dep, cells := mc, slots := ms, locals := 60 * dep }, s, m, args, below, meth, c, bc, nL, own, g, dep) → meth.sig.returnType = ret → c.exceptionTable.toList = tableOf hh → kNc s →
      GG (p, l, e, { frames := 2 * dep, cells := mc, slots := ms, locals := 60 * dep }, s, m, args, below, meth, c, bc, nL, own, g, dep) (fun b => MQ below (kQ g (fin b)) args s mc ms (kZ g.2.2.1)) 0 0 o 0 lv [] M) : kMetH l g y bc nL ret hh dep mc ms av M fin o := by
  intro b hb
  refine va_MetW (cc := bc) (maxL := nL) (ret := ret) (hh := hh) hy rfl ?_
  intro p e s m args below meth c s₁ B hml hv
  obtain ⟨rfl, ⟨hH, hO, hT⟩, hN⟩ := hv
  have hts := atoms_spec (ws := .codeWith y bc nL ret hh :: WT) B.pre
  have hX : Cok (p, l, e, { frames := 2 * dep, cells := mc, slots := ms, locals := 60 * dep }, s, m, (av.map (kT g.2.2.1)).toArray, below, meth, c, bc, nL, own, g, dep) := by
    refine ⟨B.exec, B.bytes, hml, ?_, fun w hw => hts w (List.mem_cons_of_mem _ hw), B.notSynchronized, ?_, hO, hT, Nat.le_refl _, Nat.le_refl _⟩
    · rw [← hown]; exact findClass_of_methodNamed B.named
    · exact hH.2
  have hl := lv_entry (av.map (kT g.2.2.1)) (n := nL) (by rw [kT_len]; exact h2)
  rw [kT_args, h1] at hl
  rw [lg_entry_eq]
  exact body p e s m _ below meth c hX B.returns (vx_table (x := y) B (hts _ List.mem_cons_self)) hN b hb s.heap [] _ hH.1 va_S.rf hl
/-- where a walk stands with an exception of number x thrown at its pc -/
def GX {β : Type} (X : kX) (Q : β → State → Prop) (k n : Nat) (o : Option β) (x pc : Nat) (lv : List (Nat × Value)) (rest : List Value) (M : kMem) : Prop := match X with
  | (p, l, e, R, s, m, args, below, meth, c, cc, nL, own, g, dep) => ∀ b : β, o = some b → ∀ (H : Heap) (locs : List Loc) (ls : Array Slot) (ce : Cell) (q9 : Addr), kHd g.1 g.2.1 g.2.2.1 M H → va_S (kZ g.2.2.1) s.heap H locs → lv_has ls nL (lv.map (kTq g.2.2.1)) → H[q9]? = some ce → ce.vm = .none → s.vm.findClass (kEx x) = some ce.cls → vx_W p l e R s m args below meth c H locs k n (Q b) (F0 m pc ls (rest.map (kT g.2.2.1))) q9
/-- go on behind a call, or at what it threw -/
def kbc {α β : Type} (o : Option ((α ⊕ Nat) × kMem)) (f : α → kMem → Option β) (fx : Nat → kMem → Option β) : Option β := match o with
  | none => none
  | some (.inl v, M) => f v M
  | some (.inr x, M) => fx x M
section kRowsL
variable {β β2 : Type} {p : Program} {l : Launch} {e : Env} {R : Room} {s : State} {m : MethodId} {args : Array Value} {below : List Frame} {meth : Method} {c : Code} {cc : ByteArray} {nL : Nat} {own : String} {g : kG} {dep : Nat} {Q : β → State → Prop} {k n : Nat} {o : Option β} {pc : Nat} {lv : List (Nat × Value)} {st : List Value} {M : kMem}
theorem g_callVC {α : Type} (q : Nat) {y : MethodName} {bc : ByteArray} {nLc nA depc index a ci mc ms : Nat} {ret : Option FieldType} {C : String} {T : u_T} {N : Nat} {As rest : List Value} {tv : α → Option Value} {o1 : Option ((α ⊕ Nat) × kMem)} {f : α → kMem → Option β} {fx : Nat → kMem → Option β}
    (hX : Cok (p, l, e, R, s, m, args, below, meth, c, cc, nL, own, g, dep)) (hM : kMetX l g y bc nLc ret depc mc ms (.ref a :: As) M (kfin tv) o1) (hk : kLk y bc nLc ret nA) (hy : y.cls = C) (hc : vwCl[kci ci]? = some (C, T, N)) (h13 : ci < 13) (wl : Cond.methodLink own index y ∈ WT) (ws : Cond.selects C y y ∈ WT) (hdep : depc + 1 ≤ dep) (hlen : As.length = nA) (hrest : (rest.map (fun v => v.category)).sum ≤ 8) (hRc : k + mc ≤ R.cells) (hRs : n + ms ≤ R.slots)
    (d : decode cc pc = .ok (.invokevirtual index, 3)) (e9 : pc + 3 = q) (kk : ∀ (v : α) (M1 : kMem), GG (p, l, e, R, s, m, args, below, meth, c, cc, nL, own, g, dep) Q (k + mc) (n + ms) (f v M1) q lv ((tv v).toList ++ rest) M1)
    (kx : ∀ (x : Nat) (M1 : kMem), GX (p, l, e, R, s, m, args, below, meth, c, cc, nL, own, g, dep) Q (k + mc) (n + ms) (fx x M1) x pc lv rest M1) : GG (p, l, e, R, s, m, args, below, meth, c, cc, nL, own, g, dep) Q k n (kg (kt M a ci) (kbc o1 f fx)) pc lv (As.reverse ++ .ref a :: rest) M := fun b h H locs ls hH hS hl => by
  subst e9
  obtain ⟨hb, h9⟩ := kg_some h
  obtain ⟨j0, n0, rfl, hj, -⟩ := kt_spec hb
  have hts := hX.2.2.2.2.1
  have cw : CallW R s args own C index y bc nLc ret (.code y bc nLc ret :: WT) { frames := 2 * depc, cells := mc, slots := ms, locals := 60 * depc } mc ms nA := ⟨k_callB hX hk.1 hk.2.2.1 hk.2.2.2.1 hk.2.2.2.2 hdep wl, hts _ hk.2.1, hts _ ws⟩
  cases ho : o1 with
  | none => rw [ho] at h9; cases h9
  | some r =>
    obtain ⟨r1, M1⟩ := r
    have hMb := hM _ ho
    simp only [List.map_append, List.map_reverse, List.map_cons, kT] at hMb ⊢
    rw [kr_succ] at hMb ⊢
    rw [ho] at h9
    refine kx_after (vx_runV (Ts := WT) (own := own) (nL := nL) (As := As.map (kT g.2.2.1)) (b := g.2.2.1 + 1 + j0) ⟨hX.1, hX.2.1, hX.2.2.1, hX.2.2.2.1, hts⟩ hMb cw ⟨kP_blind _ g M, va_recv hX.2.2.2.2.2.2.2.2.1.1 hH hc (kEnt_obj hj h13), fun U hU hW => ⟨rfl, kP_at hX hH hS U hU hW⟩⟩ rfl (by rw [List.length_map]; exact hlen) hl.1 rfl (lv_room (kcat_le hrest)) d ⟨hRc, hRs⟩) hS (fun x ce q9 H1 locs1 hx hH1 hS1 hce hcv hcl => ?_) (fun w H1 locs1 hw hH1 hS1 => ?_)
    · cases r1 with
      | inl v => cases hx
      | inr x9 =>
        cases hx
        exact kx _ M1 b h9 H1 locs1 ls ce q9 hH1 hS1 hl hce hcv hcl
    · cases r1 with
      | inr x9 => cases hw
      | inl v =>
        cases hw
        have kk := kk v M1 b h9 H1 locs1 ls hH1 hS1 hl
        have e9 : List.map (kT g.2.2.1) ((tv v).toList ++ rest) = ((tv v).map (kT g.2.2.1)).toList ++ List.map (kT g.2.2.1) rest := by
          rw [List.map_append]
          cases tv v <;> rfl
        rw [e9] at kk
        exact kk
theorem g_catch {x h : Nat} (pre suf : List ExceptionTableEntry) (y : ExceptionTableEntry) (hX : Cok (p, l, e, R, s, m, args, below, meth, c, cc, nL, own, g, dep)) {hh : List (Nat × Nat × Nat × Nat)} (hT : c.exceptionTable.toList = tableOf hh) (hT2 : tableOf hh = pre ++ y :: suf)
    (hpass : ∀ z ∈ pre, covers z pc = false ∨ (z.catchType ≠ 0 ∧ ∃ nm : String, Cond.classLink own z.catchType nm ∈ WT ∧ va_Nc (kEx x) nm s)) (hcov : covers y pc = true) (h0 : y.catchType ≠ 0) (hlink : Cond.classLink own y.catchType (kEx x) ∈ WT) (hcast : (Cond.castable (kEx x) (kEx x)).before args s = true) (hh9 : y.handlerPc = h)
    {rest : List Value} (kk : ∀ q9, GG (p, l, e, R, s, m, args, below, meth, c, cc, nL, own, g, dep) Q k n o h lv [.retAddr q9] M) : GX (p, l, e, R, s, m, args, below, meth, c, cc, nL, own, g, dep) Q k n o x pc lv rest M := fun b hb H locs ls ce q9 hH hS hl hce hcv hcl => by
  have hts := hX.2.2.2.2.1
  refine vx_catch hX.2.2.2.1 pre y suf (hT.trans hT2) (fun z hz => (hpass z hz).imp id (fun ⟨h1, nm, h2, h3⟩ => ⟨h1, nm, hts _ h2, h3⟩)) hcov h0 (hts _ hlink) hcast hce hcv hcl ?_
  rw [hh9]
  exact kk q9 b hb H locs ls hH hS hl
theorem g_xnone {x : Nat} {X : kX} {rest : List Value} : GX X Q k n (none : Option β) x pc lv rest M := by
  obtain ⟨p, l, e, R, s, m, args, below, meth, c, cc, nL, own, g, dep⟩ := X
  intro b hb
  cases hb
theorem g_xif (j : Nat) {X : kX} {x : Nat} {rest : List Value} {o1 o2 : Option β} (h1 : x = j → GX X Q k n o1 x pc lv rest M) (h2 : GX X Q k n o2 x pc lv rest M) : GX X Q k n (if x = j then o1 else o2) x pc lv rest M := by
  by_cases h : x = j
  · rw [if_pos h]; exact h1 h
  · rw [if_neg h]; exact h2
theorem g_widen {X : kX} {k2 n2 : Nat} (hk : k ≤ k2) (hn : n ≤ n2) (kk : GG X Q k2 n2 o pc lv st M) : GG X Q k n o pc lv st M := by
  obtain ⟨p, l, e, R, s, m, args, below, meth, c, cc, nL, own, g, dep⟩ := X
  exact fun b hb H locs ls hH hS hl => W.widen hk hn (kk b hb H locs ls hH hS hl)
theorem g_astoreS_n (q i : Nat) (lv2 : List (Nat × Value)) (hX : Cok (p, l, e, R, s, m, args, below, meth, c, cc, nL, own, g, dep)) {f : Fin 4} {x : Nat} (d : decode cc pc = .ok (.astore_n f, 1)) (e9 : pc + 1 = q) (hf : (f : Nat) = i) (hn : i < nL) (hl2 : (i, .retAddr x) :: lv.filter (fun q => !(q.1 == i) && !(q.1 + 1 == i && q.2.category == 2)) = lv2) (kk : GG (p, l, e, R, s, m, args, below, meth, c, cc, nL, own, g, dep) Q k n o q lv2 st M) : GG (p, l, e, R, s, m, args, below, meth, c, cc, nL, own, g, dep) Q k n o pc lv (.retAddr x :: st) M := fun b h H locs ls hH hS hl => by
  subst e9
  have hl2 := kM_f1 (B := g.2.2.1) hl2
  simp only [List.map_cons, kT] at hl2 ⊢
  exact lv_astore_n hX.1 hX.2.1 d hf hl hn hl2 (fun ls2 hl2 => kk b h H locs ls2 hH hS hl2)
theorem g_astoreS (q i : Nat) (lv2 : List (Nat × Value)) (hX : Cok (p, l, e, R, s, m, args, below, meth, c, cc, nL, own, g, dep)) {x : Nat} (d : decode cc pc = .ok (.astore i, 2)) (e9 : pc + 2 = q) (hn : i < nL) (hl2 : (i, .retAddr x) :: lv.filter (fun q => !(q.1 == i) && !(q.1 + 1 == i && q.2.category == 2)) = lv2) (kk : GG (p, l, e, R, s, m, args, below, meth, c, cc, nL, own, g, dep) Q k n o q lv2 st M) : GG (p, l, e, R, s, m, args, below, meth, c, cc, nL, own, g, dep) Q k n o pc lv (.retAddr x :: st) M := fun b h H locs ls hH hS hl => by
  subst e9
  have hl2 := kM_f1 (B := g.2.2.1) hl2
  simp only [List.map_cons, kT] at hl2 ⊢
  exact lv_astore hX.1 hX.2.1 d hl hn hl2 (fun ls2 hl2 => kk b h H locs ls2 hH hS hl2)
end kRowsL
