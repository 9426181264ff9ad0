/-! the constructors as functions -/
/-! making: constructors -/
def kPA (g : kG) (M : kMem) (U : State) : Prop := kP g M U ∧ U.heap.size = g.2.2.1 + 1 + M.1.length
def kQA (g : kG) (r : Option Value × kMem) : Array Value → State → Outcome → State → Prop := fun a st o t => kQ g r a st o t ∧ t.heap.size = g.2.2.1 + 1 + r.2.1.length
def kMetA {β : Type} (l : Launch) (g : kG) (y : MethodName) (bc : ByteArray) (nL : Nat) (ret : Option FieldType) (dep mc ms : Nat) (av : List Value) (M : kMem) (fin : β → Option Value × kMem) (o : Option β) : Prop :=
  ∀ b : β, o = some b → Met l y (.code y bc nL ret :: WT) { frames := dep, cells := mc, slots := ms, locals := 60 * dep } (va_Pc (av.map (kT g.2.2.1)) (kPA g M)) (kQA g (fin b)) mc ms (kZ g.2.2.1)
theorem kPA_blind (av : List Value) (g : kG) (M : kMem) : FrameBlind (va_Pc av (kPA g M)) := fun a U gf mk q => ⟨q.1, kP_same rfl rfl q.2.1, q.2.2⟩
theorem kHd_low {aD : Nat → ClassId} {D : va_G} {B : Nat} {M : kMem} {H : Heap} (h : kHd aD D B M H) (hB : B + 1 ≤ H.size) : B + 1 + M.1.length ≤ H.size := by
  cases hl : M.1.length with
  | zero => omega
  | succ k =>
    obtain ⟨x, hx⟩ : ∃ x, M.1[k]? = some x := ⟨_, List.getElem?_eq_getElem (by omega)⟩
    have h1 := (h k _ (kWs_get hx)).lt
    rw [kEnt_fst] at h1
    omega
theorem kEnt_new {aD : Nat → ClassId} {B : Nat} {M : kMem} {t n j : Nat} (hj : j < M.1.length) (x : Nat × Nat) : kEnt aD B (kNew M t n) j x = kEnt aD B M j x :=
  kEnt_congr x (fun i => if_neg (by omega)) (fun i => if_neg (by omega)) (fun i => if_neg (by omega))
theorem kWs_new {aD : Nat → ClassId} {B : Nat} {M : kMem} {t n : Nat} : kWs aD B (kNew M t n) = kWs aD B M ++ [kEnt aD B (kNew M t n) M.1.length (t, n)] := by
  apply List.ext_getElem?
  intro j
  have hlen : (kWs aD B M).length = M.1.length := by unfold kWs; rw [List.length_mapIdx]
  have hw : (kWs aD B (kNew M t n))[j]? = ((M.1 ++ [(t, n)])[j]?).map (kEnt aD B (kNew M t n) j) := by
    unfold kWs
    rw [List.getElem?_mapIdx]
    rfl
  rw [hw]
  by_cases h1 : j < M.1.length
  · rw [List.getElem?_append_left h1, List.getElem?_append_left (by rw [hlen]; exact h1)]
    unfold kWs
    rw [List.getElem?_mapIdx]
    cases hx : M.1[j]? with
    | none => rfl
    | some x => simp [kEnt_new h1 x]
  · rw [List.getElem?_append_right (by omega), List.getElem?_append_right (by rw [hlen]; omega), hlen]
    by_cases h2 : j = M.1.length
    · subst h2
      simp
    · have h3 : j - M.1.length = (j - M.1.length - 1) + 1 := by omega
      rw [h3]
      simp
/-- a new field's value, by its kind -/
def kD0 : Nat → Value := fun x => match x with
  | 0 => .int 0
  | 1 => .null
  | 4 => .null
  | 5 => .null
  | _ => .long 0
theorem kFs_zero {aD : Nat → ClassId} (B : Nat) (M : kMem) (a : Nat) (h1 : ∀ i, kI M a i = 0) (h2 : ∀ i, kR M a i = 0) (h3 : ∀ i, kL M a i = 0) : ∀ (ks : List Nat) (j k : Nat) (x : Nat), ks[k]? = some x → vp_V (kFs aD B M a ks j) k = kD0 x := by
  intro ks j k x h
  unfold vp_V
  rw [List.getD_eq_getElem?_getD, kFs_get B M a ks j k x h]
  have e : kJ M a (j + k) = 0 := by
    have e1 := h1 (1000 + 2 * (j + k))
    have e2 := h1 (1001 + 2 * (j + k))
    unfold kI at e1 e2
    unfold kJ
    rw [e1, e2]
    decide
  show kV aD B M a (j + k) x = kD0 x
  unfold kV kD0
  split
  · rw [h1]; rfl
  · rw [h2]; rfl
  · rw [h3]; rfl
  · rw [h2]; rfl
  · rw [h1, h2]; rfl
  · rename_i h0 h01 h02 h4 h5
    rw [e]
    split <;> first | rfl | (exfalso; first | exact h0 rfl | exact h01 rfl | exact h4 rfl | exact h5 rfl)
theorem kNewI (M : kMem) (t n i : Nat) : kI (kNew M t n) (M.1.length + 1) i = 0 := if_pos rfl
theorem kNewR (M : kMem) (t n i : Nat) : kR (kNew M t n) (M.1.length + 1) i = 0 := if_pos rfl
theorem kNewL (M : kMem) (t n i : Nat) : kL (kNew M t n) (M.1.length + 1) i = 0 := if_pos rfl
section kRows3
variable {β : Type} {p : Program} {l : Launch} {e : Env} {R : Room} {s : State} {m : MethodId} {args : Array Value} {below : List Frame} {meth : Method} {c : Code} {cc : ByteArray} {nL : Nat} {own : String} {g : kG} {dep : Nat} {Q : β → State → Prop} {k n : Nat} {o : Option β} {pc : Nat} {lv : List (Nat × Value)} {st : List Value} {M : kMem}
theorem k_runA {H : Heap} {locs : List Loc} {mc ms : Nat} {gf : JFrame} {rest : List Value} {a : Array Value} {r : Option Value × kMem} {free : Addr → Prop} (h : va_Run p l e R s m args below meth c H locs k n mc ms gf rest (kQA g r a) free) : va_Run p l e R s m args below meth c H locs k n mc ms gf rest (kQ g r a) free := by
  intro T hT X
  obtain ⟨v, st₀, t, T', L, h0, X', hL, e1, e2, hq, stp⟩ := h T hT X
  exact ⟨v, st₀, t, T', L, h0, X', hL, e1, e2, hq.1, stp⟩
/-- the heap's size, out of where the machine stands -/
theorem k_size {Q0 : State → Prop} {H : Heap} {locs : List Loc} {gf : JFrame} (kk : H.size ≤ s.heap.size + k → W p l e R s m args below meth c H locs k n Q0 gf) : W p l e R s m args below meth c H locs k n Q0 gf := by
  intro T hT X
  have h9 : T.heap.size ≤ s.heap.size + k := X.same.2.2.1
  rw [hT] at h9
  exact kk h9 T hT X
theorem k_exact {H : Heap} {locs : List Loc} {L : Nat} (hX : Cok (p, l, e, R, s, m, args, below, meth, c, cc, nL, own, g, dep)) (hH : kHd g.1 g.2.1 g.2.2.1 M H) (hS : va_S (kZ g.2.2.1) s.heap H locs) (hsz : s.heap.size = g.2.2.1 + 1 + L) (hlen : M.1.length = L + k) (h9 : H.size ≤ s.heap.size + k) : H.size = g.2.2.1 + 1 + M.1.length := by
  have h1 := kHd_low hH (Nat.le_trans hX.2.2.2.2.2.2.1 hS.1)
  omega
theorem k_pushed {H H1 : Heap} {locs : List Loc} {t n9 : Nat} (hH : kHd g.1 g.2.1 g.2.2.1 M H) (hz : H.size = g.2.2.1 + 1 + M.1.length) (o1 : ∀ q, q < H.size → H1[q]? = H[q]?) (he : va_at g.2.1 vwCl (kEnt g.1 g.2.2.1 (kNew M t n9) M.1.length (t, n9)) H1) : kHd g.1 g.2.1 g.2.2.1 (kNew M t n9) H1 := by
  unfold kHd
  rw [kWs_new]
  refine va_P.app (va_P.kept hH (fun j q hj => o1 _ (hH j q hj).lt)) (fun j q hj => ?_)
  have h0 : j < 1 := (List.getElem?_eq_some_iff.mp hj).1
  rw [show j = 0 by omega] at hj
  cases hj
  exact he
theorem k_pushS {H H1 : Heap} {locs : List Loc} (hS : va_S (kZ g.2.2.1) s.heap H locs) (z1 : H1.size = H.size + 1) (o1 : ∀ q, q < H.size → H1[q]? = H[q]?) : va_S (kZ g.2.2.1) s.heap H1 locs :=
  ⟨Nat.le_trans hS.1 (by omega), fun x h1 h2 => (o1 x (Nat.lt_of_lt_of_le h1 hS.1)).trans (hS.2.1 x h1 h2), hS.2.2⟩
theorem g_new (q : Nat) (hX : Cok (p, l, e, R, s, m, args, below, meth, c, cc, nL, own, g, dep)) {ci idx N L : Nat} {C : String} {T : u_T} {ty0 : Nat → FieldType} (hc : vwCl[kci ci]? = some (C, T, N)) (h13 : kox ci < 13) (hin : ∀ w ∈ u_ws C T N, w ∈ WT) (hty : ∀ k, k < N → parseFieldDescriptor (T k).2.2.1 = some (ty0 k)) (hdef : ∀ j, j < N → ∃ x, (kKinds ci)[j]? = some x ∧ defaultValue (ty0 j) = kD0 x) (wl : Cond.classLink own idx C ∈ WT) (wi : Cond.instantiable C N ∈ WT) (wn : Cond.initialized C ∈ WT) (hsz : s.heap.size = g.2.2.1 + 1 + L) {mc ms : Nat} (hRc : mc ≤ R.cells) (hRs : ms ≤ R.slots) (d : decode cc pc = .ok (.new idx, 3)) (e9 : pc + 3 = q) (kk : GG (p, l, e, R, s, m, args, below, meth, c, cc, nL, own, g, dep) Q ((kNew M ci N).1.length - L) (ksl L (kNew M ci N)) o q lv (.ref (M.1.length + 1) :: st) (kNew M ci N)) : GG (p, l, e, R, s, m, args, below, meth, c, cc, nL, own, g, dep) Q (M.1.length - L) (ksl L M) (kg (krm L mc ms M N) o) pc lv st M := fun b h H locs ls hH hS hl => by
  subst e9
  obtain ⟨hb, h9⟩ := kg_some h
  obtain ⟨hl1, hl2, hl3⟩ := krm_spec hb
  have hlen : M.1.length = L + (M.1.length - L) := by omega
  have kk := kk b h9
  rw [klen_new hl1, ksl_new hl1] at kk
  refine k_size (fun hle => ?_)
  have hz := k_exact hX hH hS hsz hlen hle
  have hts := hX.2.2.2.2.1
  have hK := hX.2.2.2.2.2.2.2.2.1.1
  have hKn := hK.1 (kci ci) _ hc
  refine W.newcK hX.1 hX.2.1 hX.2.2.2.1 (hts _ wl) (hts _ wi) (hts _ wn) rfl d (Nat.le_trans hl2 hRc) (Nat.le_trans hl3 hRs) hKn.2.1 hz fun H1 kC hkC e1 z1 o1 => ?_
  have kk := kk H1 locs ls (k_pushed (locs := locs) hH hz (fun q hq => o1 q (by omega)) ?_) (k_pushS hS (by omega) (fun q hq => o1 q (by omega))) hl
  · simp only [List.map_cons, kT] at kk
    rw [kr_succ] at kk
    exact kk
  · unfold kEnt
    rw [if_pos h13]
    refine ⟨_, hc, (u_born ty0 (fun w hw => hts w (hin w hw)) (fun w hw => hw) hKn hkC e1 hty).to (fun j hj => ?_)⟩
    obtain ⟨x, hx, hd⟩ := hdef j hj
    show defaultValue (ty0 j) = vp_V _ j
    rw [hd, kFs_zero g.2.2.1 (kNew M ci N) (M.1.length + 1) (kNewI M ci N) (kNewR M ci N) (kNewL M ci N) (kKinds ci) 0 j x hx]
theorem q_acI : Cond.arrayClass .int ∈ WT := kw 112 (by decide +kernel) rfl
theorem g_newaI (q : Nat) (hX : Cok (p, l, e, R, s, m, args, below, meth, c, cc, nL, own, g, dep)) {z : Int32} {L : Nat} (hz0 : ¬ z < 0) (hz9 : z.toNatClampNeg ≤ 60000) (hsz : s.heap.size = g.2.2.1 + 1 + L) {mc ms : Nat} (hRc : mc ≤ R.cells) (hRs : ms ≤ R.slots) (d : decode cc pc = .ok (.newarray .int, 2)) (e9 : pc + 2 = q) (kk : GG (p, l, e, R, s, m, args, below, meth, c, cc, nL, own, g, dep) Q ((kNew M 13 z.toNatClampNeg).1.length - L) (ksl L (kNew M 13 z.toNatClampNeg)) o q lv (.ref (M.1.length + 1) :: st) (kNew M 13 z.toNatClampNeg)) : GG (p, l, e, R, s, m, args, below, meth, c, cc, nL, own, g, dep) Q (M.1.length - L) (ksl L M) (kg (krm L mc ms M z.toNatClampNeg) o) pc lv (.int z :: st) M := fun b h H locs ls hH hS hl => by
  subst e9
  obtain ⟨hb, h9⟩ := kg_some h
  obtain ⟨hl1, hl2, hl3⟩ := krm_spec hb
  have hlen : M.1.length = L + (M.1.length - L) := by omega
  have kk := kk b h9
  rw [klen_new hl1, ksl_new hl1] at kk
  refine k_size (fun hle => ?_)
  have hz := k_exact hX hH hS hsz hlen hle
  have hts := hX.2.2.2.2.1
  have hK := hX.2.2.2.2.2.2.2.2.1.1
  refine va_newaK hX.1 hX.2.1 (atype := .int) (hts _ q_acI) rfl d rfl hz0 rfl (by show _ * _ ≤ _; simp only [Jvm.Op.newarray.typeOf, componentBytes]; omega) (Nat.le_trans hl2 hRc) (Nat.le_trans hl3 hRs) hz fun H1 cA e1 z1 o1 hAr hNm => ?_
  have hcA : cA = g.1 13 := Option.some.inj (hNm.symm.trans (hK.2 0 _ rfl).2)
  subst hcA
  have kk := kk H1 locs ls (k_pushed (locs := locs) hH hz (fun q hq => o1 q (by omega)) ?_) (k_pushS hS (by omega) (fun q hq => o1 q (by omega))) hl
  · simp only [List.map_cons, kT] at kk
    rw [kr_succ] at kk
    exact kk
  · show H1[g.2.2.1 + 1 + M.1.length]? = some (vp_cell (g.1 13) (z.toNatClampNeg, .inl (fun j => kI (kNew M 13 z.toNatClampNeg) (M.1.length + 1) j)))
    rw [e1]
    first | rw [vp_cell_i] | rw [vp_cell_l]
    congr 2
    funext j
    first | rw [kNewI] | rw [kNewL]
    rfl
theorem q_acZ : Cond.arrayClass .boolean ∈ WT := kw 659 (by decide +kernel) rfl
theorem g_newaZ (q : Nat) (hX : Cok (p, l, e, R, s, m, args, below, meth, c, cc, nL, own, g, dep)) {z : Int32} {L : Nat} (hz0 : ¬ z < 0) (hz9 : z.toNatClampNeg ≤ 60000) (hsz : s.heap.size = g.2.2.1 + 1 + L) {mc ms : Nat} (hRc : mc ≤ R.cells) (hRs : ms ≤ R.slots) (d : decode cc pc = .ok (.newarray .boolean, 2)) (e9 : pc + 2 = q) (kk : GG (p, l, e, R, s, m, args, below, meth, c, cc, nL, own, g, dep) Q ((kNew M 14 z.toNatClampNeg).1.length - L) (ksl L (kNew M 14 z.toNatClampNeg)) o q lv (.ref (M.1.length + 1) :: st) (kNew M 14 z.toNatClampNeg)) : GG (p, l, e, R, s, m, args, below, meth, c, cc, nL, own, g, dep) Q (M.1.length - L) (ksl L M) (kg (krm L mc ms M z.toNatClampNeg) o) pc lv (.int z :: st) M := fun b h H locs ls hH hS hl => by
  subst e9
  obtain ⟨hb, h9⟩ := kg_some h
  obtain ⟨hl1, hl2, hl3⟩ := krm_spec hb
  have hlen : M.1.length = L + (M.1.length - L) := by omega
  have kk := kk b h9
  rw [klen_new hl1, ksl_new hl1] at kk
  refine k_size (fun hle => ?_)
  have hz := k_exact hX hH hS hsz hlen hle
  have hts := hX.2.2.2.2.1
  have hK := hX.2.2.2.2.2.2.2.2.1.1
  refine va_newaK hX.1 hX.2.1 (atype := .boolean) (hts _ q_acZ) rfl d rfl hz0 rfl (by show _ * _ ≤ _; simp only [Jvm.Op.newarray.typeOf, componentBytes]; omega) (Nat.le_trans hl2 hRc) (Nat.le_trans hl3 hRs) hz fun H1 cA e1 z1 o1 hAr hNm => ?_
  have hcA : cA = g.1 14 := Option.some.inj (hNm.symm.trans (hK.2 1 _ rfl).2)
  subst hcA
  have kk := kk H1 locs ls (k_pushed (locs := locs) hH hz (fun q hq => o1 q (by omega)) ?_) (k_pushS hS (by omega) (fun q hq => o1 q (by omega))) hl
  · simp only [List.map_cons, kT] at kk
    rw [kr_succ] at kk
    exact kk
  · show H1[g.2.2.1 + 1 + M.1.length]? = some (vp_cell (g.1 14) (z.toNatClampNeg, .inl (fun j => kI (kNew M 14 z.toNatClampNeg) (M.1.length + 1) j)))
    rw [e1]
    first | rw [vp_cell_i] | rw [vp_cell_l]
    congr 2
    funext j
    first | rw [kNewI] | rw [kNewL]
    rfl
theorem q_acB : Cond.arrayClass .byte ∈ WT := kw 660 (by decide +kernel) rfl
theorem g_newaB (q : Nat) (hX : Cok (p, l, e, R, s, m, args, below, meth, c, cc, nL, own, g, dep)) {z : Int32} {L : Nat} (hz0 : ¬ z < 0) (hz9 : z.toNatClampNeg ≤ 60000) (hsz : s.heap.size = g.2.2.1 + 1 + L) {mc ms : Nat} (hRc : mc ≤ R.cells) (hRs : ms ≤ R.slots) (d : decode cc pc = .ok (.newarray .byte, 2)) (e9 : pc + 2 = q) (kk : GG (p, l, e, R, s, m, args, below, meth, c, cc, nL, own, g, dep) Q ((kNew M 20 z.toNatClampNeg).1.length - L) (ksl L (kNew M 20 z.toNatClampNeg)) o q lv (.ref (M.1.length + 1) :: st) (kNew M 20 z.toNatClampNeg)) : GG (p, l, e, R, s, m, args, below, meth, c, cc, nL, own, g, dep) Q (M.1.length - L) (ksl L M) (kg (krm L mc ms M z.toNatClampNeg) o) pc lv (.int z :: st) M := fun b h H locs ls hH hS hl => by
  subst e9
  obtain ⟨hb, h9⟩ := kg_some h
  obtain ⟨hl1, hl2, hl3⟩ := krm_spec hb
  have hlen : M.1.length = L + (M.1.length - L) := by omega
  have kk := kk b h9
  rw [klen_new hl1, ksl_new hl1] at kk
  refine k_size (fun hle => ?_)
  have hz := k_exact hX hH hS hsz hlen hle
  have hts := hX.2.2.2.2.1
  have hK := hX.2.2.2.2.2.2.2.2.1.1
  refine va_newaK hX.1 hX.2.1 (atype := .byte) (hts _ q_acB) rfl d rfl hz0 rfl (by show _ * _ ≤ _; simp only [Jvm.Op.newarray.typeOf, componentBytes]; omega) (Nat.le_trans hl2 hRc) (Nat.le_trans hl3 hRs) hz fun H1 cA e1 z1 o1 hAr hNm => ?_
  have hcA : cA = g.1 20 := Option.some.inj (hNm.symm.trans (hK.2 2 _ rfl).2)
  subst hcA
  have kk := kk H1 locs ls (k_pushed (locs := locs) hH hz (fun q hq => o1 q (by omega)) ?_) (k_pushS hS (by omega) (fun q hq => o1 q (by omega))) hl
  · simp only [List.map_cons, kT] at kk
    rw [kr_succ] at kk
    exact kk
  · show H1[g.2.2.1 + 1 + M.1.length]? = some (vp_cell (g.1 20) (z.toNatClampNeg, .inl (fun j => kI (kNew M 20 z.toNatClampNeg) (M.1.length + 1) j)))
    rw [e1]
    first | rw [vp_cell_i] | rw [vp_cell_l]
    congr 2
    funext j
    first | rw [kNewI] | rw [kNewL]
    rfl
theorem g_anewa (t t0 : Nat) (q : Nat) (hX : Cok (p, l, e, R, s, m, args, below, meth, c, cc, nL, own, g, dep)) {z : Int32} {idx L : Nat} {C : String} (ht : 15 < kay t) (ht0 : (kTys g.1)[t0]? = some (g.1 t, .object C)) (hAO : va_AO C s) (wl : Cond.classLink own idx C ∈ WT) (hz0 : ¬ z < 0) (hz9 : z.toNatClampNeg ≤ 60000) (hsz : s.heap.size = g.2.2.1 + 1 + L) {mc ms : Nat} (hRc : mc ≤ R.cells) (hRs : ms ≤ R.slots) (d : decode cc pc = .ok (.anewarray idx, 3)) (e9 : pc + 3 = q) (kk : GG (p, l, e, R, s, m, args, below, meth, c, cc, nL, own, g, dep) Q ((kNew M t z.toNatClampNeg).1.length - L) (ksl L (kNew M t z.toNatClampNeg)) o q lv (.ref (M.1.length + 1) :: st) (kNew M t z.toNatClampNeg)) : GG (p, l, e, R, s, m, args, below, meth, c, cc, nL, own, g, dep) Q (M.1.length - L) (ksl L M) (kg (krm L mc ms M z.toNatClampNeg) o) pc lv (.int z :: st) M := fun b h H locs ls hH hS hl => by
  subst e9
  obtain ⟨hb, h9⟩ := kg_some h
  obtain ⟨hl1, hl2, hl3⟩ := krm_spec hb
  have hlen : M.1.length = L + (M.1.length - L) := by omega
  have kk := kk b h9
  rw [klen_new hl1, ksl_new hl1] at kk
  refine k_size (fun hle => ?_)
  have hz := k_exact hX hH hS hsz hlen hle
  have hts := hX.2.2.2.2.1
  have hK := hX.2.2.2.2.2.2.2.2.1.1
  refine W.anew hX.1 hX.2.1 hX.2.2.2.1 (hts _ wl) (va_AO.use hAO) rfl d rfl hz0 (by omega) (Nat.le_trans hl2 hRc) (Nat.le_trans hl3 hRs) fun cA kA comp f1 f2 f3 f4 => ?_
  have hcA : cA = g.1 t := by
    obtain ⟨kA9, comp9, -, -, -, h8⟩ := (hK.2 t0 _ ht0).2
    exact Option.some.inj (f1.symm.trans h8)
  subst hcA
  generalize hH1 : H.push ({ cls := g.1 t, slots := Array.replicate z.toNatClampNeg .null, vm := .none } : Cell) = H1
  have z1 : H1.size = H.size + 1 := by rw [← hH1, Array.size_push]
  have e1 : H1[H.size]? = some (arrV (g.1 t) z.toNatClampNeg (fun _ => .null)) := by rw [← hH1, Array.getElem?_push_size, ← arrV_new]
  have o1 : ∀ q : Nat, q < H.size → H1[q]? = H[q]? := fun q hq => by rw [← hH1, Array.getElem?_push, if_neg (Nat.ne_of_lt hq)]
  have kk := kk H1 locs ls (k_pushed (locs := locs) hH hz o1 ?_) (k_pushS hS z1 o1) hl
  · simp only [List.map_cons, kT] at kk
    rw [kr_succ, ← hz] at kk
    exact kk
  · unfold kEnt
    rw [if_neg (show ¬ kox t < 13 from (kay_spec ht).1), if_neg (show ¬ kax t < 15 from (kay_spec ht).2.1), if_neg (show ¬ kax t = 15 from (kay_spec ht).2.2.1)]
    show H1[g.2.2.1 + 1 + M.1.length]? = some (vp_cell (g.1 t) (z.toNatClampNeg, _))
    rw [← hz, e1, vp_cell_q]
    congr 2
    funext j
    rw [kNewR]
    rfl
theorem g_objInit (q : Nat) (hX : Cok (p, l, e, R, s, m, args, below, meth, c, cc, nL, own, g, dep)) {a idx : Nat} (ha : a ≠ 0) (wl : Cond.methodLink own idx objectInit ∈ WT) (wi : Cond.instanceMethod objectInit ∈ WT) (wc : Cond.code objectInit ⟨#[0xb1]⟩ 1 none ∈ WT) (hst : (st.map (fun v => v.category)).sum ≤ 8) (hdp : 1 ≤ dep) (d : decode cc pc = .ok (.invokespecial idx, 3)) (e9 : pc + 3 = q) (kk : GG (p, l, e, R, s, m, args, below, meth, c, cc, nL, own, g, dep) Q (k) (n) o q lv st M) : GG (p, l, e, R, s, m, args, below, meth, c, cc, nL, own, g, dep) Q (k) (n) o pc lv (.ref a :: st) M := fun b h H locs ls hH hS hl => by
  subst e9
  have kk := kk b h H locs ls hH hS hl
  have hts := hX.2.2.2.2.1
  have r1 := hX.2.2.2.2.2.2.2.2.2.1
  have r2 := hX.2.2.2.2.2.2.2.2.2.2
  have r3 := kcat_le (B := g.2.2.1) hst
  simp only [List.map_cons, kT]
  rw [kr_pos _ ha]
  exact W.objInit hX.1 hX.2.1 hX.2.2.2.1 (hts _ wl) (hts _ wi) (hts _ wc) rfl (by rw [hX.2.2.1]; exact hl.1) rfl d (by omega) (by show 2 * 0 + _ + 12 ≤ _; omega) kk
/-- a constructor called -/
theorem g_callI (q : Nat) {y : MethodName} {bc : ByteArray} {nLc nA depc index a L mc ms : Nat} {As rest : List Value} {o1 : Option kMem} {f : kMem → Option β}
    (hX : Cok (p, l, e, R, s, m, args, below, meth, c, cc, nL, own, g, dep)) {mc9 ms9 : Nat} (ha : a ≠ 0) (hM : kMetA l g y bc nLc none depc mc ms (.ref a :: As) M (fun r : kMem => (none, r)) o1) (hk : kLk y bc nLc none nA) (hy1 : y.name = "<init>") (wl : Cond.methodLink own index y ∈ WT) (hdep : depc + 1 ≤ dep) (hlen : As.length = nA) (hrest : (rest.map (fun v => v.category)).sum ≤ 8) (hsz : s.heap.size = g.2.2.1 + 1 + L) (hRc : mc9 ≤ R.cells) (hRs : ms9 ≤ R.slots)
    (d : decode cc pc = .ok (.invokespecial index, 3)) (e9 : pc + 3 = q) (kk : ∀ M1 : kMem, GG (p, l, e, R, s, m, args, below, meth, c, cc, nL, own, g, dep) Q (M1.1.length - L) (ksl L M1) (f M1) q lv rest M1) : GG (p, l, e, R, s, m, args, below, meth, c, cc, nL, own, g, dep) Q (M.1.length - L) (ksl L M) (kg (kok L mc9 ms9 M mc ms) (o1.bind fun M1 => kg (kgr L M M1 mc ms) (f M1))) pc lv (As.reverse ++ .ref a :: rest) M := fun b h H locs ls hH hS hl => by
  subst e9
  obtain ⟨hb, h9⟩ := kg_some h
  obtain ⟨hl1, hl2, hl3⟩ := kok_spec hb
  have hlen9 : M.1.length = L + (M.1.length - L) := by omega
  obtain ⟨b1, h1, h20⟩ := Option.bind_eq_some_iff.mp h9
  obtain ⟨hg, h2⟩ := kg_some h20
  obtain ⟨hg1, hg2⟩ := kgr_spec hg
  have hMb := hM b1 h1
  simp only [List.map_append, List.map_reverse, List.map_cons, kT] at hMb ⊢
  rw [kr_pos _ ha] at hMb ⊢
  have hts := hX.2.2.2.2.1
  refine k_size (fun hle => ?_)
  have hz := k_exact hX hH hS hsz hlen9 hle
  have cw : CallB R s args own index y bc nLc none (.code y bc nLc none :: WT) { frames := depc, cells := mc, slots := ms, locals := 60 * depc } mc ms nA ∧ y.name = "<init>" ∧ (Cond.instanceMethod y).before args s = true := ⟨k_callB hX hk.1 hk.2.2.1 hk.2.2.2.1 hk.2.2.2.2 hdep wl, hy1, hts _ hk.2.1⟩
  refine k_after (r := ((none : Option Value), b1)) (k_runA (va_runI (Ts := WT) (own := own) (nL := nL) (As := As.map (kT g.2.2.1)) (b := g.2.2.1 + a) ⟨hX.1, hX.2.1, hX.2.2.1, hX.2.2.2.1, hts⟩ hMb cw ⟨kPA_blind _ g M, fun U hU hW => ⟨rfl, kP_at hX hH hS U hU hW, by rw [hU]; exact hz⟩⟩ rfl (by rw [List.length_map]; exact hlen) hl.1 rfl (lv_room (kcat_le hrest)) d ⟨Nat.le_trans hl2 hRc, Nat.le_trans hl3 hRs⟩)) hS (fun H1 locs1 hH1 hS1 => ?_)
  have kk := kk b1 b h2 H1 locs1 ls hH1 hS1 hl
  rw [hg1, hg2] at kk
  exact kk
/-- a private constructor of a nest mate called -/
theorem g_callIN (q : Nat) {y : MethodName} {bc : ByteArray} {nLc nA depc index a L mc ms : Nat} {As rest : List Value} {o1 : Option kMem} {f : kMem → Option β}
    (hX : Cok (p, l, e, R, s, m, args, below, meth, c, cc, nL, own, g, dep)) {mc9 ms9 : Nat} (ha : a ≠ 0) (hM : kMetA l g y bc nLc none depc mc ms (.ref a :: As) M (fun r : kMem => (none, r)) o1) (hk : kLk y bc nLc none nA) (hy1 : y.name = "<init>") (wl : (own, index, y, "SeesawMarket") ∈ kNests) (hdep : depc + 1 ≤ dep) (hlen : As.length = nA) (hrest : (rest.map (fun v => v.category)).sum ≤ 8) (hsz : s.heap.size = g.2.2.1 + 1 + L) (hRc : mc9 ≤ R.cells) (hRs : ms9 ≤ R.slots)
    (d : decode cc pc = .ok (.invokespecial index, 3)) (e9 : pc + 3 = q) (kk : ∀ M1 : kMem, GG (p, l, e, R, s, m, args, below, meth, c, cc, nL, own, g, dep) Q (M1.1.length - L) (ksl L M1) (f M1) q lv rest M1) : GG (p, l, e, R, s, m, args, below, meth, c, cc, nL, own, g, dep) Q (M.1.length - L) (ksl L M) (kg (kok L mc9 ms9 M mc ms) (o1.bind fun M1 => kg (kgr L M M1 mc ms) (f M1))) pc lv (As.reverse ++ .ref a :: rest) M := fun b h H locs ls hH hS hl => by
  subst e9
  obtain ⟨hb, h9⟩ := kg_some h
  obtain ⟨hl1, hl2, hl3⟩ := kok_spec hb
  have hlen9 : M.1.length = L + (M.1.length - L) := by omega
  obtain ⟨b1, h1, h20⟩ := Option.bind_eq_some_iff.mp h9
  obtain ⟨hg, h2⟩ := kg_some h20
  obtain ⟨hg1, hg2⟩ := kgr_spec hg
  have hMb := hM b1 h1
  simp only [List.map_append, List.map_reverse, List.map_cons, kT] at hMb ⊢
  rw [kr_pos _ ha] at hMb ⊢
  have hts := hX.2.2.2.2.1
  refine k_size (fun hle => ?_)
  have hz := k_exact hX hH hS hsz hlen9 hle
  have hR1 := hX.2.2.2.2.2.2.2.2.2.1
  have hR2 := hX.2.2.2.2.2.2.2.2.2.2
  have hdep9 := hdep
  have hn9 := hk.2.2.2.2
  have cw : va_CN R s args own index y "SeesawMarket" bc nLc none (.code y bc nLc none :: WT) { frames := depc, cells := mc, slots := ms, locals := 60 * depc } mc ms nA := va_cnB (Ts := WT) nA hts (kgood fun w hw => (List.mem_cons.mp hw).elim (fun e => by rw [e]; exact hk.1) id) rfl rfl rfl (hX.2.2.2.2.2.2.2.2.1.2.2.2.1 _ wl) (hts _ hk.2.2.1) hk.2.2.2.1 ⟨by show depc + 1 ≤ R.frames; omega, by show 8 + (nLc + 11) + 60 * depc ≤ R.locals; omega⟩
  refine k_after (r := ((none : Option Value), b1)) (k_runA (va_runIN (Ts := WT) (own := own) (nL := nL) (As := As.map (kT g.2.2.1)) (b := g.2.2.1 + a) ⟨hX.1, hX.2.1, hX.2.2.1, hX.2.2.2.1, hts⟩ hMb ⟨cw, hy1, hts _ hk.2.1⟩ ⟨kPA_blind _ g M, fun U hU hW => ⟨rfl, kP_at hX hH hS U hU hW, by rw [hU]; exact hz⟩⟩ rfl (by rw [List.length_map]; exact hlen) hl.1 rfl (lv_room (kcat_le hrest)) d ⟨Nat.le_trans hl2 hRc, Nat.le_trans hl3 hRs⟩)) hS (fun H1 locs1 hH1 hS1 => ?_)
  have kk := kk b1 b h2 H1 locs1 ls hH1 hS1 hl
  rw [hg1, hg2] at kk
  exact kk
/-- the cells' number is the same -/
theorem g_sameA {L : Nat} {M0 : kMem} (kk : GG (p, l, e, R, s, m, args, below, meth, c, cc, nL, own, g, dep) Q (M.1.length - L) (ksl L M) o pc lv st M) : GG (p, l, e, R, s, m, args, below, meth, c, cc, nL, own, g, dep) Q (M0.1.length - L) (ksl L M0) (kg (kgr L M0 M 0 0) o) pc lv st M := fun b h H locs ls hH hS hl => by
  obtain ⟨hb, h9⟩ := kg_some h
  obtain ⟨hl1, hl2⟩ := kgr_spec hb
  have kk := kk b h9 H locs ls hH hS hl
  rw [hl1, hl2] at kk
  exact kk
/-- a constructor's end -/
theorem g_vretA {b0 : kMem} {mc ms L : Nat} (hX : Cok (p, l, e, R, s, m, args, below, meth, c, cc, nL, own, g, dep)) (hr : meth.sig.returnType = none) (hsz : s.heap.size = g.2.2.1 + 1 + L) (hM : b0 = M) (d : decode cc pc = .ok (.return_, 1)) : GG (p, l, e, R, s, m, args, below, meth, c, cc, nL, own, g, dep) (fun b : kMem => MQ below (kQA g (none, b)) args s mc ms (kZ g.2.2.1)) (M.1.length - L) (ksl L M) (kg (kend L mc ms M) (some b0)) pc lv [] M := fun b h H locs ls hH hS hl => by
  obtain ⟨hb, h9⟩ := kg_some h
  obtain ⟨hl1, hl2, hl3⟩ := kend_spec hb
  have hlen : M.1.length = L + (M.1.length - L) := by omega
  cases h9
  subst hM
  refine k_size (fun hle => ?_)
  have hz := k_exact hX hH hS hsz hlen hle
  refine W.widen (k := mc) (n := ms) hl2 hl3 ?_
  exact W.vret hX.1 hX.2.1 hr (fun t ht hW => ⟨⟨rfl, by rw [ht]; exact hH, hS.F ht⟩, by rw [ht]; exact hz⟩) hS.2.2 d hX.2.2.2.2.2.1
end kRows3
theorem k_ofA {l : Launch} {g : kG} {y : MethodName} {bc : ByteArray} {nL : Nat} {dep mc ms : Nat} {av : List Value} {M : kMem} {o : Option kMem} {lv : List (Nat × Value)} (own : String) (hy : plainName y.cls = true) (hown : y.cls = own) (h1 : lv_args 0 av = lv) (h2 : (lg_sl av).length ≤ nL)
    (body : ∀ (p : Program) (e : Env) (s : State) (m : MethodId) (args : Array Value) (below : List Frame) (meth : Method) (c : Code), Cok (p, l, e, { frames := dep, cells := mc, slots := ms, locals := 60 * dep }, s, m, args, below, meth, c, bc, nL, own, g, dep) → meth.sig.returnType = none → meth.name = y.name → s.heap.size = g.2.2.1 + 1 + M.1.length →
      GG (p, l, e, { frames := dep, cells := mc, slots := ms, locals := 60 * dep }, s, m, args, below, meth, c, bc, nL, own, g, dep) (fun b : kMem => MQ below (kQA g (none, b)) args s mc ms (kZ g.2.2.1)) 0 0 o 0 lv [] M) : kMetA l g y bc nL none dep mc ms av M (fun r : kMem => (none, r)) o := by
  intro b hb
  refine Met.ofW (cc := bc) (maxL := nL) (ret := none) hy rfl ?_
  intro p e s m args below meth c s₁ B hml hv
  obtain ⟨rfl, ⟨hH, hO, hT⟩, hsz⟩ := hv
  have hts := atoms_spec (ws := .code y bc nL none :: WT) B.pre
  have hX : Cok (p, l, e, { frames := dep, cells := mc, slots := ms, locals := 60 * dep }, s, m, (av.map (kT g.2.2.1)).toArray, below, meth, c, bc, nL, own, g, dep) := by
    refine ⟨B.exec, B.bytes, hml, ?_, fun w hw => hts w (List.mem_cons_of_mem _ hw), B.notSynchronized, ?_, hO, hT, Nat.le_refl _, Nat.le_refl _⟩
    · rw [← hown]; exact findClass_of_methodNamed B.named
    · exact hH.2
  have hl := lv_entry (av.map (kT g.2.2.1)) (n := nL) (by rw [kT_len]; exact h2)
  rw [kT_args, h1] at hl
  rw [lg_entry_eq]
  exact body p e s m _ below meth c hX B.returns (name_of_methodNamed B.named B.method).1 hsz b hb s.heap [] _ hH.1 va_S.rf hl

section kRows4
variable {β : Type} {p : Program} {l : Launch} {e : Env} {R : Room} {s : State} {m : MethodId} {args : Array Value} {below : List Frame} {meth : Method} {c : Code} {cc : ByteArray} {nL : Nat} {own : String} {g : kG} {dep : Nat} {Q : β → State → Prop} {k n : Nat} {o : Option β} {pc : Nat} {lv : List (Nat × Value)} {st : List Value} {M : kMem}
theorem g_guard {X : kX} {bb : Bool} (kk : bb = true → GG X Q k n o pc lv st M) : GG X Q k n (kg bb o) pc lv st M := by
  cases bb with
  | true => exact kk rfl
  | false => exact g_none
theorem g_klMn {X : kX} {L : Nat} {f : kMem → Option β} (kk : ∀ x, x = M → GG X Q (x.1.length - L) (ksl L x) (f x) pc lv st x) : GG X Q (M.1.length - L) (ksl L M) (kl M f) pc lv st M := kk M rfl
theorem g_klMA {X : kX} {L : Nat} {M0 : kMem} {f : kMem → Option β} (h : M.1 = M0.1) (kk : ∀ x, x = M → GG X Q (x.1.length - L) (ksl L x) (f x) pc lv st x) : GG X Q (M0.1.length - L) (ksl L M0) (kl M f) pc lv st M := by
  have h2 := kk M rfl
  unfold ksl at h2 ⊢
  rw [h] at h2
  exact h2
theorem g_startA {X : kX} (kk : GG X Q (M.1.length - M.1.length) (ksl M.1.length M) o pc lv st M) : GG X Q 0 0 o pc lv st M := by
  have e : ksl M.1.length M = 0 := by unfold ksl; rw [List.drop_length]; rfl
  rw [e, Nat.sub_self] at kk
  exact kk
end kRows4
