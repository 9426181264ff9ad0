/-! rows for what the law and the JDK have beyond the class: other kinds of fields, bytes, what stands outside -/
theorem kFitB_spec {M : kMem} {a : Nat} {sp n : Int32} (h : kFitB M a sp n = true) : ∀ i, i < n.toNatClampNeg → fits .byte (.int (kI M a (sp.toNatClampNeg + i))) = true := by
  intro i hi
  unfold kFitB kx at h
  exact List.all_eq_true.mp h i (List.mem_range.mpr hi)
theorem kcpB_spec {M : kMem} {a0 a1 : Nat} {sp dp n : Int32} (h : kcpB M a0 sp a1 dp n = true) : ∃ j0 n0 j1 n1, a0 = j0 + 1 ∧ M.1[j0]? = some (20, n0) ∧ a1 = j1 + 1 ∧ M.1[j1]? = some (20, n1) ∧ ¬ sp < 0 ∧ ¬ dp < 0 ∧ ¬ n < 0 ∧ sp.toNatClampNeg + n.toNatClampNeg ≤ n0 ∧ dp.toNatClampNeg + n.toNatClampNeg ≤ n1 ∧ kFitB M a0 sp n = true := by
  unfold kcpB at h
  simp only [Bool.and_eq_true, decide_eq_true_eq] at h
  obtain ⟨h1, h2, h3, h4, h5, h6, h7, h8⟩ := h
  obtain ⟨j0, n0, e1, e2, e3⟩ := kt_spec h1
  obtain ⟨j1, n1, e4, e5, e6⟩ := kt_spec h2
  rw [e3] at h6
  rw [e6] at h7
  exact ⟨j0, n0, j1, n1, e1, e2, e4, e5, Int32.not_lt.mpr h3, Int32.not_lt.mpr h4, Int32.not_lt.mpr h5, h6, h7, h8⟩
theorem kWs_cpB {aD : Nat → ClassId} {B : Nat} {M : kMem} {f : Nat → Int32} {j1 n1 : Nat} {I : Nat → Nat → Int32} (sp dp n : Int32) (h : M.1[j1]? = some (20, n1)) (hI : I = fun a j => if a = j1 + 1 ∧ dp.toNatClampNeg ≤ j ∧ j < dp.toNatClampNeg + n.toNatClampNeg then f (sp.toNatClampNeg + (j - dp.toNatClampNeg)) else M.2.1 a j) : kWs aD B (M.1, I, M.2.2) = (kWs aD B M).set j1 (B + 1 + j1, .inl (aD 20, n1, .inl (va_cpy f (fun j => kI M (j1 + 1) j) sp.toNatClampNeg dp.toNatClampNeg n.toNatClampNeg))) := by
  subst hI
  refine kWs_set rfl (List.getElem?_eq_some_iff.mp h).1 (fun x hx => ?_) (fun j x hj => kEnt_congr x (fun i => if_neg (by omega)) (fun i => rfl) (fun i => rfl))
  cases h.symm.trans hx
  have e9 : (fun i => kI (M.1, (fun a j => if a = j1 + 1 ∧ dp.toNatClampNeg ≤ j ∧ j < dp.toNatClampNeg + n.toNatClampNeg then f (sp.toNatClampNeg + (j - dp.toNatClampNeg)) else M.2.1 a j), M.2.2) (j1 + 1) i) = va_cpy f (fun j => kI M (j1 + 1) j) sp.toNatClampNeg dp.toNatClampNeg n.toNatClampNeg := by
    funext i
    unfold va_cpy kI
    by_cases hi : dp.toNatClampNeg ≤ i ∧ i < dp.toNatClampNeg + n.toNatClampNeg
    · rw [if_pos hi]
      exact if_pos ⟨rfl, hi⟩
    · rw [if_neg hi]
      exact if_neg (fun z => hi z.2)
  rw [← e9]
  rfl
theorem kSfit : ∀ i, i < kSn → ∀ j, j < kSlen.getD i 0 → fits .byte (.int ((kSbyt.getD i []).getD j 0)) = true := by decide +kernel
theorem kWs_push {aD : Nat → ClassId} {B : Nat} {M M' : kMem} {x : Nat × Nat} (h : M'.1 = M.1 ++ [x]) (ho : ∀ j y, j < M.1.length → kEnt aD B M' j y = kEnt aD B M j y) : kWs aD B M' = kWs aD B M ++ [kEnt aD B M' M.1.length x] := by
  apply List.ext_getElem?
  intro j
  have hlen : (kWs aD B M).length = M.1.length := by unfold kWs; rw [List.length_mapIdx]
  have hw : (kWs aD B M')[j]? = ((M.1 ++ [x])[j]?).map (kEnt aD B M' j) := by
    unfold kWs
    rw [List.getElem?_mapIdx, h]
  rw [hw]
  by_cases h1 : j < M.1.length
  · rw [List.getElem?_append_left h1, List.getElem?_append_left (by rw [hlen]; exact h1)]
    unfold kWs
    rw [List.getElem?_mapIdx]
    cases hx : M.1[j]? with
    | none => rfl
    | some x => simp [ho j x h1]
  · rw [List.getElem?_append_right (by omega), List.getElem?_append_right (by rw [hlen]; omega), hlen]
    by_cases h2 : j = M.1.length
    · subst h2
      simp
    · have h3 : j - M.1.length = (j - M.1.length - 1) + 1 := by omega
      rw [h3]
      simp
section kDrows
variable {β : Type} {p : Program} {l : Launch} {e : Env} {R : Room} {s : State} {m : MethodId} {args : Array Value} {below : List Frame} {meth : Method} {c : Code} {cc : ByteArray} {nL : Nat} {own : String} {g : kG} {dep : Nat} {Q : β → State → Prop} {k n : Nat} {o o1 o2 : Option β} {pc : Nat} {lv : List (Nat × Value)} {st : List Value} {M : kMem}
theorem g_getK (q : Nat) (hX : Cok (p, l, e, R, s, m, args, below, meth, c, cc, nL, own, g, dep)) {a ci f i : Nat} {C : String} {T : u_T} {N : Nat} (hc : vwCl[kci ci]? = some (C, T, N)) (h13 : kox ci < 13) (hin : ∀ w ∈ u_ws C T N, w ∈ WT) (hf : f < N) (w : Cond.fieldLink own i (T f).1 (T f).2.1 (T f).2.2.1 ∈ WT) (hk : (kKinds ci)[f]? = some 4) (d : decode cc pc = .ok (.getfield i, 3)) (e9 : pc + 3 = q) (kk : GG (p, l, e, R, s, m, args, below, meth, c, cc, nL, own, g, dep) Q k n o q lv (.retAddr (g.1 (2000 + kBi (kI M a f))) :: st) M) : GG (p, l, e, R, s, m, args, below, meth, c, cc, nL, own, g, dep) Q k n (kg (kt M a ci && !(kR M a f == 0)) o) pc lv (.ref a :: st) M := fun b h H locs ls hH hS hl => by
  subst e9
  obtain ⟨hb, h9⟩ := kg_some h
  simp only [Bool.and_eq_true, Bool.not_eq_true', beq_eq_false_iff_ne] at hb
  obtain ⟨hb, hne⟩ := hb
  obtain ⟨j0, n0, rfl, hj, -⟩ := kt_spec hb
  have kk := kk b h9
  simp only [List.map_cons, kT] at kk ⊢
  rw [kr_succ]
  refine va_get hX.1 hX.2.1 hX.2.2.2.2.1 hin hX.2.2.2.1 hX.2.2.2.2.2.2.2.2.1.1 hH j0 (kEnt_obj hj h13) hc f hf (hX.2.2.2.2.1 _ w) (fun _ h9 => h9) (v := Value.ref (g.1 (2000 + kBi (kI M (j0 + 1) f)))) ?_ d (kk H locs ls hH hS hl)
  rw [kFs_get g.2.2.1 M (j0 + 1) (kKinds ci) 0 f 4 hk, Nat.zero_add]
  exact congrArg some (if_neg hne)
theorem g_getSI (q : Nat) (hX : Cok (p, l, e, R, s, m, args, below, meth, c, cc, nL, own, g, dep)) {a ci f i : Nat} {C : String} {T : u_T} {N : Nat} (hc : vwCl[kci ci]? = some (C, T, N)) (h13 : kox ci < 13) (hin : ∀ w ∈ u_ws C T N, w ∈ WT) (hf : f < N) {ref : String} (w : Cond.fieldLink own i ref (T f).2.1 (T f).2.2.1 ∈ WT) (ws : Cond.sameField ref (T f).1 (T f).2.1 (T f).2.2.1 ∈ WT) (hk : (kKinds ci)[f]? = some 0) (d : decode cc pc = .ok (.getfield i, 3)) (e9 : pc + 3 = q) (kk : GG (p, l, e, R, s, m, args, below, meth, c, cc, nL, own, g, dep) Q k n o q lv (Value.int (kI M a f) :: st) M) : GG (p, l, e, R, s, m, args, below, meth, c, cc, nL, own, g, dep) Q k n (kg (kt M a ci) o) pc lv (.ref a :: st) M := fun b h H locs ls hH hS hl => by
  subst e9
  obtain ⟨hb, h9⟩ := kg_some h
  obtain ⟨j0, n0, rfl, hj, -⟩ := kt_spec hb
  have kk := kk b h9
  simp only [List.map_cons, kT] at kk ⊢
  rw [kr_succ]
  refine va_get hX.1 hX.2.1 hX.2.2.2.2.1 hin hX.2.2.2.1 hX.2.2.2.2.2.2.2.2.1.1 hH j0 (kEnt_obj hj h13) hc f hf (hX.2.2.2.2.1 _ w) (fun x h9 => u_same (hX.2.2.2.2.1 _ ws) x h9) (v := Value.int (kI M (j0 + 1) f)) ?_ d (kk H locs ls hH hS hl)
  rw [kFs_get g.2.2.1 M (j0 + 1) (kKinds ci) 0 f 0 hk, Nat.zero_add]
  rfl
theorem g_getSR (q : Nat) (hX : Cok (p, l, e, R, s, m, args, below, meth, c, cc, nL, own, g, dep)) {a ci f i : Nat} {C : String} {T : u_T} {N : Nat} (hc : vwCl[kci ci]? = some (C, T, N)) (h13 : kox ci < 13) (hin : ∀ w ∈ u_ws C T N, w ∈ WT) (hf : f < N) {ref : String} (w : Cond.fieldLink own i ref (T f).2.1 (T f).2.2.1 ∈ WT) (ws : Cond.sameField ref (T f).1 (T f).2.1 (T f).2.2.1 ∈ WT) (hk : (kKinds ci)[f]? = some 1) (d : decode cc pc = .ok (.getfield i, 3)) (e9 : pc + 3 = q) (kk : GG (p, l, e, R, s, m, args, below, meth, c, cc, nL, own, g, dep) Q k n o q lv (Value.ref (kR M a f) :: st) M) : GG (p, l, e, R, s, m, args, below, meth, c, cc, nL, own, g, dep) Q k n (kg (kt M a ci) o) pc lv (.ref a :: st) M := fun b h H locs ls hH hS hl => by
  subst e9
  obtain ⟨hb, h9⟩ := kg_some h
  obtain ⟨j0, n0, rfl, hj, -⟩ := kt_spec hb
  have kk := kk b h9
  simp only [List.map_cons, kT] at kk ⊢
  rw [kr_succ]
  refine va_get hX.1 hX.2.1 hX.2.2.2.2.1 hin hX.2.2.2.1 hX.2.2.2.2.2.2.2.2.1.1 hH j0 (kEnt_obj hj h13) hc f hf (hX.2.2.2.2.1 _ w) (fun x h9 => u_same (hX.2.2.2.2.1 _ ws) x h9) (v := kr g.2.2.1 (kR M (j0 + 1) f)) ?_ d (kk H locs ls hH hS hl)
  rw [kFs_get g.2.2.1 M (j0 + 1) (kKinds ci) 0 f 1 hk, Nat.zero_add]
  rfl
theorem g_getNI (q : Nat) (hX : Cok (p, l, e, R, s, m, args, below, meth, c, cc, nL, own, g, dep)) {a ci f i : Nat} {C : String} {T : u_T} {N : Nat} {host : String} (hc : vwCl[kci ci]? = some (C, T, N)) (h13 : kox ci < 13) (hin : ∀ w ∈ u_ws C T N, w ∈ WT) (hf : f < N) (w : (own, i, (T f).1, (T f).2.1, (T f).2.2.1, host) ∈ kFNest) (hk : (kKinds ci)[f]? = some 0) (d : decode cc pc = .ok (.getfield i, 3)) (e9 : pc + 3 = q) (kk : GG (p, l, e, R, s, m, args, below, meth, c, cc, nL, own, g, dep) Q k n o q lv (Value.int (kI M a f) :: st) M) : GG (p, l, e, R, s, m, args, below, meth, c, cc, nL, own, g, dep) Q k n (kg (kt M a ci) o) pc lv (.ref a :: st) M := fun b h H locs ls hH hS hl => by
  subst e9
  obtain ⟨hb, h9⟩ := kg_some h
  obtain ⟨j0, n0, rfl, hj, -⟩ := kt_spec hb
  have kk := kk b h9
  simp only [List.map_cons, kT] at kk ⊢
  rw [kr_succ]
  refine va_getN hX.1 hX.2.1 hX.2.2.2.2.1 hin hX.2.2.2.1 hX.2.2.2.2.2.2.2.2.1.1 hH j0 (kEnt_obj hj h13) hc f hf (va_Nw.use rfl (hX.2.2.2.2.2.2.2.2.1.2.2.2.2.2.1 _ w)) (fun _ h9 => h9) (v := Value.int (kI M (j0 + 1) f)) ?_ d (kk H locs ls hH hS hl)
  rw [kFs_get g.2.2.1 M (j0 + 1) (kKinds ci) 0 f 0 hk, Nat.zero_add]
  rfl
theorem g_getNR (q : Nat) (hX : Cok (p, l, e, R, s, m, args, below, meth, c, cc, nL, own, g, dep)) {a ci f i : Nat} {C : String} {T : u_T} {N : Nat} {host : String} (hc : vwCl[kci ci]? = some (C, T, N)) (h13 : kox ci < 13) (hin : ∀ w ∈ u_ws C T N, w ∈ WT) (hf : f < N) (w : (own, i, (T f).1, (T f).2.1, (T f).2.2.1, host) ∈ kFNest) (hk : (kKinds ci)[f]? = some 1) (d : decode cc pc = .ok (.getfield i, 3)) (e9 : pc + 3 = q) (kk : GG (p, l, e, R, s, m, args, below, meth, c, cc, nL, own, g, dep) Q k n o q lv (Value.ref (kR M a f) :: st) M) : GG (p, l, e, R, s, m, args, below, meth, c, cc, nL, own, g, dep) Q k n (kg (kt M a ci) o) pc lv (.ref a :: st) M := fun b h H locs ls hH hS hl => by
  subst e9
  obtain ⟨hb, h9⟩ := kg_some h
  obtain ⟨j0, n0, rfl, hj, -⟩ := kt_spec hb
  have kk := kk b h9
  simp only [List.map_cons, kT] at kk ⊢
  rw [kr_succ]
  refine va_getN hX.1 hX.2.1 hX.2.2.2.2.1 hin hX.2.2.2.1 hX.2.2.2.2.2.2.2.2.1.1 hH j0 (kEnt_obj hj h13) hc f hf (va_Nw.use rfl (hX.2.2.2.2.2.2.2.2.1.2.2.2.2.2.1 _ w)) (fun _ h9 => h9) (v := kr g.2.2.1 (kR M (j0 + 1) f)) ?_ d (kk H locs ls hH hS hl)
  rw [kFs_get g.2.2.1 M (j0 + 1) (kKinds ci) 0 f 1 hk, Nat.zero_add]
  rfl
theorem g_getE (q : Nat) (hX : Cok (p, l, e, R, s, m, args, below, meth, c, cc, nL, own, g, dep)) {a ci f i : Nat} {C : String} {T : u_T} {N : Nat} (hc : vwCl[kci ci]? = some (C, T, N)) (h13 : kox ci < 13) (hin : ∀ w ∈ u_ws C T N, w ∈ WT) (hf : f < N) (w : Cond.fieldLink own i (T f).1 (T f).2.1 (T f).2.2.1 ∈ WT) (hk : (kKinds ci)[f]? = some 5) (d : decode cc pc = .ok (.getfield i, 3)) (e9 : pc + 3 = q) (k1 : kR M a f = 0 → GG (p, l, e, R, s, m, args, below, meth, c, cc, nL, own, g, dep) Q k n o1 q lv (.retAddr (g.1 1999) :: st) M) (k2 : ¬ kR M a f = 0 → GG (p, l, e, R, s, m, args, below, meth, c, cc, nL, own, g, dep) Q k n o2 q lv (.ref (kR M a f) :: st) M) : GG (p, l, e, R, s, m, args, below, meth, c, cc, nL, own, g, dep) Q k n (kg (kt M a ci) (if kR M a f = 0 then kg (!(kI M a f == 0)) o1 else o2)) pc lv (.ref a :: st) M := fun b h H locs ls hH hS hl => by
  subst e9
  obtain ⟨hb, h9⟩ := kg_some h
  obtain ⟨j0, n0, rfl, hj, -⟩ := kt_spec hb
  by_cases hc0 : kR M (j0 + 1) f = 0
  · rw [if_pos hc0] at h9
    obtain ⟨hb2, h9⟩ := kg_some h9
    simp only [Bool.not_eq_true', beq_eq_false_iff_ne] at hb2
    have kk := k1 hc0 b h9
    simp only [List.map_cons, kT] at kk ⊢
    rw [kr_succ]
    refine va_get hX.1 hX.2.1 hX.2.2.2.2.1 hin hX.2.2.2.1 hX.2.2.2.2.2.2.2.2.1.1 hH j0 (kEnt_obj hj h13) hc f hf (hX.2.2.2.2.1 _ w) (fun _ h9 => h9) (v := Value.ref (g.1 1999)) ?_ d (kk H locs ls hH hS hl)
    rw [kFs_get g.2.2.1 M (j0 + 1) (kKinds ci) 0 f 5 hk, Nat.zero_add]
    exact congrArg some ((if_pos hc0).trans (if_neg hb2))
  · rw [if_neg hc0] at h9
    have kk := k2 hc0 b h9
    simp only [List.map_cons, kT] at kk ⊢
    rw [kr_pos _ hc0] at kk
    rw [kr_succ]
    refine va_get hX.1 hX.2.1 hX.2.2.2.2.1 hin hX.2.2.2.1 hX.2.2.2.2.2.2.2.2.1.1 hH j0 (kEnt_obj hj h13) hc f hf (hX.2.2.2.2.1 _ w) (fun _ h9 => h9) (v := Value.ref (g.2.2.1 + kR M (j0 + 1) f)) ?_ d (kk H locs ls hH hS hl)
    rw [kFs_get g.2.2.1 M (j0 + 1) (kKinds ci) 0 f 5 hk, Nat.zero_add]
    exact congrArg some (if_neg hc0)
theorem g_putR (q : Nat) (hX : Cok (p, l, e, R, s, m, args, below, meth, c, cc, nL, own, g, dep)) {a ci f i : Nat} {C : String} {T : u_T} {N : Nat} {ty0 : Nat → FieldType} {v : Nat} (hc : vwCl[kci ci]? = some (C, T, N)) (h13 : kox ci < 13) (hin : ∀ w ∈ u_ws C T N, w ∈ WT) (hf : f < N) (w : Cond.fieldLink own i (T f).1 (T f).2.1 (T f).2.2.1 ∈ WT) (hty : ∀ k, k < N → parseFieldDescriptor (T k).2.2.1 = some (ty0 k)) (hnm : ∀ a, a < N → ∀ b, b < N → a ≠ b → (T a).2.1 ≠ (T b).2.1) (hlen : (kKinds ci).length = N) (hfin : (T f).2.2.2 = false) {ty : FieldType} (hd : parseFieldDescriptor (T f).2.2.1 = some ty) (hrt : (∃ n, ty = .object n) ∨ ∃ t, ty = .array t) (hk : (kKinds ci)[f]? = some 1) (d : decode cc pc = .ok (.putfield i, 3)) (e9 : pc + 3 = q) (kk : GG (p, l, e, R, s, m, args, below, meth, c, cc, nL, own, g, dep) Q k n o q lv st (ksR M a f v)) : GG (p, l, e, R, s, m, args, below, meth, c, cc, nL, own, g, dep) Q k n (kg (kt M a ci) o) pc lv (.ref v :: .ref a :: st) M := fun b h H locs ls hH hS hl => by
  subst e9
  obtain ⟨hb, h9⟩ := kg_some h
  obtain ⟨j0, n0, rfl, hj, -⟩ := kt_spec hb
  have kk := kk b h9
  simp only [List.map_cons, kT] at kk ⊢
  rw [kr_succ]
  refine va_put hX.1 hX.2.1 hX.2.2.2.2.1 hin ty0 hty hnm hX.2.2.2.1 hX.2.2.2.2.2.2.2.2.1.1 hH (kWs_D _ _ _) hS j0 (kEnt_obj hj h13) hc f hf (hX.2.2.2.2.1 _ w) (fun _ h9 => h9) hfin (v := kr g.2.2.1 v) hd (by rcases hrt with ⟨n, rfl⟩ | ⟨t, rfl⟩ <;> (by_cases hv : v = 0 <;> first | (subst hv; rfl) | (rw [kr_pos _ hv]; rfl))) (by rcases hrt with ⟨n, rfl⟩ | ⟨t, rfl⟩ <;> (by_cases hv : v = 0 <;> first | (subst hv; rfl) | (rw [kr_pos _ hv]; rfl))) (by rw [kFs_len, hlen]; exact hf) d (fun H1 locs1 hP1 hD1 hS1 => ?_)
  refine kk H1 locs1 ls (show va_P _ _ _ _ from ?_) hS1 hl
  rw [kWs_setR v hj h13 hk]
  exact hP1
theorem g_putNR (q : Nat) (hX : Cok (p, l, e, R, s, m, args, below, meth, c, cc, nL, own, g, dep)) {a ci f i : Nat} {C : String} {T : u_T} {N : Nat} {ty0 : Nat → FieldType} {v : Nat} {host : String} (hc : vwCl[kci ci]? = some (C, T, N)) (h13 : kox ci < 13) (hin : ∀ w ∈ u_ws C T N, w ∈ WT) (hf : f < N) (w : (own, i, (T f).1, (T f).2.1, (T f).2.2.1, host) ∈ kFNest) (hty : ∀ k, k < N → parseFieldDescriptor (T k).2.2.1 = some (ty0 k)) (hnm : ∀ a, a < N → ∀ b, b < N → a ≠ b → (T a).2.1 ≠ (T b).2.1) (hlen : (kKinds ci).length = N) (hfin : (T f).2.2.2 = false) {ty : FieldType} (hd : parseFieldDescriptor (T f).2.2.1 = some ty) (hrt : (∃ n, ty = .object n) ∨ ∃ t, ty = .array t) (hk : (kKinds ci)[f]? = some 1) (d : decode cc pc = .ok (.putfield i, 3)) (e9 : pc + 3 = q) (kk : GG (p, l, e, R, s, m, args, below, meth, c, cc, nL, own, g, dep) Q k n o q lv st (ksR M a f v)) : GG (p, l, e, R, s, m, args, below, meth, c, cc, nL, own, g, dep) Q k n (kg (kt M a ci) o) pc lv (.ref v :: .ref a :: st) M := fun b h H locs ls hH hS hl => by
  subst e9
  obtain ⟨hb, h9⟩ := kg_some h
  obtain ⟨j0, n0, rfl, hj, -⟩ := kt_spec hb
  have kk := kk b h9
  simp only [List.map_cons, kT] at kk ⊢
  rw [kr_succ]
  refine va_putN hX.1 hX.2.1 hX.2.2.2.2.1 hin ty0 hty hnm hX.2.2.2.1 hX.2.2.2.2.2.2.2.2.1.1 hH (kWs_D _ _ _) hS j0 (kEnt_obj hj h13) hc f hf (va_Nw.use rfl (hX.2.2.2.2.2.2.2.2.1.2.2.2.2.2.1 _ w)) (fun _ h9 => h9) hfin (v := kr g.2.2.1 v) hd (by rcases hrt with ⟨n, rfl⟩ | ⟨t, rfl⟩ <;> (by_cases hv : v = 0 <;> first | (subst hv; rfl) | (rw [kr_pos _ hv]; rfl))) (by rcases hrt with ⟨n, rfl⟩ | ⟨t, rfl⟩ <;> (by_cases hv : v = 0 <;> first | (subst hv; rfl) | (rw [kr_pos _ hv]; rfl))) (by rw [kFs_len, hlen]; exact hf) d (fun H1 locs1 hP1 hD1 hS1 => ?_)
  refine kk H1 locs1 ls (show va_P _ _ _ _ from ?_) hS1 hl
  rw [kWs_setR v hj h13 hk]
  exact hP1
theorem g_putK (q : Nat) (hX : Cok (p, l, e, R, s, m, args, below, meth, c, cc, nL, own, g, dep)) {a ci f i : Nat} {C : String} {T : u_T} {N : Nat} {ty0 : Nat → FieldType} {v : Int32} (hc : vwCl[kci ci]? = some (C, T, N)) (h13 : kox ci < 13) (hin : ∀ w ∈ u_ws C T N, w ∈ WT) (hf : f < N) (w : Cond.fieldLink own i (T f).1 (T f).2.1 (T f).2.2.1 ∈ WT) (hty : ∀ k, k < N → parseFieldDescriptor (T k).2.2.1 = some (ty0 k)) (hnm : ∀ a, a < N → ∀ b, b < N → a ≠ b → (T a).2.1 ≠ (T b).2.1) (hlen : (kKinds ci).length = N) (hfin : (T f).2.2.2 = false) {ty : FieldType} (hd : parseFieldDescriptor (T f).2.2.1 = some ty) (hrt : (∃ n, ty = .object n) ∨ ∃ t, ty = .array t) (hk : (kKinds ci)[f]? = some 4) (d : decode cc pc = .ok (.putfield i, 3)) (e9 : pc + 3 = q) (kk : GG (p, l, e, R, s, m, args, below, meth, c, cc, nL, own, g, dep) Q k n o q lv st (ksK M a f v)) : GG (p, l, e, R, s, m, args, below, meth, c, cc, nL, own, g, dep) Q k n (kg (kt M a ci) o) pc lv (.retAddr (g.1 (2000 + kBi v)) :: .ref a :: st) M := fun b h H locs ls hH hS hl => by
  subst e9
  obtain ⟨hb, h9⟩ := kg_some h
  obtain ⟨j0, n0, rfl, hj, -⟩ := kt_spec hb
  have kk := kk b h9
  simp only [List.map_cons, kT] at kk ⊢
  rw [kr_succ]
  refine va_put hX.1 hX.2.1 hX.2.2.2.2.1 hin ty0 hty hnm hX.2.2.2.1 hX.2.2.2.2.2.2.2.2.1.1 hH (kWs_D _ _ _) hS j0 (kEnt_obj hj h13) hc f hf (hX.2.2.2.2.1 _ w) (fun _ h9 => h9) hfin (v := .ref (g.1 (2000 + kBi v))) hd (by rcases hrt with ⟨n, rfl⟩ | ⟨t, rfl⟩ <;> rfl) (by rcases hrt with ⟨n, rfl⟩ | ⟨t, rfl⟩ <;> rfl) (by rw [kFs_len, hlen]; exact hf) d (fun H1 locs1 hP1 hD1 hS1 => ?_)
  refine kk H1 locs1 ls (show va_P _ _ _ _ from ?_) hS1 hl
  rw [kWs_setK v hj h13 hk]
  exact hP1
theorem g_putFK (q : Nat) (hX : Cok (p, l, e, R, s, m, args, below, meth, c, cc, nL, own, g, dep)) {a ci f i : Nat} {C : String} {T : u_T} {N : Nat} {ty0 : Nat → FieldType} {v : Int32} (hc : vwCl[kci ci]? = some (C, T, N)) (h13 : kox ci < 13) (hin : ∀ w ∈ u_ws C T N, w ∈ WT) (hf : f < N) (w : Cond.fieldLink own i (T f).1 (T f).2.1 (T f).2.2.1 ∈ WT) (hty : ∀ k, k < N → parseFieldDescriptor (T k).2.2.1 = some (ty0 k)) (hnm : ∀ a, a < N → ∀ b, b < N → a ≠ b → (T a).2.1 ≠ (T b).2.1) (hlen : (kKinds ci).length = N) (hfin : (T f).2.2.2 = true) (hini : meth.name = "<init>") (hdecl : (T f).1 = own) {ty : FieldType} (hd : parseFieldDescriptor (T f).2.2.1 = some ty) (hrt : (∃ n, ty = .object n) ∨ ∃ t, ty = .array t) (hk : (kKinds ci)[f]? = some 4) (d : decode cc pc = .ok (.putfield i, 3)) (e9 : pc + 3 = q) (kk : GG (p, l, e, R, s, m, args, below, meth, c, cc, nL, own, g, dep) Q k n o q lv st (ksK M a f v)) : GG (p, l, e, R, s, m, args, below, meth, c, cc, nL, own, g, dep) Q k n (kg (kt M a ci) o) pc lv (.retAddr (g.1 (2000 + kBi v)) :: .ref a :: st) M := fun b h H locs ls hH hS hl => by
  subst e9
  obtain ⟨hb, h9⟩ := kg_some h
  obtain ⟨j0, n0, rfl, hj, -⟩ := kt_spec hb
  have kk := kk b h9
  simp only [List.map_cons, kT] at kk ⊢
  rw [kr_succ]
  refine va_putF hX.1 hX.2.1 hX.2.2.2.2.1 hin ty0 hty hnm hX.2.2.2.1 hX.2.2.2.2.2.2.2.2.1.1 hH (kWs_D _ _ _) hS j0 (kEnt_obj hj h13) hc f hf (hX.2.2.2.2.1 _ w) (fun _ h9 => h9) hfin hini hdecl (v := .ref (g.1 (2000 + kBi v))) hd (by rcases hrt with ⟨n, rfl⟩ | ⟨t, rfl⟩ <;> rfl) (by rcases hrt with ⟨n, rfl⟩ | ⟨t, rfl⟩ <;> rfl) (by rw [kFs_len, hlen]; exact hf) d (fun H1 locs1 hP1 hD1 hS1 => ?_)
  refine kk H1 locs1 ls (show va_P _ _ _ _ from ?_) hS1 hl
  rw [kWs_setK v hj h13 hk]
  exact hP1
theorem g_putE0 (q : Nat) (hX : Cok (p, l, e, R, s, m, args, below, meth, c, cc, nL, own, g, dep)) {a ci f i : Nat} {C : String} {T : u_T} {N : Nat} {ty0 : Nat → FieldType} (hc : vwCl[kci ci]? = some (C, T, N)) (h13 : kox ci < 13) (hin : ∀ w ∈ u_ws C T N, w ∈ WT) (hf : f < N) (w : Cond.fieldLink own i (T f).1 (T f).2.1 (T f).2.2.1 ∈ WT) (hty : ∀ k, k < N → parseFieldDescriptor (T k).2.2.1 = some (ty0 k)) (hnm : ∀ a, a < N → ∀ b, b < N → a ≠ b → (T a).2.1 ≠ (T b).2.1) (hlen : (kKinds ci).length = N) (hfin : (T f).2.2.2 = false) {ty : FieldType} (hd : parseFieldDescriptor (T f).2.2.1 = some ty) (hrt : (∃ n, ty = .object n) ∨ ∃ t, ty = .array t) (hk : (kKinds ci)[f]? = some 5) (d : decode cc pc = .ok (.putfield i, 3)) (e9 : pc + 3 = q) (kk : GG (p, l, e, R, s, m, args, below, meth, c, cc, nL, own, g, dep) Q k n o q lv st (ksE M a f)) : GG (p, l, e, R, s, m, args, below, meth, c, cc, nL, own, g, dep) Q k n (kg (kt M a ci) o) pc lv (.retAddr (g.1 1999) :: .ref a :: st) M := fun b h H locs ls hH hS hl => by
  subst e9
  obtain ⟨hb, h9⟩ := kg_some h
  obtain ⟨j0, n0, rfl, hj, -⟩ := kt_spec hb
  have kk := kk b h9
  simp only [List.map_cons, kT] at kk ⊢
  rw [kr_succ]
  refine va_put hX.1 hX.2.1 hX.2.2.2.2.1 hin ty0 hty hnm hX.2.2.2.1 hX.2.2.2.2.2.2.2.2.1.1 hH (kWs_D _ _ _) hS j0 (kEnt_obj hj h13) hc f hf (hX.2.2.2.2.1 _ w) (fun _ h9 => h9) hfin (v := .ref (g.1 1999)) hd (by rcases hrt with ⟨n, rfl⟩ | ⟨t, rfl⟩ <;> rfl) (by rcases hrt with ⟨n, rfl⟩ | ⟨t, rfl⟩ <;> rfl) (by rw [kFs_len, hlen]; exact hf) d (fun H1 locs1 hP1 hD1 hS1 => ?_)
  refine kk H1 locs1 ls (show va_P _ _ _ _ from ?_) hS1 hl
  rw [kWs_setE0 hj h13 hk]
  exact hP1
theorem g_putE (q : Nat) (hX : Cok (p, l, e, R, s, m, args, below, meth, c, cc, nL, own, g, dep)) {a ci f i : Nat} {C : String} {T : u_T} {N : Nat} {ty0 : Nat → FieldType} {v : Nat} (hc : vwCl[kci ci]? = some (C, T, N)) (h13 : kox ci < 13) (hin : ∀ w ∈ u_ws C T N, w ∈ WT) (hf : f < N) (w : Cond.fieldLink own i (T f).1 (T f).2.1 (T f).2.2.1 ∈ WT) (hty : ∀ k, k < N → parseFieldDescriptor (T k).2.2.1 = some (ty0 k)) (hnm : ∀ a, a < N → ∀ b, b < N → a ≠ b → (T a).2.1 ≠ (T b).2.1) (hlen : (kKinds ci).length = N) (hfin : (T f).2.2.2 = false) {ty : FieldType} (hd : parseFieldDescriptor (T f).2.2.1 = some ty) (hrt : (∃ n, ty = .object n) ∨ ∃ t, ty = .array t) (hk : (kKinds ci)[f]? = some 5) (d : decode cc pc = .ok (.putfield i, 3)) (e9 : pc + 3 = q) (kk : GG (p, l, e, R, s, m, args, below, meth, c, cc, nL, own, g, dep) Q k n o q lv st (ksR M a f v)) : GG (p, l, e, R, s, m, args, below, meth, c, cc, nL, own, g, dep) Q k n (kg (kt M a ci && !(v == 0)) o) pc lv (.ref v :: .ref a :: st) M := fun b h H locs ls hH hS hl => by
  subst e9
  obtain ⟨hb, h9⟩ := kg_some h
  simp only [Bool.and_eq_true, Bool.not_eq_true', beq_eq_false_iff_ne] at hb
  obtain ⟨hb, hne⟩ := hb
  have hvv : ksR M a f v = ksR M a f (v - 1 + 1) := by rw [Nat.sub_add_cancel (by omega)]
  obtain ⟨j0, n0, rfl, hj, -⟩ := kt_spec hb
  have kk := kk b h9
  simp only [List.map_cons, kT] at kk ⊢
  rw [kr_succ, kr_pos _ hne, show g.2.2.1 + v = g.2.2.1 + 1 + (v - 1) by omega]
  refine va_put hX.1 hX.2.1 hX.2.2.2.2.1 hin ty0 hty hnm hX.2.2.2.1 hX.2.2.2.2.2.2.2.2.1.1 hH (kWs_D _ _ _) hS j0 (kEnt_obj hj h13) hc f hf (hX.2.2.2.2.1 _ w) (fun _ h9 => h9) hfin (v := .ref (g.2.2.1 + 1 + (v - 1))) hd (by rcases hrt with ⟨n, rfl⟩ | ⟨t, rfl⟩ <;> rfl) (by rcases hrt with ⟨n, rfl⟩ | ⟨t, rfl⟩ <;> rfl) (by rw [kFs_len, hlen]; exact hf) d (fun H1 locs1 hP1 hD1 hS1 => ?_)
  refine kk H1 locs1 ls (show va_P _ _ _ _ from ?_) hS1 hl
  rw [hvv, kWs_setE (v - 1) hj h13 hk]
  exact hP1
theorem g_putSR (q : Nat) (hX : Cok (p, l, e, R, s, m, args, below, meth, c, cc, nL, own, g, dep)) {a ci f i : Nat} {C : String} {T : u_T} {N : Nat} {ty0 : Nat → FieldType} {v : Nat} (hc : vwCl[kci ci]? = some (C, T, N)) (h13 : kox ci < 13) (hin : ∀ w ∈ u_ws C T N, w ∈ WT) (hf : f < N) {ref : String} (w : Cond.fieldLink own i ref (T f).2.1 (T f).2.2.1 ∈ WT) (ws : Cond.sameField ref (T f).1 (T f).2.1 (T f).2.2.1 ∈ WT) (hty : ∀ k, k < N → parseFieldDescriptor (T k).2.2.1 = some (ty0 k)) (hnm : ∀ a, a < N → ∀ b, b < N → a ≠ b → (T a).2.1 ≠ (T b).2.1) (hlen : (kKinds ci).length = N) (hfin : (T f).2.2.2 = false) {ty : FieldType} (hd : parseFieldDescriptor (T f).2.2.1 = some ty) (hrt : (∃ n, ty = .object n) ∨ ∃ t, ty = .array t) (hk : (kKinds ci)[f]? = some 1) (d : decode cc pc = .ok (.putfield i, 3)) (e9 : pc + 3 = q) (kk : GG (p, l, e, R, s, m, args, below, meth, c, cc, nL, own, g, dep) Q k n o q lv st (ksR M a f v)) : GG (p, l, e, R, s, m, args, below, meth, c, cc, nL, own, g, dep) Q k n (kg (kt M a ci) o) pc lv (.ref v :: .ref a :: st) M := fun b h H locs ls hH hS hl => by
  subst e9
  obtain ⟨hb, h9⟩ := kg_some h
  obtain ⟨j0, n0, rfl, hj, -⟩ := kt_spec hb
  have kk := kk b h9
  simp only [List.map_cons, kT] at kk ⊢
  rw [kr_succ]
  refine va_put hX.1 hX.2.1 hX.2.2.2.2.1 hin ty0 hty hnm hX.2.2.2.1 hX.2.2.2.2.2.2.2.2.1.1 hH (kWs_D _ _ _) hS j0 (kEnt_obj hj h13) hc f hf (hX.2.2.2.2.1 _ w) (fun x h9 => u_same (hX.2.2.2.2.1 _ ws) x h9) hfin (v := kr g.2.2.1 v) hd (by rcases hrt with ⟨n, rfl⟩ | ⟨t, rfl⟩ <;> (by_cases hv : v = 0 <;> first | (subst hv; rfl) | (rw [kr_pos _ hv]; rfl))) (by rcases hrt with ⟨n, rfl⟩ | ⟨t, rfl⟩ <;> (by_cases hv : v = 0 <;> first | (subst hv; rfl) | (rw [kr_pos _ hv]; rfl))) (by rw [kFs_len, hlen]; exact hf) d (fun H1 locs1 hP1 hD1 hS1 => ?_)
  refine kk H1 locs1 ls (show va_P _ _ _ _ from ?_) hS1 hl
  rw [kWs_setR v hj h13 hk]
  exact hP1
theorem g_putSI (q : Nat) (hX : Cok (p, l, e, R, s, m, args, below, meth, c, cc, nL, own, g, dep)) {a ci f i : Nat} {C : String} {T : u_T} {N : Nat} {ty0 : Nat → FieldType} {v : Int32} (hc : vwCl[kci ci]? = some (C, T, N)) (h13 : kox ci < 13) (hin : ∀ w ∈ u_ws C T N, w ∈ WT) (hf : f < N) {ref : String} (w : Cond.fieldLink own i ref (T f).2.1 (T f).2.2.1 ∈ WT) (ws : Cond.sameField ref (T f).1 (T f).2.1 (T f).2.2.1 ∈ WT) (hty : ∀ k, k < N → parseFieldDescriptor (T k).2.2.1 = some (ty0 k)) (hnm : ∀ a, a < N → ∀ b, b < N → a ≠ b → (T a).2.1 ≠ (T b).2.1) (hlen : (kKinds ci).length = N) (hfin : (T f).2.2.2 = false) (hd : parseFieldDescriptor (T f).2.2.1 = some .int) (hk : (kKinds ci)[f]? = some 0) (d : decode cc pc = .ok (.putfield i, 3)) (e9 : pc + 3 = q) (kk : GG (p, l, e, R, s, m, args, below, meth, c, cc, nL, own, g, dep) Q k n o q lv st (ksI M a f v)) : GG (p, l, e, R, s, m, args, below, meth, c, cc, nL, own, g, dep) Q k n (kg (kt M a ci) o) pc lv (.int v :: .ref a :: st) M := fun b h H locs ls hH hS hl => by
  subst e9
  obtain ⟨hb, h9⟩ := kg_some h
  obtain ⟨j0, n0, rfl, hj, -⟩ := kt_spec hb
  have kk := kk b h9
  simp only [List.map_cons, kT] at kk ⊢
  rw [kr_succ]
  refine va_put hX.1 hX.2.1 hX.2.2.2.2.1 hin ty0 hty hnm hX.2.2.2.1 hX.2.2.2.2.2.2.2.2.1.1 hH (kWs_D _ _ _) hS j0 (kEnt_obj hj h13) hc f hf (hX.2.2.2.2.1 _ w) (fun x h9 => u_same (hX.2.2.2.2.1 _ ws) x h9) hfin (v := .int v) hd rfl rfl (by rw [kFs_len, hlen]; exact hf) d (fun H1 locs1 hP1 hD1 hS1 => ?_)
  refine kk H1 locs1 ls (show va_P _ _ _ _ from ?_) hS1 hl
  rw [kWs_setI v hj h13 hk]
  exact hP1
theorem g_putNI (q : Nat) (hX : Cok (p, l, e, R, s, m, args, below, meth, c, cc, nL, own, g, dep)) {a ci f i : Nat} {C : String} {T : u_T} {N : Nat} {ty0 : Nat → FieldType} {v : Int32} {host : String} (hc : vwCl[kci ci]? = some (C, T, N)) (h13 : kox ci < 13) (hin : ∀ w ∈ u_ws C T N, w ∈ WT) (hf : f < N) (w : (own, i, (T f).1, (T f).2.1, (T f).2.2.1, host) ∈ kFNest) (hty : ∀ k, k < N → parseFieldDescriptor (T k).2.2.1 = some (ty0 k)) (hnm : ∀ a, a < N → ∀ b, b < N → a ≠ b → (T a).2.1 ≠ (T b).2.1) (hlen : (kKinds ci).length = N) (hfin : (T f).2.2.2 = false) (hd : parseFieldDescriptor (T f).2.2.1 = some .int) (hk : (kKinds ci)[f]? = some 0) (d : decode cc pc = .ok (.putfield i, 3)) (e9 : pc + 3 = q) (kk : GG (p, l, e, R, s, m, args, below, meth, c, cc, nL, own, g, dep) Q k n o q lv st (ksI M a f v)) : GG (p, l, e, R, s, m, args, below, meth, c, cc, nL, own, g, dep) Q k n (kg (kt M a ci) o) pc lv (.int v :: .ref a :: st) M := fun b h H locs ls hH hS hl => by
  subst e9
  obtain ⟨hb, h9⟩ := kg_some h
  obtain ⟨j0, n0, rfl, hj, -⟩ := kt_spec hb
  have kk := kk b h9
  simp only [List.map_cons, kT] at kk ⊢
  rw [kr_succ]
  refine va_putN hX.1 hX.2.1 hX.2.2.2.2.1 hin ty0 hty hnm hX.2.2.2.1 hX.2.2.2.2.2.2.2.2.1.1 hH (kWs_D _ _ _) hS j0 (kEnt_obj hj h13) hc f hf (va_Nw.use rfl (hX.2.2.2.2.2.2.2.2.1.2.2.2.2.2.1 _ w)) (fun _ h9 => h9) hfin (v := .int v) hd rfl rfl (by rw [kFs_len, hlen]; exact hf) d (fun H1 locs1 hP1 hD1 hS1 => ?_)
  refine kk H1 locs1 ls (show va_P _ _ _ _ from ?_) hS1 hl
  rw [kWs_setI v hj h13 hk]
  exact hP1
theorem g_putNZ (q : Nat) (hX : Cok (p, l, e, R, s, m, args, below, meth, c, cc, nL, own, g, dep)) {a ci f i : Nat} {C : String} {T : u_T} {N : Nat} {ty0 : Nat → FieldType} {v : Int32} {host : String} (hc : vwCl[kci ci]? = some (C, T, N)) (h13 : kox ci < 13) (hin : ∀ w ∈ u_ws C T N, w ∈ WT) (hf : f < N) (w : (own, i, (T f).1, (T f).2.1, (T f).2.2.1, host) ∈ kFNest) (hty : ∀ k, k < N → parseFieldDescriptor (T k).2.2.1 = some (ty0 k)) (hnm : ∀ a, a < N → ∀ b, b < N → a ≠ b → (T a).2.1 ≠ (T b).2.1) (hlen : (kKinds ci).length = N) (hfin : (T f).2.2.2 = false) (hd : parseFieldDescriptor (T f).2.2.1 = some .boolean) (hk : (kKinds ci)[f]? = some 0) (d : decode cc pc = .ok (.putfield i, 3)) (e9 : pc + 3 = q) (kk : GG (p, l, e, R, s, m, args, below, meth, c, cc, nL, own, g, dep) Q k n o q lv st (ksI M a f v)) : GG (p, l, e, R, s, m, args, below, meth, c, cc, nL, own, g, dep) Q k n (kg (kt M a ci && (v == 0 || v == 1)) o) pc lv (.int v :: .ref a :: st) M := fun b h H locs ls hH hS hl => by
  subst e9
  obtain ⟨hb, h9⟩ := kg_some h
  simp only [Bool.and_eq_true, Bool.or_eq_true, beq_iff_eq] at hb
  obtain ⟨hb, hv⟩ := hb
  have hv9 : narrow .boolean (.int v) = .int v := by rcases hv with rfl | rfl <;> rfl
  have hv8 : fits .boolean (.int v) = true := by rcases hv with rfl | rfl <;> rfl
  obtain ⟨j0, n0, rfl, hj, -⟩ := kt_spec hb
  have kk := kk b h9
  simp only [List.map_cons, kT] at kk ⊢
  rw [kr_succ]
  refine va_putN hX.1 hX.2.1 hX.2.2.2.2.1 hin ty0 hty hnm hX.2.2.2.1 hX.2.2.2.2.2.2.2.2.1.1 hH (kWs_D _ _ _) hS j0 (kEnt_obj hj h13) hc f hf (va_Nw.use rfl (hX.2.2.2.2.2.2.2.2.1.2.2.2.2.2.1 _ w)) (fun _ h9 => h9) hfin (v := .int v) hd hv9 hv8 (by rw [kFs_len, hlen]; exact hf) d (fun H1 locs1 hP1 hD1 hS1 => ?_)
  refine kk H1 locs1 ls (show va_P _ _ _ _ from ?_) hS1 hl
  rw [kWs_setI v hj h13 hk]
  exact hP1
theorem g_bald (q : Nat) (hX : Cok (p, l, e, R, s, m, args, below, meth, c, cc, nL, own, g, dep)) {a : Nat} {i : Int32} (d : decode cc pc = .ok (.baload, 1)) (e9 : pc + 1 = q) (kk : GG (p, l, e, R, s, m, args, below, meth, c, cc, nL, own, g, dep) Q k n o q lv (.int (kI M a (kx i)) :: st) M) : GG (p, l, e, R, s, m, args, below, meth, c, cc, nL, own, g, dep) Q k n (kg (kin M a 20 i) o) pc lv (.int i :: .ref a :: st) M := fun b h H locs ls hH hS hl => by
  subst e9
  obtain ⟨hb, h9⟩ := kg_some h
  obtain ⟨j0, n0, rfl, hj, hn, hvi, hlt⟩ := kin_spec hb
  have kk := kk b h9
  simp only [List.map_cons, kT] at kk ⊢
  rw [kr_succ]
  exact va_bald hX.1 hX.2.1 hX.2.2.2.2.2.2.2.2.1.1 hH j0 2 (kEnt_byt hj) rfl hvi d (kk H locs ls hH hS hl)
theorem kWs_upB {aD : Nat → ClassId} {B : Nat} {M : kMem} {k n j : Nat} (v : Int32) (h : M.1[k]? = some (20, n)) : kWs aD B (ksI M (k + 1) j v) = (kWs aD B M).set k (B + 1 + k, .inl (aD 20, n, .inl (upd (fun j => kI M (k + 1) j) j v))) := by
  refine kWs_set rfl (List.getElem?_eq_some_iff.mp h).1 (fun x hx => ?_) (fun j x hj => kEnt_congr x (fun i => if_neg (by omega)) (fun i => rfl) (fun i => rfl))
  cases h.symm.trans hx
  have e9 : (fun i => kI (ksI M (k + 1) j v) (k + 1) i) = upd (fun j => kI M (k + 1) j) j v := by
    funext i
    unfold upd
    by_cases hi : i = j
    · subst hi; simp [kI, ksI]
    · simp [kI, ksI, hi]
  rw [← e9]
  rfl
theorem g_bast (q : Nat) (hX : Cok (p, l, e, R, s, m, args, below, meth, c, cc, nL, own, g, dep)) {a : Nat} {i v : Int32} (d : decode cc pc = .ok (.bastore, 1)) (e9 : pc + 1 = q) (kk : GG (p, l, e, R, s, m, args, below, meth, c, cc, nL, own, g, dep) Q k n o q lv st (ksI M a (kx i) v.toInt8.toInt32)) : GG (p, l, e, R, s, m, args, below, meth, c, cc, nL, own, g, dep) Q k n (kg (kin M a 20 i) o) pc lv (.int v :: .int i :: .ref a :: st) M := fun b h H locs ls hH hS hl => by
  subst e9
  obtain ⟨hb, h9⟩ := kg_some h
  obtain ⟨j0, n0, rfl, hj, hn, hvi, hlt⟩ := kin_spec hb
  have kk := kk b h9
  simp only [List.map_cons, kT] at kk ⊢
  rw [kr_succ]
  refine va_bast hX.1 hX.2.1 hX.2.2.2.2.2.2.2.2.1.1 hH (kWs_D _ _ _) hS j0 2 (kEnt_byt hj) rfl hvi d (fun H1 locs1 hP1 hD1 hS1 => ?_)
  refine kk H1 locs1 ls (show va_P _ _ _ _ from ?_) hS1 hl
  rw [kWs_upB v.toInt8.toInt32 hj]
  rw [vp_nar_byte] at hP1
  exact hP1
theorem g_alen20 (q : Nat) (hX : Cok (p, l, e, R, s, m, args, below, meth, c, cc, nL, own, g, dep)) {a : Nat} (d : decode cc pc = .ok (.arraylength, 1)) (e9 : pc + 1 = q) (kk : GG (p, l, e, R, s, m, args, below, meth, c, cc, nL, own, g, dep) Q k n o q lv (.int (Int32.ofNat (kn M a)) :: st) M) : GG (p, l, e, R, s, m, args, below, meth, c, cc, nL, own, g, dep) Q k n (kg (kt M a 20) o) pc lv (.ref a :: st) M := fun b h H locs ls hH hS hl => by
  subst e9
  obtain ⟨hb, h9⟩ := kg_some h
  obtain ⟨j0, n0, rfl, hj, hn⟩ := kt_spec hb
  have kk := kk b h9
  simp only [List.map_cons, kT] at kk ⊢
  rw [kr_succ]
  exact va_alen hX.1 hX.2.1 hX.2.2.2.2.2.2.2.2.1.1 hH j0 2 (kEnt_byt hj) rfl (by rw [hn]) d (kk H locs ls hH hS hl)
theorem g_gsCompact (q : Nat) (hX : Cok (p, l, e, R, s, m, args, below, meth, c, cc, nL, own, g, dep)) {i : Nat} (w : Cond.fieldLink own i "java/lang/String" "COMPACT_STRINGS" "Z" ∈ WT) (d : decode cc pc = .ok (.getstatic i, 3)) (e9 : pc + 3 = q) (kk : GG (p, l, e, R, s, m, args, below, meth, c, cc, nL, own, g, dep) Q k n o q lv (.int 1 :: st) M) : GG (p, l, e, R, s, m, args, below, meth, c, cc, nL, own, g, dep) Q k n o pc lv st M := fun b h H locs ls hH hS hl => by
  subst e9
  exact va_gets hX.1 hX.2.1 hX.2.2.2.2.2.2.2.1.2.1 hS hX.2.2.2.1 (hX.2.2.2.2.1 _ w) (fun _ h9 => h9) d (kk b h H locs ls hH hS hl)
theorem g_gsEmpty (q : Nat) (hX : Cok (p, l, e, R, s, m, args, below, meth, c, cc, nL, own, g, dep)) {i : Nat} (w : Cond.fieldLink own i "java/util/ArrayList" "DEFAULTCAPACITY_EMPTY_ELEMENTDATA" "[Ljava/lang/Object;" ∈ WT) (d : decode cc pc = .ok (.getstatic i, 3)) (e9 : pc + 3 = q) (kk : GG (p, l, e, R, s, m, args, below, meth, c, cc, nL, own, g, dep) Q k n o q lv (.retAddr (g.1 1999) :: st) M) : GG (p, l, e, R, s, m, args, below, meth, c, cc, nL, own, g, dep) Q k n o pc lv st M := fun b h H locs ls hH hS hl => by
  subst e9
  exact va_gets hX.1 hX.2.1 hX.2.2.2.2.2.2.2.1.2.2.2.1.1 hS hX.2.2.2.1 (hX.2.2.2.2.1 _ w) (fun _ h9 => h9) d (kk b h H locs ls hH hS hl)
theorem g_gsHigh (q : Nat) (hX : Cok (p, l, e, R, s, m, args, below, meth, c, cc, nL, own, g, dep)) {i : Nat} (w : Cond.fieldLink own i "java/lang/Integer$IntegerCache" "high" "I" ∈ WT) (d : decode cc pc = .ok (.getstatic i, 3)) (e9 : pc + 3 = q) (kk : GG (p, l, e, R, s, m, args, below, meth, c, cc, nL, own, g, dep) Q k n o q lv (.int 127 :: st) M) : GG (p, l, e, R, s, m, args, below, meth, c, cc, nL, own, g, dep) Q k n o pc lv st M := fun b h H locs ls hH hS hl => by
  subst e9
  exact va_gets hX.1 hX.2.1 hX.2.2.2.2.2.2.2.1.2.2.2.2.1.1 hS hX.2.2.2.1 (hX.2.2.2.2.1 _ w) (fun _ h9 => h9) d (kk b h H locs ls hH hS hl)
theorem g_gsCache (q : Nat) (hX : Cok (p, l, e, R, s, m, args, below, meth, c, cc, nL, own, g, dep)) {i : Nat} (w : Cond.fieldLink own i "java/lang/Integer$IntegerCache" "cache" "[Ljava/lang/Integer;" ∈ WT) (d : decode cc pc = .ok (.getstatic i, 3)) (e9 : pc + 3 = q) (kk : GG (p, l, e, R, s, m, args, below, meth, c, cc, nL, own, g, dep) Q k n o q lv (.retAddr (g.1 1998) :: st) M) : GG (p, l, e, R, s, m, args, below, meth, c, cc, nL, own, g, dep) Q k n o pc lv st M := fun b h H locs ls hH hS hl => by
  subst e9
  exact va_gets hX.1 hX.2.1 hX.2.2.2.2.2.2.2.1.2.2.2.2.1.2.1 hS hX.2.2.2.1 (hX.2.2.2.2.1 _ w) (fun _ h9 => h9) d (kk b h H locs ls hH hS hl)
theorem g_gsOnes (q : Nat) (hX : Cok (p, l, e, R, s, m, args, below, meth, c, cc, nL, own, g, dep)) {i : Nat} (w : Cond.fieldLink own i "java/lang/Integer" "DigitOnes" "[B" ∈ WT) (d : decode cc pc = .ok (.getstatic i, 3)) (e9 : pc + 3 = q) (kk : GG (p, l, e, R, s, m, args, below, meth, c, cc, nL, own, g, dep) Q k n o q lv (.retAddr (g.1 1997) :: st) M) : GG (p, l, e, R, s, m, args, below, meth, c, cc, nL, own, g, dep) Q k n o pc lv st M := fun b h H locs ls hH hS hl => by
  subst e9
  exact va_gets hX.1 hX.2.1 hX.2.2.2.2.2.2.2.1.2.2.2.2.2.1.1 hS hX.2.2.2.1 (hX.2.2.2.2.1 _ w) (fun _ h9 => h9) d (kk b h H locs ls hH hS hl)
theorem g_gsTens (q : Nat) (hX : Cok (p, l, e, R, s, m, args, below, meth, c, cc, nL, own, g, dep)) {i : Nat} (w : Cond.fieldLink own i "java/lang/Integer" "DigitTens" "[B" ∈ WT) (d : decode cc pc = .ok (.getstatic i, 3)) (e9 : pc + 3 = q) (kk : GG (p, l, e, R, s, m, args, below, meth, c, cc, nL, own, g, dep) Q k n o q lv (.retAddr (g.1 1996) :: st) M) : GG (p, l, e, R, s, m, args, below, meth, c, cc, nL, own, g, dep) Q k n o pc lv st M := fun b h H locs ls hH hS hl => by
  subst e9
  exact va_gets hX.1 hX.2.1 hX.2.2.2.2.2.2.2.1.2.2.2.2.2.2.1 hS hX.2.2.2.1 (hX.2.2.2.2.1 _ w) (fun _ h9 => h9) d (kk b h H locs ls hH hS hl)
theorem g_elen (q : Nat) (hX : Cok (p, l, e, R, s, m, args, below, meth, c, cc, nL, own, g, dep)) (d : decode cc pc = .ok (.arraylength, 1)) (e9 : pc + 1 = q) (kk : GG (p, l, e, R, s, m, args, below, meth, c, cc, nL, own, g, dep) Q k n o q lv (.int 0 :: st) M) : GG (p, l, e, R, s, m, args, below, meth, c, cc, nL, own, g, dep) Q k n o pc lv (.retAddr (g.1 1999) :: st) M := fun b h H locs ls hH hS hl => by
  subst e9
  exact va_tlen hX.1 hX.2.1 hX.2.2.2.2.2.2.2.1.2.2.2.1.2 hS rfl d (kk b h H locs ls hH hS hl)
theorem g_cacheAt (q : Nat) (hX : Cok (p, l, e, R, s, m, args, below, meth, c, cc, nL, own, g, dep)) {i : Int32} (d : decode cc pc = .ok (.aaload, 1)) (e9 : pc + 1 = q) (kk : GG (p, l, e, R, s, m, args, below, meth, c, cc, nL, own, g, dep) Q k n o q lv (.retAddr (g.1 (2000 + kBi (i - 128))) :: st) M) : GG (p, l, e, R, s, m, args, below, meth, c, cc, nL, own, g, dep) Q k n (kg (decide (0 ≤ i) && decide (i < 256)) o) pc lv (.int i :: .retAddr (g.1 1998) :: st) M := fun b h H locs ls hH hS hl => by
  subst e9
  obtain ⟨hb, h9⟩ := kg_some h
  simp only [Bool.and_eq_true, decide_eq_true_eq] at hb
  have e1 : kBi (i - 128) = i.toNatClampNeg := by
    unfold kBi
    rw [show i - 128 + 128 = i by simp]
  have h1 := Int32.le_iff_toInt_le.mp hb.1
  have h2 := Int32.lt_iff_toInt_lt.mp hb.2
  have h3 : (0 : Int32).toInt = 0 := by decide
  have h4 : (256 : Int32).toInt = 256 := by decide
  refine vb_tq hX.1 hX.2.1 hX.2.2.2.2.2.2.2.1.2.2.2.2.1.2.2.1 hS (v := .ref (g.1 (2000 + kBi (i - 128)))) (vp_in_iff.mpr ⟨by omega, by omega⟩) (by rw [e1]) d ?_
  exact kk b h9 H locs ls hH hS hl
theorem g_onesAt (q : Nat) (hX : Cok (p, l, e, R, s, m, args, below, meth, c, cc, nL, own, g, dep)) {i : Int32} (d : decode cc pc = .ok (.baload, 1)) (e9 : pc + 1 = q) (kk : GG (p, l, e, R, s, m, args, below, meth, c, cc, nL, own, g, dep) Q k n o q lv (.int (nI (48 + i.toNatClampNeg % 10)) :: st) M) : GG (p, l, e, R, s, m, args, below, meth, c, cc, nL, own, g, dep) Q k n (kg (decide (0 ≤ i) && decide (i < 100)) o) pc lv (.int i :: .retAddr (g.1 1997) :: st) M := fun b h H locs ls hH hS hl => by
  subst e9
  obtain ⟨hb, h9⟩ := kg_some h
  simp only [Bool.and_eq_true, decide_eq_true_eq] at hb
  have h1 := Int32.le_iff_toInt_le.mp hb.1
  have h2 := Int32.lt_iff_toInt_lt.mp hb.2
  have h3 : (0 : Int32).toInt = 0 := by decide
  have h4 : (100 : Int32).toInt = 100 := by decide
  refine va_tb hX.1 hX.2.1 hX.2.2.2.2.2.2.2.1.2.2.2.2.2.1.2 hS (vp_in_iff.mpr ⟨by omega, by omega⟩) rfl d ?_
  exact kk b h9 H locs ls hH hS hl
theorem g_tensAt (q : Nat) (hX : Cok (p, l, e, R, s, m, args, below, meth, c, cc, nL, own, g, dep)) {i : Int32} (d : decode cc pc = .ok (.baload, 1)) (e9 : pc + 1 = q) (kk : GG (p, l, e, R, s, m, args, below, meth, c, cc, nL, own, g, dep) Q k n o q lv (.int (nI (48 + i.toNatClampNeg / 10)) :: st) M) : GG (p, l, e, R, s, m, args, below, meth, c, cc, nL, own, g, dep) Q k n (kg (decide (0 ≤ i) && decide (i < 100)) o) pc lv (.int i :: .retAddr (g.1 1996) :: st) M := fun b h H locs ls hH hS hl => by
  subst e9
  obtain ⟨hb, h9⟩ := kg_some h
  simp only [Bool.and_eq_true, decide_eq_true_eq] at hb
  have h1 := Int32.le_iff_toInt_le.mp hb.1
  have h2 := Int32.lt_iff_toInt_lt.mp hb.2
  have h3 : (0 : Int32).toInt = 0 := by decide
  have h4 : (100 : Int32).toInt = 100 := by decide
  refine va_tb hX.1 hX.2.1 hX.2.2.2.2.2.2.2.1.2.2.2.2.2.2.2 hS (vp_in_iff.mpr ⟨by omega, by omega⟩) rfl d ?_
  exact kk b h9 H locs ls hH hS hl
theorem kBk_spec {x : Int32} (h : kBk x = true) : kBi x < 256 ∧ vb_c (kBi x) = x := by
  unfold kBk at h
  simp only [Bool.and_eq_true, decide_eq_true_eq] at h
  have h1 := Int32.le_iff_toInt_le.mp h.1
  have h2 := Int32.le_iff_toInt_le.mp h.2
  have h3 : (-128 : Int32).toInt = -128 := by decide
  have h4 : (127 : Int32).toInt = 127 := by decide
  have h5 : (128 : Int32).toInt = 128 := by decide
  have h6 : (x + 128).toInt = x.toInt + 128 := by
    rw [Int32.toInt_add, h5]
    exact Int.bmod_eq_of_le (by omega) (by omega)
  have h7 : ((x + 128).toNatClampNeg : Int) = x.toInt + 128 := by
    rw [← h6]
    exact Int.toNat_of_nonneg (by omega)
  unfold kBi vb_c
  refine ⟨by omega, ?_⟩
  apply Int32.toInt_inj.mp
  rw [Int32.toInt_sub, h5, Int32.toInt_ofNat_of_lt (by omega), h7]
  exact (Int.bmod_eq_of_le (by omega) (by omega)).trans (by omega)
theorem g_box (q : Nat) (hX : Cok (p, l, e, R, s, m, args, below, meth, c, cc, nL, own, g, dep)) {x : Int32} {i : Nat} (w : Cond.fieldLink own i "java/lang/Integer" "value" "I" ∈ WT) (d : decode cc pc = .ok (.getfield i, 3)) (e9 : pc + 3 = q) (kk : GG (p, l, e, R, s, m, args, below, meth, c, cc, nL, own, g, dep) Q k n o q lv (.int x :: st) M) : GG (p, l, e, R, s, m, args, below, meth, c, cc, nL, own, g, dep) Q k n (kg (kBk x) o) pc lv (.retAddr (g.1 (2000 + kBi x)) :: st) M := fun b h H locs ls hH hS hl => by
  subst e9
  obtain ⟨hb, h9⟩ := kg_some h
  obtain ⟨h1, h2⟩ := kBk_spec hb
  refine va_getX (ad := fun k => g.1 (2000 + k)) (i := kBi x) hX.1 hX.2.1 hX.2.2.2.2.2.2.2.1.2.2.2.2.1.2.2.2.2 h1 hS hX.2.2.2.1 (hX.2.2.2.2.1 _ w) (fun _ h9 => h9) d ?_
  rw [h2]
  exact kk b h9 H locs ls hH hS hl
theorem k_cell {H : Heap} {ci j0 n0 : Nat} {C : String} {T : u_T} {N : Nat} (hX : Cok (p, l, e, R, s, m, args, below, meth, c, cc, nL, own, g, dep)) (hH : kHd g.1 g.2.1 g.2.2.1 M H) (hc : vwCl[kci ci]? = some (C, T, N)) (h13 : kox ci < 13) (hj : M.1[j0]? = some (ci, n0)) : ∃ cell : Cell, H[g.2.2.1 + 1 + j0]? = some cell ∧ cell.vm.isStatics = false ∧ s.vm.findClass C = some cell.cls := va_recv hX.2.2.2.2.2.2.2.2.1.1 hH hc (kEnt_obj hj h13)
theorem g_cast (q : Nat) (hX : Cok (p, l, e, R, s, m, args, below, meth, c, cc, nL, own, g, dep)) {a ci i : Nat} {C : String} {T : u_T} {N : Nat} (hc : vwCl[kci ci]? = some (C, T, N)) (h13 : kox ci < 13) (w : Cond.classLink own i C ∈ WT) (d : decode cc pc = .ok (.checkcast i, 3)) (e9 : pc + 3 = q) (kk : GG (p, l, e, R, s, m, args, below, meth, c, cc, nL, own, g, dep) Q k n o q lv (.ref a :: st) M) : GG (p, l, e, R, s, m, args, below, meth, c, cc, nL, own, g, dep) Q k n (kg (a == 0 || kt M a ci) o) pc lv (.ref a :: st) M := fun b h H locs ls hH hS hl => by
  subst e9
  obtain ⟨hb, h9⟩ := kg_some h
  have kk := kk b h9 H locs ls hH hS hl
  simp only [List.map_cons, kT] at kk ⊢
  simp only [Bool.or_eq_true, beq_iff_eq] at hb
  rcases hb with rfl | hb
  · rw [kr_zero] at kk ⊢
    exact lv_castN hX.1 hX.2.1 d kk
  · obtain ⟨j0, n0, rfl, hj, -⟩ := kt_spec hb
    rw [kr_succ] at kk ⊢
    exact va_castE hX.1 hX.2.1 hX.2.2.2.1 (hX.2.2.2.2.1 _ w) (k_cell hX hH hc h13 hj) d kk
theorem k_box {H : Heap} {locs : List Loc} {x : Int32} (hX : Cok (p, l, e, R, s, m, args, below, meth, c, cc, nL, own, g, dep)) (hS : va_S (kZ g.2.2.1) s.heap H locs) (hb : kBk x = true) : ∃ cell : Cell, H[g.1 (2000 + kBi x)]? = some cell ∧ cell.vm.isStatics = false ∧ s.vm.findClass "java/lang/Integer" = some cell.cls := by
  obtain ⟨cell, c1, c2, c3, -⟩ := (hX.2.2.2.2.2.2.2.1.2.2.2.2.1.2.2.2.1 (kBi x) (kBk_spec hb).1).kept (H1 := H) hS.2.1
  exact ⟨cell, c1, c2, c3⟩
theorem g_castI (q : Nat) (hX : Cok (p, l, e, R, s, m, args, below, meth, c, cc, nL, own, g, dep)) {x : Int32} {i : Nat} (w : Cond.classLink own i "java/lang/Integer" ∈ WT) (d : decode cc pc = .ok (.checkcast i, 3)) (e9 : pc + 3 = q) (kk : GG (p, l, e, R, s, m, args, below, meth, c, cc, nL, own, g, dep) Q k n o q lv (.retAddr (g.1 (2000 + kBi x)) :: st) M) : GG (p, l, e, R, s, m, args, below, meth, c, cc, nL, own, g, dep) Q k n (kg (kBk x) o) pc lv (.retAddr (g.1 (2000 + kBi x)) :: st) M := fun b h H locs ls hH hS hl => by
  subst e9
  obtain ⟨hb, h9⟩ := kg_some h
  exact va_castE hX.1 hX.2.1 hX.2.2.2.1 (hX.2.2.2.2.1 _ w) (k_box hX hS hb) d (kk b h9 H locs ls hH hS hl)
theorem g_castIC (q : Nat) (hX : Cok (p, l, e, R, s, m, args, below, meth, c, cc, nL, own, g, dep)) {x : Int32} {i : Nat} (w : Cond.classLink own i "java/lang/Comparable" ∈ WT) (d : decode cc pc = .ok (.checkcast i, 3)) (e9 : pc + 3 = q) (kk : GG (p, l, e, R, s, m, args, below, meth, c, cc, nL, own, g, dep) Q k n o q lv (.retAddr (g.1 (2000 + kBi x)) :: st) M) : GG (p, l, e, R, s, m, args, below, meth, c, cc, nL, own, g, dep) Q k n (kg (kBk x) o) pc lv (.retAddr (g.1 (2000 + kBi x)) :: st) M := fun b h H locs ls hH hS hl => by
  subst e9
  obtain ⟨hb, h9⟩ := kg_some h
  exact va_castY hX.1 hX.2.1 hX.2.2.2.1 (hX.2.2.2.2.1 _ w) (hX.2.2.2.2.2.2.2.2.1.2.2.2.2.1 ("java/lang/Integer", "java/lang/Comparable") (by decide)) (k_box hX hS hb) d (kk b h9 H locs ls hH hS hl)
theorem kv_inj {B a b : Nat} : kv B a = kv B b ↔ a = b := by
  unfold kv
  constructor
  · intro h
    by_cases ha : a = 0 <;> by_cases hb : b = 0
    · omega
    · rw [if_pos ha, if_neg hb] at h; cases h
    · rw [if_neg ha, if_pos hb] at h; cases h
    · rw [if_neg ha, if_neg hb] at h
      have := Option.some.inj h
      omega
  · intro h; rw [h]
theorem g_acmp_eq (q q2 : Nat) (hX : Cok (p, l, e, R, s, m, args, below, meth, c, cc, nL, own, g, dep)) {a b9 : Nat} {z : Int} (d : decode cc pc = .ok (.if_acmp .eq z, 3)) (ht : (pc : Int) + z = (q : Int)) (e9 : pc + 3 = q2) (k1 : a = b9 → GG (p, l, e, R, s, m, args, below, meth, c, cc, nL, own, g, dep) Q k n o1 q lv st M) (k2 : ¬ a = b9 → GG (p, l, e, R, s, m, args, below, meth, c, cc, nL, own, g, dep) Q k n o2 q2 lv st M) : GG (p, l, e, R, s, m, args, below, meth, c, cc, nL, own, g, dep) Q k n (if a = b9 then o1 else o2) pc lv (.ref b9 :: .ref a :: st) M := fun b h H locs ls hH hS hl => by
  subst e9
  simp only [List.map_cons, kT]
  exact lv_acmp_eq (rx := kv g.2.2.1 a) (ry := kv g.2.2.1 b9) hX.1 hX.2.1 d ht (fun hc => k1 (kv_inj.mp hc) b (by rw [if_pos (kv_inj.mp hc)] at h; exact h) H locs ls hH hS hl) (fun hc => k2 (fun z => hc (kv_inj.mpr z)) b (by rw [if_neg (fun z => hc (kv_inj.mpr z))] at h; exact h) H locs ls hH hS hl)
theorem g_acmp_ne (q q2 : Nat) (hX : Cok (p, l, e, R, s, m, args, below, meth, c, cc, nL, own, g, dep)) {a b9 : Nat} {z : Int} (d : decode cc pc = .ok (.if_acmp .ne z, 3)) (ht : (pc : Int) + z = (q : Int)) (e9 : pc + 3 = q2) (k2 : ¬ a = b9 → GG (p, l, e, R, s, m, args, below, meth, c, cc, nL, own, g, dep) Q k n o2 q lv st M) (k1 : a = b9 → GG (p, l, e, R, s, m, args, below, meth, c, cc, nL, own, g, dep) Q k n o1 q2 lv st M) : GG (p, l, e, R, s, m, args, below, meth, c, cc, nL, own, g, dep) Q k n (if a = b9 then o1 else o2) pc lv (.ref b9 :: .ref a :: st) M := fun b h H locs ls hH hS hl => by
  subst e9
  simp only [List.map_cons, kT]
  exact lv_acmp_ne (rx := kv g.2.2.1 a) (ry := kv g.2.2.1 b9) hX.1 hX.2.1 d ht (fun hc => k2 (fun z => hc (kv_inj.mpr z)) b (by rw [if_neg (fun z => hc (kv_inj.mpr z))] at h; exact h) H locs ls hH hS hl) (fun hc => k1 (kv_inj.mp hc) b (by rw [if_pos (kv_inj.mp hc)] at h; exact h) H locs ls hH hS hl)
theorem g_acmpE (q : Nat) (hX : Cok (p, l, e, R, s, m, args, below, meth, c, cc, nL, own, g, dep)) {x : Nat} {z : Int} (d : decode cc pc = .ok (.if_acmp .eq z, 3)) (ht : (pc : Int) + z = (q : Int)) (kk : GG (p, l, e, R, s, m, args, below, meth, c, cc, nL, own, g, dep) Q k n o q lv st M) : GG (p, l, e, R, s, m, args, below, meth, c, cc, nL, own, g, dep) Q k n o pc lv (.retAddr x :: .retAddr x :: st) M := fun b h H locs ls hH hS hl => by
  exact lv_acmp_eq (rx := some x) (ry := some x) hX.1 hX.2.1 d ht (fun _ => kk b h H locs ls hH hS hl) (fun hc => absurd rfl hc)
theorem g_dup_x1 (q : Nat) (hX : Cok (p, l, e, R, s, m, args, below, meth, c, cc, nL, own, g, dep)) {v w : Value} (d : decode cc pc = .ok (.dup_x1, 1)) (e9 : pc + 1 = q) (hv : v.category = 1) (hw : w.category = 1) (kk : GG (p, l, e, R, s, m, args, below, meth, c, cc, nL, own, g, dep) Q k n o q lv (v :: w :: v :: st) M) : GG (p, l, e, R, s, m, args, below, meth, c, cc, nL, own, g, dep) Q k n o pc lv (v :: w :: st) M := fun b h H locs ls hH hS hl => by
  subst e9
  exact lv_dup_x1 hX.1 hX.2.1 d (by rw [kT_cat]; exact hv) (by rw [kT_cat]; exact hw) (kk b h H locs ls hH hS hl)
theorem g_ishl (q : Nat) (hX : Cok (p, l, e, R, s, m, args, below, meth, c, cc, nL, own, g, dep)) {x y : Int32} (d : decode cc pc = .ok (.ishl, 1)) (e9 : pc + 1 = q) (kk : GG (p, l, e, R, s, m, args, below, meth, c, cc, nL, own, g, dep) Q k n o q lv (.int (x <<< (y &&& 31)) :: st) M) : GG (p, l, e, R, s, m, args, below, meth, c, cc, nL, own, g, dep) Q k n o pc lv (.int y :: .int x :: st) M := fun b h H locs ls hH hS hl => by
  subst e9
  exact lv_ishl hX.1 hX.2.1 d (kk b h H locs ls hH hS hl)
theorem g_ior (q : Nat) (hX : Cok (p, l, e, R, s, m, args, below, meth, c, cc, nL, own, g, dep)) {x y : Int32} (d : decode cc pc = .ok (.ior, 1)) (e9 : pc + 1 = q) (kk : GG (p, l, e, R, s, m, args, below, meth, c, cc, nL, own, g, dep) Q k n o q lv (.int (x ||| y) :: st) M) : GG (p, l, e, R, s, m, args, below, meth, c, cc, nL, own, g, dep) Q k n o pc lv (.int y :: .int x :: st) M := fun b h H locs ls hH hS hl => by
  subst e9
  exact lv_ior hX.1 hX.2.1 d (kk b h H locs ls hH hS hl)
theorem g_i2b (q : Nat) (hX : Cok (p, l, e, R, s, m, args, below, meth, c, cc, nL, own, g, dep)) {x : Int32} (d : decode cc pc = .ok (.i2b, 1)) (e9 : pc + 1 = q) (kk : GG (p, l, e, R, s, m, args, below, meth, c, cc, nL, own, g, dep) Q k n o q lv (.int x.toInt8.toInt32 :: st) M) : GG (p, l, e, R, s, m, args, below, meth, c, cc, nL, own, g, dep) Q k n o pc lv (.int x :: st) M := fun b h H locs ls hH hS hl => by
  subst e9
  exact lv_i2b hX.1 hX.2.1 d rfl (kk b h H locs ls hH hS hl)
theorem g_nnC (q : Nat) (hX : Cok (p, l, e, R, s, m, args, below, meth, c, cc, nL, own, g, dep)) {x : Nat} {z : Int} (d : decode cc pc = .ok (.ifnonnull z, 3)) (ht : (pc : Int) + z = (q : Int)) (kk : GG (p, l, e, R, s, m, args, below, meth, c, cc, nL, own, g, dep) Q k n o q lv st M) : GG (p, l, e, R, s, m, args, below, meth, c, cc, nL, own, g, dep) Q k n o pc lv (.retAddr x :: st) M := fun b h H locs ls hH hS hl => by
  exact lv_ifnonnull hX.1 hX.2.1 d ht (kk b h H locs ls hH hS hl)
theorem g_aastO (ci : Nat) (q : Nat) (hX : Cok (p, l, e, R, s, m, args, below, meth, c, cc, nL, own, g, dep)) {a v : Nat} {i : Int32} {C : String} {T : u_T} {N : Nat} (hc : vwCl[kci ci]? = some (C, T, N)) (h13 : kox ci < 13) (hcast : (C, "java/lang/Object") ∈ kCasts) (d : decode cc pc = .ok (.aastore, 1)) (e9 : pc + 1 = q) (kk : GG (p, l, e, R, s, m, args, below, meth, c, cc, nL, own, g, dep) Q k n o q lv st (ksR M a (kx i) v)) : GG (p, l, e, R, s, m, args, below, meth, c, cc, nL, own, g, dep) Q k n (kg (kin M a 21 i && kt M v ci) o) pc lv (.ref v :: .int i :: .ref a :: st) M := fun b h H locs ls hH hS hl => by
  subst e9
  obtain ⟨hb, h9⟩ := kg_some h
  simp only [Bool.and_eq_true] at hb
  obtain ⟨hb, hv⟩ := hb
  obtain ⟨j1, n1, rfl, hj1, -⟩ := kt_spec hv
  obtain ⟨j0, n0, rfl, hj, hn, hvi, hlt⟩ := kin_spec hb
  have kk := kk b h9
  simp only [List.map_cons, kT] at kk ⊢
  rw [kr_succ, kr_succ]
  have h21 : 15 < kay 21 := Nat.le_of_ble_eq_true rfl
  have hcs := hX.2.2.2.2.2.2.2.2.1.2.2.2.2.1 _ hcast
  refine va_astqM hX.1 hX.2.1 hX.2.2.2.2.2.2.2.2.1.1 hH (kWs_D _ _ _) hS j0 7 (kEnt_ref hj h21) rfl (va_rAny hX.2.2.2.2.2.2.2.2.1.1 hH (kEnt_obj hj1 h13) hc (fun comp c0 h1 h2 => by
    obtain ⟨c1, t1, e1, e2, e3⟩ := Cond.castable_spec hcs
    cases e1.symm.trans h2
    cases e2.symm.trans h1
    exact e3)) hvi d (fun H1 locs1 hP1 hD1 hS1 => ?_)
  refine kk H1 locs1 ls (show va_P _ _ _ _ from ?_) hS1 hl
  rw [kWs_upR hj h21]
  exact hP1
theorem g_copyB (q : Nat) (hX : Cok (p, l, e, R, s, m, args, below, meth, c, cc, nL, own, g, dep)) {a0 a1 : Nat} {sp dp z : Int32} {i : Nat} (wl : Cond.methodLink own i arraycopyName ∈ WT) (d : decode cc pc = .ok (.invokestatic i, 3)) (e9 : pc + 3 = q) (hst : (st.map (fun v => v.category)).sum ≤ 8) (hdp : 1 ≤ dep) (kk : GG (p, l, e, R, s, m, args, below, meth, c, cc, nL, own, g, dep) Q k n o q lv st (kcp M a0 sp a1 dp z)) : GG (p, l, e, R, s, m, args, below, meth, c, cc, nL, own, g, dep) Q k n (kg (kcpB M a0 sp a1 dp z) o) pc lv (.int z :: .int dp :: .ref a1 :: .int sp :: .ref a0 :: st) M := fun b h H locs ls hH hS hl => by
  subst e9
  obtain ⟨hb, h9⟩ := kg_some h
  obtain ⟨j0, n0, j1, n1, rfl, hj0, rfl, hj1, h1, h2, h3, h4, h5, h8⟩ := kcpB_spec hb
  have kk := kk b h9
  simp only [List.map_cons, kT] at kk ⊢
  rw [kr_succ, kr_succ]
  have hts := hX.2.2.2.2.1
  have r1 := hX.2.2.2.2.2.2.2.2.2.1
  have r2 := hX.2.2.2.2.2.2.2.2.2.2
  have r3 := kcat_le (B := g.2.2.1) hst
  have r4 : nativeFrameWords "java/lang/System" "arraycopy" 5 + 11 ≤ 50 := by decide
  refine va_copyi hX.1 hX.2.1 (by rw [hX.2.2.1]; exact hl.1.symm) hX.2.2.2.1 (hts _ wl) (hts _ q_cp_n) (hts _ q_cp_s) (hts _ q_cp_i) hX.2.2.2.2.2.2.2.2.1.1 hH (kWs_D _ _ _) hS j0 j1 2 2 (kEnt_byt hj0) (kEnt_byt hj1) rfl rfl rfl h1 h2 h3 h4 h5 (kFitB_spec h8) (by omega) (by omega) d (fun H1 locs1 hP1 hD1 hS1 => ?_)
  refine kk H1 locs1 ls (show va_P _ _ _ _ from ?_) hS1 hl
  unfold kcp
  rw [kWs_cpB (f := fun j => M.2.1 (j0 + 1) j) sp dp z hj1 rfl]
  exact hP1
theorem g_copyT (q : Nat) (hX : Cok (p, l, e, R, s, m, args, below, meth, c, cc, nL, own, g, dep)) {a0 a1 : Nat} {sp dp z : Int32} {i : Nat} (wl : Cond.methodLink own i arraycopyName ∈ WT) (d : decode cc pc = .ok (.invokestatic i, 3)) (e9 : pc + 3 = q) (hst : (st.map (fun v => v.category)).sum ≤ 8) (hdp : 1 ≤ dep) (kk : GG (p, l, e, R, s, m, args, below, meth, c, cc, nL, own, g, dep) Q k n o q lv st (kcpT M a0 sp a1 dp z)) : GG (p, l, e, R, s, m, args, below, meth, c, cc, nL, own, g, dep) Q k n (kg (kcpTOk M a0 sp a1 dp z) o) pc lv (.int z :: .int dp :: .ref a1 :: .int sp :: .retAddr (g.2.2.2.2 a0) :: st) M := fun b h H locs ls hH hS hl => by
  subst e9
  obtain ⟨hb, h9⟩ := kg_some h
  unfold kcpTOk at hb
  simp only [Bool.and_eq_true, decide_eq_true_eq] at hb
  obtain ⟨hi, g2, g3, g4, g5, h4, h5⟩ := hb
  obtain ⟨j1, n1, rfl, hj1, e6⟩ := kt_spec g2
  rw [e6] at h5
  have h1 := Int32.not_lt.mpr g3
  have h2 := Int32.not_lt.mpr g4
  have h3 := Int32.not_lt.mpr g5
  have kk := kk b h9
  simp only [List.map_cons, kT] at kk ⊢
  rw [kr_succ]
  have hts := hX.2.2.2.2.1
  have r1 := hX.2.2.2.2.2.2.2.2.2.1
  have r2 := hX.2.2.2.2.2.2.2.2.2.2
  have r3 := kcat_le (B := g.2.2.1) hst
  have r4 : nativeFrameWords "java/lang/System" "arraycopy" 5 + 11 ≤ 50 := by decide
  refine vk_copyt hX.1 hX.2.1 (by rw [hX.2.2.1]; exact hl.1.symm) hX.2.2.2.1 (hts _ wl) (hts _ q_cp_n) (hts _ q_cp_s) (hts _ q_cp_i) hX.2.2.2.2.2.2.2.2.1.1 hH (kWs_D _ _ _) hS (hX.2.2.2.2.2.2.2.1.1 a0 hi).2.2.2 j1 2 (kEnt_byt hj1) rfl h1 h2 h3 h4 h5 (fun j hj => kSfit a0 hi _ (by omega)) (by omega) (by omega) d (fun H1 locs1 hP1 hD1 hS1 => ?_)
  refine kk H1 locs1 ls (show va_P _ _ _ _ from ?_) hS1 hl
  unfold kcpT
  rw [kWs_cpB (f := fun j => (kSbyt.getD a0 []).getD j 0) sp dp z hj1 rfl]
  exact hP1
theorem g_astoreS_n (q i : Nat) (lv2 : List (Nat × Value)) (hX : Cok (p, l, e, R, s, m, args, below, meth, c, cc, nL, own, g, dep)) {f : Fin 4} {x : Nat} (d : decode cc pc = .ok (.astore_n f, 1)) (e9 : pc + 1 = q) (hf : (f : Nat) = i) (hn : i < nL) (hl2 : (i, .retAddr x) :: lv.filter (fun q => !(q.1 == i) && !(q.1 + 1 == i && q.2.category == 2)) = lv2) (kk : GG (p, l, e, R, s, m, args, below, meth, c, cc, nL, own, g, dep) Q k n o q lv2 st M) : GG (p, l, e, R, s, m, args, below, meth, c, cc, nL, own, g, dep) Q k n o pc lv (.retAddr x :: st) M := fun b h H locs ls hH hS hl => by
  subst e9
  exact lv_astore_n hX.1 hX.2.1 d hf hl hn (kM_f1 hl2) (fun ls2 hl2 => kk b h H locs ls2 hH hS hl2)
theorem g_astoreS (q i : Nat) (lv2 : List (Nat × Value)) (hX : Cok (p, l, e, R, s, m, args, below, meth, c, cc, nL, own, g, dep)) {x : Nat} (d : decode cc pc = .ok (.astore i, 2)) (e9 : pc + 2 = q) (hn : i < nL) (hl2 : (i, .retAddr x) :: lv.filter (fun q => !(q.1 == i) && !(q.1 + 1 == i && q.2.category == 2)) = lv2) (kk : GG (p, l, e, R, s, m, args, below, meth, c, cc, nL, own, g, dep) Q k n o q lv2 st M) : GG (p, l, e, R, s, m, args, below, meth, c, cc, nL, own, g, dep) Q k n o pc lv (.retAddr x :: st) M := fun b h H locs ls hH hS hl => by
  subst e9
  exact lv_astore hX.1 hX.2.1 d hl hn (kM_f1 hl2) (fun ls2 hl2 => kk b h H locs ls2 hH hS hl2)
theorem g_putB (q : Nat) (hX : Cok (p, l, e, R, s, m, args, below, meth, c, cc, nL, own, g, dep)) {a ci f i : Nat} {C : String} {T : u_T} {N : Nat} {ty0 : Nat → FieldType} {v : Int32} (hc : vwCl[kci ci]? = some (C, T, N)) (h13 : kox ci < 13) (hin : ∀ w ∈ u_ws C T N, w ∈ WT) (hf : f < N) (w : Cond.fieldLink own i (T f).1 (T f).2.1 (T f).2.2.1 ∈ WT) (hty : ∀ k, k < N → parseFieldDescriptor (T k).2.2.1 = some (ty0 k)) (hnm : ∀ a, a < N → ∀ b, b < N → a ≠ b → (T a).2.1 ≠ (T b).2.1) (hlen : (kKinds ci).length = N) (hfin : (T f).2.2.2 = false) (hd : parseFieldDescriptor (T f).2.2.1 = some .byte) (hk : (kKinds ci)[f]? = some 0) (d : decode cc pc = .ok (.putfield i, 3)) (e9 : pc + 3 = q) (kk : GG (p, l, e, R, s, m, args, below, meth, c, cc, nL, own, g, dep) Q k n o q lv st (ksI M a f v)) : GG (p, l, e, R, s, m, args, below, meth, c, cc, nL, own, g, dep) Q k n (kg (kt M a ci && decide (v.toInt8.toInt32 = v)) o) pc lv (.int v :: .ref a :: st) M := fun b h H locs ls hH hS hl => by
  subst e9
  obtain ⟨hb, h9⟩ := kg_some h
  simp only [Bool.and_eq_true, decide_eq_true_eq] at hb
  obtain ⟨hb, hv⟩ := hb
  have hv9 : narrow .byte (.int v) = .int v := by rw [← hv]; exact pk_nb v
  have hv8 : fits .byte (.int v) = true := by rw [← hv]; exact pk_fb v
  obtain ⟨j0, n0, rfl, hj, -⟩ := kt_spec hb
  have kk := kk b h9
  simp only [List.map_cons, kT] at kk ⊢
  rw [kr_succ]
  refine va_put hX.1 hX.2.1 hX.2.2.2.2.1 hin ty0 hty hnm hX.2.2.2.1 hX.2.2.2.2.2.2.2.2.1.1 hH (kWs_D _ _ _) hS j0 (kEnt_obj hj h13) hc f hf (hX.2.2.2.2.1 _ w) (fun _ h9 => h9) hfin (v := .int v) hd hv9 hv8 (by rw [kFs_len, hlen]; exact hf) d (fun H1 locs1 hP1 hD1 hS1 => ?_)
  refine kk H1 locs1 ls (show va_P _ _ _ _ from ?_) hS1 hl
  rw [kWs_setI v hj h13 hk]
  exact hP1
theorem g_putFB (q : Nat) (hX : Cok (p, l, e, R, s, m, args, below, meth, c, cc, nL, own, g, dep)) {a ci f i : Nat} {C : String} {T : u_T} {N : Nat} {ty0 : Nat → FieldType} {v : Int32} (hc : vwCl[kci ci]? = some (C, T, N)) (h13 : kox ci < 13) (hin : ∀ w ∈ u_ws C T N, w ∈ WT) (hf : f < N) (w : Cond.fieldLink own i (T f).1 (T f).2.1 (T f).2.2.1 ∈ WT) (hty : ∀ k, k < N → parseFieldDescriptor (T k).2.2.1 = some (ty0 k)) (hnm : ∀ a, a < N → ∀ b, b < N → a ≠ b → (T a).2.1 ≠ (T b).2.1) (hlen : (kKinds ci).length = N) (hfin : (T f).2.2.2 = true) (hini : meth.name = "<init>") (hdecl : (T f).1 = own) (hd : parseFieldDescriptor (T f).2.2.1 = some .byte) (hk : (kKinds ci)[f]? = some 0) (d : decode cc pc = .ok (.putfield i, 3)) (e9 : pc + 3 = q) (kk : GG (p, l, e, R, s, m, args, below, meth, c, cc, nL, own, g, dep) Q k n o q lv st (ksI M a f v)) : GG (p, l, e, R, s, m, args, below, meth, c, cc, nL, own, g, dep) Q k n (kg (kt M a ci && decide (v.toInt8.toInt32 = v)) o) pc lv (.int v :: .ref a :: st) M := fun b h H locs ls hH hS hl => by
  subst e9
  obtain ⟨hb, h9⟩ := kg_some h
  simp only [Bool.and_eq_true, decide_eq_true_eq] at hb
  obtain ⟨hb, hv⟩ := hb
  have hv9 : narrow .byte (.int v) = .int v := by rw [← hv]; exact pk_nb v
  have hv8 : fits .byte (.int v) = true := by rw [← hv]; exact pk_fb v
  obtain ⟨j0, n0, rfl, hj, -⟩ := kt_spec hb
  have kk := kk b h9
  simp only [List.map_cons, kT] at kk ⊢
  rw [kr_succ]
  refine va_putF hX.1 hX.2.1 hX.2.2.2.2.1 hin ty0 hty hnm hX.2.2.2.1 hX.2.2.2.2.2.2.2.2.1.1 hH (kWs_D _ _ _) hS j0 (kEnt_obj hj h13) hc f hf (hX.2.2.2.2.1 _ w) (fun _ h9 => h9) hfin hini hdecl (v := .int v) hd hv9 hv8 (by rw [kFs_len, hlen]; exact hf) d (fun H1 locs1 hP1 hD1 hS1 => ?_)
  refine kk H1 locs1 ls (show va_P _ _ _ _ from ?_) hS1 hl
  rw [kWs_setI v hj h13 hk]
  exact hP1
theorem g_aastBT (q : Nat) (hX : Cok (p, l, e, R, s, m, args, below, meth, c, cc, nL, own, g, dep)) {a v : Nat} {i : Int32} (d : decode cc pc = .ok (.aastore, 1)) (e9 : pc + 1 = q) (kk : GG (p, l, e, R, s, m, args, below, meth, c, cc, nL, own, g, dep) Q k n o q lv st (ksR M a (kx i) v)) : GG (p, l, e, R, s, m, args, below, meth, c, cc, nL, own, g, dep) Q k n (kg (kin M a 21 i && (kt M v 31 || kt M v 32)) o) pc lv (.ref v :: .int i :: .ref a :: st) M := by
  intro b h
  have h0 := h
  obtain ⟨hb, h9⟩ := kg_some h
  simp only [Bool.and_eq_true, Bool.or_eq_true] at hb
  rcases hb.2 with h1 | h1
  · exact g_aastO 31 q hX (C := RLB) (T := TLB) (N := 5) rfl (Nat.le_of_ble_eq_true rfl) (by decide +kernel) d e9 kk b (by rw [hb.1, h1]; exact h9)
  · exact g_aastO 32 q hX (C := RLT) (T := TLT) (N := 7) rfl (Nat.le_of_ble_eq_true rfl) (by decide +kernel) d e9 kk b (by rw [hb.1, h1]; exact h9)
theorem g_castBy (q : Nat) (hX : Cok (p, l, e, R, s, m, args, below, meth, c, cc, nL, own, g, dep)) {a i : Nat} (w : Cond.classLink own i "[B" ∈ WT) (d : decode cc pc = .ok (.checkcast i, 3)) (e9 : pc + 3 = q) (kk : GG (p, l, e, R, s, m, args, below, meth, c, cc, nL, own, g, dep) Q k n o q lv (.ref a :: st) M) : GG (p, l, e, R, s, m, args, below, meth, c, cc, nL, own, g, dep) Q k n (kg (kt M a 20) o) pc lv (.ref a :: st) M := fun b h H locs ls hH hS hl => by
  subst e9
  obtain ⟨hb, h9⟩ := kg_some h
  have kk := kk b h9 H locs ls hH hS hl
  obtain ⟨j0, n0, rfl, hj, -⟩ := kt_spec hb
  simp only [List.map_cons, kT] at kk ⊢
  rw [kr_succ] at kk ⊢
  refine va_castA hX.1 hX.2.1 hX.2.2.2.1 (hX.2.2.2.2.1 _ w) hH j0 (kEnt_byt hj) (va_nm_byte (hX.2.2.2.2.2.2.2.2.1.1.2 2 _ rfl).2) d kk
theorem g_tswIn (q : Nat) (hX : Cok (p, l, e, R, s, m, args, below, meth, c, cc, nL, own, g, dep)) (v : Int32) {x : Int32} (hx : x = v) {dflt lo hi : Int} {offs : Array Int} {len : Nat} {off : Int} (d : decode cc pc = .ok (.tableswitch dflt lo hi offs, len)) (h1 : ¬ v.toInt < lo) (h2 : ¬ hi < v.toInt) (ho : offs[(v.toInt - lo).toNat]? = some off) (ht : (pc : Int) + off = (q : Int)) (kk : GG (p, l, e, R, s, m, args, below, meth, c, cc, nL, own, g, dep) Q k n o q lv st M) : GG (p, l, e, R, s, m, args, below, meth, c, cc, nL, own, g, dep) Q k n o pc lv (.int x :: st) M := fun b h H locs ls hH hS hl => by
  subst hx
  exact lv_tableIn hX.1 hX.2.1 d h1 h2 ho ht (kk b h H locs ls hH hS hl)
theorem g_tswOut (q : Nat) (hX : Cok (p, l, e, R, s, m, args, below, meth, c, cc, nL, own, g, dep)) {x : Int32} {dflt lo hi : Int} {offs : Array Int} {len : Nat} (d : decode cc pc = .ok (.tableswitch dflt lo hi offs, len)) (h1 : x.toInt < lo ∨ hi < x.toInt) (ht : (pc : Int) + dflt = (q : Int)) (kk : GG (p, l, e, R, s, m, args, below, meth, c, cc, nL, own, g, dep) Q k n o q lv st M) : GG (p, l, e, R, s, m, args, below, meth, c, cc, nL, own, g, dep) Q k n o pc lv (.int x :: st) M := fun b h H locs ls hH hS hl => lv_tableOut hX.1 hX.2.1 d h1 ht (kk b h H locs ls hH hS hl)
end kDrows
