/-! the law's own methods and the JDK's: they make cells; room is counted by the result -/
abbrev DR (dep L : Nat) (M : kMem) : Room := { frames := dep, cells := M.1.length - L, slots := ksl L M, locals := 60 * dep }
def PD {β : Type} (fin : β → Option Value × kMem) (o : Option β) (M : kMem) : Prop := ∀ b, o = some b → M.1 <+: (fin b).2.1
def kMetD {β : Type} (l : Launch) (g : kG) (y : MethodName) (bc : ByteArray) (nL : Nat) (ret : Option FieldType) (dep : Nat) (av : List Value) (M : kMem) (fin : β → Option Value × kMem) (o : Option β) : Prop :=
  PD fin o M ∧ ∀ b : β, o = some b → Met l y (.code y bc nL ret :: WT) (DR dep M.1.length (fin b).2) (va_Pc (av.map (kT g.2.2.1)) (kPA g M)) (kQA g (fin b)) ((fin b).2.1.length - M.1.length) (ksl M.1.length (fin b).2) (kZ g.2.2.1)
/-- where a walk stands, but the machine's own part -/
abbrev kZZ : Type := Launch × ByteArray × Nat × String × kG × Nat × Nat × Option FieldType × String
def GD {β : Type} (Z : kZZ) (fin : β → Option Value × kMem) (o : Option β) (pc : Nat) (lv : List (Nat × Value)) (st : List Value) (M : kMem) : Prop := match Z with
  | (l, cc, nL, own, g, dep, L, ret, nm) => PD fin o M ∧ ∀ (p : Program) (e : Env) (s : State) (m : MethodId) (args : Array Value) (below : List Frame) (meth : Method) (c : Code), (∀ M9 : kMem, Cok (p, l, e, DR dep L M9, s, m, args, below, meth, c, cc, nL, own, g, dep)) → meth.sig.returnType = ret → meth.name = nm → s.heap.size = g.2.2.1 + 1 + L → L ≤ M.1.length → ∀ b : β, o = some b → GG (p, l, e, DR dep L (fin b).2, s, m, args, below, meth, c, cc, nL, own, g, dep) (fun _ : Unit => MQ below (kQA g (fin b)) args s ((fin b).2.1.length - L) (ksl L (fin b).2) (kZ g.2.2.1)) (M.1.length - L) (ksl L M) (some ()) pc lv st M
theorem kSm_some {β : Type} {fin : β → Option Value × kMem} {M : kMem} {o : Option β} {b : β} (h : kSm fin M o = some b) : o = some b ∧ (fin b).2.1 = M.1 := by
  obtain ⟨r, h1, h2⟩ := Option.bind_eq_some_iff.mp h
  obtain ⟨h3, h4⟩ := kg_some h2
  cases h4
  exact ⟨h1, of_decide_eq_true h3⟩
theorem kSm_of {β : Type} {fin : β → Option Value × kMem} {M : kMem} {r : β} (h : (fin r).2.1 = M.1) : kSm fin M (some r) = some r := by
  unfold kSm
  simp [h, kg]
theorem ksl_add {L : Nat} {M M1 : kMem} (hp : M.1 <+: M1.1) (hL : L ≤ M.1.length) : ksl L M1 = ksl L M + ksl M.1.length M1 := by
  obtain ⟨t, ht⟩ := hp
  unfold ksl
  rw [← ht, List.drop_append_of_le_length hL, List.drop_append_of_le_length (Nat.le_refl _), List.drop_length, List.nil_append, List.map_append, List.sum_append]
theorem ksl_le {L : Nat} {M M1 : kMem} (hp : M.1 <+: M1.1) (hL : L ≤ M.1.length) : ksl L M ≤ ksl L M1 := by
  rw [ksl_add hp hL]; omega
theorem ksl_cg {L : Nat} {M M' : kMem} (h : M'.1 = M.1) : ksl L M' = ksl L M := by unfold ksl; rw [h]
theorem PD.none {β : Type} {fin : β → Option Value × kMem} {M : kMem} : PD fin none M := fun b h => by cases h
section kGD
variable {β : Type} {l : Launch} {cc : ByteArray} {nL : Nat} {own : String} {g : kG} {dep L : Nat} {ret : Option FieldType} {nm : String} {fin : β → Option Value × kMem} {o o1 o2 : Option β} {pc : Nat} {lv : List (Nat × Value)} {st : List Value} {M : kMem}
theorem d_none : GD (l, cc, nL, own, g, dep, L, ret, nm) fin (none : Option β) pc lv st M := ⟨PD.none, fun _ _ _ _ _ _ _ _ _ _ _ _ _ b h => by cases h⟩
theorem d_st {q : Nat} {lv2 : List (Nat × Value)} {st2 : List Value} {M2 : kMem} (row : ∀ {p : Program} {e : Env} {s : State} {m : MethodId} {args : Array Value} {below : List Frame} {meth : Method} {c : Code}, (∀ M9 : kMem, Cok (p, l, e, DR dep L M9, s, m, args, below, meth, c, cc, nL, own, g, dep)) → ∀ b : β, GG (p, l, e, DR dep L (fin b).2, s, m, args, below, meth, c, cc, nL, own, g, dep) (fun _ : Unit => MQ below (kQA g (fin b)) args s ((fin b).2.1.length - L) (ksl L (fin b).2) (kZ g.2.2.1)) (M.1.length - L) (ksl L M) (some ()) q lv2 st2 M2 → GG (p, l, e, DR dep L (fin b).2, s, m, args, below, meth, c, cc, nL, own, g, dep) (fun _ : Unit => MQ below (kQA g (fin b)) args s ((fin b).2.1.length - L) (ksl L (fin b).2) (kZ g.2.2.1)) (M.1.length - L) (ksl L M) (some ()) pc lv st M) (hM : M2.1 = M.1) (kk : GD (l, cc, nL, own, g, dep, L, ret, nm) fin o q lv2 st2 M2) : GD (l, cc, nL, own, g, dep, L, ret, nm) fin o pc lv st M := by
  refine ⟨fun b h => by rw [← hM]; exact kk.1 b h, fun p e s m args below meth c hX hr hn hz hL b h => row hX b ?_⟩
  have h1 := kk.2 p e s m args below meth c hX hr hn hz (by rw [hM]; exact hL) b h
  rw [hM, ksl_cg hM] at h1
  exact h1
theorem d_stN {q : Nat} {lv2 : List (Nat × Value)} {st2 : List Value} {M2 : kMem} {gd : Bool} (row : ∀ {p : Program} {e : Env} {s : State} {m : MethodId} {args : Array Value} {below : List Frame} {meth : Method} {c : Code}, (∀ M9 : kMem, Cok (p, l, e, DR dep L M9, s, m, args, below, meth, c, cc, nL, own, g, dep)) → meth.name = nm → ∀ b : β, gd = true → GG (p, l, e, DR dep L (fin b).2, s, m, args, below, meth, c, cc, nL, own, g, dep) (fun _ : Unit => MQ below (kQA g (fin b)) args s ((fin b).2.1.length - L) (ksl L (fin b).2) (kZ g.2.2.1)) (M.1.length - L) (ksl L M) (some ()) q lv2 st2 M2 → GG (p, l, e, DR dep L (fin b).2, s, m, args, below, meth, c, cc, nL, own, g, dep) (fun _ : Unit => MQ below (kQA g (fin b)) args s ((fin b).2.1.length - L) (ksl L (fin b).2) (kZ g.2.2.1)) (M.1.length - L) (ksl L M) (kg gd (some ())) pc lv st M) (hM : M2.1 = M.1) (kk : GD (l, cc, nL, own, g, dep, L, ret, nm) fin o q lv2 st2 M2) : GD (l, cc, nL, own, g, dep, L, ret, nm) fin (kg gd o) pc lv st M := by
  refine ⟨fun b h => by rw [← hM]; exact kk.1 b (kg_some h).2, fun p e s m args below meth c hX hr hn hz hL b h => ?_⟩
  obtain ⟨hb, h9⟩ := kg_some h
  have h1 := kk.2 p e s m args below meth c hX hr hn hz (by rw [hM]; exact hL) b h9
  rw [hM, ksl_cg hM] at h1
  have h2 := row hX hn b hb h1
  rw [hb] at h2
  exact h2
theorem d_g {q : Nat} {lv2 : List (Nat × Value)} {st2 : List Value} {M2 : kMem} {gd : Bool} (row : ∀ {p : Program} {e : Env} {s : State} {m : MethodId} {args : Array Value} {below : List Frame} {meth : Method} {c : Code}, (∀ M9 : kMem, Cok (p, l, e, DR dep L M9, s, m, args, below, meth, c, cc, nL, own, g, dep)) → ∀ b : β, GG (p, l, e, DR dep L (fin b).2, s, m, args, below, meth, c, cc, nL, own, g, dep) (fun _ : Unit => MQ below (kQA g (fin b)) args s ((fin b).2.1.length - L) (ksl L (fin b).2) (kZ g.2.2.1)) (M.1.length - L) (ksl L M) (some ()) q lv2 st2 M2 → GG (p, l, e, DR dep L (fin b).2, s, m, args, below, meth, c, cc, nL, own, g, dep) (fun _ : Unit => MQ below (kQA g (fin b)) args s ((fin b).2.1.length - L) (ksl L (fin b).2) (kZ g.2.2.1)) (M.1.length - L) (ksl L M) (kg gd (some ())) pc lv st M) (hM : M2.1 = M.1) (kk : GD (l, cc, nL, own, g, dep, L, ret, nm) fin o q lv2 st2 M2) : GD (l, cc, nL, own, g, dep, L, ret, nm) fin (kg gd o) pc lv st M := d_stN (fun hX _ b _ => row hX b) hM kk
theorem d_stR {q : Nat} {lv2 : List (Nat × Value)} {st2 : List Value} {M2 : kMem} (row : ∀ {p : Program} {e : Env} {s : State} {m : MethodId} {args : Array Value} {below : List Frame} {meth : Method} {c : Code}, (∀ M9 : kMem, Cok (p, l, e, DR dep L M9, s, m, args, below, meth, c, cc, nL, own, g, dep)) → ∀ b : β, M.1.length - L ≤ (DR dep L (fin b).2).cells → ksl L M ≤ (DR dep L (fin b).2).slots → GG (p, l, e, DR dep L (fin b).2, s, m, args, below, meth, c, cc, nL, own, g, dep) (fun _ : Unit => MQ below (kQA g (fin b)) args s ((fin b).2.1.length - L) (ksl L (fin b).2) (kZ g.2.2.1)) (M.1.length - L) (ksl L M) (some ()) q lv2 st2 M2 → GG (p, l, e, DR dep L (fin b).2, s, m, args, below, meth, c, cc, nL, own, g, dep) (fun _ : Unit => MQ below (kQA g (fin b)) args s ((fin b).2.1.length - L) (ksl L (fin b).2) (kZ g.2.2.1)) (M.1.length - L) (ksl L M) (some ()) pc lv st M) (hM : M2.1 = M.1) (kk : GD (l, cc, nL, own, g, dep, L, ret, nm) fin o q lv2 st2 M2) : GD (l, cc, nL, own, g, dep, L, ret, nm) fin o pc lv st M := by
  refine ⟨fun b h => by rw [← hM]; exact kk.1 b h, fun p e s m args below meth c hX hr hn hz hL b h => ?_⟩
  have hp : M.1 <+: (fin b).2.1 := by rw [← hM]; exact kk.1 b h
  have hp1 := hp.length_le
  refine row hX b (by show _ ≤ _ - L; omega) (ksl_le hp hL) ?_
  have h1 := kk.2 p e s m args below meth c hX hr hn hz (by rw [hM]; exact hL) b h
  rw [hM, ksl_cg hM] at h1
  exact h1
theorem d_if {q q2 : Nat} {st2 : List Value} {cn : Prop} [Decidable cn] (row : ∀ {p : Program} {e : Env} {s : State} {m : MethodId} {args : Array Value} {below : List Frame} {meth : Method} {c : Code}, (∀ M9 : kMem, Cok (p, l, e, DR dep L M9, s, m, args, below, meth, c, cc, nL, own, g, dep)) → ∀ b : β, (cn → GG (p, l, e, DR dep L (fin b).2, s, m, args, below, meth, c, cc, nL, own, g, dep) (fun _ : Unit => MQ below (kQA g (fin b)) args s ((fin b).2.1.length - L) (ksl L (fin b).2) (kZ g.2.2.1)) (M.1.length - L) (ksl L M) (some ()) q lv st2 M) → (¬ cn → GG (p, l, e, DR dep L (fin b).2, s, m, args, below, meth, c, cc, nL, own, g, dep) (fun _ : Unit => MQ below (kQA g (fin b)) args s ((fin b).2.1.length - L) (ksl L (fin b).2) (kZ g.2.2.1)) (M.1.length - L) (ksl L M) (some ()) q2 lv st2 M) → GG (p, l, e, DR dep L (fin b).2, s, m, args, below, meth, c, cc, nL, own, g, dep) (fun _ : Unit => MQ below (kQA g (fin b)) args s ((fin b).2.1.length - L) (ksl L (fin b).2) (kZ g.2.2.1)) (M.1.length - L) (ksl L M) (if cn then some () else some ()) pc lv st M) (k1 : cn → GD (l, cc, nL, own, g, dep, L, ret, nm) fin o1 q lv st2 M) (k2 : ¬ cn → GD (l, cc, nL, own, g, dep, L, ret, nm) fin o2 q2 lv st2 M) : GD (l, cc, nL, own, g, dep, L, ret, nm) fin (if cn then o1 else o2) pc lv st M := by
  by_cases hc : cn
  · rw [if_pos hc]
    refine ⟨(k1 hc).1, fun p e s m args below meth c hX hr hn hz hL b h => ?_⟩
    have h2 := row hX b (fun h1 => (k1 hc).2 p e s m args below meth c hX hr hn hz hL b h) (fun h1 => absurd hc h1)
    rw [if_pos hc] at h2
    exact h2
  · rw [if_neg hc]
    refine ⟨(k2 hc).1, fun p e s m args below meth c hX hr hn hz hL b h => ?_⟩
    have h2 := row hX b (fun h1 => absurd h1 hc) (fun h1 => (k2 hc).2 p e s m args below meth c hX hr hn hz hL b h)
    rw [if_neg hc] at h2
    exact h2
theorem d_ifN {q q2 : Nat} {st2 : List Value} {cn : Prop} [Decidable cn] (row : ∀ {p : Program} {e : Env} {s : State} {m : MethodId} {args : Array Value} {below : List Frame} {meth : Method} {c : Code}, (∀ M9 : kMem, Cok (p, l, e, DR dep L M9, s, m, args, below, meth, c, cc, nL, own, g, dep)) → ∀ b : β, (¬ cn → GG (p, l, e, DR dep L (fin b).2, s, m, args, below, meth, c, cc, nL, own, g, dep) (fun _ : Unit => MQ below (kQA g (fin b)) args s ((fin b).2.1.length - L) (ksl L (fin b).2) (kZ g.2.2.1)) (M.1.length - L) (ksl L M) (some ()) q lv st2 M) → (cn → GG (p, l, e, DR dep L (fin b).2, s, m, args, below, meth, c, cc, nL, own, g, dep) (fun _ : Unit => MQ below (kQA g (fin b)) args s ((fin b).2.1.length - L) (ksl L (fin b).2) (kZ g.2.2.1)) (M.1.length - L) (ksl L M) (some ()) q2 lv st2 M) → GG (p, l, e, DR dep L (fin b).2, s, m, args, below, meth, c, cc, nL, own, g, dep) (fun _ : Unit => MQ below (kQA g (fin b)) args s ((fin b).2.1.length - L) (ksl L (fin b).2) (kZ g.2.2.1)) (M.1.length - L) (ksl L M) (if cn then some () else some ()) pc lv st M) (k1 : ¬ cn → GD (l, cc, nL, own, g, dep, L, ret, nm) fin o2 q lv st2 M) (k2 : cn → GD (l, cc, nL, own, g, dep, L, ret, nm) fin o1 q2 lv st2 M) : GD (l, cc, nL, own, g, dep, L, ret, nm) fin (if cn then o1 else o2) pc lv st M := by
  by_cases hc : cn
  · rw [if_pos hc]
    refine ⟨(k2 hc).1, fun p e s m args below meth c hX hr hn hz hL b h => ?_⟩
    have h2 := row hX b (fun h1 => absurd hc h1) (fun h1 => (k2 hc).2 p e s m args below meth c hX hr hn hz hL b h)
    rw [if_pos hc] at h2
    exact h2
  · rw [if_neg hc]
    refine ⟨(k1 hc).1, fun p e s m args below meth c hX hr hn hz hL b h => ?_⟩
    have h2 := row hX b (fun h1 => (k1 hc).2 p e s m args below meth c hX hr hn hz hL b h) (fun h1 => absurd h1 hc)
    rw [if_neg hc] at h2
    exact h2
theorem d_ite {cn : Prop} [Decidable cn] (k1 : cn → GD (l, cc, nL, own, g, dep, L, ret, nm) fin o1 pc lv st M) (k2 : ¬ cn → GD (l, cc, nL, own, g, dep, L, ret, nm) fin o2 pc lv st M) : GD (l, cc, nL, own, g, dep, L, ret, nm) fin (if cn then o1 else o2) pc lv st M := by
  by_cases hc : cn
  · rw [if_pos hc]; exact k1 hc
  · rw [if_neg hc]; exact k2 hc
theorem d_getE {q : Nat} {st1 st2 : List Value} {gd gd2 : Bool} {cn : Prop} [Decidable cn] (row : ∀ {p : Program} {e : Env} {s : State} {m : MethodId} {args : Array Value} {below : List Frame} {meth : Method} {c : Code}, (∀ M9 : kMem, Cok (p, l, e, DR dep L M9, s, m, args, below, meth, c, cc, nL, own, g, dep)) → ∀ b : β, (cn → GG (p, l, e, DR dep L (fin b).2, s, m, args, below, meth, c, cc, nL, own, g, dep) (fun _ : Unit => MQ below (kQA g (fin b)) args s ((fin b).2.1.length - L) (ksl L (fin b).2) (kZ g.2.2.1)) (M.1.length - L) (ksl L M) (some ()) q lv st1 M) → (¬ cn → GG (p, l, e, DR dep L (fin b).2, s, m, args, below, meth, c, cc, nL, own, g, dep) (fun _ : Unit => MQ below (kQA g (fin b)) args s ((fin b).2.1.length - L) (ksl L (fin b).2) (kZ g.2.2.1)) (M.1.length - L) (ksl L M) (some ()) q lv st2 M) → GG (p, l, e, DR dep L (fin b).2, s, m, args, below, meth, c, cc, nL, own, g, dep) (fun _ : Unit => MQ below (kQA g (fin b)) args s ((fin b).2.1.length - L) (ksl L (fin b).2) (kZ g.2.2.1)) (M.1.length - L) (ksl L M) (kg gd (if cn then kg gd2 (some ()) else some ())) pc lv st M) (k1 : cn → GD (l, cc, nL, own, g, dep, L, ret, nm) fin o1 q lv st1 M) (k2 : ¬ cn → GD (l, cc, nL, own, g, dep, L, ret, nm) fin o2 q lv st2 M) : GD (l, cc, nL, own, g, dep, L, ret, nm) fin (kg gd (if cn then kg gd2 o1 else o2)) pc lv st M := by
  refine ⟨fun b h => ?_, fun p e s m args below meth c hX hr hn hz hL b h => ?_⟩
  · obtain ⟨hb, h9⟩ := kg_some h
    by_cases hc : cn
    · rw [if_pos hc] at h9; exact (k1 hc).1 b (kg_some h9).2
    · rw [if_neg hc] at h9; exact (k2 hc).1 b h9
  · obtain ⟨hb, h9⟩ := kg_some h
    by_cases hc : cn
    · rw [if_pos hc] at h9
      obtain ⟨hb2, h9⟩ := kg_some h9
      have h2 := row hX b (fun h1 => (k1 hc).2 p e s m args below meth c hX hr hn hz hL b h9) (fun h1 => absurd hc h1)
      rw [if_pos hc, hb, hb2] at h2
      exact h2
    · rw [if_neg hc] at h9
      have h2 := row hX b (fun h1 => absurd h1 hc) (fun h1 => (k2 hc).2 p e s m args below meth c hX hr hn hz hL b h9)
      rw [if_neg hc, hb] at h2
      exact h2
theorem d_kl {α : Type} {v : α} {f : α → Option β} (kk : ∀ x, x = v → GD (l, cc, nL, own, g, dep, L, ret, nm) fin (f x) pc lv st M) : GD (l, cc, nL, own, g, dep, L, ret, nm) fin (kl v f) pc lv st M := kk v rfl
theorem d_klI {v : Int32} {f : Int32 → Option β} (kk : ∀ x, x = v → GD (l, cc, nL, own, g, dep, L, ret, nm) fin (f x) pc lv (.int x :: st) M) : GD (l, cc, nL, own, g, dep, L, ret, nm) fin (kl v f) pc lv (.int v :: st) M := kk v rfl
theorem d_klR {v : Nat} {f : Nat → Option β} (kk : ∀ x, x = v → GD (l, cc, nL, own, g, dep, L, ret, nm) fin (f x) pc lv (.ref x :: st) M) : GD (l, cc, nL, own, g, dep, L, ret, nm) fin (kl v f) pc lv (.ref v :: st) M := kk v rfl
theorem d_klL {v : Int64} {f : Int64 → Option β} (kk : ∀ x, x = v → GD (l, cc, nL, own, g, dep, L, ret, nm) fin (f x) pc lv (.long x :: st) M) : GD (l, cc, nL, own, g, dep, L, ret, nm) fin (kl v f) pc lv (.long v :: st) M := kk v rfl
theorem d_klB {v : Int32} {f : Int32 → Option β} (kk : ∀ x, x = v → GD (l, cc, nL, own, g, dep, L, ret, nm) fin (f x) pc lv (.retAddr (g.1 (2000 + kBi x)) :: st) M) : GD (l, cc, nL, own, g, dep, L, ret, nm) fin (kl v f) pc lv (.retAddr (g.1 (2000 + kBi v)) :: st) M := kk v rfl
theorem d_klM {f : kMem → Option β} (kk : ∀ x, x = M → GD (l, cc, nL, own, g, dep, L, ret, nm) fin (f x) pc lv st x) : GD (l, cc, nL, own, g, dep, L, ret, nm) fin (kl M f) pc lv st M := kk M rfl
theorem d_new (q : Nat) {ci idx N : Nat} {C : String} {T : u_T} {ty0 : Nat → FieldType} (hc : vwCl[kci ci]? = some (C, T, N)) (h13 : kox ci < 13) (hin : ∀ w ∈ u_ws C T N, w ∈ WT) (hty : ∀ k, k < N → parseFieldDescriptor (T k).2.2.1 = some (ty0 k)) (hdef : ∀ j, j < N → ∃ x, (kKinds ci)[j]? = some x ∧ defaultValue (ty0 j) = kD0 x) (wl : Cond.classLink own idx C ∈ WT) (wi : Cond.instantiable C N ∈ WT) (wn : Cond.initialized C ∈ WT) (d : decode cc pc = .ok (.new idx, 3)) (e9 : pc + 3 = q) (kk : GD (l, cc, nL, own, g, dep, L, ret, nm) fin o q lv (.ref (M.1.length + 1) :: st) (kNew M ci N)) : GD (l, cc, nL, own, g, dep, L, ret, nm) fin o pc lv st M := by
  have hpp : M.1 <+: (kNew M ci N).1 := List.prefix_append _ _
  refine ⟨fun b h => hpp.trans (kk.1 b h), fun p e s m args below meth c hX hr hn hz hL b h => ?_⟩
  have hp := kk.1 b h
  have hp1 := hp.length_le
  have hl1 : (kNew M ci N).1.length = M.1.length + 1 := by unfold kNew; simp
  have hs1 := ksl_le hp (L := L) (by omega)
  rw [ksl_new hL] at hs1
  have hk : krm L ((fin b).2.1.length - L) (ksl L (fin b).2) M N = true := by
    unfold krm
    simp only [Bool.and_eq_true, decide_eq_true_eq]
    exact ⟨hL, by omega, hs1⟩
  have h1 := kk.2 p e s m args below meth c hX hr hn hz (by omega) b h
  have h2 := g_new q (hX (fin b).2) hc h13 hin hty hdef wl wi wn hz (mc := (fin b).2.1.length - L) (ms := ksl L (fin b).2) (Nat.le_refl _) (Nat.le_refl _) d e9 h1
  rw [hk] at h2
  exact h2
theorem d_newaI (q : Nat) {z : Int32}   (d : decode cc pc = .ok (.newarray .int, 2)) (e9 : pc + 2 = q) (kk : GD (l, cc, nL, own, g, dep, L, ret, nm) fin o q lv (.ref (M.1.length + 1) :: st) (kNew M 13 z.toNatClampNeg)) : GD (l, cc, nL, own, g, dep, L, ret, nm) fin (kg (decide (0 ≤ z) && decide (z.toNatClampNeg ≤ 60000)) o) pc lv (.int z :: st) M := by
  have hpp : M.1 <+: (kNew M 13 z.toNatClampNeg).1 := List.prefix_append _ _
  refine ⟨fun b h => hpp.trans (kk.1 b (kg_some h).2), fun p e s m args below meth c hX hr hn hz hL b h => ?_⟩
  obtain ⟨hb, h⟩ := kg_some h
  simp only [Bool.and_eq_true, decide_eq_true_eq] at hb
  have hp := kk.1 b h
  have hp1 := hp.length_le
  have hl1 : (kNew M 13 z.toNatClampNeg).1.length = M.1.length + 1 := by unfold kNew; simp
  have hs1 := ksl_le hp (L := L) (by omega)
  rw [ksl_new hL] at hs1
  have hk : krm L ((fin b).2.1.length - L) (ksl L (fin b).2) M z.toNatClampNeg = true := by
    unfold krm
    simp only [Bool.and_eq_true, decide_eq_true_eq]
    exact ⟨hL, by omega, hs1⟩
  have h1 := kk.2 p e s m args below meth c hX hr hn hz (by omega) b h
  have h2 := g_newaI q (hX (fin b).2) (Int32.not_lt.mpr hb.1) hb.2 hz (mc := (fin b).2.1.length - L) (ms := ksl L (fin b).2) (Nat.le_refl _) (Nat.le_refl _) d e9 h1
  rw [hk] at h2
  exact h2
theorem d_newaB (q : Nat) {z : Int32}   (d : decode cc pc = .ok (.newarray .byte, 2)) (e9 : pc + 2 = q) (kk : GD (l, cc, nL, own, g, dep, L, ret, nm) fin o q lv (.ref (M.1.length + 1) :: st) (kNew M 20 z.toNatClampNeg)) : GD (l, cc, nL, own, g, dep, L, ret, nm) fin (kg (decide (0 ≤ z) && decide (z.toNatClampNeg ≤ 60000)) o) pc lv (.int z :: st) M := by
  have hpp : M.1 <+: (kNew M 20 z.toNatClampNeg).1 := List.prefix_append _ _
  refine ⟨fun b h => hpp.trans (kk.1 b (kg_some h).2), fun p e s m args below meth c hX hr hn hz hL b h => ?_⟩
  obtain ⟨hb, h⟩ := kg_some h
  simp only [Bool.and_eq_true, decide_eq_true_eq] at hb
  have hp := kk.1 b h
  have hp1 := hp.length_le
  have hl1 : (kNew M 20 z.toNatClampNeg).1.length = M.1.length + 1 := by unfold kNew; simp
  have hs1 := ksl_le hp (L := L) (by omega)
  rw [ksl_new hL] at hs1
  have hk : krm L ((fin b).2.1.length - L) (ksl L (fin b).2) M z.toNatClampNeg = true := by
    unfold krm
    simp only [Bool.and_eq_true, decide_eq_true_eq]
    exact ⟨hL, by omega, hs1⟩
  have h1 := kk.2 p e s m args below meth c hX hr hn hz (by omega) b h
  have h2 := g_newaB q (hX (fin b).2) (Int32.not_lt.mpr hb.1) hb.2 hz (mc := (fin b).2.1.length - L) (ms := ksl L (fin b).2) (Nat.le_refl _) (Nat.le_refl _) d e9 h1
  rw [hk] at h2
  exact h2
theorem d_anewaO (q : Nat) {z : Int32} {idx : Nat} (wl : Cond.classLink own idx "java/lang/Object" ∈ WT) (d : decode cc pc = .ok (.anewarray idx, 3)) (e9 : pc + 3 = q) (kk : GD (l, cc, nL, own, g, dep, L, ret, nm) fin o q lv (.ref (M.1.length + 1) :: st) (kNew M 21 z.toNatClampNeg)) : GD (l, cc, nL, own, g, dep, L, ret, nm) fin (kg (decide (0 ≤ z) && decide (z.toNatClampNeg ≤ 60000)) o) pc lv (.int z :: st) M := by
  have hpp : M.1 <+: (kNew M 21 z.toNatClampNeg).1 := List.prefix_append _ _
  refine ⟨fun b h => hpp.trans (kk.1 b (kg_some h).2), fun p e s m args below meth c hX hr hn hz hL b h => ?_⟩
  obtain ⟨hb, h⟩ := kg_some h
  simp only [Bool.and_eq_true, decide_eq_true_eq] at hb
  have hp := kk.1 b h
  have hp1 := hp.length_le
  have hl1 : (kNew M 21 z.toNatClampNeg).1.length = M.1.length + 1 := by unfold kNew; simp
  have hs1 := ksl_le hp (L := L) (by omega)
  rw [ksl_new hL] at hs1
  have hk : krm L ((fin b).2.1.length - L) (ksl L (fin b).2) M z.toNatClampNeg = true := by
    unfold krm
    simp only [Bool.and_eq_true, decide_eq_true_eq]
    exact ⟨hL, by omega, hs1⟩
  have h1 := kk.2 p e s m args below meth c hX hr hn hz (by omega) b h
  have h2 := g_anewa 21 7 q (hX (fin b).2) (Nat.le_of_ble_eq_true rfl) rfl (hX (fin b).2).2.2.2.2.2.2.2.2.1.2.1.2.2.2.2 wl (Int32.not_lt.mpr hb.1) hb.2 hz (mc := (fin b).2.1.length - L) (ms := ksl L (fin b).2) (Nat.le_refl _) (Nat.le_refl _) d e9 h1
  rw [hk] at h2
  exact h2
theorem d_iret {b0 : β} {v : Int32} (hret : ret = some .int) (hf : fin b0 = (some (.int v), M)) (d : decode cc pc = .ok (.ireturn, 1)) : GD (l, cc, nL, own, g, dep, L, ret, nm) fin (some b0) pc lv [.int v] M := by
  refine ⟨fun b h => ?_, fun p e s m args below meth c hX hr hn hz hL b h => ?_⟩
  · cases h
    rw [hf]
    exact List.prefix_refl _
  cases h
  have hX := hX (fin b0).2
  intro b9 h9 H locs ls hH hS hl
  refine k_size (fun hle => ?_)
  have hzz := k_exact hX hH hS hz (by omega) hle
  rw [hf]
  show W p l e _ s m args below meth c H locs _ _ (MQ below (kQA g (some (.int v), M)) args s (M.1.length - L) (ksl L M) (kZ g.2.2.1)) _
  exact W.iret hX.1 hX.2.1 (hr.trans hret) (fun t ht hW => ⟨⟨rfl, by rw [ht]; exact hH, hS.F ht⟩, by rw [ht]; exact hzz⟩) hS.2.2 d hX.2.2.2.2.2.1
theorem d_aret {b0 : β} {v : Nat} {rt : FieldType} (hret : ret = some rt) (hrt : (∃ n, rt = .object n) ∨ ∃ t, rt = .array t) (hf : fin b0 = (some (.ref v), M)) (d : decode cc pc = .ok (.areturn, 1)) : GD (l, cc, nL, own, g, dep, L, ret, nm) fin (some b0) pc lv [.ref v] M := by
  refine ⟨fun b h => ?_, fun p e s m args below meth c hX hr hn hz hL b h => ?_⟩
  · cases h
    rw [hf]
    exact List.prefix_refl _
  cases h
  have hX := hX (fin b0).2
  intro b9 h9 H locs ls hH hS hl
  refine k_size (fun hle => ?_)
  have hzz := k_exact hX hH hS hz (by omega) hle
  rw [hf]
  show W p l e _ s m args below meth c H locs _ _ (MQ below (kQA g (some (.ref v), M)) args s (M.1.length - L) (ksl L M) (kZ g.2.2.1)) _
  exact W.aret hX.1 hX.2.1 (v := kr g.2.2.1 v) (hr.trans hret) hrt (by
    by_cases hv : v = 0
    · exact Or.inl (by rw [hv]; rfl)
    · exact Or.inr ⟨_, kr_pos _ hv⟩) (fun t ht hW => ⟨⟨rfl, by rw [ht]; exact hH, hS.F ht⟩, by rw [ht]; exact hzz⟩) hS.2.2 d hX.2.2.2.2.2.1
theorem d_bret {b0 : β} {v : Nat} {rt : FieldType} (hret : ret = some rt) (hrt : (∃ n, rt = .object n) ∨ ∃ t, rt = .array t) (hf : fin b0 = (some (.retAddr v), M)) (d : decode cc pc = .ok (.areturn, 1)) : GD (l, cc, nL, own, g, dep, L, ret, nm) fin (some b0) pc lv [.retAddr v] M := by
  refine ⟨fun b h => ?_, fun p e s m args below meth c hX hr hn hz hL b h => ?_⟩
  · cases h
    rw [hf]
    exact List.prefix_refl _
  cases h
  have hX := hX (fin b0).2
  intro b9 h9 H locs ls hH hS hl
  refine k_size (fun hle => ?_)
  have hzz := k_exact hX hH hS hz (by omega) hle
  rw [hf]
  show W p l e _ s m args below meth c H locs _ _ (MQ below (kQA g (some (.retAddr v), M)) args s (M.1.length - L) (ksl L M) (kZ g.2.2.1)) _
  exact W.aret hX.1 hX.2.1 (v := .ref v) (hr.trans hret) hrt (Or.inr ⟨_, rfl⟩) (fun t ht hW => ⟨⟨rfl, by rw [ht]; exact hH, hS.F ht⟩, by rw [ht]; exact hzz⟩) hS.2.2 d hX.2.2.2.2.2.1
theorem d_zret {b0 : β} {v : Int32} (hret : ret = some .boolean) (hf : fin b0 = (some (.int v), M)) (d : decode cc pc = .ok (.ireturn, 1)) : GD (l, cc, nL, own, g, dep, L, ret, nm) fin (kg (v == 0 || v == 1) (some b0)) pc lv [.int v] M := by
  refine ⟨fun b h => ?_, fun p e s m args below meth c hX hr hn hz hL b h => ?_⟩
  · cases (kg_some h).2
    rw [hf]
    exact List.prefix_refl _
  obtain ⟨hb, h⟩ := kg_some h
  cases h
  have hX := hX (fin b0).2
  intro b9 h9 H locs ls hH hS hl
  refine k_size (fun hle => ?_)
  have hzz := k_exact hX hH hS hz (by omega) hle
  rw [hf]
  simp only [Bool.or_eq_true, beq_iff_eq] at hb
  show W p l e _ s m args below meth c H locs _ _ (MQ below (kQA g (some (.int v), M)) args s (M.1.length - L) (ksl L M) (kZ g.2.2.1)) _
  exact W.zret hX.1 hX.2.1 (hr.trans hret) (by rcases hb with rfl | rfl <;> rfl) (fun t ht hW => ⟨⟨rfl, by rw [ht]; exact hH, hS.F ht⟩, by rw [ht]; exact hzz⟩) hS.2.2 d hX.2.2.2.2.2.1
theorem d_zretL {b0 : β} {v : Int32} (hret : ret = some .boolean) (hv : (v == 0 || v == 1) = true) (hf : fin b0 = (some (.int v), M)) (d : decode cc pc = .ok (.ireturn, 1)) : GD (l, cc, nL, own, g, dep, L, ret, nm) fin (some b0) pc lv [.int v] M := by
  refine ⟨fun b h => ?_, fun p e s m args below meth c hX hr hn hz hL b h => ?_⟩
  · cases h
    rw [hf]
    exact List.prefix_refl _
  cases h
  have hX := hX (fin b0).2
  intro b9 h9 H locs ls hH hS hl
  refine k_size (fun hle => ?_)
  have hzz := k_exact hX hH hS hz (by omega) hle
  rw [hf]
  simp only [Bool.or_eq_true, beq_iff_eq] at hv
  show W p l e _ s m args below meth c H locs _ _ (MQ below (kQA g (some (.int v), M)) args s (M.1.length - L) (ksl L M) (kZ g.2.2.1)) _
  exact W.zret hX.1 hX.2.1 (hr.trans hret) (by rcases hv with rfl | rfl <;> rfl) (fun t ht hW => ⟨⟨rfl, by rw [ht]; exact hH, hS.F ht⟩, by rw [ht]; exact hzz⟩) hS.2.2 d hX.2.2.2.2.2.1
theorem d_cret {b0 : β} {v : Int32} (hret : ret = some .char) (hf : fin b0 = (some (.int v), M)) (d : decode cc pc = .ok (.ireturn, 1)) : GD (l, cc, nL, own, g, dep, L, ret, nm) fin (kg (decide ((v.toUInt32 % 65536).toInt32 = v)) (some b0)) pc lv [.int v] M := by
  refine ⟨fun b h => ?_, fun p e s m args below meth c hX hr hn hz hL b h => ?_⟩
  · cases (kg_some h).2
    rw [hf]
    exact List.prefix_refl _
  obtain ⟨hb, h⟩ := kg_some h
  cases h
  have hX := hX (fin b0).2
  intro b9 h9 H locs ls hH hS hl
  refine k_size (fun hle => ?_)
  have hzz := k_exact hX hH hS hz (by omega) hle
  rw [hf]
  show W p l e _ s m args below meth c H locs _ _ (MQ below (kQA g (some (.int v), M)) args s (M.1.length - L) (ksl L M) (kZ g.2.2.1)) _
  exact W.zret hX.1 hX.2.1 (hr.trans hret) (by rw [← of_decide_eq_true hb]; exact pk_nc v) (fun t ht hW => ⟨⟨rfl, by rw [ht]; exact hH, hS.F ht⟩, by rw [ht]; exact hzz⟩) hS.2.2 d hX.2.2.2.2.2.1
theorem d_nbret {b0 : β} {v : Int32} (hret : ret = some .byte) (hf : fin b0 = (some (.int v), M)) (d : decode cc pc = .ok (.ireturn, 1)) : GD (l, cc, nL, own, g, dep, L, ret, nm) fin (kg (decide (v.toInt8.toInt32 = v)) (some b0)) pc lv [.int v] M := by
  refine ⟨fun b h => ?_, fun p e s m args below meth c hX hr hn hz hL b h => ?_⟩
  · cases (kg_some h).2
    rw [hf]
    exact List.prefix_refl _
  obtain ⟨hb, h⟩ := kg_some h
  cases h
  have hX := hX (fin b0).2
  intro b9 h9 H locs ls hH hS hl
  refine k_size (fun hle => ?_)
  have hzz := k_exact hX hH hS hz (by omega) hle
  rw [hf]
  show W p l e _ s m args below meth c H locs _ _ (MQ below (kQA g (some (.int v), M)) args s (M.1.length - L) (ksl L M) (kZ g.2.2.1)) _
  exact W.zret hX.1 hX.2.1 (hr.trans hret) (by rw [← of_decide_eq_true hb]; exact pk_nb v) (fun t ht hW => ⟨⟨rfl, by rw [ht]; exact hH, hS.F ht⟩, by rw [ht]; exact hzz⟩) hS.2.2 d hX.2.2.2.2.2.1
theorem d_vret {b0 : β} (hret : ret = none) (hf : fin b0 = (none, M)) (d : decode cc pc = .ok (.return_, 1)) : GD (l, cc, nL, own, g, dep, L, ret, nm) fin (some b0) pc lv [] M := by
  refine ⟨fun b h => ?_, fun p e s m args below meth c hX hr hn hz hL b h => ?_⟩
  · cases h
    rw [hf]
    exact List.prefix_refl _
  cases h
  have hX := hX (fin b0).2
  intro b9 h9 H locs ls hH hS hl
  refine k_size (fun hle => ?_)
  have hzz := k_exact hX hH hS hz (by omega) hle
  rw [hf]
  show W p l e _ s m args below meth c H locs _ _ (MQ below (kQA g (none, M)) args s (M.1.length - L) (ksl L M) (kZ g.2.2.1)) _
  exact W.vret hX.1 hX.2.1 (hr.trans hret) (fun t ht hW => ⟨⟨rfl, by rw [ht]; exact hH, hS.F ht⟩, by rw [ht]; exact hzz⟩) hS.2.2 d hX.2.2.2.2.2.1
end kGD
theorem kMet_sm {β : Type} {l : Launch} {g : kG} {y : MethodName} {bc : ByteArray} {nL : Nat} {ret : Option FieldType} {dep mc ms : Nat} {av : List Value} {M : kMem} {fin : β → Option Value × kMem} {o : Option β} (h : kMet l g y bc nL ret dep mc ms av M fin o) : kMet l g y bc nL ret dep mc ms av M fin (kSm fin M o) := fun b hb => h b (kSm_some hb).1
/-- a private method of a class above: what is selected -/
theorem k_selP {C : String} {x0 y0 y : MethodName} {s : State} {args : Array Value} (hy : y.cls ≠ "java/lang/invoke/MethodHandle" ∧ y.cls ≠ "java/lang/invoke/VarHandle") (h0 : (Cond.selects C x0 y0).before args s = true) (hcls : y.cls = y0.cls) (hpriv : (Cond.privateMethod y).before args s = true) (hinst : (Cond.instanceMethod y).before args s = true) : (Cond.selects C y y).before args s = true := by
  obtain ⟨c, r, m0, hc, -, hm0, -, mk0, hk0, hni⟩ := Cond.selects_spec h0
  obtain ⟨mk, methM, hnamed, hmethM, -, -⟩ := Cond.instanceMethod_spec hinst
  have hfound : s.methodFound? y.cls y.name y.desc = some mk := State.methodFound?_of_named hnamed hy
  have hcls2 : mk.cls = m0.cls := Option.some.inj ((findClass_of_methodNamed hnamed).symm.trans (by rw [hcls]; exact findClass_of_methodNamed hm0))
  have hsel : selectMethod {} s.vm c mk = .method mk := selectMethod_private hmethM (Cond.privateMethod_at hpriv mk methM hnamed hmethM)
  simp only [Cond.before, Cond.holds, Cond.value, hc, hfound, hnamed, hsel, hcls2, hk0]
  simp; exact hni
section kGDc
variable {β β2 : Type} {l : Launch} {cc : ByteArray} {nL : Nat} {own : String} {g : kG} {dep L : Nat} {ret : Option FieldType} {nm : String} {fin : β → Option Value × kMem} {pc : Nat} {lv : List (Nat × Value)} {M : kMem} {fin1 : β2 → Option Value × kMem} {o1 : Option β2} {f : β2 → Option β}
theorem k_map9 {B : Nat} {r : Option Value} {rest : List Value} : List.map (kT B) (r.toList ++ rest) = (r.map (kT B)).toList ++ List.map (kT B) rest := by
  rw [List.map_append]
  cases r <;> rfl
theorem k_after5 {p : Program} {e : Env} {R : Room} {s : State} {m : MethodId} {args : Array Value} {below : List Frame} {meth : Method} {c : Code} {k n : Nat} {Q0 : State → Prop} {H : Heap} {locs : List Loc} {mc ms : Nat} {ls : Array Slot} {st0 rest : List Value} {a : Array Value} {r : Option Value × kMem}
    (hr : va_Run5 p l e R s m args below meth c H locs k n mc ms (F0 m pc ls st0) rest (kQ g r a) (kZ g.2.2.1)) (hS : va_S (kZ g.2.2.1) s.heap H locs)
    (kk : ∀ (H1 : Heap) (locs1 : List Loc), kHd g.1 g.2.1 g.2.2.1 r.2 H1 → va_S (kZ g.2.2.1) s.heap H1 locs1 → W p l e R s m args below meth c H1 locs1 (k + mc) (n + ms) Q0 (F0 m (pc + 5) ls ((r.1.map (kT g.2.2.1)).toList ++ rest))) :
    W p l e R s m args below meth c H locs k n Q0 (F0 m pc ls st0) := by
  intro T hT X
  obtain ⟨v, st₀, t, T', L, h0, X', hL, e1, e2, ⟨hv, hH1, hz, hk⟩, st⟩ := hr T hT X
  have hv2 : v = r.1.map (kT g.2.2.1) := by injection hv
  subst hv2
  rw [h0] at hz hk
  obtain ⟨t2, a1, b1⟩ := kk T'.heap (locs ++ L) (by rw [e1]; exact hH1)
    ⟨Nat.le_trans hS.1 (by rw [e1]; exact hz), fun q h1 h2 => by rw [e1, hk q (Nat.lt_of_lt_of_le h1 hS.1) h2]; exact hS.2.1 q h1 h2, fun q hq => by
      rcases List.mem_append.mp hq with h | h
      · exact hS.2.2 q h
      · exact hL q h⟩ T' rfl X'
  exact ⟨t2, st t2 a1, b1⟩
theorem k_runA5 {p : Program} {e : Env} {R : Room} {s : State} {m : MethodId} {args : Array Value} {below : List Frame} {meth : Method} {c : Code} {k n : Nat} {H : Heap} {locs : List Loc} {mc ms : Nat} {gf : JFrame} {rest : List Value} {a : Array Value} {r : Option Value × kMem} {free : Addr → Prop} (h : va_Run5 p l e R s m args below meth c H locs k n mc ms gf rest (kQA g r a) free) : va_Run5 p l e R s m args below meth c H locs k n mc ms gf rest (kQ g r a) free := by
  intro T hT X
  obtain ⟨v, st₀, t, T', L, h0, X', hL, e1, e2, hq, stp⟩ := h T hT X
  exact ⟨v, st₀, t, T', L, h0, X', hL, e1, e2, hq.1, stp⟩
theorem k_clsAt {p : Program} {e : Env} {R : Room} {s : State} {m : MethodId} {args : Array Value} {below : List Frame} {meth : Method} {c : Code} {ci : Nat} {C : String} {T : u_T} {N : Nat} (hX : Cok (p, l, e, R, s, m, args, below, meth, c, cc, nL, own, g, dep)) (hc : vwCl[kci ci]? = some (C, T, N)) : ClassAt s C (g.2.1.1 (kci ci)) := (hX.2.2.2.2.2.2.2.2.1.1.1 (kci ci) _ hc).2
theorem k_clsI {p : Program} {e : Env} {R : Room} {s : State} {m : MethodId} {args : Array Value} {below : List Frame} {meth : Method} {c : Code} (hX : Cok (p, l, e, R, s, m, args, below, meth, c, cc, nL, own, g, dep)) : ClassAt s "java/lang/Integer" (g.2.1.1 2) := (hX.2.2.2.2.2.2.2.2.1.1.1 2 _ rfl).2
theorem va_cwX {R : Room} {s : State} {args : Array Value} {own C owner : String} {index maxL mc ms : Nat} {x y : MethodName} {bytes : ByteArray} {ret : Option FieldType} {Ts ws ws' : List Cond} {rm : Room} (n : Nat) (ht : ∀ w ∈ Ts, w.before args s = true) (hT : GoodIn Ts (va_wsU own index C owner x y ws)) (hw : ws = Cond.code y bytes maxL ret :: ws') (hrc : rm.cells = mc) (hrs : rm.slots = ms)
    (hz : va_Decl s ⟨owner, x.name, x.desc⟩) (hd : owner ≠ "java/lang/invoke/MethodHandle" ∧ owner ≠ "java/lang/invoke/VarHandle" ∧ (parseMethodDescriptor x.desc).map (fun d => d.parameters.length) = some n) (hR : rm.frames + 1 ≤ R.frames ∧ 8 + (maxL + 11) + rm.locals ≤ R.locals) : va_CU R s args own C owner index x y bytes maxL ret ws rm mc ms n := by
  have ok : ∀ w ∈ va_wsU own index C owner x y ws, w.before args s = true := fun w h => ht w (hT w h).1
  have hG : GoodIn Ts ws := fun w h => hT w (by unfold va_wsU; exact List.mem_append_right _ h)
  have hc : Cond.code y bytes maxL ret ∈ ws := by rw [hw]; exact List.mem_cons_self
  have h2 := hd.2.2
  exact ⟨⟨hrc, hrs, hR.1, hR.2, pay_in ht hG, hc⟩, ht _ (hG _ hc).1, ok _ (by simp [va_wsU]), ⟨hd.1, hd.2.1⟩, fun sig h => by rw [h] at h2; exact (Option.some.inj h2).symm, ok _ (by simp [va_wsU]), ok _ (by simp [va_wsU]), hz, ok _ (by simp [va_wsU]), ok _ (by simp [va_wsU])⟩
theorem k_strc {p : Program} {e : Env} {R : Room} {s : State} {m : MethodId} {args : Array Value} {below : List Frame} {meth : Method} {c : Code} {H : Heap} {locs : List Loc} {i : Nat} (hX : Cok (p, l, e, R, s, m, args, below, meth, c, cc, nL, own, g, dep)) (hS : va_S (kZ g.2.2.1) s.heap H locs) (hi : i < kSn) : ∃ cell : Cell, H[g.2.2.2.1 i]? = some cell ∧ cell.vm.isStatics = false ∧ s.vm.findClass "java/lang/String" = some cell.cls := by
  obtain ⟨cell, c1, c2, c3, -⟩ := (hX.2.2.2.2.2.2.2.1.1 i hi).1.kept (H1 := H) hS.2.1
  exact ⟨cell, c1, c2, c3⟩
theorem F_J0_coder_i (i : Nat) : ∀ b, F_J0_coder i = some b → i < kSn := fun b h => of_decide_eq_true (kg_some h).1
theorem d_callVS (q : Nat) {y : MethodName} {bc : ByteArray} {nLc nA depc index : Nat} {ret1 : Option FieldType} {i : Nat} {As rest : List Value} (hM : kMetD l g y bc nLc ret1 depc (.retAddr (g.2.2.2.1 i) :: As) M fin1 o1) (hk : kLk y bc nLc ret1 nA) (wl : Cond.methodLink own index y ∈ WT) (hsel : ∀ (s : State) (args : Array Value), (∀ w ∈ WT, w.before args s = true) → (Cond.selects "java/lang/String" y y).before args s = true) (hdep : depc + 1 ≤ dep) (hlen : As.length = nA) (hrest : (rest.map (fun v => v.category)).sum ≤ 8) (d : decode cc pc = .ok (.invokevirtual index, 3)) (e9 : pc + 3 = q) (kk : ∀ b1, o1 = some b1 → GD (l, cc, nL, own, g, dep, L, ret, nm) fin (f b1) q lv ((fin1 b1).1.toList ++ rest) (fin1 b1).2) : GD (l, cc, nL, own, g, dep, L, ret, nm) fin (kg (decide (i < kSn)) (o1.bind f)) pc lv (As.reverse ++ .retAddr (g.2.2.2.1 i) :: rest) M := by
  subst e9
  refine ⟨fun b h => ?_, fun p e s m args below meth c hX hr hn hz hL b h => ?_⟩
  · obtain ⟨b1, h1, h2⟩ := Option.bind_eq_some_iff.mp (kg_some h).2
    exact (hM.1 b1 h1).trans ((kk b1 h1).1 b h2)
  obtain ⟨hb, h⟩ := kg_some h
  obtain ⟨b1, h1, h2⟩ := Option.bind_eq_some_iff.mp h
  have hp1 := hM.1 b1 h1
  have hp2 := (kk b1 h1).1 b h2
  have hl1 := hp1.length_le
  have hl2 := hp2.length_le
  have hMb := hM.2 b1 h1
  have h3 := (kk b1 h1).2 p e s m args below meth c hX hr hn hz (by omega) b h2
  have hX := hX (fin b).2
  intro b9 h9 H locs ls hH hS hl
  refine k_size (fun hle => ?_)
  have hzz := k_exact hX hH hS hz (by omega) hle
  have hts := hX.2.2.2.2.1
  have hR1 := hX.2.2.2.2.2.2.2.2.2.1
  have hR2 := hX.2.2.2.2.2.2.2.2.2.2
  have hs2 := ksl_le hp2 (L := L) (by omega)
  rw [ksl_add hp1 hL] at hs2
  simp only [List.map_append, List.map_reverse, List.map_cons, kT] at hMb ⊢
  have cw : CallW (DR dep L (fin b).2) s args own "java/lang/String" index y bc nLc ret1 (.code y bc nLc ret1 :: WT) (DR depc M.1.length (fin1 b1).2) ((fin1 b1).2.1.length - M.1.length) (ksl M.1.length (fin1 b1).2) nA := ⟨k_callB hX hk.1 hk.2.2.1 hk.2.2.2.1 hk.2.2.2.2 hdep wl, hts _ hk.2.1, hsel s args hts⟩
  refine k_after (r := fin1 b1) (k_runA (va_runV (Ts := WT) (own := own) (nL := nL) (As := As.map (kT g.2.2.1)) (b := g.2.2.2.1 i) ⟨hX.1, hX.2.1, hX.2.2.1, hX.2.2.2.1, hts⟩ hMb cw ⟨kPA_blind _ g M, (k_strc hX hS (of_decide_eq_true hb)), fun U hU hW => ⟨rfl, kP_at hX hH hS U hU hW, by rw [hU]; exact hzz⟩⟩ rfl (by rw [List.length_map]; exact hlen) hl.1 rfl (lv_room (kcat_le hrest)) d ⟨(by show (M.1.length - L) + ((fin1 b1).2.1.length - M.1.length) ≤ (fin b).2.1.length - L; omega), hs2⟩)) hS (fun H1 locs1 hH1 hS1 => ?_)
  have kk2 := h3 () rfl H1 locs1 ls hH1 hS1 hl
  rw [k_map9, show (fin1 b1).2.1.length - L = M.1.length - L + ((fin1 b1).2.1.length - M.1.length) by omega, ksl_add hp1 hL] at kk2
  exact kk2
theorem d_callV (q : Nat) {y : MethodName} {bc : ByteArray} {nLc nA depc index : Nat} {ret1 : Option FieldType} {a ci : Nat} {C : String} {T : u_T} {N : Nat} {As rest : List Value} (hM : kMetD l g y bc nLc ret1 depc (.ref a :: As) M fin1 o1) (hk : kLk y bc nLc ret1 nA) (hc : vwCl[kci ci]? = some (C, T, N)) (h13 : kox ci < 13) (wl : Cond.methodLink own index y ∈ WT) (hsel : ∀ (s : State) (args : Array Value), (∀ w ∈ WT, w.before args s = true) → (Cond.selects C y y).before args s = true) (hdep : depc + 1 ≤ dep) (hlen : As.length = nA) (hrest : (rest.map (fun v => v.category)).sum ≤ 8) (d : decode cc pc = .ok (.invokevirtual index, 3)) (e9 : pc + 3 = q) (kk : ∀ b1, o1 = some b1 → GD (l, cc, nL, own, g, dep, L, ret, nm) fin (f b1) q lv ((fin1 b1).1.toList ++ rest) (fin1 b1).2) : GD (l, cc, nL, own, g, dep, L, ret, nm) fin (kg (kt M a ci) (o1.bind f)) pc lv (As.reverse ++ .ref a :: rest) M := by
  subst e9
  refine ⟨fun b h => ?_, fun p e s m args below meth c hX hr hn hz hL b h => ?_⟩
  · obtain ⟨b1, h1, h2⟩ := Option.bind_eq_some_iff.mp (kg_some h).2
    exact (hM.1 b1 h1).trans ((kk b1 h1).1 b h2)
  obtain ⟨hb, h⟩ := kg_some h
  obtain ⟨b1, h1, h2⟩ := Option.bind_eq_some_iff.mp h
  have hp1 := hM.1 b1 h1
  have hp2 := (kk b1 h1).1 b h2
  have hl1 := hp1.length_le
  have hl2 := hp2.length_le
  have hMb := hM.2 b1 h1
  have h3 := (kk b1 h1).2 p e s m args below meth c hX hr hn hz (by omega) b h2
  have hX := hX (fin b).2
  intro b9 h9 H locs ls hH hS hl
  refine k_size (fun hle => ?_)
  have hzz := k_exact hX hH hS hz (by omega) hle
  have hts := hX.2.2.2.2.1
  have hR1 := hX.2.2.2.2.2.2.2.2.2.1
  have hR2 := hX.2.2.2.2.2.2.2.2.2.2
  have hs2 := ksl_le hp2 (L := L) (by omega)
  rw [ksl_add hp1 hL] at hs2
  obtain ⟨j0, n0, rfl, hj, -⟩ := kt_spec hb
  simp only [List.map_append, List.map_reverse, List.map_cons, kT] at hMb ⊢
  rw [kr_succ] at hMb ⊢
  have cw : CallW (DR dep L (fin b).2) s args own C index y bc nLc ret1 (.code y bc nLc ret1 :: WT) (DR depc M.1.length (fin1 b1).2) ((fin1 b1).2.1.length - M.1.length) (ksl M.1.length (fin1 b1).2) nA := ⟨k_callB hX hk.1 hk.2.2.1 hk.2.2.2.1 hk.2.2.2.2 hdep wl, hts _ hk.2.1, hsel s args hts⟩
  refine k_after (r := fin1 b1) (k_runA (va_runV (Ts := WT) (own := own) (nL := nL) (As := As.map (kT g.2.2.1)) (b := g.2.2.1 + 1 + j0) ⟨hX.1, hX.2.1, hX.2.2.1, hX.2.2.2.1, hts⟩ hMb cw ⟨kPA_blind _ g M, (k_cell hX hH hc h13 hj), fun U hU hW => ⟨rfl, kP_at hX hH hS U hU hW, by rw [hU]; exact hzz⟩⟩ rfl (by rw [List.length_map]; exact hlen) hl.1 rfl (lv_room (kcat_le hrest)) d ⟨(by show (M.1.length - L) + ((fin1 b1).2.1.length - M.1.length) ≤ (fin b).2.1.length - L; omega), hs2⟩)) hS (fun H1 locs1 hH1 hS1 => ?_)
  have kk2 := h3 () rfl H1 locs1 ls hH1 hS1 hl
  rw [k_map9, show (fin1 b1).2.1.length - L = M.1.length - L + ((fin1 b1).2.1.length - M.1.length) by omega, ksl_add hp1 hL] at kk2
  exact kk2
theorem d_callVB (q : Nat) {y : MethodName} {bc : ByteArray} {nLc nA depc index : Nat} {ret1 : Option FieldType} {x : Int32} {As rest : List Value} (hM : kMetD l g y bc nLc ret1 depc (.retAddr (g.1 (2000 + kBi x)) :: As) M fin1 o1) (hk : kLk y bc nLc ret1 nA) (wl : Cond.methodLink own index y ∈ WT) (hsel : ∀ (s : State) (args : Array Value), (∀ w ∈ WT, w.before args s = true) → (Cond.selects "java/lang/Integer" y y).before args s = true) (hdep : depc + 1 ≤ dep) (hlen : As.length = nA) (hrest : (rest.map (fun v => v.category)).sum ≤ 8) (d : decode cc pc = .ok (.invokevirtual index, 3)) (e9 : pc + 3 = q) (kk : ∀ b1, o1 = some b1 → GD (l, cc, nL, own, g, dep, L, ret, nm) fin (f b1) q lv ((fin1 b1).1.toList ++ rest) (fin1 b1).2) : GD (l, cc, nL, own, g, dep, L, ret, nm) fin (kg (kBk x) (o1.bind f)) pc lv (As.reverse ++ .retAddr (g.1 (2000 + kBi x)) :: rest) M := by
  subst e9
  refine ⟨fun b h => ?_, fun p e s m args below meth c hX hr hn hz hL b h => ?_⟩
  · obtain ⟨b1, h1, h2⟩ := Option.bind_eq_some_iff.mp (kg_some h).2
    exact (hM.1 b1 h1).trans ((kk b1 h1).1 b h2)
  obtain ⟨hb, h⟩ := kg_some h
  obtain ⟨b1, h1, h2⟩ := Option.bind_eq_some_iff.mp h
  have hp1 := hM.1 b1 h1
  have hp2 := (kk b1 h1).1 b h2
  have hl1 := hp1.length_le
  have hl2 := hp2.length_le
  have hMb := hM.2 b1 h1
  have h3 := (kk b1 h1).2 p e s m args below meth c hX hr hn hz (by omega) b h2
  have hX := hX (fin b).2
  intro b9 h9 H locs ls hH hS hl
  refine k_size (fun hle => ?_)
  have hzz := k_exact hX hH hS hz (by omega) hle
  have hts := hX.2.2.2.2.1
  have hR1 := hX.2.2.2.2.2.2.2.2.2.1
  have hR2 := hX.2.2.2.2.2.2.2.2.2.2
  have hs2 := ksl_le hp2 (L := L) (by omega)
  rw [ksl_add hp1 hL] at hs2
  simp only [List.map_append, List.map_reverse, List.map_cons, kT] at hMb ⊢
  have cw : CallW (DR dep L (fin b).2) s args own "java/lang/Integer" index y bc nLc ret1 (.code y bc nLc ret1 :: WT) (DR depc M.1.length (fin1 b1).2) ((fin1 b1).2.1.length - M.1.length) (ksl M.1.length (fin1 b1).2) nA := ⟨k_callB hX hk.1 hk.2.2.1 hk.2.2.2.1 hk.2.2.2.2 hdep wl, hts _ hk.2.1, hsel s args hts⟩
  refine k_after (r := fin1 b1) (k_runA (va_runV (Ts := WT) (own := own) (nL := nL) (As := As.map (kT g.2.2.1)) (b := g.1 (2000 + kBi x)) ⟨hX.1, hX.2.1, hX.2.2.1, hX.2.2.2.1, hts⟩ hMb cw ⟨kPA_blind _ g M, (k_box hX hS hb), fun U hU hW => ⟨rfl, kP_at hX hH hS U hU hW, by rw [hU]; exact hzz⟩⟩ rfl (by rw [List.length_map]; exact hlen) hl.1 rfl (lv_room (kcat_le hrest)) d ⟨(by show (M.1.length - L) + ((fin1 b1).2.1.length - M.1.length) ≤ (fin b).2.1.length - L; omega), hs2⟩)) hS (fun H1 locs1 hH1 hS1 => ?_)
  have kk2 := h3 () rfl H1 locs1 ls hH1 hS1 hl
  rw [k_map9, show (fin1 b1).2.1.length - L = M.1.length - L + ((fin1 b1).2.1.length - M.1.length) by omega, ksl_add hp1 hL] at kk2
  exact kk2
theorem d_callF (q : Nat) {x9 y : MethodName} {bc : ByteArray} {nLc nA depc index cnt : Nat} {ret1 : Option FieldType} {a ci : Nat} {C : String} {T : u_T} {N : Nat} {As rest : List Value} (hM : kMetD l g y bc nLc ret1 depc (.ref a :: As) M fin1 o1) (hk : kLk y bc nLc ret1 nA) (hc : vwCl[kci ci]? = some (C, T, N)) (h13 : kox ci < 13) (wl : Cond.methodLink own index x9 ∈ WT) (wsel : Cond.selects C x9 y ∈ WT) (hfw : (C, x9, y) ∈ kFws) (hxp : (parseMethodDescriptor x9.desc).map (fun d => d.parameters.length) = some nA) (hdep : depc + 1 ≤ dep) (hlen : As.length = nA) (hrest : (rest.map (fun v => v.category)).sum ≤ 8) (d : decode cc pc = .ok (.invokeinterface index cnt, 5)) (e9 : pc + 5 = q) (kk : ∀ b1, o1 = some b1 → GD (l, cc, nL, own, g, dep, L, ret, nm) fin (f b1) q lv ((fin1 b1).1.toList ++ rest) (fin1 b1).2) : GD (l, cc, nL, own, g, dep, L, ret, nm) fin (kg (kt M a ci) (o1.bind f)) pc lv (As.reverse ++ .ref a :: rest) M := by
  subst e9
  refine ⟨fun b h => ?_, fun p e s m args below meth c hX hr hn hz hL b h => ?_⟩
  · obtain ⟨b1, h1, h2⟩ := Option.bind_eq_some_iff.mp (kg_some h).2
    exact (hM.1 b1 h1).trans ((kk b1 h1).1 b h2)
  obtain ⟨hb, h⟩ := kg_some h
  obtain ⟨b1, h1, h2⟩ := Option.bind_eq_some_iff.mp h
  have hp1 := hM.1 b1 h1
  have hp2 := (kk b1 h1).1 b h2
  have hl1 := hp1.length_le
  have hl2 := hp2.length_le
  have hMb := hM.2 b1 h1
  have h3 := (kk b1 h1).2 p e s m args below meth c hX hr hn hz (by omega) b h2
  have hX := hX (fin b).2
  intro b9 h9 H locs ls hH hS hl
  refine k_size (fun hle => ?_)
  have hzz := k_exact hX hH hS hz (by omega) hle
  have hts := hX.2.2.2.2.1
  have hR1 := hX.2.2.2.2.2.2.2.2.2.1
  have hR2 := hX.2.2.2.2.2.2.2.2.2.2
  have hs2 := ksl_le hp2 (L := L) (by omega)
  rw [ksl_add hp1 hL] at hs2
  obtain ⟨j0, n0, rfl, hj, -⟩ := kt_spec hb
  simp only [List.map_append, List.map_reverse, List.map_cons, kT] at hMb ⊢
  rw [kr_succ] at hMb ⊢
  have hwF : GoodIn WT (va_wsF own index C x9 y (.code y bc nLc ret1 :: WT)) := by
    refine kgood (fun w hw => ?_)
    unfold va_wsF at hw
    rcases List.mem_append.mp hw with hw | hw
    · simp only [List.mem_cons, List.not_mem_nil, or_false] at hw
      rcases hw with rfl | rfl | rfl | rfl
      · exact wl
      · exact wsel
      · exact hk.2.1
      · exact hk.2.2.1
    · exact (List.mem_cons.mp hw).elim (fun e => by rw [e]; exact hk.1) id
  have cw : va_CI (DR dep L (fin b).2) s args own C index x9 y bc nLc ret1 (.code y bc nLc ret1 :: WT) (DR depc M.1.length (fin1 b1).2) ((fin1 b1).2.1.length - M.1.length) (ksl M.1.length (fin1 b1).2) nA := va_cwF nA hts hwF rfl rfl rfl (hX.2.2.2.2.2.2.2.2.1.2.2.2.2.2.2 _ hfw) ⟨(kFws_ok _ hfw).1, (kFws_ok _ hfw).2, hxp⟩ ⟨by show depc + 1 ≤ dep; exact hdep, by show 8 + (nLc + 11) + 60 * depc ≤ 60 * dep; have := hk.2.2.2.2; omega⟩
  refine k_after5 (r := fin1 b1) (k_runA5 (va_runF (Ts := WT) (own := own) (nL := nL) (As := As.map (kT g.2.2.1)) (b := g.2.2.1 + 1 + j0) (k_clsAt hX hc) ⟨hX.1, hX.2.1, hX.2.2.1, hX.2.2.2.1, hts⟩ hMb cw ⟨kPA_blind _ g M, (k_cell hX hH hc h13 hj), fun U hU hW => ⟨rfl, kP_at hX hH hS U hU hW, by rw [hU]; exact hzz⟩⟩ rfl (by rw [List.length_map]; exact hlen) hl.1 rfl (lv_room (kcat_le hrest)) d ⟨(by show (M.1.length - L) + ((fin1 b1).2.1.length - M.1.length) ≤ (fin b).2.1.length - L; omega), hs2⟩)) hS (fun H1 locs1 hH1 hS1 => ?_)
  have kk2 := h3 () rfl H1 locs1 ls hH1 hS1 hl
  rw [k_map9, show (fin1 b1).2.1.length - L = M.1.length - L + ((fin1 b1).2.1.length - M.1.length) by omega, ksl_add hp1 hL] at kk2
  exact kk2
theorem d_callFB (q : Nat) {x9 y : MethodName} {bc : ByteArray} {nLc nA depc index cnt : Nat} {ret1 : Option FieldType} {x : Int32} {As rest : List Value} (hM : kMetD l g y bc nLc ret1 depc (.retAddr (g.1 (2000 + kBi x)) :: As) M fin1 o1) (hk : kLk y bc nLc ret1 nA) (wl : Cond.methodLink own index x9 ∈ WT) (wsel : Cond.selects "java/lang/Integer" x9 y ∈ WT) (hfw : ("java/lang/Integer", x9, y) ∈ kFws) (hxp : (parseMethodDescriptor x9.desc).map (fun d => d.parameters.length) = some nA) (hdep : depc + 1 ≤ dep) (hlen : As.length = nA) (hrest : (rest.map (fun v => v.category)).sum ≤ 8) (d : decode cc pc = .ok (.invokeinterface index cnt, 5)) (e9 : pc + 5 = q) (kk : ∀ b1, o1 = some b1 → GD (l, cc, nL, own, g, dep, L, ret, nm) fin (f b1) q lv ((fin1 b1).1.toList ++ rest) (fin1 b1).2) : GD (l, cc, nL, own, g, dep, L, ret, nm) fin (kg (kBk x) (o1.bind f)) pc lv (As.reverse ++ .retAddr (g.1 (2000 + kBi x)) :: rest) M := by
  subst e9
  refine ⟨fun b h => ?_, fun p e s m args below meth c hX hr hn hz hL b h => ?_⟩
  · obtain ⟨b1, h1, h2⟩ := Option.bind_eq_some_iff.mp (kg_some h).2
    exact (hM.1 b1 h1).trans ((kk b1 h1).1 b h2)
  obtain ⟨hb, h⟩ := kg_some h
  obtain ⟨b1, h1, h2⟩ := Option.bind_eq_some_iff.mp h
  have hp1 := hM.1 b1 h1
  have hp2 := (kk b1 h1).1 b h2
  have hl1 := hp1.length_le
  have hl2 := hp2.length_le
  have hMb := hM.2 b1 h1
  have h3 := (kk b1 h1).2 p e s m args below meth c hX hr hn hz (by omega) b h2
  have hX := hX (fin b).2
  intro b9 h9 H locs ls hH hS hl
  refine k_size (fun hle => ?_)
  have hzz := k_exact hX hH hS hz (by omega) hle
  have hts := hX.2.2.2.2.1
  have hR1 := hX.2.2.2.2.2.2.2.2.2.1
  have hR2 := hX.2.2.2.2.2.2.2.2.2.2
  have hs2 := ksl_le hp2 (L := L) (by omega)
  rw [ksl_add hp1 hL] at hs2
  simp only [List.map_append, List.map_reverse, List.map_cons, kT] at hMb ⊢
  have hwF : GoodIn WT (va_wsF own index "java/lang/Integer" x9 y (.code y bc nLc ret1 :: WT)) := by
    refine kgood (fun w hw => ?_)
    unfold va_wsF at hw
    rcases List.mem_append.mp hw with hw | hw
    · simp only [List.mem_cons, List.not_mem_nil, or_false] at hw
      rcases hw with rfl | rfl | rfl | rfl
      · exact wl
      · exact wsel
      · exact hk.2.1
      · exact hk.2.2.1
    · exact (List.mem_cons.mp hw).elim (fun e => by rw [e]; exact hk.1) id
  have cw : va_CI (DR dep L (fin b).2) s args own "java/lang/Integer" index x9 y bc nLc ret1 (.code y bc nLc ret1 :: WT) (DR depc M.1.length (fin1 b1).2) ((fin1 b1).2.1.length - M.1.length) (ksl M.1.length (fin1 b1).2) nA := va_cwF nA hts hwF rfl rfl rfl (hX.2.2.2.2.2.2.2.2.1.2.2.2.2.2.2 _ hfw) ⟨(kFws_ok _ hfw).1, (kFws_ok _ hfw).2, hxp⟩ ⟨by show depc + 1 ≤ dep; exact hdep, by show 8 + (nLc + 11) + 60 * depc ≤ 60 * dep; have := hk.2.2.2.2; omega⟩
  refine k_after5 (r := fin1 b1) (k_runA5 (va_runF (Ts := WT) (own := own) (nL := nL) (As := As.map (kT g.2.2.1)) (b := g.1 (2000 + kBi x)) (k_clsI hX) ⟨hX.1, hX.2.1, hX.2.2.1, hX.2.2.2.1, hts⟩ hMb cw ⟨kPA_blind _ g M, (k_box hX hS hb), fun U hU hW => ⟨rfl, kP_at hX hH hS U hU hW, by rw [hU]; exact hzz⟩⟩ rfl (by rw [List.length_map]; exact hlen) hl.1 rfl (lv_room (kcat_le hrest)) d ⟨(by show (M.1.length - L) + ((fin1 b1).2.1.length - M.1.length) ≤ (fin b).2.1.length - L; omega), hs2⟩)) hS (fun H1 locs1 hH1 hS1 => ?_)
  have kk2 := h3 () rfl H1 locs1 ls hH1 hS1 hl
  rw [k_map9, show (fin1 b1).2.1.length - L = M.1.length - L + ((fin1 b1).2.1.length - M.1.length) by omega, ksl_add hp1 hL] at kk2
  exact kk2
theorem d_callS (q : Nat) {y : MethodName} {bc : ByteArray} {nLc nA depc index : Nat} {ret1 : Option FieldType} {As rest : List Value} (hM : kMetD l g y bc nLc ret1 depc As M fin1 o1) (hk : kLs y bc nLc ret1 nA) (wl : Cond.methodLink own index y ∈ WT) (hdep : depc + 1 ≤ dep) (hlen : As.length = nA) (hrest : (rest.map (fun v => v.category)).sum ≤ 8) (d : decode cc pc = .ok (.invokestatic index, 3)) (e9 : pc + 3 = q) (kk : ∀ b1, o1 = some b1 → GD (l, cc, nL, own, g, dep, L, ret, nm) fin (f b1) q lv ((fin1 b1).1.toList ++ rest) (fin1 b1).2) : GD (l, cc, nL, own, g, dep, L, ret, nm) fin (o1.bind f) pc lv (As.reverse ++ rest) M := by
  subst e9
  refine ⟨fun b h => ?_, fun p e s m args below meth c hX hr hn hz hL b h => ?_⟩
  · obtain ⟨b1, h1, h2⟩ := Option.bind_eq_some_iff.mp h
    exact (hM.1 b1 h1).trans ((kk b1 h1).1 b h2)
  obtain ⟨b1, h1, h2⟩ := Option.bind_eq_some_iff.mp h
  have hp1 := hM.1 b1 h1
  have hp2 := (kk b1 h1).1 b h2
  have hl1 := hp1.length_le
  have hl2 := hp2.length_le
  have hMb := hM.2 b1 h1
  have h3 := (kk b1 h1).2 p e s m args below meth c hX hr hn hz (by omega) b h2
  have hX := hX (fin b).2
  intro b9 h9 H locs ls hH hS hl
  refine k_size (fun hle => ?_)
  have hzz := k_exact hX hH hS hz (by omega) hle
  have hts := hX.2.2.2.2.1
  have hR1 := hX.2.2.2.2.2.2.2.2.2.1
  have hR2 := hX.2.2.2.2.2.2.2.2.2.2
  have hs2 := ksl_le hp2 (L := L) (by omega)
  rw [ksl_add hp1 hL] at hs2
  simp only [List.map_append, List.map_reverse] at hMb ⊢
  have cw : CallB (DR dep L (fin b).2) s args own index y bc nLc ret1 (.code y bc nLc ret1 :: WT) (DR depc M.1.length (fin1 b1).2) ((fin1 b1).2.1.length - M.1.length) (ksl M.1.length (fin1 b1).2) nA ∧ (Cond.static y).before args s = true := ⟨k_callB hX hk.1 hk.2.2.1 hk.2.2.2.1 hk.2.2.2.2 hdep wl, hts _ hk.2.1⟩
  refine k_after (r := fin1 b1) (k_runA (va_runS (Ts := WT) (own := own) (nL := nL) (As := As.map (kT g.2.2.1)) ⟨hX.1, hX.2.1, hX.2.2.1, hX.2.2.2.1, hts⟩ hMb cw ⟨kPA_blind _ g M, fun U hU hW => ⟨rfl, kP_at hX hH hS U hU hW, by rw [hU]; exact hzz⟩⟩ rfl (by rw [List.length_map]; exact hlen) hl.1 rfl (lv_room (kcat_le hrest)) d ⟨(by show (M.1.length - L) + ((fin1 b1).2.1.length - M.1.length) ≤ (fin b).2.1.length - L; omega), hs2⟩)) hS (fun H1 locs1 hH1 hS1 => ?_)
  have kk2 := h3 () rfl H1 locs1 ls hH1 hS1 hl
  rw [k_map9, show (fin1 b1).2.1.length - L = M.1.length - L + ((fin1 b1).2.1.length - M.1.length) by omega, ksl_add hp1 hL] at kk2
  exact kk2
theorem d_callI (q : Nat) {y : MethodName} {bc : ByteArray} {nLc nA depc index : Nat} {a : Nat} {As rest : List Value} (hM : kMetD l g y bc nLc none depc (.ref a :: As) M fin1 o1) (hk : kLk y bc nLc none nA) (wl : Cond.methodLink own index y ∈ WT) (hy1 : y.name = "<init>") (hdep : depc + 1 ≤ dep) (hlen : As.length = nA) (hrest : (rest.map (fun v => v.category)).sum ≤ 8) (d : decode cc pc = .ok (.invokespecial index, 3)) (e9 : pc + 3 = q) (kk : ∀ b1, o1 = some b1 → GD (l, cc, nL, own, g, dep, L, ret, nm) fin (f b1) q lv ((fin1 b1).1.toList ++ rest) (fin1 b1).2) : GD (l, cc, nL, own, g, dep, L, ret, nm) fin (kg (!(a == 0)) (o1.bind f)) pc lv (As.reverse ++ .ref a :: rest) M := by
  subst e9
  refine ⟨fun b h => ?_, fun p e s m args below meth c hX hr hn hz hL b h => ?_⟩
  · obtain ⟨b1, h1, h2⟩ := Option.bind_eq_some_iff.mp (kg_some h).2
    exact (hM.1 b1 h1).trans ((kk b1 h1).1 b h2)
  obtain ⟨hb, h⟩ := kg_some h
  obtain ⟨b1, h1, h2⟩ := Option.bind_eq_some_iff.mp h
  have hp1 := hM.1 b1 h1
  have hp2 := (kk b1 h1).1 b h2
  have hl1 := hp1.length_le
  have hl2 := hp2.length_le
  have hMb := hM.2 b1 h1
  have h3 := (kk b1 h1).2 p e s m args below meth c hX hr hn hz (by omega) b h2
  have hX := hX (fin b).2
  intro b9 h9 H locs ls hH hS hl
  refine k_size (fun hle => ?_)
  have hzz := k_exact hX hH hS hz (by omega) hle
  have hts := hX.2.2.2.2.1
  have hR1 := hX.2.2.2.2.2.2.2.2.2.1
  have hR2 := hX.2.2.2.2.2.2.2.2.2.2
  have hs2 := ksl_le hp2 (L := L) (by omega)
  rw [ksl_add hp1 hL] at hs2
  simp only [Bool.not_eq_true', beq_eq_false_iff_ne] at hb
  simp only [List.map_append, List.map_reverse, List.map_cons, kT] at hMb ⊢
  rw [kr_pos _ hb] at hMb ⊢
  have cw : CallB (DR dep L (fin b).2) s args own index y bc nLc none (.code y bc nLc none :: WT) (DR depc M.1.length (fin1 b1).2) ((fin1 b1).2.1.length - M.1.length) (ksl M.1.length (fin1 b1).2) nA ∧ y.name = "<init>" ∧ (Cond.instanceMethod y).before args s = true := ⟨k_callB hX hk.1 hk.2.2.1 hk.2.2.2.1 hk.2.2.2.2 hdep wl, hy1, hts _ hk.2.1⟩
  refine k_after (r := fin1 b1) (k_runA (va_runI (Ts := WT) (own := own) (nL := nL) (As := As.map (kT g.2.2.1)) (b := g.2.2.1 + a) ⟨hX.1, hX.2.1, hX.2.2.1, hX.2.2.2.1, hts⟩ hMb cw ⟨kPA_blind _ g M, fun U hU hW => ⟨rfl, kP_at hX hH hS U hU hW, by rw [hU]; exact hzz⟩⟩ rfl (by rw [List.length_map]; exact hlen) hl.1 rfl (lv_room (kcat_le hrest)) d ⟨(by show (M.1.length - L) + ((fin1 b1).2.1.length - M.1.length) ≤ (fin b).2.1.length - L; omega), hs2⟩)) hS (fun H1 locs1 hH1 hS1 => ?_)
  have kk2 := h3 () rfl H1 locs1 ls hH1 hS1 hl
  rw [k_map9, show (fin1 b1).2.1.length - L = M.1.length - L + ((fin1 b1).2.1.length - M.1.length) by omega, ksl_add hp1 hL] at kk2
  exact kk2
theorem d_callP (q : Nat) {y : MethodName} {bc : ByteArray} {nLc nA depc index : Nat} {ret1 : Option FieldType} {a ci : Nat} {C : String} {T : u_T} {N : Nat} {As rest : List Value} (hM : kMetD l g y bc nLc ret1 depc (.ref a :: As) M fin1 o1) (hk : kLk y bc nLc ret1 nA) (hc : vwCl[kci ci]? = some (C, T, N)) (h13 : kox ci < 13) (wl : Cond.methodLink own index y ∈ WT) (wsm : Cond.sameMethod y.cls y.cls y.name y.desc ∈ WT) (wsc : Cond.superclass own y.cls ∈ WT) (hy1 : y.name ≠ "<init>") (hdep : depc + 1 ≤ dep) (hlen : As.length = nA) (hrest : (rest.map (fun v => v.category)).sum ≤ 8) (d : decode cc pc = .ok (.invokespecial index, 3)) (e9 : pc + 3 = q) (kk : ∀ b1, o1 = some b1 → GD (l, cc, nL, own, g, dep, L, ret, nm) fin (f b1) q lv ((fin1 b1).1.toList ++ rest) (fin1 b1).2) : GD (l, cc, nL, own, g, dep, L, ret, nm) fin (kg (kt M a ci) (o1.bind f)) pc lv (As.reverse ++ .ref a :: rest) M := by
  subst e9
  refine ⟨fun b h => ?_, fun p e s m args below meth c hX hr hn hz hL b h => ?_⟩
  · obtain ⟨b1, h1, h2⟩ := Option.bind_eq_some_iff.mp (kg_some h).2
    exact (hM.1 b1 h1).trans ((kk b1 h1).1 b h2)
  obtain ⟨hb, h⟩ := kg_some h
  obtain ⟨b1, h1, h2⟩ := Option.bind_eq_some_iff.mp h
  have hp1 := hM.1 b1 h1
  have hp2 := (kk b1 h1).1 b h2
  have hl1 := hp1.length_le
  have hl2 := hp2.length_le
  have hMb := hM.2 b1 h1
  have h3 := (kk b1 h1).2 p e s m args below meth c hX hr hn hz (by omega) b h2
  have hX := hX (fin b).2
  intro b9 h9 H locs ls hH hS hl
  refine k_size (fun hle => ?_)
  have hzz := k_exact hX hH hS hz (by omega) hle
  have hts := hX.2.2.2.2.1
  have hR1 := hX.2.2.2.2.2.2.2.2.2.1
  have hR2 := hX.2.2.2.2.2.2.2.2.2.2
  have hs2 := ksl_le hp2 (L := L) (by omega)
  rw [ksl_add hp1 hL] at hs2
  obtain ⟨j0, n0, rfl, hj, -⟩ := kt_spec hb
  simp only [List.map_append, List.map_reverse, List.map_cons, kT] at hMb ⊢
  rw [kr_succ] at hMb ⊢
  have hwS : GoodIn WT (va_wsSU own index y (.code y bc nLc ret1 :: WT)) := by
    refine kgood (fun w hw => ?_)
    unfold va_wsSU at hw
    rcases List.mem_append.mp hw with hw | hw
    · simp only [List.mem_cons, List.not_mem_nil, or_false] at hw
      rcases hw with rfl | rfl | rfl | rfl | rfl
      · exact wl
      · exact wsm
      · exact wsc
      · exact hk.2.1
      · exact hk.2.2.1
    · exact (List.mem_cons.mp hw).elim (fun e => by rw [e]; exact hk.1) id
  have cw : va_CS (DR dep L (fin b).2) s args own index y bc nLc ret1 (.code y bc nLc ret1 :: WT) (DR depc M.1.length (fin1 b1).2) ((fin1 b1).2.1.length - M.1.length) (ksl M.1.length (fin1 b1).2) nA := va_cwSU nA hts hwS rfl rfl rfl ⟨hy1, hk.2.2.2.1.2.2⟩ ⟨by show depc + 1 ≤ dep; exact hdep, by show 8 + (nLc + 11) + 60 * depc ≤ 60 * dep; have := hk.2.2.2.2; omega⟩
  refine k_after (r := fin1 b1) (k_runA (va_runSU (Ts := WT) (own := own) (nL := nL) (As := As.map (kT g.2.2.1)) (b := g.2.2.1 + 1 + j0) (k_clsAt hX hc) ⟨hX.1, hX.2.1, hX.2.2.1, hX.2.2.2.1, hts⟩ hMb cw ⟨kPA_blind _ g M, (k_cell hX hH hc h13 hj), fun U hU hW => ⟨rfl, kP_at hX hH hS U hU hW, by rw [hU]; exact hzz⟩⟩ rfl (by rw [List.length_map]; exact hlen) hl.1 rfl (lv_room (kcat_le hrest)) d ⟨(by show (M.1.length - L) + ((fin1 b1).2.1.length - M.1.length) ≤ (fin b).2.1.length - L; omega), hs2⟩)) hS (fun H1 locs1 hH1 hS1 => ?_)
  have kk2 := h3 () rfl H1 locs1 ls hH1 hS1 hl
  rw [k_map9, show (fin1 b1).2.1.length - L = M.1.length - L + ((fin1 b1).2.1.length - M.1.length) by omega, ksl_add hp1 hL] at kk2
  exact kk2
theorem d_callU (q : Nat) {x9 y : MethodName} {bc : ByteArray} {nLc nA depc index : Nat} {ret1 : Option FieldType} {a ci : Nat} {C : String} {T : u_T} {N : Nat} {As rest : List Value} (hM : kMetD l g y bc nLc ret1 depc (.ref a :: As) M fin1 o1) (hk : kLk y bc nLc ret1 nA) (hc : vwCl[kci ci]? = some (C, T, N)) (h13 : kox ci < 13) (wl : Cond.methodLink own index x9 ∈ WT) (wsel : Cond.selects C x9 y ∈ WT) (owner : String) (wsm : Cond.sameMethod x9.cls owner x9.name x9.desc ∈ WT) (hdc : ∀ (s : State) (args : Array Value), (∀ w ∈ WT, w.before args s = true) → va_Decl s ⟨owner, x9.name, x9.desc⟩) (hod : owner ≠ "java/lang/invoke/MethodHandle" ∧ owner ≠ "java/lang/invoke/VarHandle" ∧ (parseMethodDescriptor x9.desc).map (fun d => d.parameters.length) = some nA) (hdep : depc + 1 ≤ dep) (hlen : As.length = nA) (hrest : (rest.map (fun v => v.category)).sum ≤ 8) (d : decode cc pc = .ok (.invokevirtual index, 3)) (e9 : pc + 3 = q) (kk : ∀ b1, o1 = some b1 → GD (l, cc, nL, own, g, dep, L, ret, nm) fin (f b1) q lv ((fin1 b1).1.toList ++ rest) (fin1 b1).2) : GD (l, cc, nL, own, g, dep, L, ret, nm) fin (kg (kt M a ci) (o1.bind f)) pc lv (As.reverse ++ .ref a :: rest) M := by
  subst e9
  refine ⟨fun b h => ?_, fun p e s m args below meth c hX hr hn hz hL b h => ?_⟩
  · obtain ⟨b1, h1, h2⟩ := Option.bind_eq_some_iff.mp (kg_some h).2
    exact (hM.1 b1 h1).trans ((kk b1 h1).1 b h2)
  obtain ⟨hb, h⟩ := kg_some h
  obtain ⟨b1, h1, h2⟩ := Option.bind_eq_some_iff.mp h
  have hp1 := hM.1 b1 h1
  have hp2 := (kk b1 h1).1 b h2
  have hl1 := hp1.length_le
  have hl2 := hp2.length_le
  have hMb := hM.2 b1 h1
  have h3 := (kk b1 h1).2 p e s m args below meth c hX hr hn hz (by omega) b h2
  have hX := hX (fin b).2
  intro b9 h9 H locs ls hH hS hl
  refine k_size (fun hle => ?_)
  have hzz := k_exact hX hH hS hz (by omega) hle
  have hts := hX.2.2.2.2.1
  have hR1 := hX.2.2.2.2.2.2.2.2.2.1
  have hR2 := hX.2.2.2.2.2.2.2.2.2.2
  have hs2 := ksl_le hp2 (L := L) (by omega)
  rw [ksl_add hp1 hL] at hs2
  obtain ⟨j0, n0, rfl, hj, -⟩ := kt_spec hb
  simp only [List.map_append, List.map_reverse, List.map_cons, kT] at hMb ⊢
  rw [kr_succ] at hMb ⊢
  have hwU : GoodIn WT (va_wsU own index C owner x9 y (.code y bc nLc ret1 :: WT)) := by
    refine kgood (fun w hw => ?_)
    unfold va_wsU at hw
    rcases List.mem_append.mp hw with hw | hw
    · simp only [List.mem_cons, List.not_mem_nil, or_false] at hw
      rcases hw with rfl | rfl | rfl | rfl | rfl
      · exact wl
      · exact wsm
      · exact wsel
      · exact hk.2.1
      · exact hk.2.2.1
    · exact (List.mem_cons.mp hw).elim (fun e => by rw [e]; exact hk.1) id
  have cw : va_CU (DR dep L (fin b).2) s args own C owner index x9 y bc nLc ret1 (.code y bc nLc ret1 :: WT) (DR depc M.1.length (fin1 b1).2) ((fin1 b1).2.1.length - M.1.length) (ksl M.1.length (fin1 b1).2) nA := va_cwX nA hts hwU rfl rfl rfl (hdc s args hts) hod ⟨by show depc + 1 ≤ dep; exact hdep, by show 8 + (nLc + 11) + 60 * depc ≤ 60 * dep; have := hk.2.2.2.2; omega⟩
  refine k_after (r := fin1 b1) (k_runA (va_runU (Ts := WT) (own := own) (nL := nL) (As := As.map (kT g.2.2.1)) (b := g.2.2.1 + 1 + j0) ⟨hX.1, hX.2.1, hX.2.2.1, hX.2.2.2.1, hts⟩ hMb cw ⟨kPA_blind _ g M, (k_cell hX hH hc h13 hj), fun U hU hW => ⟨rfl, kP_at hX hH hS U hU hW, by rw [hU]; exact hzz⟩⟩ rfl (by rw [List.length_map]; exact hlen) hl.1 rfl (lv_room (kcat_le hrest)) d ⟨(by show (M.1.length - L) + ((fin1 b1).2.1.length - M.1.length) ≤ (fin b).2.1.length - L; omega), hs2⟩)) hS (fun H1 locs1 hH1 hS1 => ?_)
  have kk2 := h3 () rfl H1 locs1 ls hH1 hS1 hl
  rw [k_map9, show (fin1 b1).2.1.length - L = M.1.length - L + ((fin1 b1).2.1.length - M.1.length) by omega, ksl_add hp1 hL] at kk2
  exact kk2
theorem d_bind {q : Nat} {st : List Value} {lv2 : List (Nat × Value)} {st2 : β2 → List Value} {M2 : β2 → kMem} (row : ∀ {p : Program} {e : Env} {s : State} {m : MethodId} {args : Array Value} {below : List Frame} {meth : Method} {c : Code}, (∀ M9 : kMem, Cok (p, l, e, DR dep L M9, s, m, args, below, meth, c, cc, nL, own, g, dep)) → ∀ (b : β) (r0 : β2), o1 = some r0 → M.1.length - L ≤ (DR dep L (fin b).2).cells → ksl L M ≤ (DR dep L (fin b).2).slots → (∀ r, o1 = some r → GG (p, l, e, DR dep L (fin b).2, s, m, args, below, meth, c, cc, nL, own, g, dep) (fun _ : Unit => MQ below (kQA g (fin b)) args s ((fin b).2.1.length - L) (ksl L (fin b).2) (kZ g.2.2.1)) (M.1.length - L) (ksl L M) (some ()) q lv2 (st2 r) (M2 r)) → GG (p, l, e, DR dep L (fin b).2, s, m, args, below, meth, c, cc, nL, own, g, dep) (fun _ : Unit => MQ below (kQA g (fin b)) args s ((fin b).2.1.length - L) (ksl L (fin b).2) (kZ g.2.2.1)) (M.1.length - L) (ksl L M) (o1.bind fun _ => some ()) pc lv st M) (hM : ∀ r, o1 = some r → (M2 r).1 = M.1) (kk : ∀ r, o1 = some r → GD (l, cc, nL, own, g, dep, L, ret, nm) fin (f r) q lv2 (st2 r) (M2 r)) : GD (l, cc, nL, own, g, dep, L, ret, nm) fin (o1.bind f) pc lv st M := by
  refine ⟨fun b h => ?_, fun p e s m args below meth c hX hr hn hz hL b h => ?_⟩
  · obtain ⟨r, h1, h2⟩ := Option.bind_eq_some_iff.mp h
    have h3 := (kk r h1).1 b h2
    rw [hM r h1] at h3
    exact h3
  obtain ⟨r, h1, h2⟩ := Option.bind_eq_some_iff.mp h
  have hp := (kk r h1).1 b h2
  rw [hM r h1] at hp
  have hp1 := hp.length_le
  have h4 := row hX b r h1 (by show _ ≤ _ - L; omega) (ksl_le hp hL) (fun r' h' => ?_)
  · rw [h1] at h4
    exact h4
  · cases h1.symm.trans h'
    have h3 := (kk r h1).2 p e s m args below meth c hX hr hn hz (by rw [hM r h1]; exact hL) b h2
    rw [hM r h1, ksl_cg (hM r h1)] at h3
    exact h3
end kGDc
theorem qd_oi : Cond.instanceMethod objectInit ∈ WT := kw 95 (by decide +kernel) rfl
theorem qd_oc : Cond.code objectInit ⟨#[0xb1]⟩ 1 none ∈ WT := kw 96 (by decide +kernel) rfl
theorem qd_c1 : Cond.sameMethod "[B" "java/lang/Object" "clone" "()Ljava/lang/Object;" ∈ WT := kw 801 (by decide +kernel) rfl
theorem qd_c2 : Cond.native ⟨"java/lang/Object", "clone", "()Ljava/lang/Object;"⟩ ∈ WT := kw 802 (by decide +kernel) rfl
theorem qd_c3 : Cond.instanceMethod ⟨"java/lang/Object", "clone", "()Ljava/lang/Object;"⟩ ∈ WT := kw 803 (by decide +kernel) rfl
theorem qd_c4 : Cond.selects "[B" ⟨"[B", "clone", "()Ljava/lang/Object;"⟩ ⟨"java/lang/Object", "clone", "()Ljava/lang/Object;"⟩ ∈ WT := kw 804 (by decide +kernel) rfl
section kGDe
variable {β β2 : Type} {l : Launch} {cc : ByteArray} {nL : Nat} {own : String} {g : kG} {dep L : Nat} {ret : Option FieldType} {nm : String} {fin : β → Option Value × kMem} {o : Option β} {pc : Nat} {lv : List (Nat × Value)} {st : List Value} {M : kMem} {fin1 : β2 → Option Value × kMem} {o1 : Option β2} {f : β2 → Option β}
theorem d_objInit (q : Nat) {a idx : Nat} (wl : Cond.methodLink own idx objectInit ∈ WT) (hst : (st.map (fun v => v.category)).sum ≤ 8) (hdp : 1 ≤ dep) (d : decode cc pc = .ok (.invokespecial idx, 3)) (e9 : pc + 3 = q) (kk : GD (l, cc, nL, own, g, dep, L, ret, nm) fin o q lv st M) : GD (l, cc, nL, own, g, dep, L, ret, nm) fin (kg (!(a == 0)) o) pc lv (.ref a :: st) M := by
  refine ⟨fun b h => kk.1 b (kg_some h).2, fun p e s m args below meth c hX hr hn hz hL b h => ?_⟩
  obtain ⟨hb, h9⟩ := kg_some h
  simp only [Bool.not_eq_true', beq_eq_false_iff_ne] at hb
  exact g_objInit q (hX (fin b).2) hb wl qd_oi qd_oc hst hdp d e9 (kk.2 p e s m args below meth c hX hr hn hz hL b h9)
theorem d_clone (q : Nat) {a i : Nat} (wl : Cond.methodLink own i ⟨"[B", "clone", "()Ljava/lang/Object;"⟩ ∈ WT) (d : decode cc pc = .ok (.invokevirtual i, 3)) (e9 : pc + 3 = q) (hst : (st.map (fun v => v.category)).sum ≤ 8) (hdp : 1 ≤ dep) (kk : GD (l, cc, nL, own, g, dep, L, ret, nm) fin o q lv (.ref (M.1.length + 1) :: st) (kClB M a)) : GD (l, cc, nL, own, g, dep, L, ret, nm) fin (kg (kt M a 20 && kFitA M a) o) pc lv (.ref a :: st) M := by
  subst e9
  have hpp : M.1 <+: (kClB M a).1 := List.prefix_append _ _
  refine ⟨fun b h => hpp.trans (kk.1 b (kg_some h).2), fun p e s m args below meth c hX hr hn hz hL b h => ?_⟩
  obtain ⟨hb, h⟩ := kg_some h
  simp only [Bool.and_eq_true] at hb
  obtain ⟨hb, hfa⟩ := hb
  have hp := kk.1 b h
  have hp1 := hp.length_le
  have hl1 : (kClB M a).1.length = M.1.length + 1 := by unfold kClB; simp
  have hs1 := ksl_le hp (L := L) (by omega)
  have hs0 : ksl L (kClB M a) = ksl L M + kn M a := by
    unfold ksl kClB
    simp only
    rw [List.drop_append_of_le_length hL]
    simp
  rw [hs0] at hs1
  have h1 := kk.2 p e s m args below meth c hX hr hn hz (by omega) b h
  have hX := hX (fin b).2
  intro b9 h9 H locs ls hH hS hl
  refine k_size (fun hle => ?_)
  have hzz := k_exact hX hH hS hz (by omega) hle
  have hts := hX.2.2.2.2.1
  have hR1 := hX.2.2.2.2.2.2.2.2.2.1
  have hR2 := hX.2.2.2.2.2.2.2.2.2.2
  have hr3 := kcat_le (B := g.2.2.1) hst
  obtain ⟨j0, n0, rfl, hj, hn0⟩ := kt_spec hb
  have hK := hX.2.2.2.2.2.2.2.2.1.1
  simp only [List.map_cons, kT]
  rw [kr_succ]
  refine va_clone hX.1 hX.2.1 (by rw [hX.2.2.1]; exact hl.1.symm) hX.2.2.2.1 (hts _ wl) (hts _ qd_c1) (hts _ qd_c2) (hts _ qd_c3) (hts _ qd_c4) (hX.2.2.2.2.2.2.2.2.1.2.2.2.2.1 ("[B", "java/lang/Cloneable") (by decide)) hK hH (kWs_D _ _ _) hS (kZ_in hX) j0 2 (kEnt_byt hj) rfl (va_nm_byte (hK.2 2 _ rfl).2) (fun i v hv => ?_) (by show 1 ≤ dep; exact hdp) (by show _ + 14 ≤ 60 * dep; omega) (by show M.1.length - L + 1 ≤ (fin b).2.1.length - L; omega) (by show ksl L M + n0 ≤ ksl L (fin b).2; rw [← hn0]; exact hs1) d (fun q1 H1 hK1 hP1 hD1 hS1 => ?_)
  · rw [vp_cell_i] at hv
    refine va_fit (fun i hi => ?_) i v hv
    unfold kFitA at hfa
    exact List.all_eq_true.mp hfa i (List.mem_range.mpr (by rw [hn0]; exact hi))
  · refine k_size (fun hle1 => ?_)
    have hlw : (kWs g.1 g.2.2.1 M).length = M.1.length := by unfold kWs; rw [List.length_mapIdx]
    have hq0 : (kWs g.1 g.2.2.1 M ++ [(q1, (.inl (g.1 20, n0, .inl (fun j => kI M (j0 + 1) j)) : va_E))])[M.1.length]? = some (q1, .inl (g.1 20, n0, .inl (fun j => kI M (j0 + 1) j))) := by
      rw [List.getElem?_append_right (by omega), hlw, Nat.sub_self]
      rfl
    have hq1 := (hP1 _ _ hq0).lt
    have hq2 : g.2.2.1 + 1 ≤ q1 := hD1.2 _ _ hq0
    have hq3 : q1 = g.2.2.1 + 1 + M.1.length := by
      by_cases hlt : q1 < g.2.2.1 + 1 + M.1.length
      · exfalso
        obtain ⟨x, hx⟩ : ∃ x, M.1[q1 - (g.2.2.1 + 1)]? = some x := ⟨_, List.getElem?_eq_getElem (by omega)⟩
        have hq4 : (kWs g.1 g.2.2.1 M ++ [(q1, (.inl (g.1 20, n0, .inl (fun j => kI M (j0 + 1) j)) : va_E))])[q1 - (g.2.2.1 + 1)]? = some (kEnt g.1 g.2.2.1 M (q1 - (g.2.2.1 + 1)) x) := by
          rw [List.getElem?_append_left (by omega)]
          exact kWs_get hx
        have := hD1.1 _ _ _ _ hq4 hq0 (by rw [kEnt_fst]; show g.2.2.1 + 1 + (q1 - (g.2.2.1 + 1)) = q1; omega)
        omega
      · omega
    subst hq3
    have hkk := h1 () rfl H1 locs ls (show va_P _ _ _ _ from ?_) hS1 hl
    · simp only [List.map_cons, kT] at hkk
      rw [kr_succ, hl1, hs0, hn0, show M.1.length + 1 - L = M.1.length - L + 1 by omega] at hkk
      exact hkk
    · have hpush := kWs_push (aD := g.1) (B := g.2.2.1) (M := M) (M' := kClB M (j0 + 1)) (x := (20, kn M (j0 + 1))) rfl (fun j y hjl => kEnt_congr (M := M) (M' := kClB M (j0 + 1)) y (fun i => if_neg (by omega)) (fun i => if_neg (by omega)) (fun i => if_neg (by omega)))
      rw [hpush]
      have e9 : kEnt g.1 g.2.2.1 (kClB M (j0 + 1)) M.1.length (20, kn M (j0 + 1)) = (g.2.2.1 + 1 + M.1.length, .inl (g.1 20, n0, .inl (fun j => kI M (j0 + 1) j))) := by
        rw [hn0]
        have e8 : (fun j => kI (kClB M (j0 + 1)) (M.1.length + 1) j) = fun j => kI M (j0 + 1) j := by
          funext j
          exact if_pos rfl
        rw [← e8]
        rfl
      rw [e9]
      exact hP1
theorem d_callX (q : Nat) {y : MethodName} {bc : ByteArray} {nLc nA depc index a ci : Nat} {ret1 : Option FieldType} {C : String} {T : u_T} {N : Nat} {As rest : List Value} (hM : kMet l g y bc nLc ret1 depc 0 0 (.ref a :: As) M fin1 o1) (hk : kLk y bc nLc ret1 nA) (hyy : y.cls = C) (hc : vwCl[kci ci]? = some (C, T, N)) (h13 : kox ci < 13) (wl : Cond.methodLink own index y ∈ WT) (ws : Cond.selects C y y ∈ WT) (hdep : depc + 1 ≤ dep) (hlen : As.length = nA) (hrest : (rest.map (fun v => v.category)).sum ≤ 8) (d : decode cc pc = .ok (.invokevirtual index, 3)) (e9 : pc + 3 = q) (kk : ∀ r, o1 = some r → (fin1 r).2.1 = M.1 → GD (l, cc, nL, own, g, dep, L, ret, nm) fin (f r) q lv ((fin1 r).1.toList ++ rest) (fin1 r).2) : GD (l, cc, nL, own, g, dep, L, ret, nm) fin (kg (kt M a ci) ((kSm fin1 M o1).bind f)) pc lv (As.reverse ++ .ref a :: rest) M := by
  subst e9
  refine ⟨fun b h => ?_, fun p e s m args below meth c hX hr hn hz hL b h => ?_⟩
  · obtain ⟨r, h1, h2⟩ := Option.bind_eq_some_iff.mp (kg_some h).2
    obtain ⟨h3, h4⟩ := kSm_some h1
    have h5 := (kk r h3 h4).1 b h2
    rw [h4] at h5
    exact h5
  obtain ⟨hb, h⟩ := kg_some h
  obtain ⟨r, h1, h2⟩ := Option.bind_eq_some_iff.mp h
  obtain ⟨h3, h4⟩ := kSm_some h1
  have hp := (kk r h3 h4).1 b h2
  rw [h4] at hp
  have hp1 := hp.length_le
  have h6 := (kk r h3 h4).2 p e s m args below meth c hX hr hn hz (by rw [h4]; exact hL) b h2
  rw [h4, ksl_cg h4] at h6
  have h7 := g_callV (pc + 3) (β := Unit) (f := fun _ => some ()) (Q := fun _ : Unit => MQ below (kQA g (fin b)) args s ((fin b).2.1.length - L) (ksl L (fin b).2) (kZ g.2.2.1)) (k := M.1.length - L) (n := ksl L M) (lv := lv) (hX (fin b).2) hM hk hyy hc h13 wl ws hdep hlen hrest (by show _ ≤ _ - L; omega) (ksl_le hp hL) d rfl (fun r9 h9 => by cases h3.symm.trans h9; exact h6)
  rw [hb, h3] at h7
  exact h7
theorem d_callJ (q : Nat) {y : MethodName} {bc : ByteArray} {nLc nA depc index i : Nat} {ret1 : Option FieldType} {As rest : List Value} {o1 : Option Int32} {f : Int32 → Option β} (hM : kMet l g y bc nLc ret1 depc 0 0 (.retAddr (g.2.2.2.1 i) :: As) M (fun r : Int32 => (some (.int r), M)) o1) (hi : ∀ b, o1 = some b → i < kSn) (hk : kLk y bc nLc ret1 nA) (wl : Cond.methodLink own index y ∈ WT) (ws : Cond.selects "java/lang/String" y y ∈ WT) (hdep : depc + 1 ≤ dep) (hlen : As.length = nA) (hrest : (rest.map (fun v => v.category)).sum ≤ 8) (d : decode cc pc = .ok (.invokevirtual index, 3)) (e9 : pc + 3 = q) (kk : ∀ r, o1 = some r → GD (l, cc, nL, own, g, dep, L, ret, nm) fin (f r) q lv (.int r :: rest) M) : GD (l, cc, nL, own, g, dep, L, ret, nm) fin (o1.bind f) pc lv (As.reverse ++ .retAddr (g.2.2.2.1 i) :: rest) M := by
  subst e9
  refine d_bind (st2 := fun r => .int r :: rest) (M2 := fun _ => M) (fun hX b r0 h0 hRc hRs k1 => ?_) (fun _ _ => rfl) kk
  exact g_callJ (pc + 3) (f := fun _ => some ()) (hX _) hM hi hk wl ws hdep hlen hrest hRc hRs d rfl (fun r9 h9 => k1 r9 h9)
theorem d_callSX (q : Nat) {y : MethodName} {bc : ByteArray} {nLc nA depc index : Nat} {ret1 : Option FieldType} {As rest : List Value} (hM : kMet l g y bc nLc ret1 depc 0 0 As M fin1 o1) (hMM : ∀ r, (fin1 r).2 = M) (hk : kLs y bc nLc ret1 nA) (wl : Cond.methodLink own index y ∈ WT) (hdep : depc + 1 ≤ dep) (hlen : As.length = nA) (hrest : (rest.map (fun v => v.category)).sum ≤ 8) (d : decode cc pc = .ok (.invokestatic index, 3)) (e9 : pc + 3 = q) (kk : ∀ r, o1 = some r → GD (l, cc, nL, own, g, dep, L, ret, nm) fin (f r) q lv ((fin1 r).1.toList ++ rest) M) : GD (l, cc, nL, own, g, dep, L, ret, nm) fin (o1.bind f) pc lv (As.reverse ++ rest) M := by
  subst e9
  refine d_bind (st2 := fun r => (fin1 r).1.toList ++ rest) (M2 := fun _ => M) (fun hX b r0 h0 hRc hRs k1 => ?_) (fun _ _ => rfl) kk
  exact g_callS (pc + 3) (f := fun _ => some ()) (hX _) hM hk wl hdep hlen hrest hRc hRs d rfl (fun r9 h9 => by rw [hMM]; exact k1 r9 h9)
end kGDe
theorem k_ofD {β : Type} {l : Launch} {g : kG} {y : MethodName} {bc : ByteArray} {nL : Nat} {ret : Option FieldType} {dep : Nat} {av : List Value} {M : kMem} {fin : β → Option Value × kMem} {o : Option β} {lv : List (Nat × Value)} (own : String) (hy : plainName y.cls = true) (hown : y.cls = own) (h1 : lv_args 0 av = lv) (h2 : (lg_sl av).length ≤ nL)
    (body : GD (l, bc, nL, own, g, dep, M.1.length, ret, y.name) fin o 0 lv [] M) : kMetD l g y bc nL ret dep av M fin o := by
  refine ⟨body.1, fun b hb => ?_⟩
  refine Met.ofW (cc := bc) (maxL := nL) (ret := ret) hy rfl ?_
  intro p e s m args below meth c s₁ B hml hv
  obtain ⟨rfl, ⟨hH, hO, hT⟩, hsz⟩ := hv
  have hts := atoms_spec (ws := .code y bc nL ret :: WT) B.pre
  have hX : ∀ M9 : kMem, Cok (p, l, e, DR dep M.1.length M9, s, m, (av.map (kT g.2.2.1)).toArray, below, meth, c, bc, nL, own, g, dep) := by
    intro M9
    refine ⟨B.exec, B.bytes, hml, ?_, fun w hw => hts w (List.mem_cons_of_mem _ hw), B.notSynchronized, ?_, hO, hT, Nat.le_refl _, Nat.le_refl _⟩
    · rw [← hown]; exact findClass_of_methodNamed B.named
    · exact hH.2
  have hl := lv_entry (av.map (kT g.2.2.1)) (n := nL) (by rw [kT_len]; exact h2)
  rw [kT_args, h1] at hl
  rw [lg_entry_eq]
  have h9 := body.2 p e s m _ below meth c hX B.returns (name_of_methodNamed B.named B.method).1 hsz (Nat.le_refl _) b hb () rfl s.heap [] _ hH.1 va_S.rf hl
  rw [Nat.sub_self, show ksl M.1.length M = 0 by unfold ksl; rw [List.drop_length]; rfl] at h9
  exact h9
