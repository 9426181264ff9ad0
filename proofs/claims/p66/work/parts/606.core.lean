def kKinds : Nat → List Nat := fun c => match c with
  | 0 => [0, 0, 0, 0, 1]
  | 1 => [0, 3, 3, 0, 0, 0, 0]
  | 2 => [1, 1, 1, 0]
  | 3 => [1, 0, 0]
  | 4 => [0, 0, 0, 0, 0, 0, 0, 0, 0, 0, 0, 0, 0, 1, 1, 1]
  | 6 => [1, 0, 1, 0, 1, 0]
  | 8 => [1, 0]
  | 9 => [1, 1, 1, 1, 0, 0, 0, 0]
  | 10 => [0, 3, 0, 0, 0, 0, 0, 0]
  | 11 => [1, 1, 1, 1, 1, 1, 1, 1, 1]
  | 30 => [1, 1, 0, 0, 0, 0, 0, 0, 0, 0, 0, 0]
  | 31 => [0, 0, 0, 0, 1]
  | 32 => [0, 0, 0, 0, 0, 0, 1]
  | 33 => [0, 5, 0]
  | 34 => [1, 1, 1, 1, 0, 0, 1, 1, 1]
  | 35 => [4, 1, 1, 1, 1, 0]
  | 36 => [1]
  | 37 => [1, 1, 0, 1]
  | 38 => [4, 1]
  | 39 => [1, 0, 0, 0]
  | 40 => [1, 0, 0, 0]
  | _ => []
def kStrs : List (String × Nat × String) := [(RX11, 60, "market 3 4 2 40 5 200; board 3 10 60; board 2 5 30;"), (RX11, 66, "trader ann 10 30 0; trader bob 6 25 12; trader cat 8 12 38; trader dan 15 40 5;"), (RX11, 68, "seat ann 0 left 2; seat bob 0 right 3; seat cat 1 right 1;"), (RX7, 48, "market"), (RX7, 20, "board"), (RX7, 35, "trader"), (RX7, 40, "seat"), (RX9, 114, "left"), (RX9, 116, "right"), (RL, 199, "market "), (RL, 216, "board "), (RL, 228, "trader "), (RL, 236, "seat "), (RL, 239, " left "), (RL, 241, " right "), (RX11, 402, "a number is out of its range"), (RX11, 83, "the text buffer would be too long"), (RX11, 396, "no such trader"), (RX11, 388, "no such board"), (RX11, 394, "no such seat"), (RX11, 412, "there is a reason against it"), (RX11, 405, "both are the same trader"), (RX11, 345, "the last day would be passed")]
def kNests : List (String × Nat × MethodName × String) := [(RX11, 9, yX8_init, "SeesawMarket"), (RX6, 24, yX1_init, "SeesawMarket"), (RX4, 25, yX2_init, "SeesawMarket"), (RX9, 58, yX11_isLetter, "SeesawMarket"), (RX9, 62, yX11_isDigit, "SeesawMarket"), (RX8, 40, yX11_isLetter, "SeesawMarket")]
/-! The words, in one list; the memory; what a heap holds of it; contracts; the judgement GG and its rows. -/
def xPriv : List MethodName := [yAS_ensureCapacityInternal_d00df, yAS_newCapacity_0f7a4, yAS_putStringAt_47b60, yAS_inflateIfNeededFor_a7421]
def xSel : List Cond := xPriv.map (fun y => Cond.selects RSB y y)
def WT : List Cond := (lw_tbl ++ xSel).filter goodWord
theorem kw {w : Cond} (i : Nat) (h : lw_tbl[i]? = some w) (g : goodWord w = true) : w ∈ WT := List.mem_filter.mpr ⟨List.mem_append_left _ (List.mem_of_getElem? h), g⟩
theorem kwx {w : Cond} (i : Nat) (h : xSel[i]? = some w) (g : goodWord w = true) : w ∈ WT := List.mem_filter.mpr ⟨List.mem_append_right _ (List.mem_of_getElem? h), g⟩
theorem kgood {ws : List Cond} (h : ∀ w ∈ ws, w ∈ WT) : GoodIn WT ws := fun w hw => ⟨h w hw, good_of_word (List.mem_filter.mp (h w hw)).2⟩
/-- a reference, as an address and as a value -/
def kv (B r : Nat) : Option Nat := if r = 0 then none else some (B + r)
def kr (B r : Nat) : Value := va_rf (kv B r)
theorem kr_zero (B : Nat) : kr B 0 = .null := rfl
theorem kr_pos (B : Nat) {r : Nat} (h : r ≠ 0) : kr B r = .ref (B + r) := by unfold kr kv; rw [if_neg h]; rfl
theorem kr_cat (B r : Nat) : (kr B r).category = 1 := by
  by_cases h : r = 0
  · subst h; rfl
  · rw [kr_pos B h]; rfl
/-- an abstract value as the machine has it: .ref r is the r-th cell behind B (0: null), .retAddr a an address outside -/
def kT (B : Nat) : Value → Value
  | .ref r => kr B r
  | .retAddr a => .ref a
  | v => v
def kTq (B : Nat) (q : Nat × Value) : Nat × Value := (q.1, kT B q.2)
theorem kT_cat (B : Nat) (v : Value) : (kT B v).category = v.category := by
  cases v with
  | ref r => exact kr_cat B r
  | _ => rfl
/-- which cells are a run's own -/
def kZ (B : Nat) : Nat → Prop := fun q => B + 1 ≤ q
/-- objects' tags (below 13, or beyond 21); arrays of ints, booleans, bytes; arrays of references -/
def kox (t : Nat) : Nat := if 21 < t then 0 else t
def kax (t : Nat) : Nat := if t = 20 then 13 else t
def kay (t : Nat) : Nat := if t = 20 ∨ 21 < t then 0 else t
theorem kay_spec {t : Nat} (h : 15 < kay t) : ¬ kox t < 13 ∧ ¬ kax t < 15 ∧ ¬ kax t = 15 ∧ 15 < t ∧ t ≤ 21 := by
  unfold kay at h
  by_cases h1 : t = 20 ∨ 21 < t
  · rw [if_pos h1] at h; omega
  · rw [if_neg h1] at h
    unfold kox kax
    rw [if_neg (by omega), if_neg (by omega)]
    omega
/-- a field's value, by its kind: 0 a number, 1 a reference, 2 a long, 4 a small Integer or null, 5 a list's row of elements, 3 a long kept as two ints -/
def kV (aD : Nat → ClassId) (B : Nat) (M : kMem) (a j : Nat) : Nat → Value := fun x => match x with
  | 0 => .int (kI M a j)
  | 1 => kr B (kR M a j)
  | 2 => .long (kL M a j)
  | 4 => if kR M a j = 0 then .null else .ref (aD (2000 + kBi (kI M a j)))
  | 5 => if kR M a j = 0 then (if kI M a j = 0 then .null else .ref (aD 1999)) else .ref (B + kR M a j)
  | _ => .long (kJ M a j)
def kFs (aD : Nat → ClassId) (B : Nat) (M : kMem) (a : Nat) : List Nat → Nat → List Value
  | [], _ => []
  | k :: ks, j => kV aD B M a j k :: kFs aD B M a ks (j + 1)
/-- a cell's class, among the classes that the tables tell of -/
def kci : Nat → Nat := fun t => match t with
  | 0 => 5
  | 1 => 6
  | 2 => 7
  | 3 => 8
  | 4 => 9
  | 6 => 10
  | 8 => 11
  | 9 => 12
  | 10 => 13
  | 11 => 14
  | 30 => 17
  | 31 => 15
  | 32 => 16
  | 33 => 4
  | 34 => 22
  | 35 => 19
  | 36 => 21
  | 37 => 20
  | 38 => 18
  | 39 => 1
  | 40 => 0
  | _ => 0
def kEnt (aD : Nat → ClassId) (B : Nat) (M : kMem) (k : Nat) (x : Nat × Nat) : Nat × va_E := (B + 1 + k,
  if kox x.1 < 13 then .inr (kci x.1, kFs aD B M (k + 1) (kKinds x.1) 0) else if kax x.1 < 15 then .inl (aD x.1, x.2, .inl (fun j => kI M (k + 1) j)) else if kax x.1 = 15 then .inl (aD x.1, x.2, .inr (.inl (fun j => kL M (k + 1) j))) else .inl (aD x.1, x.2, .inr (.inr (.inr (.inr (fun j => kv B (kR M (k + 1) j)))))))
def kWs (aD : Nat → ClassId) (B : Nat) (M : kMem) : va_W := M.1.mapIdx (kEnt aD B M)
def kTys (aD : Nat → ClassId) : List (ClassId × FieldType) := [(aD 13, .int), (aD 14, .boolean), (aD 20, .byte), (aD 16, .object RX0), (aD 17, .object RX10), (aD 18, .object RX4), (aD 19, .object RX1), (aD 21, .object "java/lang/Object")]
/-- the heap holds the memory -/
def kHd (aD : Nat → ClassId) (D : va_G) (B : Nat) (M : kMem) (H : Heap) : Prop := va_P D vwCl (kWs aD B M) H
/-- what stands outside, and is never written: strings, statics; and what the tables say of arrays -/
def kStr (B : Nat) (aS aV : Nat → Nat) (U : State) (H : Heap) : Prop := ∀ i : Nat, i < kSn → va_O "java/lang/String" (aS i) (kZ B) U H ∧ va_OF "java/lang/String" "coder" "B" (.int 0) (aS i) (kZ B) U H ∧ va_OF "java/lang/String" "value" "[B" (.ref (aV i)) (aS i) (kZ B) U H ∧ va_T .byte (aV i) (kSlen.getD i 0) (fun j => .int ((kSbyt.getD i []).getD j 0)) (kZ B) U H
/-- the JDK's own: the empty row of lists, the cache of small Integers, the digits -/
def kJdk (B : Nat) (aD : Nat → Nat) (U : State) (H : Heap) : Prop :=
  (va_Z "java/util/ArrayList" "DEFAULTCAPACITY_EMPTY_ELEMENTDATA" "[Ljava/lang/Object;" (.ref (aD 1999)) (kZ B) U H ∧ va_T (.object "java/lang/Object") (aD 1999) 0 (fun _ => .null) (kZ B) U H) ∧
  (va_Z "java/lang/Integer$IntegerCache" "high" "I" (.int 127) (kZ B) U H ∧ va_Z "java/lang/Integer$IntegerCache" "cache" "[Ljava/lang/Integer;" (.ref (aD 1998)) (kZ B) U H ∧ va_T (.object "java/lang/Integer") (aD 1998) 256 (fun k => .ref (aD (2000 + k))) (kZ B) U H ∧ vb_C (fun k => aD (2000 + k)) (kZ B) U H) ∧
  (va_Z "java/lang/Integer" "DigitOnes" "[B" (.ref (aD 1997)) (kZ B) U H ∧ va_T .byte (aD 1997) 100 (fun k => .int (nI (48 + k % 10))) (kZ B) U H) ∧
  (va_Z "java/lang/Integer" "DigitTens" "[B" (.ref (aD 1996)) (kZ B) U H ∧ va_T .byte (aD 1996) 100 (fun k => .int (nI (48 + k / 10))) (kZ B) U H)
def kOut (aD : Nat → ClassId) (B : Nat) (aS aV : Nat → Nat) (U : State) (H : Heap) : Prop :=
  kStr B aS aV U H ∧ va_Z "java/lang/String" "COMPACT_STRINGS" "Z" (.int 1) (kZ B) U H ∧ va_Zq "jdk/internal/util/Preconditions" "SIOOBE_FORMATTER" "Ljava/util/function/BiFunction;" (kZ B) U H ∧ kJdk B aD U H
/-- pairs of classes of which the tables say that a cast goes -/
def kCasts : List (String × String) := [("[B", "java/lang/Cloneable"), ("java/util/ArrayList", "java/util/List"), ("java/lang/Integer", "java/lang/Comparable"), ("java/util/ArrayList", "java/util/Collection"), ("java/util/TreeMap$Values", "java/util/Collection"), ("java/util/TreeMap$ValueIterator", "java/util/Iterator"), ("java/util/AbstractMap$SimpleImmutableEntry", "java/util/Map$Entry"), ("java/util/TreeMap$Entry", "java/util/Map$Entry"), ("java/lang/Integer", "java/lang/Object"), ("java/util/ArrayList", "java/lang/Object"), ("SeesawMarketLaw$Board", "java/lang/Object"), ("SeesawMarketLaw$Trader", "java/lang/Object"), ("java/util/TreeMap$Entry", "java/lang/Object"), ("java/util/TreeMap$Values", "java/lang/Object"), ("java/util/TreeMap$ValueIterator", "java/lang/Object"), ("java/util/AbstractMap$SimpleImmutableEntry", "java/lang/Object"), ("[B", "java/lang/Object")]
def kFNest : List (String × Nat × String × String × String × String) := [(RAI, 28, "java/util/ArrayList", "size", "I", "java/util/ArrayList"), (RPI, 13, "java/util/TreeMap", "modCount", "I", "java/util/TreeMap"), (RL, 238, "SeesawMarketLaw$Board", "number", "I", "SeesawMarketLaw"), (RL, 221, "SeesawMarketLaw$Board", "arm", "I", "SeesawMarketLaw"), (RL, 224, "SeesawMarketLaw$Board", "stiffness", "I", "SeesawMarketLaw"), (RL, 119, "SeesawMarketLaw$Board", "limit", "I", "SeesawMarketLaw"), (RLT, 30, "SeesawMarketLaw$Board", "seats", "Ljava/util/TreeMap;", "SeesawMarketLaw"), (RL, 122, "SeesawMarketLaw$Board", "seats", "Ljava/util/TreeMap;", "SeesawMarketLaw"), (RL, 230, "SeesawMarketLaw$Trader", "number", "I", "SeesawMarketLaw"), (RLB, 54, "SeesawMarketLaw$Trader", "weight", "I", "SeesawMarketLaw"), (RL, 158, "SeesawMarketLaw$Trader", "weight", "I", "SeesawMarketLaw"), (RL, 77, "SeesawMarketLaw$Trader", "purse", "I", "SeesawMarketLaw"), (RL, 103, "SeesawMarketLaw$Trader", "age", "I", "SeesawMarketLaw"), (RLB, 51, "SeesawMarketLaw$Trader", "position", "I", "SeesawMarketLaw"), (RL, 68, "SeesawMarketLaw$Trader", "position", "I", "SeesawMarketLaw"), (RL, 99, "SeesawMarketLaw$Trader", "isPresent", "Z", "SeesawMarketLaw"), (RL, 62, "SeesawMarketLaw$Trader", "board", "LSeesawMarketLaw$Board;", "SeesawMarketLaw")]
def kFws : List (String × MethodName × MethodName) := [("java/util/ArrayList", ⟨"java/util/List", "size", "()I"⟩, yAL_size_8abf5), ("java/util/ArrayList", ⟨"java/util/List", "add", "(Ljava/lang/Object;)Z"⟩, yAL_add_9ea2d), ("java/util/ArrayList", ⟨"java/util/List", "get", "(I)Ljava/lang/Object;"⟩, yAL_get_915e3), ("java/lang/Integer", ⟨"java/lang/Comparable", "compareTo", "(Ljava/lang/Object;)I"⟩, yIN_compareTo_e47da), ("java/util/ArrayList", ⟨"java/util/Collection", "iterator", "()Ljava/util/Iterator;"⟩, yAL_iterator_32c93), ("java/util/TreeMap$Values", ⟨"java/util/Collection", "iterator", "()Ljava/util/Iterator;"⟩, yTV_iterator), ("java/util/TreeMap$ValueIterator", ⟨"java/util/Iterator", "hasNext", "()Z"⟩, yPI_hasNext), ("java/util/TreeMap$ValueIterator", ⟨"java/util/Iterator", "next", "()Ljava/lang/Object;"⟩, yTI_next), ("java/util/AbstractMap$SimpleImmutableEntry", ⟨"java/util/Map$Entry", "getKey", "()Ljava/lang/Object;"⟩, ySE_getKey), ("java/util/TreeMap$Entry", ⟨"java/util/Map$Entry", "getKey", "()Ljava/lang/Object;"⟩, yTE_getKey), ("java/util/AbstractMap$SimpleImmutableEntry", ⟨"java/util/Map$Entry", "getValue", "()Ljava/lang/Object;"⟩, ySE_getValue), ("java/util/TreeMap$Entry", ⟨"java/util/Map$Entry", "getValue", "()Ljava/lang/Object;"⟩, yTE_getValue)]
def kExc (U : State) : Prop := (∀ q ∈ kCasts, va_Nw (.castable q.1 q.2) U) ∧ (∀ q ∈ kFNest, va_Nw (.fieldLinkNest q.1 q.2.1 q.2.2.1 q.2.2.2.1 q.2.2.2.2.1 q.2.2.2.2.2) U) ∧ (∀ q ∈ kFws, va_Fw q.1 q.2.1 q.2.2 U)
theorem kFws_ok : ∀ q ∈ kFws, q.2.1.cls ≠ "java/lang/invoke/MethodHandle" ∧ q.2.1.cls ≠ "java/lang/invoke/VarHandle" := by decide +kernel
theorem kExc.warm {s U : State} (hW : s.WarmedH U.vm) (h : kExc s) : kExc U := ⟨fun q hq => va_Nw.warmC hW (h.1 q hq), fun q hq => va_Nw.warmF hW (h.2.1 q hq), fun q hq => va_Fw.moved (kFws_ok q hq) hW.alike (h.2.2 q hq)⟩
theorem kExc.same {s U : State} (hv : s.vm = U.vm) (h : kExc s) : kExc U := ⟨fun q hq => va_Nw.same rfl hv (h.1 q hq), fun q hq => va_Nw.same rfl hv (h.2.1 q hq), fun q hq => va_Fw.moved (kFws_ok q hq) (by rw [← hv]; exact Vm.Alike.refl _) (h.2.2 q hq)⟩
def kTab (aD : Nat → ClassId) (D : va_G) (aS : Nat → Nat) (U : State) : Prop :=
  va_K D vwCl (kTys aD) U ∧ (va_AO RX0 U ∧ va_AO RX10 U ∧ va_AO RX4 U ∧ va_AO RX1 U ∧ va_AO "java/lang/Object" U) ∧ (∀ (i : Nat) (q : String × Nat × String), kStrs[i]? = some q → vk_R q.1 q.2.1 q.2.2 (aS i) U) ∧ (∀ q ∈ kNests, va_Nw (.methodLinkNest q.1 q.2.1 q.2.2.1 q.2.2.2) U) ∧ kExc U
/-- a method's start -/
abbrev kG : Type := (Nat → ClassId) × va_G × Nat × (Nat → Nat) × (Nat → Nat)
def kP (g : kG) (M : kMem) (U : State) : Prop := (kHd g.1 g.2.1 g.2.2.1 M U.heap ∧ g.2.2.1 + 1 ≤ U.heap.size) ∧ kOut g.1 g.2.2.1 g.2.2.2.1 g.2.2.2.2 U U.heap ∧ kTab g.1 g.2.1 g.2.2.2.1 U
def kQ (g : kG) (r : Option Value × kMem) : Array Value → State → Outcome → State → Prop := fun _ st o t => o = .returned (r.1.map (kT g.2.2.1)) ∧ kHd g.1 g.2.1 g.2.2.1 r.2 t.heap ∧ va_F (kZ g.2.2.1) st t
/-- a method's contract: with result o, it ends as 'fin' says -/
def kMet {β : Type} (l : Launch) (g : kG) (y : MethodName) (bc : ByteArray) (nL : Nat) (ret : Option FieldType) (dep mc ms : Nat) (av : List Value) (M : kMem) (fin : β → Option Value × kMem) (o : Option β) : Prop :=
  ∀ b : β, o = some b → Met l y (.code y bc nL ret :: WT) { frames := dep, cells := mc, slots := ms, locals := 60 * dep } (va_Pc (av.map (kT g.2.2.1)) (kP g M)) (kQ g (fin b)) mc ms (kZ g.2.2.1)
/-- where a walk stands -/
abbrev kX : Type := Program × Launch × Env × Room × State × MethodId × Array Value × List Frame × Method × Code × ByteArray × Nat × String × kG × Nat
def Cok (X : kX) : Prop := match X with
  | (p, l, e, R, s, m, args, below, meth, c, cc, nL, own, g, dep) => p.tables.exec = Jvm.exec ∧ c.code = cc ∧ c.maxLocals = nL ∧ s.vm.findClass own = some m.cls ∧ (∀ w ∈ WT, w.before args s = true) ∧ meth.locks = false ∧ g.2.2.1 + 1 ≤ s.heap.size ∧ kOut g.1 g.2.2.1 g.2.2.2.1 g.2.2.2.2 s s.heap ∧ kTab g.1 g.2.1 g.2.2.2.1 s ∧ dep ≤ R.frames ∧ 60 * dep ≤ R.locals
def GG {β : Type} (X : kX) (Q : β → State → Prop) (k n : Nat) (o : Option β) (pc : Nat) (lv : List (Nat × Value)) (st : List Value) (M : kMem) : Prop := match X with
  | (p, l, e, R, s, m, args, below, meth, c, cc, nL, own, g, dep) => ∀ b : β, o = some b → ∀ (H : Heap) (locs : List Loc) (ls : Array Slot), kHd g.1 g.2.1 g.2.2.1 M H → va_S (kZ g.2.2.1) s.heap H locs → lv_has ls nL (lv.map (kTq g.2.2.1)) → W p l e R s m args below meth c H locs k n (Q b) (F0 m pc ls (st.map (kT g.2.2.1)))
theorem kEnt_fst (aD : Nat → ClassId) (B : Nat) (M : kMem) (k : Nat) (x : Nat × Nat) : (kEnt aD B M k x).1 = B + 1 + k := rfl
theorem kWs_get {aD : Nat → ClassId} {B : Nat} {M : kMem} {k : Nat} {x : Nat × Nat} (h : M.1[k]? = some x) : (kWs aD B M)[k]? = some (kEnt aD B M k x) := by
  unfold kWs
  rw [List.getElem?_mapIdx, h]
  rfl
theorem kWs_inv {aD : Nat → ClassId} {B : Nat} {M : kMem} {k : Nat} {q : Nat × va_E} (h : (kWs aD B M)[k]? = some q) : ∃ x, M.1[k]? = some x ∧ q = kEnt aD B M k x := by
  unfold kWs at h
  rw [List.getElem?_mapIdx] at h
  cases hx : M.1[k]? with
  | none => rw [hx] at h; cases h
  | some x => rw [hx] at h; exact ⟨x, rfl, (Option.some.inj h).symm⟩
theorem kWs_D (aD : Nat → ClassId) (B : Nat) (M : kMem) : va_D (kZ B) (kWs aD B M) := by
  refine ⟨fun i j p q hp hq hpq => ?_, fun k q hq => ?_⟩
  · obtain ⟨x, -, rfl⟩ := kWs_inv hp
    obtain ⟨y, -, rfl⟩ := kWs_inv hq
    rw [kEnt_fst, kEnt_fst] at hpq
    omega
  · obtain ⟨x, -, rfl⟩ := kWs_inv hq
    rw [kEnt_fst]
    show B + 1 ≤ B + 1 + k
    omega
theorem kt_spec {M : kMem} {a t : Nat} (h : kt M a t = true) : ∃ (k n : Nat), a = k + 1 ∧ M.1[k]? = some (t, n) ∧ kn M a = n := by
  cases a with
  | zero => simp [kt, kcell] at h
  | succ k =>
    cases hx : M.1[k]? with
    | none => simp [kt, kcell, hx] at h
    | some x =>
      obtain ⟨t', n⟩ := x
      simp [kt, kcell, hx] at h
      subst h
      exact ⟨k, n, rfl, hx, by simp [kn, kcell, hx]⟩
theorem kin_spec {M : kMem} {a t : Nat} {i : Int32} (h : kin M a t i = true) : ∃ (k n : Nat), a = k + 1 ∧ M.1[k]? = some (t, n) ∧ kn M a = n ∧ vp_in i n ∧ i.toNatClampNeg < n := by
  unfold kin at h
  simp only [Bool.and_eq_true, decide_eq_true_eq] at h
  obtain ⟨h1, h2, h3⟩ := h
  obtain ⟨k, n, e1, e2, e3⟩ := kt_spec h1
  rw [e3] at h3
  refine ⟨k, n, e1, e2, e3, ?_, h3⟩
  rintro (h4 | h4)
  · exact absurd h2 (Int32.not_le.mpr h4)
  · omega
theorem kFs_len {aD : Nat → ClassId} (B : Nat) (M : kMem) (a : Nat) : ∀ (ks : List Nat) (j : Nat), (kFs aD B M a ks j).length = ks.length
  | [], _ => rfl
  | _ :: ks, j => by simp [kFs, kFs_len B M a ks (j + 1)]
theorem kFs_get {aD : Nat → ClassId} (B : Nat) (M : kMem) (a : Nat) : ∀ (ks : List Nat) (j k : Nat) (x : Nat), ks[k]? = some x → (kFs aD B M a ks j)[k]? = some (kV aD B M a (j + k) x)
  | [], _, k, x, h => by simp at h
  | y :: ks, j, 0, x, h => by
    simp at h
    subst h
    simp [kFs]
  | y :: ks, j, k + 1, x, h => by
    simp only [List.getElem?_cons_succ] at h
    simp only [kFs, List.getElem?_cons_succ]
    rw [kFs_get B M a ks (j + 1) k x h, show j + 1 + k = j + (k + 1) by omega]
theorem kV_cg {aD : Nat → ClassId} {B : Nat} {M M' : kMem} {a j : Nat} (x : Nat) (h1 : kI M' a j = kI M a j) (h2 : kR M' a j = kR M a j) (h3 : kL M' a j = kL M a j) (h4 : kJ M' a j = kJ M a j) : kV aD B M' a j x = kV aD B M a j x := by
  unfold kV
  split
  · rw [h1]
  · rw [h2]
  · rw [h3]
  · rw [h1, h2]
  · rw [h1, h2]
  · rw [h4]
theorem kFs_cg {aD : Nat → ClassId} {B : Nat} {M M' : kMem} {a : Nat} : ∀ (ks : List Nat) (j : Nat), (∀ i x, j ≤ i → i < j + ks.length → kV aD B M' a i x = kV aD B M a i x) → kFs aD B M' a ks j = kFs aD B M a ks j
  | [], _, _ => rfl
  | x :: ks, j, h => by
    simp only [kFs]
    rw [h j x (Nat.le_refl _) (by simp), kFs_cg ks (j + 1) (fun i x h1 h2 => h i x (by omega) (by simp only [List.length_cons]; omega))]
theorem kFs_set {aD : Nat → ClassId} {B : Nat} {M M' : kMem} {a : Nat} {v : Value} : ∀ (ks : List Nat) (j k : Nat) (y : Nat), ks[k]? = some y → kV aD B M' a (j + k) y = v → (∀ i x, j ≤ i → i < j + ks.length → i ≠ j + k → kV aD B M' a i x = kV aD B M a i x) → kFs aD B M' a ks j = (kFs aD B M a ks j).set k v
  | [], _, k, y, h, _, _ => by simp at h
  | x :: ks, j, 0, y, h, hv, ho => by
    simp at h
    subst h
    simp only [kFs, List.set_cons_zero]
    rw [show kV aD B M' a j x = v from hv, kFs_cg ks (j + 1) (fun i x h1 h2 => ho i x (by omega) (by simp only [List.length_cons]; omega) (by omega))]
  | x :: ks, j, k + 1, y, h, hv, ho => by
    simp only [List.getElem?_cons_succ] at h
    simp only [kFs, List.set_cons_succ]
    rw [ho j x (Nat.le_refl _) (by simp) (by omega), kFs_set (v := v) ks (j + 1) k y h (by rw [show j + 1 + k = j + (k + 1) by omega]; exact hv) (fun i x h1 h2 h3 => ho i x (by omega) (by simp only [List.length_cons]; omega) (by omega))]
theorem kFs_congr {aD : Nat → ClassId} (B : Nat) {M M' : kMem} {a : Nat} (ks : List Nat) (j : Nat) (h1 : ∀ i, kI M' a i = kI M a i) (h2 : ∀ i, kR M' a i = kR M a i) (h3 : ∀ i, kL M' a i = kL M a i) : kFs aD B M' a ks j = kFs aD B M a ks j := by
  refine kFs_cg ks j (fun i x _ _ => kV_cg x (h1 i) (h2 i) (h3 i) ?_)
  have e1 := h1 (1000 + 2 * i)
  have e2 := h1 (1001 + 2 * i)
  unfold kI at e1 e2
  unfold kJ
  rw [e1, e2]
/-- an object's int is no piece of a long -/
theorem kJ_setI (M : kMem) {a f : Nat} (v : Int32) (a' j : Nat) (hf : f < 1000) : kJ (ksI M a f v) a' j = kJ M a' j := by
  unfold kJ
  rw [show (ksI M a f v).2.1 a' (1000 + 2 * j) = M.2.1 a' (1000 + 2 * j) from if_neg (fun z => by omega), show (ksI M a f v).2.1 a' (1001 + 2 * j) = M.2.1 a' (1001 + 2 * j) from if_neg (fun z => by omega)]
theorem kJ_setJ (M : kMem) (a j : Nat) (v : Int64) : kJ (ksJ M a j v) a j = v := by
  unfold kJ
  rw [show (ksJ M a j v).2.1 a (1001 + 2 * j) = kjL v from if_pos ⟨rfl, rfl⟩]
  rw [show (ksJ M a j v).2.1 a (1000 + 2 * j) = kjH v from (if_neg (fun z => by omega)).trans (if_pos ⟨rfl, rfl⟩)]
  exact kj_of v
theorem kI_setJ (M : kMem) (a j : Nat) (v : Int64) (a' i : Nat) (h : a' ≠ a ∨ i < 1000) : kI (ksJ M a j v) a' i = kI M a' i :=
  (if_neg (fun z => by rcases h with h | h <;> omega)).trans (if_neg (fun z => by rcases h with h | h <;> omega))
theorem kJ_setJne (M : kMem) (a j : Nat) (v : Int64) (a' i : Nat) (h : a' ≠ a ∨ i ≠ j) : kJ (ksJ M a j v) a' i = kJ M a' i := by
  unfold kJ
  rw [show (ksJ M a j v).2.1 a' (1001 + 2 * i) = M.2.1 a' (1001 + 2 * i) from (if_neg (fun z => by rcases h with h | h <;> omega)).trans (if_neg (fun z => by rcases h with h | h <;> omega))]
  rw [show (ksJ M a j v).2.1 a' (1000 + 2 * i) = M.2.1 a' (1000 + 2 * i) from (if_neg (fun z => by rcases h with h | h <;> omega)).trans (if_neg (fun z => by rcases h with h | h <;> omega))]
theorem kKinds_len (t : Nat) : (kKinds t).length < 1000 := by
  unfold kKinds
  split <;> decide
theorem kKinds_lt {t f x : Nat} (h : (kKinds t)[f]? = some x) : f < 1000 := by
  have h1 := (List.getElem?_eq_some_iff.mp h).1
  have h2 := kKinds_len t
  omega
theorem kFs_setI {aD : Nat → ClassId} (B : Nat) (M : kMem) (a f : Nat) (v : Int32) (hf : f < 1000) (ks : List Nat) (j k : Nat) (h : ks[k]? = some 0) (e : f = j + k) : kFs aD B (ksI M a f v) a ks j = (kFs aD B M a ks j).set k (.int v) := by
  refine kFs_set ks j k 0 h ?_ (fun i x _ _ hi => kV_cg x (if_neg (by omega)) rfl rfl (kJ_setI M v a i hf))
  show Value.int (kI (ksI M a f v) a (j + k)) = .int v
  rw [show kI (ksI M a f v) a (j + k) = v from if_pos ⟨rfl, e.symm⟩]
theorem kFs_setR {aD : Nat → ClassId} (B : Nat) (M : kMem) (a f : Nat) (v : Nat) (ks : List Nat) (j k : Nat) (h : ks[k]? = some 1) (e : f = j + k) : kFs aD B (ksR M a f v) a ks j = (kFs aD B M a ks j).set k (kr B v) := by
  refine kFs_set ks j k 1 h ?_ (fun i x _ _ hi => kV_cg x rfl (if_neg (by omega)) rfl rfl)
  show kr B (kR (ksR M a f v) a (j + k)) = kr B v
  rw [show kR (ksR M a f v) a (j + k) = v from if_pos ⟨rfl, e.symm⟩]
theorem kFs_setL {aD : Nat → ClassId} (B : Nat) (M : kMem) (a f : Nat) (v : Int64) (ks : List Nat) (j k : Nat) (h : ks[k]? = some 2) (e : f = j + k) : kFs aD B (ksL M a f v) a ks j = (kFs aD B M a ks j).set k (.long v) := by
  refine kFs_set ks j k 2 h ?_ (fun i x _ _ hi => kV_cg x rfl rfl (if_neg (by omega)) rfl)
  show Value.long (kL (ksL M a f v) a (j + k)) = .long v
  rw [show kL (ksL M a f v) a (j + k) = v from if_pos ⟨rfl, e.symm⟩]
theorem kFs_setJ {aD : Nat → ClassId} (B : Nat) (M : kMem) (a f : Nat) (v : Int64) (ks : List Nat) (j k : Nat) (h : ks[k]? = some 3) (e : f = j + k) (hn : j + ks.length < 1000) : kFs aD B (ksJ M a f v) a ks j = (kFs aD B M a ks j).set k (.long v) := by
  have hk := (List.getElem?_eq_some_iff.mp h).1
  refine kFs_set ks j k 3 h ?_ (fun i x _ _ hi => kV_cg x (kI_setJ M a f v a i (Or.inr (by omega))) rfl rfl (kJ_setJne M a f v a i (Or.inr (by omega))))
  show Value.long (kJ (ksJ M a f v) a (j + k)) = .long v
  rw [← e, kJ_setJ]
theorem kFs_setK {aD : Nat → ClassId} (B : Nat) (M : kMem) (a f : Nat) (v : Int32) (hf : f < 1000) (ks : List Nat) (j k : Nat) (h : ks[k]? = some 4) (e : f = j + k) : kFs aD B (ksK M a f v) a ks j = (kFs aD B M a ks j).set k (.ref (aD (2000 + kBi v))) := by
  refine kFs_set ks j k 4 h ?_ (fun i x _ _ hi => kV_cg x (if_neg (by omega)) (if_neg (by omega)) rfl (kJ_setI M v a i hf))
  show (if kR (ksK M a f v) a (j + k) = 0 then Value.null else .ref (aD (2000 + kBi (kI (ksK M a f v) a (j + k))))) = _
  rw [show kR (ksK M a f v) a (j + k) = 1 from if_pos ⟨rfl, e.symm⟩, if_neg (by decide), show kI (ksK M a f v) a (j + k) = v from if_pos ⟨rfl, e.symm⟩]
theorem kFs_setE {aD : Nat → ClassId} (B : Nat) (M : kMem) (a f : Nat) (v : Nat) (ks : List Nat) (j k : Nat) (h : ks[k]? = some 5) (e : f = j + k) : kFs aD B (ksR M a f (v + 1)) a ks j = (kFs aD B M a ks j).set k (.ref (B + 1 + v)) := by
  refine kFs_set ks j k 5 h ?_ (fun i x _ _ hi => kV_cg x rfl (if_neg (by omega)) rfl rfl)
  show (if kR (ksR M a f (v + 1)) a (j + k) = 0 then (if kI (ksR M a f (v + 1)) a (j + k) = 0 then Value.null else .ref (aD 1999)) else .ref (B + kR (ksR M a f (v + 1)) a (j + k))) = _
  rw [show kR (ksR M a f (v + 1)) a (j + k) = v + 1 from if_pos ⟨rfl, e.symm⟩, if_neg (by omega), show B + (v + 1) = B + 1 + v by omega]
theorem kFs_setE0 {aD : Nat → ClassId} (B : Nat) (M : kMem) (a f : Nat) (hf : f < 1000) (ks : List Nat) (j k : Nat) (h : ks[k]? = some 5) (e : f = j + k) : kFs aD B (ksE M a f) a ks j = (kFs aD B M a ks j).set k (.ref (aD 1999)) := by
  refine kFs_set ks j k 5 h ?_ (fun i x _ _ hi => kV_cg x (if_neg (by omega)) (if_neg (by omega)) rfl (kJ_setI (ksR M a f 0) 1 a i hf))
  show (if kR (ksE M a f) a (j + k) = 0 then (if kI (ksE M a f) a (j + k) = 0 then Value.null else .ref (aD 1999)) else .ref (B + kR (ksE M a f) a (j + k))) = _
  rw [show kR (ksE M a f) a (j + k) = 0 from if_pos ⟨rfl, e.symm⟩, if_pos rfl, show kI (ksE M a f) a (j + k) = 1 from if_pos ⟨rfl, e.symm⟩, if_neg (by decide)]
/-- a list that changes at one place alone -/
theorem kWs_set {aD : Nat → ClassId} {B : Nat} {M M' : kMem} {k : Nat} {e : va_E} (h1 : M'.1 = M.1) (hk : k < M.1.length) (he : ∀ x, M.1[k]? = some x → kEnt aD B M' k x = (B + 1 + k, e)) (ho : ∀ j x, j ≠ k → kEnt aD B M' j x = kEnt aD B M j x) : kWs aD B M' = (kWs aD B M).set k (B + 1 + k, e) := by
  apply List.ext_getElem?
  intro j
  by_cases hj : j = k
  · subst hj
    rw [List.getElem?_set_self (by unfold kWs; rw [List.length_mapIdx]; exact hk)]
    obtain ⟨x, hx⟩ : ∃ x, M.1[j]? = some x := ⟨_, List.getElem?_eq_getElem hk⟩
    rw [kWs_get (x := x) (by rw [h1]; exact hx), he x hx]
  · rw [List.getElem?_set_ne (Ne.symm hj)]
    unfold kWs
    rw [List.getElem?_mapIdx, List.getElem?_mapIdx, h1]
    cases hx : M.1[j]? with
    | none => rfl
    | some x => simp [ho j x hj]
theorem kEnt_congr {aD : Nat → ClassId} {B : Nat} {M M' : kMem} {j : Nat} (x : Nat × Nat) (h1 : ∀ i, kI M' (j + 1) i = kI M (j + 1) i) (h2 : ∀ i, kR M' (j + 1) i = kR M (j + 1) i) (h3 : ∀ i, kL M' (j + 1) i = kL M (j + 1) i) : kEnt aD B M' j x = kEnt aD B M j x := by
  unfold kEnt
  rw [kFs_congr (aD := aD) B (kKinds x.1) 0 h1 h2 h3, funext h1, funext h3]
  simp only [h2]
theorem kI_set (M : kMem) (a j : Nat) (v : Int32) (a' j' : Nat) : kI (ksI M a j v) a' j' = if a' = a ∧ j' = j then v else kI M a' j' := rfl
theorem kR_setI (M : kMem) (a j : Nat) (v : Int32) (a' j' : Nat) : kR (ksI M a j v) a' j' = kR M a' j' := rfl
theorem kL_setI (M : kMem) (a j : Nat) (v : Int32) (a' j' : Nat) : kL (ksI M a j v) a' j' = kL M a' j' := rfl
theorem kI_setR (M : kMem) (a j : Nat) (v : Nat) (a' j' : Nat) : kI (ksR M a j v) a' j' = kI M a' j' := rfl
theorem kR_set (M : kMem) (a j : Nat) (v : Nat) (a' j' : Nat) : kR (ksR M a j v) a' j' = if a' = a ∧ j' = j then v else kR M a' j' := rfl
theorem kL_setR (M : kMem) (a j : Nat) (v : Nat) (a' j' : Nat) : kL (ksR M a j v) a' j' = kL M a' j' := rfl
theorem kI_setL (M : kMem) (a j : Nat) (v : Int64) (a' j' : Nat) : kI (ksL M a j v) a' j' = kI M a' j' := rfl
theorem kR_setL (M : kMem) (a j : Nat) (v : Int64) (a' j' : Nat) : kR (ksL M a j v) a' j' = kR M a' j' := rfl
theorem kL_set (M : kMem) (a j : Nat) (v : Int64) (a' j' : Nat) : kL (ksL M a j v) a' j' = if a' = a ∧ j' = j then v else kL M a' j' := rfl
theorem kWs_setI {aD : Nat → ClassId} {B : Nat} {M : kMem} {k n t f : Nat} (v : Int32) (h : M.1[k]? = some (t, n)) (ht : kox t < 13) (hf : (kKinds t)[f]? = some 0) : kWs aD B (ksI M (k + 1) f v) = (kWs aD B M).set k (B + 1 + k, .inr (kci t, (kFs aD B M (k + 1) (kKinds t) 0).set f (.int v))) := by
  refine kWs_set rfl (List.getElem?_eq_some_iff.mp h).1 (fun x hx => ?_) (fun j x hj => kEnt_congr x (fun i => if_neg (by omega)) (fun i => rfl) (fun i => rfl))
  cases h.symm.trans hx
  unfold kEnt
  rw [if_pos ht, kFs_setI B M (k + 1) f v (kKinds_lt hf) (kKinds t) 0 f hf (by omega)]
theorem kWs_setR {aD : Nat → ClassId} {B : Nat} {M : kMem} {k n t f : Nat} (v : Nat) (h : M.1[k]? = some (t, n)) (ht : kox t < 13) (hf : (kKinds t)[f]? = some 1) : kWs aD B (ksR M (k + 1) f v) = (kWs aD B M).set k (B + 1 + k, .inr (kci t, (kFs aD B M (k + 1) (kKinds t) 0).set f (kr B v))) := by
  refine kWs_set rfl (List.getElem?_eq_some_iff.mp h).1 (fun x hx => ?_) (fun j x hj => kEnt_congr x (fun i => rfl) (fun i => if_neg (by omega)) (fun i => rfl))
  cases h.symm.trans hx
  unfold kEnt
  rw [if_pos ht, kFs_setR B M (k + 1) f v (kKinds t) 0 f hf (by omega)]
theorem kWs_setL {aD : Nat → ClassId} {B : Nat} {M : kMem} {k n t f : Nat} (v : Int64) (h : M.1[k]? = some (t, n)) (ht : kox t < 13) (hf : (kKinds t)[f]? = some 2) : kWs aD B (ksL M (k + 1) f v) = (kWs aD B M).set k (B + 1 + k, .inr (kci t, (kFs aD B M (k + 1) (kKinds t) 0).set f (.long v))) := by
  refine kWs_set rfl (List.getElem?_eq_some_iff.mp h).1 (fun x hx => ?_) (fun j x hj => kEnt_congr x (fun i => rfl) (fun i => rfl) (fun i => if_neg (by omega)))
  cases h.symm.trans hx
  unfold kEnt
  rw [if_pos ht, kFs_setL B M (k + 1) f v (kKinds t) 0 f hf (by omega)]
theorem kWs_setJ {aD : Nat → ClassId} {B : Nat} {M : kMem} {k n t f : Nat} (v : Int64) (h : M.1[k]? = some (t, n)) (ht : kox t < 13) (hf : (kKinds t)[f]? = some 3) : kWs aD B (ksJ M (k + 1) f v) = (kWs aD B M).set k (B + 1 + k, .inr (kci t, (kFs aD B M (k + 1) (kKinds t) 0).set f (.long v))) := by
  refine kWs_set rfl (List.getElem?_eq_some_iff.mp h).1 (fun x hx => ?_) (fun j x hj => kEnt_congr x (fun i => kI_setJ M (k + 1) f v (j + 1) i (Or.inl (by omega))) (fun i => rfl) (fun i => rfl))
  cases h.symm.trans hx
  unfold kEnt
  have h9 := kKinds_len t
  rw [if_pos ht, kFs_setJ B M (k + 1) f v (kKinds t) 0 f hf (by omega) (by omega)]
theorem kWs_setK {aD : Nat → ClassId} {B : Nat} {M : kMem} {k n t f : Nat} (v : Int32) (h : M.1[k]? = some (t, n)) (ht : kox t < 13) (hf : (kKinds t)[f]? = some 4) : kWs aD B (ksK M (k + 1) f v) = (kWs aD B M).set k (B + 1 + k, .inr (kci t, (kFs aD B M (k + 1) (kKinds t) 0).set f (.ref (aD (2000 + kBi v))))) := by
  refine kWs_set rfl (List.getElem?_eq_some_iff.mp h).1 (fun x hx => ?_) (fun j x hj => kEnt_congr x (fun i => if_neg (by omega)) (fun i => if_neg (by omega)) (fun i => rfl))
  cases h.symm.trans hx
  unfold kEnt
  rw [if_pos ht, kFs_setK B M (k + 1) f v (kKinds_lt hf) (kKinds t) 0 f hf (by omega)]
theorem kWs_setE {aD : Nat → ClassId} {B : Nat} {M : kMem} {k n t f : Nat} (v : Nat) (h : M.1[k]? = some (t, n)) (ht : kox t < 13) (hf : (kKinds t)[f]? = some 5) : kWs aD B (ksR M (k + 1) f (v + 1)) = (kWs aD B M).set k (B + 1 + k, .inr (kci t, (kFs aD B M (k + 1) (kKinds t) 0).set f (.ref (B + 1 + v)))) := by
  refine kWs_set rfl (List.getElem?_eq_some_iff.mp h).1 (fun x hx => ?_) (fun j x hj => kEnt_congr x (fun i => rfl) (fun i => if_neg (by omega)) (fun i => rfl))
  cases h.symm.trans hx
  unfold kEnt
  rw [if_pos ht, kFs_setE B M (k + 1) f v (kKinds t) 0 f hf (by omega)]
theorem kWs_setE0 {aD : Nat → ClassId} {B : Nat} {M : kMem} {k n t f : Nat} (h : M.1[k]? = some (t, n)) (ht : kox t < 13) (hf : (kKinds t)[f]? = some 5) : kWs aD B (ksE M (k + 1) f) = (kWs aD B M).set k (B + 1 + k, .inr (kci t, (kFs aD B M (k + 1) (kKinds t) 0).set f (.ref (aD 1999)))) := by
  refine kWs_set rfl (List.getElem?_eq_some_iff.mp h).1 (fun x hx => ?_) (fun j x hj => kEnt_congr x (fun i => if_neg (by omega)) (fun i => if_neg (by omega)) (fun i => rfl))
  cases h.symm.trans hx
  unfold kEnt
  rw [if_pos ht, kFs_setE0 B M (k + 1) f (kKinds_lt hf) (kKinds t) 0 f hf (by omega)]
theorem kM_at {B j : Nat} {lv : List (Nat × Value)} {i : Nat} {v : Value} (h : lv[j]? = some (i, v)) : (lv.map (kTq B))[j]? = some (i, kT B v) := by
  rw [List.getElem?_map, h]
  rfl
theorem kM_f1 {B i : Nat} {lv lv2 : List (Nat × Value)} {v : Value} (h : (i, v) :: lv.filter (fun q => !(q.1 == i) && !(q.1 + 1 == i && q.2.category == 2)) = lv2) : (i, kT B v) :: (lv.map (kTq B)).filter (fun q => !(q.1 == i) && !(q.1 + 1 == i && q.2.category == 2)) = lv2.map (kTq B) := by
  rw [← h, List.map_cons, List.filter_map]
  have e9 : ((fun q : Nat × Value => !(q.1 == i) && !(q.1 + 1 == i && q.2.category == 2)) ∘ kTq B) = (fun q : Nat × Value => !(q.1 == i) && !(q.1 + 1 == i && q.2.category == 2)) := by
    funext q
    simp only [Function.comp, kTq, kT_cat]
  rw [e9]
  rfl
theorem kM_f2 {B i : Nat} {lv lv2 : List (Nat × Value)} {v : Value} (h : (i, v) :: lv.filter (fun q => !(q.1 == i) && (!(q.1 == i + 1) && !(q.1 + 1 == i && q.2.category == 2))) = lv2) : (i, kT B v) :: (lv.map (kTq B)).filter (fun q => !(q.1 == i) && (!(q.1 == i + 1) && !(q.1 + 1 == i && q.2.category == 2))) = lv2.map (kTq B) := by
  rw [← h, List.map_cons, List.filter_map]
  have e9 : ((fun q : Nat × Value => !(q.1 == i) && (!(q.1 == i + 1) && !(q.1 + 1 == i && q.2.category == 2))) ∘ kTq B) = (fun q : Nat × Value => !(q.1 == i) && (!(q.1 == i + 1) && !(q.1 + 1 == i && q.2.category == 2))) := by
    funext q
    simp only [Function.comp, kTq, kT_cat]
  rw [e9]
  rfl
section kRows
variable {β : Type} {p : Program} {l : Launch} {e : Env} {R : Room} {s : State} {m : MethodId} {args : Array Value} {below : List Frame} {meth : Method} {c : Code} {cc : ByteArray} {nL : Nat} {own : String} {g : kG} {dep : Nat} {Q : β → State → Prop} {k n : Nat} {o o1 o2 : Option β} {pc : Nat} {lv : List (Nat × Value)} {st : List Value} {M : kMem}
theorem g_iconst (q : Nat) (hX : Cok (p, l, e, R, s, m, args, below, meth, c, cc, nL, own, g, dep)) {i : Int} (v : Int32) (d : decode cc pc = .ok (.iconst i, 1)) (e9 : pc + 1 = q) (hv : Int32.ofInt i = v) (kk : GG (p, l, e, R, s, m, args, below, meth, c, cc, nL, own, g, dep) Q k n o q lv (.int v :: st) M) : GG (p, l, e, R, s, m, args, below, meth, c, cc, nL, own, g, dep) Q k n o pc lv st M := fun b h H locs ls hH hS hl => by
  subst e9
  exact lv_iconst hX.1 hX.2.1 d hv (kk b h H locs ls hH hS hl)
theorem g_bipush (q : Nat) (hX : Cok (p, l, e, R, s, m, args, below, meth, c, cc, nL, own, g, dep)) {i : Int} (v : Int32) (d : decode cc pc = .ok (.bipush i, 2)) (e9 : pc + 2 = q) (hv : (Int8.ofInt i).toInt32 = v) (kk : GG (p, l, e, R, s, m, args, below, meth, c, cc, nL, own, g, dep) Q k n o q lv (.int v :: st) M) : GG (p, l, e, R, s, m, args, below, meth, c, cc, nL, own, g, dep) Q k n o pc lv st M := fun b h H locs ls hH hS hl => by
  subst e9
  exact lv_bipush hX.1 hX.2.1 d hv (kk b h H locs ls hH hS hl)
theorem g_sipush (q : Nat) (hX : Cok (p, l, e, R, s, m, args, below, meth, c, cc, nL, own, g, dep)) {i : Int} (v : Int32) (d : decode cc pc = .ok (.sipush i, 3)) (e9 : pc + 3 = q) (hv : (Int16.ofInt i).toInt32 = v) (kk : GG (p, l, e, R, s, m, args, below, meth, c, cc, nL, own, g, dep) Q k n o q lv (.int v :: st) M) : GG (p, l, e, R, s, m, args, below, meth, c, cc, nL, own, g, dep) Q k n o pc lv st M := fun b h H locs ls hH hS hl => by
  subst e9
  exact lv_sipush hX.1 hX.2.1 d hv (kk b h H locs ls hH hS hl)
theorem g_lconst (q : Nat) (hX : Cok (p, l, e, R, s, m, args, below, meth, c, cc, nL, own, g, dep)) {i : Fin 2} (v : Int64) (d : decode cc pc = .ok (.lconst i, 1)) (e9 : pc + 1 = q) (hv : Int64.ofNat (i : Nat) = v) (kk : GG (p, l, e, R, s, m, args, below, meth, c, cc, nL, own, g, dep) Q k n o q lv (.long v :: st) M) : GG (p, l, e, R, s, m, args, below, meth, c, cc, nL, own, g, dep) Q k n o pc lv st M := fun b h H locs ls hH hS hl => by
  subst e9
  exact lv_lconst hX.1 hX.2.1 d hv (kk b h H locs ls hH hS hl)
theorem g_iadd (q : Nat) (hX : Cok (p, l, e, R, s, m, args, below, meth, c, cc, nL, own, g, dep)) {x y : Int32} (d : decode cc pc = .ok (.iadd, 1)) (e9 : pc + 1 = q)  (kk : GG (p, l, e, R, s, m, args, below, meth, c, cc, nL, own, g, dep) Q k n o q lv (.int (x + y) :: st) M) : GG (p, l, e, R, s, m, args, below, meth, c, cc, nL, own, g, dep) Q k n o pc lv (.int y :: .int x :: st) M := fun b h H locs ls hH hS hl => by
  subst e9
  exact lv_iadd hX.1 hX.2.1 d (kk b h H locs ls hH hS hl)
theorem g_isub (q : Nat) (hX : Cok (p, l, e, R, s, m, args, below, meth, c, cc, nL, own, g, dep)) {x y : Int32} (d : decode cc pc = .ok (.isub, 1)) (e9 : pc + 1 = q)  (kk : GG (p, l, e, R, s, m, args, below, meth, c, cc, nL, own, g, dep) Q k n o q lv (.int (x - y) :: st) M) : GG (p, l, e, R, s, m, args, below, meth, c, cc, nL, own, g, dep) Q k n o pc lv (.int y :: .int x :: st) M := fun b h H locs ls hH hS hl => by
  subst e9
  exact lv_isub hX.1 hX.2.1 d (kk b h H locs ls hH hS hl)
theorem g_imul (q : Nat) (hX : Cok (p, l, e, R, s, m, args, below, meth, c, cc, nL, own, g, dep)) {x y : Int32} (d : decode cc pc = .ok (.imul, 1)) (e9 : pc + 1 = q)  (kk : GG (p, l, e, R, s, m, args, below, meth, c, cc, nL, own, g, dep) Q k n o q lv (.int (x * y) :: st) M) : GG (p, l, e, R, s, m, args, below, meth, c, cc, nL, own, g, dep) Q k n o pc lv (.int y :: .int x :: st) M := fun b h H locs ls hH hS hl => by
  subst e9
  exact lv_imul hX.1 hX.2.1 d (kk b h H locs ls hH hS hl)
theorem g_iand (q : Nat) (hX : Cok (p, l, e, R, s, m, args, below, meth, c, cc, nL, own, g, dep)) {x y : Int32} (d : decode cc pc = .ok (.iand, 1)) (e9 : pc + 1 = q)  (kk : GG (p, l, e, R, s, m, args, below, meth, c, cc, nL, own, g, dep) Q k n o q lv (.int (x &&& y) :: st) M) : GG (p, l, e, R, s, m, args, below, meth, c, cc, nL, own, g, dep) Q k n o pc lv (.int y :: .int x :: st) M := fun b h H locs ls hH hS hl => by
  subst e9
  exact lv_iand hX.1 hX.2.1 d (kk b h H locs ls hH hS hl)
theorem g_ishr (q : Nat) (hX : Cok (p, l, e, R, s, m, args, below, meth, c, cc, nL, own, g, dep)) {x y : Int32} (d : decode cc pc = .ok (.ishr, 1)) (e9 : pc + 1 = q)  (kk : GG (p, l, e, R, s, m, args, below, meth, c, cc, nL, own, g, dep) Q k n o q lv (.int (x >>> (y &&& 31)) :: st) M) : GG (p, l, e, R, s, m, args, below, meth, c, cc, nL, own, g, dep) Q k n o pc lv (.int y :: .int x :: st) M := fun b h H locs ls hH hS hl => by
  subst e9
  exact lv_ishr hX.1 hX.2.1 d (kk b h H locs ls hH hS hl)
theorem g_iushr (q : Nat) (hX : Cok (p, l, e, R, s, m, args, below, meth, c, cc, nL, own, g, dep)) {x y : Int32} (v : Int32) (d : decode cc pc = .ok (.iushr, 1)) (e9 : pc + 1 = q) (hv : (x.toUInt32 >>> (y.toUInt32 &&& Int32.toUInt32 31)).toInt32 = v) (kk : GG (p, l, e, R, s, m, args, below, meth, c, cc, nL, own, g, dep) Q k n o q lv (.int v :: st) M) : GG (p, l, e, R, s, m, args, below, meth, c, cc, nL, own, g, dep) Q k n o pc lv (.int y :: .int x :: st) M := fun b h H locs ls hH hS hl => by
  subst e9
  exact lv_iushr hX.1 hX.2.1 d hv (kk b h H locs ls hH hS hl)
theorem g_lshl (q : Nat) (hX : Cok (p, l, e, R, s, m, args, below, meth, c, cc, nL, own, g, dep)) {x : Int64} {y : Int32} (v : Int64) (d : decode cc pc = .ok (.lshl, 1)) (e9 : pc + 1 = q) (hv : x <<< (y.toInt64 &&& 63) = v) (kk : GG (p, l, e, R, s, m, args, below, meth, c, cc, nL, own, g, dep) Q k n o q lv (.long v :: st) M) : GG (p, l, e, R, s, m, args, below, meth, c, cc, nL, own, g, dep) Q k n o pc lv (.int y :: .long x :: st) M := fun b h H locs ls hH hS hl => by
  subst e9
  exact lv_lshl hX.1 hX.2.1 d hv (kk b h H locs ls hH hS hl)
theorem g_lushr (q : Nat) (hX : Cok (p, l, e, R, s, m, args, below, meth, c, cc, nL, own, g, dep)) {x : Int64} {y : Int32} (v : Int64) (d : decode cc pc = .ok (.lushr, 1)) (e9 : pc + 1 = q) (hv : (x.toUInt64 >>> (y.toInt64.toUInt64 &&& Int64.toUInt64 63)).toInt64 = v) (kk : GG (p, l, e, R, s, m, args, below, meth, c, cc, nL, own, g, dep) Q k n o q lv (.long v :: st) M) : GG (p, l, e, R, s, m, args, below, meth, c, cc, nL, own, g, dep) Q k n o pc lv (.int y :: .long x :: st) M := fun b h H locs ls hH hS hl => by
  subst e9
  exact lv_lushr hX.1 hX.2.1 d hv (kk b h H locs ls hH hS hl)
theorem g_ineg (q : Nat) (hX : Cok (p, l, e, R, s, m, args, below, meth, c, cc, nL, own, g, dep)) {x : Int32} (d : decode cc pc = .ok (.ineg, 1)) (e9 : pc + 1 = q)  (kk : GG (p, l, e, R, s, m, args, below, meth, c, cc, nL, own, g, dep) Q k n o q lv (.int (-x) :: st) M) : GG (p, l, e, R, s, m, args, below, meth, c, cc, nL, own, g, dep) Q k n o pc lv (.int x :: st) M := fun b h H locs ls hH hS hl => by
  subst e9
  exact lv_ineg hX.1 hX.2.1 d (kk b h H locs ls hH hS hl)
theorem g_ladd (q : Nat) (hX : Cok (p, l, e, R, s, m, args, below, meth, c, cc, nL, own, g, dep)) {x y : Int64} (d : decode cc pc = .ok (.ladd, 1)) (e9 : pc + 1 = q)  (kk : GG (p, l, e, R, s, m, args, below, meth, c, cc, nL, own, g, dep) Q k n o q lv (.long (x + y) :: st) M) : GG (p, l, e, R, s, m, args, below, meth, c, cc, nL, own, g, dep) Q k n o pc lv (.long y :: .long x :: st) M := fun b h H locs ls hH hS hl => by
  subst e9
  exact lv_ladd hX.1 hX.2.1 d (kk b h H locs ls hH hS hl)
theorem g_lor (q : Nat) (hX : Cok (p, l, e, R, s, m, args, below, meth, c, cc, nL, own, g, dep)) {x y : Int64} (d : decode cc pc = .ok (.lor, 1)) (e9 : pc + 1 = q)  (kk : GG (p, l, e, R, s, m, args, below, meth, c, cc, nL, own, g, dep) Q k n o q lv (.long (x ||| y) :: st) M) : GG (p, l, e, R, s, m, args, below, meth, c, cc, nL, own, g, dep) Q k n o pc lv (.long y :: .long x :: st) M := fun b h H locs ls hH hS hl => by
  subst e9
  exact lv_lor hX.1 hX.2.1 d (kk b h H locs ls hH hS hl)
theorem g_land (q : Nat) (hX : Cok (p, l, e, R, s, m, args, below, meth, c, cc, nL, own, g, dep)) {x y : Int64} (d : decode cc pc = .ok (.land, 1)) (e9 : pc + 1 = q)  (kk : GG (p, l, e, R, s, m, args, below, meth, c, cc, nL, own, g, dep) Q k n o q lv (.long (x &&& y) :: st) M) : GG (p, l, e, R, s, m, args, below, meth, c, cc, nL, own, g, dep) Q k n o pc lv (.long y :: .long x :: st) M := fun b h H locs ls hH hS hl => by
  subst e9
  exact lv_land hX.1 hX.2.1 d (kk b h H locs ls hH hS hl)
theorem g_lsub (q : Nat) (hX : Cok (p, l, e, R, s, m, args, below, meth, c, cc, nL, own, g, dep)) {x y : Int64} (d : decode cc pc = .ok (.lsub, 1)) (e9 : pc + 1 = q)  (kk : GG (p, l, e, R, s, m, args, below, meth, c, cc, nL, own, g, dep) Q k n o q lv (.long (x - y) :: st) M) : GG (p, l, e, R, s, m, args, below, meth, c, cc, nL, own, g, dep) Q k n o pc lv (.long y :: .long x :: st) M := fun b h H locs ls hH hS hl => by
  subst e9
  exact lv_lsub hX.1 hX.2.1 d (kk b h H locs ls hH hS hl)
theorem g_lmul (q : Nat) (hX : Cok (p, l, e, R, s, m, args, below, meth, c, cc, nL, own, g, dep)) {x y : Int64} (d : decode cc pc = .ok (.lmul, 1)) (e9 : pc + 1 = q)  (kk : GG (p, l, e, R, s, m, args, below, meth, c, cc, nL, own, g, dep) Q k n o q lv (.long (x * y) :: st) M) : GG (p, l, e, R, s, m, args, below, meth, c, cc, nL, own, g, dep) Q k n o pc lv (.long y :: .long x :: st) M := fun b h H locs ls hH hS hl => by
  subst e9
  exact lv_lmul hX.1 hX.2.1 d (kk b h H locs ls hH hS hl)
theorem g_i2l (q : Nat) (hX : Cok (p, l, e, R, s, m, args, below, meth, c, cc, nL, own, g, dep)) {x : Int32} (d : decode cc pc = .ok (.i2l, 1)) (e9 : pc + 1 = q)  (kk : GG (p, l, e, R, s, m, args, below, meth, c, cc, nL, own, g, dep) Q k n o q lv (.long x.toInt64 :: st) M) : GG (p, l, e, R, s, m, args, below, meth, c, cc, nL, own, g, dep) Q k n o pc lv (.int x :: st) M := fun b h H locs ls hH hS hl => by
  subst e9
  exact lv_i2l hX.1 hX.2.1 d rfl (kk b h H locs ls hH hS hl)
theorem g_l2i (q : Nat) (hX : Cok (p, l, e, R, s, m, args, below, meth, c, cc, nL, own, g, dep)) {x : Int64} (d : decode cc pc = .ok (.l2i, 1)) (e9 : pc + 1 = q)  (kk : GG (p, l, e, R, s, m, args, below, meth, c, cc, nL, own, g, dep) Q k n o q lv (.int x.toInt32 :: st) M) : GG (p, l, e, R, s, m, args, below, meth, c, cc, nL, own, g, dep) Q k n o pc lv (.long x :: st) M := fun b h H locs ls hH hS hl => by
  subst e9
  exact lv_l2i hX.1 hX.2.1 d rfl (kk b h H locs ls hH hS hl)
theorem g_i2d (q : Nat) (hX : Cok (p, l, e, R, s, m, args, below, meth, c, cc, nL, own, g, dep)) {x : Int32} (d : decode cc pc = .ok (.i2d, 1)) (e9 : pc + 1 = q)  (kk : GG (p, l, e, R, s, m, args, below, meth, c, cc, nL, own, g, dep) Q k n o q lv (.double (FP.i2d x) :: st) M) : GG (p, l, e, R, s, m, args, below, meth, c, cc, nL, own, g, dep) Q k n o pc lv (.int x :: st) M := fun b h H locs ls hH hS hl => by
  subst e9
  exact lv_i2d hX.1 hX.2.1 d (kk b h H locs ls hH hS hl)
theorem g_i2f (q : Nat) (hX : Cok (p, l, e, R, s, m, args, below, meth, c, cc, nL, own, g, dep)) {x : Int32} (d : decode cc pc = .ok (.i2f, 1)) (e9 : pc + 1 = q)  (kk : GG (p, l, e, R, s, m, args, below, meth, c, cc, nL, own, g, dep) Q k n o q lv (.float (FP.i2f x) :: st) M) : GG (p, l, e, R, s, m, args, below, meth, c, cc, nL, own, g, dep) Q k n o pc lv (.int x :: st) M := fun b h H locs ls hH hS hl => by
  subst e9
  exact lv_i2f hX.1 hX.2.1 d (kk b h H locs ls hH hS hl)
theorem g_dconst0 (q : Nat) (hX : Cok (p, l, e, R, s, m, args, below, meth, c, cc, nL, own, g, dep))  (d : decode cc pc = .ok (.dconst 0, 1)) (e9 : pc + 1 = q)  (kk : GG (p, l, e, R, s, m, args, below, meth, c, cc, nL, own, g, dep) Q k n o q lv (.double FP.dconst0 :: st) M) : GG (p, l, e, R, s, m, args, below, meth, c, cc, nL, own, g, dep) Q k n o pc lv st M := fun b h H locs ls hH hS hl => by
  subst e9
  exact lv_dconst0 hX.1 hX.2.1 d (kk b h H locs ls hH hS hl)
theorem g_fconst0 (q : Nat) (hX : Cok (p, l, e, R, s, m, args, below, meth, c, cc, nL, own, g, dep))  (d : decode cc pc = .ok (.fconst 0, 1)) (e9 : pc + 1 = q)  (kk : GG (p, l, e, R, s, m, args, below, meth, c, cc, nL, own, g, dep) Q k n o q lv (.float FP.fconst0 :: st) M) : GG (p, l, e, R, s, m, args, below, meth, c, cc, nL, own, g, dep) Q k n o pc lv st M := fun b h H locs ls hH hS hl => by
  subst e9
  exact lv_fconst0 hX.1 hX.2.1 d (kk b h H locs ls hH hS hl)
theorem g_lcmp (q : Nat) (hX : Cok (p, l, e, R, s, m, args, below, meth, c, cc, nL, own, g, dep)) {x y : Int64} (d : decode cc pc = .ok (.lcmp, 1)) (e9 : pc + 1 = q)  (kk : GG (p, l, e, R, s, m, args, below, meth, c, cc, nL, own, g, dep) Q k n o q lv (.int (lg_cmp x y) :: st) M) : GG (p, l, e, R, s, m, args, below, meth, c, cc, nL, own, g, dep) Q k n o pc lv (.long y :: .long x :: st) M := fun b h H locs ls hH hS hl => by
  subst e9
  exact W.lcmp hX.1 hX.2.1 d (kk b h H locs ls hH hS hl)
theorem g_dcmp (q : Nat) (hX : Cok (p, l, e, R, s, m, args, below, meth, c, cc, nL, own, g, dep)) {x y : UInt64} {op : CmpOp} (d : decode cc pc = .ok (.dcmp op, 1)) (e9 : pc + 1 = q)  (kk : GG (p, l, e, R, s, m, args, below, meth, c, cc, nL, own, g, dep) Q k n o q lv (.int (Op.cmpValue (FP.dcmp x y) op) :: st) M) : GG (p, l, e, R, s, m, args, below, meth, c, cc, nL, own, g, dep) Q k n o pc lv (.double y :: .double x :: st) M := fun b h H locs ls hH hS hl => by
  subst e9
  exact lv_dcmp hX.1 hX.2.1 d (kk b h H locs ls hH hS hl)
theorem g_dup (q : Nat) (hX : Cok (p, l, e, R, s, m, args, below, meth, c, cc, nL, own, g, dep)) {v : Value} (d : decode cc pc = .ok (.dup, 1)) (e9 : pc + 1 = q) (hv : v.category = 1) (kk : GG (p, l, e, R, s, m, args, below, meth, c, cc, nL, own, g, dep) Q k n o q lv (v :: v :: st) M) : GG (p, l, e, R, s, m, args, below, meth, c, cc, nL, own, g, dep) Q k n o pc lv (v :: st) M := fun b h H locs ls hH hS hl => by
  subst e9
  exact lv_dup hX.1 hX.2.1 d ((kT_cat _ _).trans hv) (kk b h H locs ls hH hS hl)
theorem g_pop (q : Nat) (hX : Cok (p, l, e, R, s, m, args, below, meth, c, cc, nL, own, g, dep)) {v : Value} (d : decode cc pc = .ok (.pop, 1)) (e9 : pc + 1 = q) (hv : v.category = 1) (kk : GG (p, l, e, R, s, m, args, below, meth, c, cc, nL, own, g, dep) Q k n o q lv st M) : GG (p, l, e, R, s, m, args, below, meth, c, cc, nL, own, g, dep) Q k n o pc lv (v :: st) M := fun b h H locs ls hH hS hl => by
  subst e9
  exact lv_pop hX.1 hX.2.1 d ((kT_cat _ _).trans hv) (kk b h H locs ls hH hS hl)
theorem g_dup2 (q : Nat) (hX : Cok (p, l, e, R, s, m, args, below, meth, c, cc, nL, own, g, dep)) {v w : Value} (d : decode cc pc = .ok (.dup2, 1)) (e9 : pc + 1 = q) (hv : v.category = 1) (hw : w.category = 1) (kk : GG (p, l, e, R, s, m, args, below, meth, c, cc, nL, own, g, dep) Q k n o q lv (v :: w :: v :: w :: st) M) : GG (p, l, e, R, s, m, args, below, meth, c, cc, nL, own, g, dep) Q k n o pc lv (v :: w :: st) M := fun b h H locs ls hH hS hl => by
  subst e9
  exact lv_dup2_11 hX.1 hX.2.1 d ((kT_cat _ _).trans hv) ((kT_cat _ _).trans hw) (kk b h H locs ls hH hS hl)
theorem g_null (q : Nat) (hX : Cok (p, l, e, R, s, m, args, below, meth, c, cc, nL, own, g, dep))  (d : decode cc pc = .ok (.aconst_null, 1)) (e9 : pc + 1 = q)  (kk : GG (p, l, e, R, s, m, args, below, meth, c, cc, nL, own, g, dep) Q k n o q lv (.ref 0 :: st) M) : GG (p, l, e, R, s, m, args, below, meth, c, cc, nL, own, g, dep) Q k n o pc lv st M := fun b h H locs ls hH hS hl => by
  subst e9
  exact lv_null hX.1 hX.2.1 d (kk b h H locs ls hH hS hl)
theorem g_ldc (q : Nat) (hX : Cok (p, l, e, R, s, m, args, below, meth, c, cc, nL, own, g, dep)) {i : Nat} (v : Int32) (d : decode cc pc = .ok (.ldc i, 2)) (e9 : pc + 2 = q) (w : Jvm.Cond.constant own i v ∈ WT) (kk : GG (p, l, e, R, s, m, args, below, meth, c, cc, nL, own, g, dep) Q k n o q lv (.int v :: st) M) : GG (p, l, e, R, s, m, args, below, meth, c, cc, nL, own, g, dep) Q k n o pc lv st M := fun b h H locs ls hH hS hl => by
  subst e9
  exact lv_ldc hX.1 hX.2.1 hX.2.2.2.1 (hX.2.2.2.2.1 _ w) d (kk b h H locs ls hH hS hl)
theorem g_ldc2 (q : Nat) (hX : Cok (p, l, e, R, s, m, args, below, meth, c, cc, nL, own, g, dep)) {i : Nat} (v : Int64) (d : decode cc pc = .ok (.ldc2_w i, 3)) (e9 : pc + 3 = q) (w : Jvm.Cond.constantLong own i v ∈ WT) (kk : GG (p, l, e, R, s, m, args, below, meth, c, cc, nL, own, g, dep) Q k n o q lv (.long v :: st) M) : GG (p, l, e, R, s, m, args, below, meth, c, cc, nL, own, g, dep) Q k n o pc lv st M := fun b h H locs ls hH hS hl => by
  subst e9
  exact lv_ldc2 hX.1 hX.2.1 hX.2.2.2.1 (hX.2.2.2.2.1 _ w) d (kk b h H locs ls hH hS hl)
theorem g_idiv (q : Nat) (hX : Cok (p, l, e, R, s, m, args, below, meth, c, cc, nL, own, g, dep)) {x y : Int32} (d : decode cc pc = .ok (.idiv, 1)) (e9 : pc + 1 = q)  (kk : GG (p, l, e, R, s, m, args, below, meth, c, cc, nL, own, g, dep) Q k n o q lv (.int (x / y) :: st) M) : GG (p, l, e, R, s, m, args, below, meth, c, cc, nL, own, g, dep) Q k n (kg (!(y == 0)) o) pc lv (.int y :: .int x :: st) M := fun b h H locs ls hH hS hl => by
  subst e9
  obtain ⟨hb, h9⟩ := kg_some h
  exact lv_idiv hX.1 hX.2.1 d (by simpa using hb) (kk b h9 H locs ls hH hS hl)
theorem g_irem (q : Nat) (hX : Cok (p, l, e, R, s, m, args, below, meth, c, cc, nL, own, g, dep)) {x y : Int32} (d : decode cc pc = .ok (.irem, 1)) (e9 : pc + 1 = q)  (kk : GG (p, l, e, R, s, m, args, below, meth, c, cc, nL, own, g, dep) Q k n o q lv (.int (x - (x / y) * y) :: st) M) : GG (p, l, e, R, s, m, args, below, meth, c, cc, nL, own, g, dep) Q k n (kg (!(y == 0)) o) pc lv (.int y :: .int x :: st) M := fun b h H locs ls hH hS hl => by
  subst e9
  obtain ⟨hb, h9⟩ := kg_some h
  exact lv_irem hX.1 hX.2.1 d (by simpa using hb) (kk b h9 H locs ls hH hS hl)
theorem g_ddiv (q : Nat) (hX : Cok (p, l, e, R, s, m, args, below, meth, c, cc, nL, own, g, dep)) {x y : UInt64} (d : decode cc pc = .ok (.ddiv, 1)) (e9 : pc + 1 = q)  (kk : GG (p, l, e, R, s, m, args, below, meth, c, cc, nL, own, g, dep) Q k n o q lv (.double (FP.ddiv x y) :: st) M) : GG (p, l, e, R, s, m, args, below, meth, c, cc, nL, own, g, dep) Q k n (kg (decide (FP.ddiv x y &&& 0x7fffffffffffffff ≤ 0x7ff0000000000000)) o) pc lv (.double y :: .double x :: st) M := fun b h H locs ls hH hS hl => by
  subst e9
  obtain ⟨hb, h9⟩ := kg_some h
  have hb9 := of_decide_eq_true hb
  exact lv_ddiv hX.1 hX.2.1 d hb9 (kk b h9 H locs ls hH hS hl)
theorem g_fdiv (q : Nat) (hX : Cok (p, l, e, R, s, m, args, below, meth, c, cc, nL, own, g, dep)) {x y : UInt32} (d : decode cc pc = .ok (.fdiv, 1)) (e9 : pc + 1 = q)  (kk : GG (p, l, e, R, s, m, args, below, meth, c, cc, nL, own, g, dep) Q k n o q lv (.float (FP.fdiv x y) :: st) M) : GG (p, l, e, R, s, m, args, below, meth, c, cc, nL, own, g, dep) Q k n (kg (decide (FP.fdiv x y &&& 0x7fffffff ≤ 0x7f800000)) o) pc lv (.float y :: .float x :: st) M := fun b h H locs ls hH hS hl => by
  subst e9
  obtain ⟨hb, h9⟩ := kg_some h
  have hb9 := of_decide_eq_true hb
  exact lv_fdiv hX.1 hX.2.1 d hb9 (kk b h9 H locs ls hH hS hl)
theorem g_f2d (q : Nat) (hX : Cok (p, l, e, R, s, m, args, below, meth, c, cc, nL, own, g, dep)) {x : UInt32} (d : decode cc pc = .ok (.f2d, 1)) (e9 : pc + 1 = q)  (kk : GG (p, l, e, R, s, m, args, below, meth, c, cc, nL, own, g, dep) Q k n o q lv (.double (FP.f2d x) :: st) M) : GG (p, l, e, R, s, m, args, below, meth, c, cc, nL, own, g, dep) Q k n (kg (decide (FP.f2d x &&& 0x7fffffffffffffff ≤ 0x7ff0000000000000)) o) pc lv (.float x :: st) M := fun b h H locs ls hH hS hl => by
  subst e9
  obtain ⟨hb, h9⟩ := kg_some h
  have hb9 := of_decide_eq_true hb
  exact lv_f2d hX.1 hX.2.1 d hb9 (kk b h9 H locs ls hH hS hl)
theorem g_iload_n (q j : Nat) (hX : Cok (p, l, e, R, s, m, args, below, meth, c, cc, nL, own, g, dep)) {f : Fin 4} {x : Int32} (d : decode cc pc = .ok (.iload_n f, 1)) (e9 : pc + 1 = q) (hj : lv[j]? = some ((f : Nat), .int x)) (kk : GG (p, l, e, R, s, m, args, below, meth, c, cc, nL, own, g, dep) Q k n o q lv (.int x :: st) M) : GG (p, l, e, R, s, m, args, below, meth, c, cc, nL, own, g, dep) Q k n o pc lv st M := fun b h H locs ls hH hS hl => by
  subst e9
  exact lv_iload_n hX.1 hX.2.1 d rfl (lv_at hl j (kM_at hj)) (kk b h H locs ls hH hS hl)
theorem g_iload (q j : Nat) (hX : Cok (p, l, e, R, s, m, args, below, meth, c, cc, nL, own, g, dep)) {f : Nat} {x : Int32} (d : decode cc pc = .ok (.iload f, 2)) (e9 : pc + 2 = q) (hj : lv[j]? = some (f, .int x)) (kk : GG (p, l, e, R, s, m, args, below, meth, c, cc, nL, own, g, dep) Q k n o q lv (.int x :: st) M) : GG (p, l, e, R, s, m, args, below, meth, c, cc, nL, own, g, dep) Q k n o pc lv st M := fun b h H locs ls hH hS hl => by
  subst e9
  exact lv_iload hX.1 hX.2.1 d (lv_at hl j (kM_at hj)) (kk b h H locs ls hH hS hl)
theorem g_lload_n (q j : Nat) (hX : Cok (p, l, e, R, s, m, args, below, meth, c, cc, nL, own, g, dep)) {f : Fin 4} {x : Int64} (d : decode cc pc = .ok (.lload_n f, 1)) (e9 : pc + 1 = q) (hj : lv[j]? = some ((f : Nat), .long x)) (kk : GG (p, l, e, R, s, m, args, below, meth, c, cc, nL, own, g, dep) Q k n o q lv (.long x :: st) M) : GG (p, l, e, R, s, m, args, below, meth, c, cc, nL, own, g, dep) Q k n o pc lv st M := fun b h H locs ls hH hS hl => by
  subst e9
  exact lv_lload_n hX.1 hX.2.1 d rfl (lv_at hl j (kM_at hj)) (kk b h H locs ls hH hS hl)
theorem g_lload (q j : Nat) (hX : Cok (p, l, e, R, s, m, args, below, meth, c, cc, nL, own, g, dep)) {f : Nat} {x : Int64} (d : decode cc pc = .ok (.lload f, 2)) (e9 : pc + 2 = q) (hj : lv[j]? = some (f, .long x)) (kk : GG (p, l, e, R, s, m, args, below, meth, c, cc, nL, own, g, dep) Q k n o q lv (.long x :: st) M) : GG (p, l, e, R, s, m, args, below, meth, c, cc, nL, own, g, dep) Q k n o pc lv st M := fun b h H locs ls hH hS hl => by
  subst e9
  exact lv_lload hX.1 hX.2.1 d (lv_at hl j (kM_at hj)) (kk b h H locs ls hH hS hl)
theorem g_dload_n (q j : Nat) (hX : Cok (p, l, e, R, s, m, args, below, meth, c, cc, nL, own, g, dep)) {f : Fin 4} {x : UInt64} (d : decode cc pc = .ok (.dload_n f, 1)) (e9 : pc + 1 = q) (hj : lv[j]? = some ((f : Nat), .double x)) (kk : GG (p, l, e, R, s, m, args, below, meth, c, cc, nL, own, g, dep) Q k n o q lv (.double x :: st) M) : GG (p, l, e, R, s, m, args, below, meth, c, cc, nL, own, g, dep) Q k n o pc lv st M := fun b h H locs ls hH hS hl => by
  subst e9
  exact lv_dload_n hX.1 hX.2.1 d rfl (lv_at hl j (kM_at hj)) (kk b h H locs ls hH hS hl)
theorem g_dload (q j : Nat) (hX : Cok (p, l, e, R, s, m, args, below, meth, c, cc, nL, own, g, dep)) {f : Nat} {x : UInt64} (d : decode cc pc = .ok (.dload f, 2)) (e9 : pc + 2 = q) (hj : lv[j]? = some (f, .double x)) (kk : GG (p, l, e, R, s, m, args, below, meth, c, cc, nL, own, g, dep) Q k n o q lv (.double x :: st) M) : GG (p, l, e, R, s, m, args, below, meth, c, cc, nL, own, g, dep) Q k n o pc lv st M := fun b h H locs ls hH hS hl => by
  subst e9
  exact lv_dload hX.1 hX.2.1 d (lv_at hl j (kM_at hj)) (kk b h H locs ls hH hS hl)
theorem g_istore_n (q i : Nat) (lv2 : List (Nat × Value)) (hX : Cok (p, l, e, R, s, m, args, below, meth, c, cc, nL, own, g, dep)) {f : Fin 4} {x : Int32} (d : decode cc pc = .ok (.istore_n f, 1)) (e9 : pc + 1 = q) (hf : (f : Nat) = i) (hn : i < nL) (hl2 : (i, Value.int x) :: lv.filter (fun q => !(q.1 == i) && !(q.1 + 1 == i && q.2.category == 2)) = lv2) (kk : GG (p, l, e, R, s, m, args, below, meth, c, cc, nL, own, g, dep) Q k n o q lv2 st M) : GG (p, l, e, R, s, m, args, below, meth, c, cc, nL, own, g, dep) Q k n o pc lv (.int x :: st) M := fun b h H locs ls hH hS hl => by
  subst e9
  exact lv_istore_n hX.1 hX.2.1 d hf hl hn (kM_f1 hl2) (fun ls2 hl2 => kk b h H locs ls2 hH hS hl2)
theorem g_istore (q i : Nat) (lv2 : List (Nat × Value)) (hX : Cok (p, l, e, R, s, m, args, below, meth, c, cc, nL, own, g, dep))  {x : Int32} (d : decode cc pc = .ok (.istore i, 2)) (e9 : pc + 2 = q) (hn : i < nL) (hl2 : (i, Value.int x) :: lv.filter (fun q => !(q.1 == i) && !(q.1 + 1 == i && q.2.category == 2)) = lv2) (kk : GG (p, l, e, R, s, m, args, below, meth, c, cc, nL, own, g, dep) Q k n o q lv2 st M) : GG (p, l, e, R, s, m, args, below, meth, c, cc, nL, own, g, dep) Q k n o pc lv (.int x :: st) M := fun b h H locs ls hH hS hl => by
  subst e9
  exact lv_istore hX.1 hX.2.1 d hl hn (kM_f1 hl2) (fun ls2 hl2 => kk b h H locs ls2 hH hS hl2)
theorem g_lstore_n (q i : Nat) (lv2 : List (Nat × Value)) (hX : Cok (p, l, e, R, s, m, args, below, meth, c, cc, nL, own, g, dep)) {f : Fin 4} {x : Int64} (d : decode cc pc = .ok (.lstore_n f, 1)) (e9 : pc + 1 = q) (hf : (f : Nat) = i) (hn : i + 1 < nL) (hl2 : (i, Value.long x) :: lv.filter (fun q => !(q.1 == i) && (!(q.1 == i + 1) && !(q.1 + 1 == i && q.2.category == 2))) = lv2) (kk : GG (p, l, e, R, s, m, args, below, meth, c, cc, nL, own, g, dep) Q k n o q lv2 st M) : GG (p, l, e, R, s, m, args, below, meth, c, cc, nL, own, g, dep) Q k n o pc lv (.long x :: st) M := fun b h H locs ls hH hS hl => by
  subst e9
  exact lv_lstore_n hX.1 hX.2.1 d hf hl hn (kM_f2 hl2) (fun ls2 hl2 => kk b h H locs ls2 hH hS hl2)
theorem g_lstore (q i : Nat) (lv2 : List (Nat × Value)) (hX : Cok (p, l, e, R, s, m, args, below, meth, c, cc, nL, own, g, dep))  {x : Int64} (d : decode cc pc = .ok (.lstore i, 2)) (e9 : pc + 2 = q) (hn : i + 1 < nL) (hl2 : (i, Value.long x) :: lv.filter (fun q => !(q.1 == i) && (!(q.1 == i + 1) && !(q.1 + 1 == i && q.2.category == 2))) = lv2) (kk : GG (p, l, e, R, s, m, args, below, meth, c, cc, nL, own, g, dep) Q k n o q lv2 st M) : GG (p, l, e, R, s, m, args, below, meth, c, cc, nL, own, g, dep) Q k n o pc lv (.long x :: st) M := fun b h H locs ls hH hS hl => by
  subst e9
  exact lv_lstore hX.1 hX.2.1 d hl hn (kM_f2 hl2) (fun ls2 hl2 => kk b h H locs ls2 hH hS hl2)
theorem g_dstore_n (q i : Nat) (lv2 : List (Nat × Value)) (hX : Cok (p, l, e, R, s, m, args, below, meth, c, cc, nL, own, g, dep)) {f : Fin 4} {x : UInt64} (d : decode cc pc = .ok (.dstore_n f, 1)) (e9 : pc + 1 = q) (hf : (f : Nat) = i) (hn : i + 1 < nL) (hl2 : (i, Value.double x) :: lv.filter (fun q => !(q.1 == i) && (!(q.1 == i + 1) && !(q.1 + 1 == i && q.2.category == 2))) = lv2) (kk : GG (p, l, e, R, s, m, args, below, meth, c, cc, nL, own, g, dep) Q k n o q lv2 st M) : GG (p, l, e, R, s, m, args, below, meth, c, cc, nL, own, g, dep) Q k n o pc lv (.double x :: st) M := fun b h H locs ls hH hS hl => by
  subst e9
  exact lv_dstore_n hX.1 hX.2.1 d hf hl hn (kM_f2 hl2) (fun ls2 hl2 => kk b h H locs ls2 hH hS hl2)
theorem g_dstore (q i : Nat) (lv2 : List (Nat × Value)) (hX : Cok (p, l, e, R, s, m, args, below, meth, c, cc, nL, own, g, dep))  {x : UInt64} (d : decode cc pc = .ok (.dstore i, 2)) (e9 : pc + 2 = q) (hn : i + 1 < nL) (hl2 : (i, Value.double x) :: lv.filter (fun q => !(q.1 == i) && (!(q.1 == i + 1) && !(q.1 + 1 == i && q.2.category == 2))) = lv2) (kk : GG (p, l, e, R, s, m, args, below, meth, c, cc, nL, own, g, dep) Q k n o q lv2 st M) : GG (p, l, e, R, s, m, args, below, meth, c, cc, nL, own, g, dep) Q k n o pc lv (.double x :: st) M := fun b h H locs ls hH hS hl => by
  subst e9
  exact lv_dstore hX.1 hX.2.1 d hl hn (kM_f2 hl2) (fun ls2 hl2 => kk b h H locs ls2 hH hS hl2)
theorem g_aload_n (q j : Nat) (hX : Cok (p, l, e, R, s, m, args, below, meth, c, cc, nL, own, g, dep)) {f : Fin 4} {x : Nat} (d : decode cc pc = .ok (.aload_n f, 1)) (e9 : pc + 1 = q) (hj : lv[j]? = some ((f : Nat), .ref x)) (kk : GG (p, l, e, R, s, m, args, below, meth, c, cc, nL, own, g, dep) Q k n o q lv (.ref x :: st) M) : GG (p, l, e, R, s, m, args, below, meth, c, cc, nL, own, g, dep) Q k n o pc lv st M := fun b h H locs ls hH hS hl => by
  subst e9
  have hat := lv_at hl j (kM_at hj)
  have kk := kk b h H locs ls hH hS hl
  simp only [List.map_cons, kT] at hat kk
  by_cases hx : x = 0
  · subst hx
    exact lv_aload_nN hX.1 hX.2.1 d rfl hat kk
  · rw [kr_pos _ hx] at hat kk
    exact lv_aload_n hX.1 hX.2.1 d rfl hat kk
theorem g_aloadS_n (q j : Nat) (hX : Cok (p, l, e, R, s, m, args, below, meth, c, cc, nL, own, g, dep)) {f : Fin 4} {x : Nat} (d : decode cc pc = .ok (.aload_n f, 1)) (e9 : pc + 1 = q) (hj : lv[j]? = some ((f : Nat), .retAddr x)) (kk : GG (p, l, e, R, s, m, args, below, meth, c, cc, nL, own, g, dep) Q k n o q lv (.retAddr x :: st) M) : GG (p, l, e, R, s, m, args, below, meth, c, cc, nL, own, g, dep) Q k n o pc lv st M := fun b h H locs ls hH hS hl => by
  subst e9
  exact lv_aload_n hX.1 hX.2.1 d rfl (lv_at hl j (kM_at hj)) (kk b h H locs ls hH hS hl)
theorem g_astore_n (q i : Nat) (lv2 : List (Nat × Value)) (hX : Cok (p, l, e, R, s, m, args, below, meth, c, cc, nL, own, g, dep)) {f : Fin 4} {x : Nat} (d : decode cc pc = .ok (.astore_n f, 1)) (e9 : pc + 1 = q) (hf : (f : Nat) = i) (hn : i < nL) (hl2 : (i, .ref x) :: lv.filter (fun q => !(q.1 == i) && !(q.1 + 1 == i && q.2.category == 2)) = lv2) (kk : GG (p, l, e, R, s, m, args, below, meth, c, cc, nL, own, g, dep) Q k n o q lv2 st M) : GG (p, l, e, R, s, m, args, below, meth, c, cc, nL, own, g, dep) Q k n o pc lv (.ref x :: st) M := fun b h H locs ls hH hS hl => by
  subst e9
  have hl2 := kM_f1 (B := g.2.2.1) hl2
  simp only [List.map_cons, kT] at hl2 ⊢
  by_cases hx : x = 0
  · subst hx
    exact lv_astore_nN hX.1 hX.2.1 d hf hl hn hl2 (fun ls2 hl2 => kk b h H locs ls2 hH hS hl2)
  · rw [kr_pos _ hx] at hl2 ⊢
    exact lv_astore_n hX.1 hX.2.1 d hf hl hn hl2 (fun ls2 hl2 => kk b h H locs ls2 hH hS hl2)
theorem g_aload (q j : Nat) (hX : Cok (p, l, e, R, s, m, args, below, meth, c, cc, nL, own, g, dep)) {f : Nat} {x : Nat} (d : decode cc pc = .ok (.aload f, 2)) (e9 : pc + 2 = q) (hj : lv[j]? = some (f, .ref x)) (kk : GG (p, l, e, R, s, m, args, below, meth, c, cc, nL, own, g, dep) Q k n o q lv (.ref x :: st) M) : GG (p, l, e, R, s, m, args, below, meth, c, cc, nL, own, g, dep) Q k n o pc lv st M := fun b h H locs ls hH hS hl => by
  subst e9
  have hat := lv_at hl j (kM_at hj)
  have kk := kk b h H locs ls hH hS hl
  simp only [List.map_cons, kT] at hat kk
  by_cases hx : x = 0
  · subst hx
    exact lv_aloadN hX.1 hX.2.1 d hat kk
  · rw [kr_pos _ hx] at hat kk
    exact lv_aload hX.1 hX.2.1 d hat kk
theorem g_aloadS (q j : Nat) (hX : Cok (p, l, e, R, s, m, args, below, meth, c, cc, nL, own, g, dep)) {f : Nat} {x : Nat} (d : decode cc pc = .ok (.aload f, 2)) (e9 : pc + 2 = q) (hj : lv[j]? = some (f, .retAddr x)) (kk : GG (p, l, e, R, s, m, args, below, meth, c, cc, nL, own, g, dep) Q k n o q lv (.retAddr x :: st) M) : GG (p, l, e, R, s, m, args, below, meth, c, cc, nL, own, g, dep) Q k n o pc lv st M := fun b h H locs ls hH hS hl => by
  subst e9
  exact lv_aload hX.1 hX.2.1 d (lv_at hl j (kM_at hj)) (kk b h H locs ls hH hS hl)
theorem g_astore (q i : Nat) (lv2 : List (Nat × Value)) (hX : Cok (p, l, e, R, s, m, args, below, meth, c, cc, nL, own, g, dep))  {x : Nat} (d : decode cc pc = .ok (.astore i, 2)) (e9 : pc + 2 = q) (hn : i < nL) (hl2 : (i, .ref x) :: lv.filter (fun q => !(q.1 == i) && !(q.1 + 1 == i && q.2.category == 2)) = lv2) (kk : GG (p, l, e, R, s, m, args, below, meth, c, cc, nL, own, g, dep) Q k n o q lv2 st M) : GG (p, l, e, R, s, m, args, below, meth, c, cc, nL, own, g, dep) Q k n o pc lv (.ref x :: st) M := fun b h H locs ls hH hS hl => by
  subst e9
  have hl2 := kM_f1 (B := g.2.2.1) hl2
  simp only [List.map_cons, kT] at hl2 ⊢
  by_cases hx : x = 0
  · subst hx
    exact lv_astoreN hX.1 hX.2.1 d hl hn hl2 (fun ls2 hl2 => kk b h H locs ls2 hH hS hl2)
  · rw [kr_pos _ hx] at hl2 ⊢
    exact lv_astore hX.1 hX.2.1 d hl hn hl2 (fun ls2 hl2 => kk b h H locs ls2 hH hS hl2)
theorem g_iinc (q i j : Nat) (v : Int32) (lv2 : List (Nat × Value)) (hX : Cok (p, l, e, R, s, m, args, below, meth, c, cc, nL, own, g, dep)) {z : Int} {x : Int32} (d : decode cc pc = .ok (.iinc i z, 3)) (e9 : pc + 3 = q) (hj : lv[j]? = some (i, .int x)) (hv : x + Int32.ofInt z = v) (hn : i < nL) (hl2 : (i, Value.int v) :: lv.filter (fun q => !(q.1 == i) && !(q.1 + 1 == i && q.2.category == 2)) = lv2) (kk : GG (p, l, e, R, s, m, args, below, meth, c, cc, nL, own, g, dep) Q k n o q lv2 st M) : GG (p, l, e, R, s, m, args, below, meth, c, cc, nL, own, g, dep) Q k n o pc lv st M := fun b h H locs ls hH hS hl => by
  subst e9
  exact lv_iinc hX.1 hX.2.1 d hl (kM_at hj) hv hn (kM_f1 hl2) (fun ls2 hl2 => kk b h H locs ls2 hH hS hl2)
theorem g_goto (q : Nat) (hX : Cok (p, l, e, R, s, m, args, below, meth, c, cc, nL, own, g, dep)) {z : Int} (d : decode cc pc = .ok (.goto z, 3)) (ht : (pc : Int) + z = (q : Int)) (kk : GG (p, l, e, R, s, m, args, below, meth, c, cc, nL, own, g, dep) Q k n o q lv st M) : GG (p, l, e, R, s, m, args, below, meth, c, cc, nL, own, g, dep) Q k n o pc lv st M := fun b h H locs ls hH hS hl => lv_goto hX.1 hX.2.1 d ht (kk b h H locs ls hH hS hl)
theorem g_icmp_eq (q q2 : Nat) (hX : Cok (p, l, e, R, s, m, args, below, meth, c, cc, nL, own, g, dep)) {x y : Int32} {z : Int} (d : decode cc pc = .ok (.if_icmp .eq z, 3)) (ht : (pc : Int) + z = (q : Int)) (e9 : pc + 3 = q2) (kt : x = y → GG (p, l, e, R, s, m, args, below, meth, c, cc, nL, own, g, dep) Q k n o1 q lv st M) (kf : ¬ (x = y) → GG (p, l, e, R, s, m, args, below, meth, c, cc, nL, own, g, dep) Q k n o2 q2 lv st M) : GG (p, l, e, R, s, m, args, below, meth, c, cc, nL, own, g, dep) Q k n (if x = y then o1 else o2) pc lv (.int y :: .int x :: st) M := fun b h H locs ls hH hS hl => by
  subst e9
  exact lv_icmp_eq hX.1 hX.2.1 d ht (fun hc => kt hc b (by rw [if_pos hc] at h; exact h) H locs ls hH hS hl) (fun hc => kf hc b (by rw [if_neg hc] at h; exact h) H locs ls hH hS hl)
theorem g_icmp_ne (q q2 : Nat) (hX : Cok (p, l, e, R, s, m, args, below, meth, c, cc, nL, own, g, dep)) {x y : Int32} {z : Int} (d : decode cc pc = .ok (.if_icmp .ne z, 3)) (ht : (pc : Int) + z = (q : Int)) (e9 : pc + 3 = q2) (kt : ¬ (x = y) → GG (p, l, e, R, s, m, args, below, meth, c, cc, nL, own, g, dep) Q k n o2 q lv st M) (kf : x = y → GG (p, l, e, R, s, m, args, below, meth, c, cc, nL, own, g, dep) Q k n o1 q2 lv st M) : GG (p, l, e, R, s, m, args, below, meth, c, cc, nL, own, g, dep) Q k n (if x = y then o1 else o2) pc lv (.int y :: .int x :: st) M := fun b h H locs ls hH hS hl => by
  subst e9
  exact lv_icmp_ne hX.1 hX.2.1 d ht (fun hc => kt hc b (by rw [if_neg hc] at h; exact h) H locs ls hH hS hl) (fun hc => kf hc b (by rw [if_pos hc] at h; exact h) H locs ls hH hS hl)
theorem g_icmp_lt (q q2 : Nat) (hX : Cok (p, l, e, R, s, m, args, below, meth, c, cc, nL, own, g, dep)) {x y : Int32} {z : Int} (d : decode cc pc = .ok (.if_icmp .lt z, 3)) (ht : (pc : Int) + z = (q : Int)) (e9 : pc + 3 = q2) (kt : x < y → GG (p, l, e, R, s, m, args, below, meth, c, cc, nL, own, g, dep) Q k n o1 q lv st M) (kf : ¬ (x < y) → GG (p, l, e, R, s, m, args, below, meth, c, cc, nL, own, g, dep) Q k n o2 q2 lv st M) : GG (p, l, e, R, s, m, args, below, meth, c, cc, nL, own, g, dep) Q k n (if x < y then o1 else o2) pc lv (.int y :: .int x :: st) M := fun b h H locs ls hH hS hl => by
  subst e9
  exact lv_icmp_lt hX.1 hX.2.1 d ht (fun hc => kt hc b (by rw [if_pos hc] at h; exact h) H locs ls hH hS hl) (fun hc => kf hc b (by rw [if_neg hc] at h; exact h) H locs ls hH hS hl)
theorem g_icmp_gt (q q2 : Nat) (hX : Cok (p, l, e, R, s, m, args, below, meth, c, cc, nL, own, g, dep)) {x y : Int32} {z : Int} (d : decode cc pc = .ok (.if_icmp .gt z, 3)) (ht : (pc : Int) + z = (q : Int)) (e9 : pc + 3 = q2) (kt : y < x → GG (p, l, e, R, s, m, args, below, meth, c, cc, nL, own, g, dep) Q k n o1 q lv st M) (kf : ¬ (y < x) → GG (p, l, e, R, s, m, args, below, meth, c, cc, nL, own, g, dep) Q k n o2 q2 lv st M) : GG (p, l, e, R, s, m, args, below, meth, c, cc, nL, own, g, dep) Q k n (if y < x then o1 else o2) pc lv (.int y :: .int x :: st) M := fun b h H locs ls hH hS hl => by
  subst e9
  exact lv_icmp_gt hX.1 hX.2.1 d ht (fun hc => kt hc b (by rw [if_pos hc] at h; exact h) H locs ls hH hS hl) (fun hc => kf hc b (by rw [if_neg hc] at h; exact h) H locs ls hH hS hl)
theorem g_icmp_ge (q q2 : Nat) (hX : Cok (p, l, e, R, s, m, args, below, meth, c, cc, nL, own, g, dep)) {x y : Int32} {z : Int} (d : decode cc pc = .ok (.if_icmp .ge z, 3)) (ht : (pc : Int) + z = (q : Int)) (e9 : pc + 3 = q2) (kt : ¬ (x < y) → GG (p, l, e, R, s, m, args, below, meth, c, cc, nL, own, g, dep) Q k n o2 q lv st M) (kf : x < y → GG (p, l, e, R, s, m, args, below, meth, c, cc, nL, own, g, dep) Q k n o1 q2 lv st M) : GG (p, l, e, R, s, m, args, below, meth, c, cc, nL, own, g, dep) Q k n (if x < y then o1 else o2) pc lv (.int y :: .int x :: st) M := fun b h H locs ls hH hS hl => by
  subst e9
  exact lv_icmp_ge hX.1 hX.2.1 d ht (fun hc => by
    have hc := Int32.not_lt.mpr hc
    exact kt hc b (by rw [if_neg hc] at h; exact h) H locs ls hH hS hl) (fun hc => by
    have hc := Int32.not_le.mp hc
    exact kf hc b (by rw [if_pos hc] at h; exact h) H locs ls hH hS hl)
theorem g_icmp_le (q q2 : Nat) (hX : Cok (p, l, e, R, s, m, args, below, meth, c, cc, nL, own, g, dep)) {x y : Int32} {z : Int} (d : decode cc pc = .ok (.if_icmp .le z, 3)) (ht : (pc : Int) + z = (q : Int)) (e9 : pc + 3 = q2) (kt : ¬ (y < x) → GG (p, l, e, R, s, m, args, below, meth, c, cc, nL, own, g, dep) Q k n o2 q lv st M) (kf : y < x → GG (p, l, e, R, s, m, args, below, meth, c, cc, nL, own, g, dep) Q k n o1 q2 lv st M) : GG (p, l, e, R, s, m, args, below, meth, c, cc, nL, own, g, dep) Q k n (if y < x then o1 else o2) pc lv (.int y :: .int x :: st) M := fun b h H locs ls hH hS hl => by
  subst e9
  exact lv_icmp_le hX.1 hX.2.1 d ht (fun hc => by
    have hc := Int32.not_lt.mpr hc
    exact kt hc b (by rw [if_neg hc] at h; exact h) H locs ls hH hS hl) (fun hc => by
    have hc := Int32.not_le.mp hc
    exact kf hc b (by rw [if_pos hc] at h; exact h) H locs ls hH hS hl)
theorem g_if_eq (q q2 : Nat) (hX : Cok (p, l, e, R, s, m, args, below, meth, c, cc, nL, own, g, dep)) {x : Int32} {z : Int} (d : decode cc pc = .ok (.ifCond .eq z, 3)) (ht : (pc : Int) + z = (q : Int)) (e9 : pc + 3 = q2) (kt : x = 0 → GG (p, l, e, R, s, m, args, below, meth, c, cc, nL, own, g, dep) Q k n o1 q lv st M) (kf : ¬ (x = 0) → GG (p, l, e, R, s, m, args, below, meth, c, cc, nL, own, g, dep) Q k n o2 q2 lv st M) : GG (p, l, e, R, s, m, args, below, meth, c, cc, nL, own, g, dep) Q k n (if x = 0 then o1 else o2) pc lv (.int x :: st) M := fun b h H locs ls hH hS hl => by
  subst e9
  exact lv_if_eq hX.1 hX.2.1 d ht (fun hc => kt hc b (by rw [if_pos hc] at h; exact h) H locs ls hH hS hl) (fun hc => kf hc b (by rw [if_neg hc] at h; exact h) H locs ls hH hS hl)
theorem g_if_ne (q q2 : Nat) (hX : Cok (p, l, e, R, s, m, args, below, meth, c, cc, nL, own, g, dep)) {x : Int32} {z : Int} (d : decode cc pc = .ok (.ifCond .ne z, 3)) (ht : (pc : Int) + z = (q : Int)) (e9 : pc + 3 = q2) (kt : ¬ (x = 0) → GG (p, l, e, R, s, m, args, below, meth, c, cc, nL, own, g, dep) Q k n o2 q lv st M) (kf : x = 0 → GG (p, l, e, R, s, m, args, below, meth, c, cc, nL, own, g, dep) Q k n o1 q2 lv st M) : GG (p, l, e, R, s, m, args, below, meth, c, cc, nL, own, g, dep) Q k n (if x = 0 then o1 else o2) pc lv (.int x :: st) M := fun b h H locs ls hH hS hl => by
  subst e9
  exact lv_if_ne hX.1 hX.2.1 d ht (fun hc => kt hc b (by rw [if_neg hc] at h; exact h) H locs ls hH hS hl) (fun hc => kf hc b (by rw [if_pos hc] at h; exact h) H locs ls hH hS hl)
theorem g_if_lt (q q2 : Nat) (hX : Cok (p, l, e, R, s, m, args, below, meth, c, cc, nL, own, g, dep)) {x : Int32} {z : Int} (d : decode cc pc = .ok (.ifCond .lt z, 3)) (ht : (pc : Int) + z = (q : Int)) (e9 : pc + 3 = q2) (kt : x < 0 → GG (p, l, e, R, s, m, args, below, meth, c, cc, nL, own, g, dep) Q k n o1 q lv st M) (kf : ¬ (x < 0) → GG (p, l, e, R, s, m, args, below, meth, c, cc, nL, own, g, dep) Q k n o2 q2 lv st M) : GG (p, l, e, R, s, m, args, below, meth, c, cc, nL, own, g, dep) Q k n (if x < 0 then o1 else o2) pc lv (.int x :: st) M := fun b h H locs ls hH hS hl => by
  subst e9
  exact lv_if_lt hX.1 hX.2.1 d ht (fun hc => kt hc b (by rw [if_pos hc] at h; exact h) H locs ls hH hS hl) (fun hc => kf hc b (by rw [if_neg hc] at h; exact h) H locs ls hH hS hl)
theorem g_if_gt (q q2 : Nat) (hX : Cok (p, l, e, R, s, m, args, below, meth, c, cc, nL, own, g, dep)) {x : Int32} {z : Int} (d : decode cc pc = .ok (.ifCond .gt z, 3)) (ht : (pc : Int) + z = (q : Int)) (e9 : pc + 3 = q2) (kt : 0 < x → GG (p, l, e, R, s, m, args, below, meth, c, cc, nL, own, g, dep) Q k n o1 q lv st M) (kf : ¬ (0 < x) → GG (p, l, e, R, s, m, args, below, meth, c, cc, nL, own, g, dep) Q k n o2 q2 lv st M) : GG (p, l, e, R, s, m, args, below, meth, c, cc, nL, own, g, dep) Q k n (if 0 < x then o1 else o2) pc lv (.int x :: st) M := fun b h H locs ls hH hS hl => by
  subst e9
  exact lv_if_gt hX.1 hX.2.1 d ht (fun hc => kt hc b (by rw [if_pos hc] at h; exact h) H locs ls hH hS hl) (fun hc => kf hc b (by rw [if_neg hc] at h; exact h) H locs ls hH hS hl)
theorem g_if_ge (q q2 : Nat) (hX : Cok (p, l, e, R, s, m, args, below, meth, c, cc, nL, own, g, dep)) {x : Int32} {z : Int} (d : decode cc pc = .ok (.ifCond .ge z, 3)) (ht : (pc : Int) + z = (q : Int)) (e9 : pc + 3 = q2) (kt : ¬ (x < 0) → GG (p, l, e, R, s, m, args, below, meth, c, cc, nL, own, g, dep) Q k n o2 q lv st M) (kf : x < 0 → GG (p, l, e, R, s, m, args, below, meth, c, cc, nL, own, g, dep) Q k n o1 q2 lv st M) : GG (p, l, e, R, s, m, args, below, meth, c, cc, nL, own, g, dep) Q k n (if x < 0 then o1 else o2) pc lv (.int x :: st) M := fun b h H locs ls hH hS hl => by
  subst e9
  exact lv_if_ge hX.1 hX.2.1 d ht (fun hc => by
    have hc := Int32.not_lt.mpr hc
    exact kt hc b (by rw [if_neg hc] at h; exact h) H locs ls hH hS hl) (fun hc => by
    have hc := Int32.not_le.mp hc
    exact kf hc b (by rw [if_pos hc] at h; exact h) H locs ls hH hS hl)
theorem g_if_le (q q2 : Nat) (hX : Cok (p, l, e, R, s, m, args, below, meth, c, cc, nL, own, g, dep)) {x : Int32} {z : Int} (d : decode cc pc = .ok (.ifCond .le z, 3)) (ht : (pc : Int) + z = (q : Int)) (e9 : pc + 3 = q2) (kt : ¬ (0 < x) → GG (p, l, e, R, s, m, args, below, meth, c, cc, nL, own, g, dep) Q k n o2 q lv st M) (kf : 0 < x → GG (p, l, e, R, s, m, args, below, meth, c, cc, nL, own, g, dep) Q k n o1 q2 lv st M) : GG (p, l, e, R, s, m, args, below, meth, c, cc, nL, own, g, dep) Q k n (if 0 < x then o1 else o2) pc lv (.int x :: st) M := fun b h H locs ls hH hS hl => by
  subst e9
  exact lv_if_le hX.1 hX.2.1 d ht (fun hc => by
    have hc := Int32.not_lt.mpr hc
    exact kt hc b (by rw [if_neg hc] at h; exact h) H locs ls hH hS hl) (fun hc => by
    have hc := Int32.not_le.mp hc
    exact kf hc b (by rw [if_pos hc] at h; exact h) H locs ls hH hS hl)
theorem g_ifnull (q q2 : Nat) (hX : Cok (p, l, e, R, s, m, args, below, meth, c, cc, nL, own, g, dep)) {x : Nat} {z : Int} (d : decode cc pc = .ok (.ifnull z, 3)) (ht : (pc : Int) + z = (q : Int)) (e9 : pc + 3 = q2) (kt : x = 0 → GG (p, l, e, R, s, m, args, below, meth, c, cc, nL, own, g, dep) Q k n o1 q lv st M) (kf : ¬ (x = 0) → GG (p, l, e, R, s, m, args, below, meth, c, cc, nL, own, g, dep) Q k n o2 q2 lv st M) : GG (p, l, e, R, s, m, args, below, meth, c, cc, nL, own, g, dep) Q k n (if x = 0 then o1 else o2) pc lv (.ref x :: st) M := fun b h H locs ls hH hS hl => by
  subst e9
  by_cases hc : x = 0
  · have hk := kt hc b (by rw [if_pos hc] at h; exact h) H locs ls hH hS hl
    subst hc
    exact lv_ifnullN hX.1 hX.2.1 d ht hk
  · have hk := kf hc b (by rw [if_neg hc] at h; exact h) H locs ls hH hS hl
    simp only [List.map_cons, kT]
    rw [kr_pos _ hc]
    exact lv_ifnull hX.1 hX.2.1 d hk
theorem g_ifnonnull (q q2 : Nat) (hX : Cok (p, l, e, R, s, m, args, below, meth, c, cc, nL, own, g, dep)) {x : Nat} {z : Int} (d : decode cc pc = .ok (.ifnonnull z, 3)) (ht : (pc : Int) + z = (q : Int)) (e9 : pc + 3 = q2) (kt : ¬ (x = 0) → GG (p, l, e, R, s, m, args, below, meth, c, cc, nL, own, g, dep) Q k n o2 q lv st M) (kf : x = 0 → GG (p, l, e, R, s, m, args, below, meth, c, cc, nL, own, g, dep) Q k n o1 q2 lv st M) : GG (p, l, e, R, s, m, args, below, meth, c, cc, nL, own, g, dep) Q k n (if x = 0 then o1 else o2) pc lv (.ref x :: st) M := fun b h H locs ls hH hS hl => by
  subst e9
  by_cases hc : x = 0
  · have hk := kf hc b (by rw [if_pos hc] at h; exact h) H locs ls hH hS hl
    subst hc
    exact lv_ifnonnullN hX.1 hX.2.1 d hk
  · have hk := kt hc b (by rw [if_neg hc] at h; exact h) H locs ls hH hS hl
    simp only [List.map_cons, kT]
    rw [kr_pos _ hc]
    exact lv_ifnonnull hX.1 hX.2.1 d ht hk
end kRows
theorem kEnt_obj {aD : Nat → ClassId} {B : Nat} {M : kMem} {k t n : Nat} (h : M.1[k]? = some (t, n)) (ht : kox t < 13) : (kWs aD B M)[k]? = some (B + 1 + k, .inr (kci t, kFs aD B M (k + 1) (kKinds t) 0)) := by
  rw [kWs_get h]
  unfold kEnt
  rw [if_pos ht]
theorem kEnt_int {aD : Nat → ClassId} {B : Nat} {M : kMem} {k t n : Nat} (h : M.1[k]? = some (t, n)) (ht : t = 13 ∨ t = 14) : (kWs aD B M)[k]? = some (B + 1 + k, .inl (aD t, n, .inl (fun j => kI M (k + 1) j))) := by
  rw [kWs_get h]
  rcases ht with rfl | rfl <;> rfl
theorem kEnt_byt {aD : Nat → ClassId} {B : Nat} {M : kMem} {k n : Nat} (h : M.1[k]? = some (20, n)) : (kWs aD B M)[k]? = some (B + 1 + k, .inl (aD 20, n, .inl (fun j => kI M (k + 1) j))) := by
  rw [kWs_get h]
  rfl
theorem kEnt_long {aD : Nat → ClassId} {B : Nat} {M : kMem} {k n : Nat} (h : M.1[k]? = some (15, n)) : (kWs aD B M)[k]? = some (B + 1 + k, .inl (aD 15, n, .inr (.inl (fun j => kL M (k + 1) j)))) := by
  rw [kWs_get h]
  rfl
theorem kEnt_ref {aD : Nat → ClassId} {B : Nat} {M : kMem} {k t n : Nat} (h : M.1[k]? = some (t, n)) (ht : 15 < kay t) : (kWs aD B M)[k]? = some (B + 1 + k, .inl (aD t, n, .inr (.inr (.inr (.inr (fun j => kv B (kR M (k + 1) j))))))) := by
  rw [kWs_get h]
  unfold kEnt
  rw [if_neg (kay_spec ht).1, if_neg (kay_spec ht).2.1, if_neg (kay_spec ht).2.2.1]
theorem kr_succ (B k : Nat) : kr B (k + 1) = .ref (B + 1 + k) := by
  rw [kr_pos B (by omega), show B + (k + 1) = B + 1 + k by omega]
theorem kv_succ (B k : Nat) : kv B (k + 1) = some (B + 1 + k) := by
  unfold kv
  rw [if_neg (by omega), show B + (k + 1) = B + 1 + k by omega]
theorem kWs_upI {aD : Nat → ClassId} {B : Nat} {M : kMem} {k n t j : Nat} (v : Int32) (h : M.1[k]? = some (t, n)) (ht : t = 13 ∨ t = 14) : kWs aD B (ksI M (k + 1) j v) = (kWs aD B M).set k (B + 1 + k, .inl (aD t, n, .inl (upd (fun j => kI M (k + 1) j) j v))) := by
  refine kWs_set rfl (List.getElem?_eq_some_iff.mp h).1 (fun x hx => ?_) (fun j x hj => kEnt_congr x (fun i => if_neg (by omega)) (fun i => rfl) (fun i => rfl))
  cases h.symm.trans hx
  have e9 : (fun i => kI (ksI M (k + 1) j v) (k + 1) i) = upd (fun j => kI M (k + 1) j) j v := by
    funext i
    unfold upd
    by_cases hi : i = j
    · subst hi; simp [kI, ksI]
    · simp [kI, ksI, hi]
  rw [← e9]
  rcases ht with rfl | rfl <;> rfl
theorem kWs_upL {aD : Nat → ClassId} {B : Nat} {M : kMem} {k n j : Nat} (v : Int64) (h : M.1[k]? = some (15, n)) : kWs aD B (ksL M (k + 1) j v) = (kWs aD B M).set k (B + 1 + k, .inl (aD 15, n, .inr (.inl (vp_updL (fun j => kL M (k + 1) j) j v)))) := by
  refine kWs_set rfl (List.getElem?_eq_some_iff.mp h).1 (fun x hx => ?_) (fun j x hj => kEnt_congr x (fun i => rfl) (fun i => rfl) (fun i => if_neg (by omega)))
  cases h.symm.trans hx
  have e9 : (fun i => kL (ksL M (k + 1) j v) (k + 1) i) = vp_updL (fun j => kL M (k + 1) j) j v := by
    funext i
    unfold vp_updL
    by_cases hi : i = j
    · subst hi; simp [kL, ksL]
    · simp [kL, ksL, hi]
  rw [← e9]
  rfl
theorem kWs_upR {aD : Nat → ClassId} {B : Nat} {M : kMem} {k n t j v : Nat} (h : M.1[k]? = some (t, n)) (ht : 15 < kay t) : kWs aD B (ksR M (k + 1) j (v + 1)) = (kWs aD B M).set k (B + 1 + k, .inl (aD t, n, .inr (.inr (.inr (.inr (va_up (fun j => kv B (kR M (k + 1) j)) j (some (B + 1 + v)))))))) := by
  refine kWs_set rfl (List.getElem?_eq_some_iff.mp h).1 (fun x hx => ?_) (fun j x hj => kEnt_congr x (fun i => rfl) (fun i => if_neg (by omega)) (fun i => rfl))
  cases h.symm.trans hx
  have e9 : (fun i => kv B (kR (ksR M (k + 1) j (v + 1)) (k + 1) i)) = va_up (fun j => kv B (kR M (k + 1) j)) j (some (B + 1 + v)) := by
    funext i
    unfold va_up
    by_cases hi : i = j
    · subst hi; simp [kR, ksR, kv_succ]
    · simp [kR, ksR, hi]
  rw [← e9]
  unfold kEnt
  rw [if_neg (kay_spec ht).1, if_neg (kay_spec ht).2.1, if_neg (kay_spec ht).2.2.1]
section kRowsD
variable {β : Type} {p : Program} {l : Launch} {e : Env} {R : Room} {s : State} {m : MethodId} {args : Array Value} {below : List Frame} {meth : Method} {c : Code} {cc : ByteArray} {nL : Nat} {own : String} {g : kG} {dep : Nat} {Q : β → State → Prop} {k n : Nat} {o o1 o2 : Option β} {pc : Nat} {lv : List (Nat × Value)} {st : List Value} {M : kMem}
theorem g_getI (q : Nat) (hX : Cok (p, l, e, R, s, m, args, below, meth, c, cc, nL, own, g, dep)) {a ci f i : Nat} {C : String} {T : u_T} {N : Nat} (hc : vwCl[kci ci]? = some (C, T, N)) (h13 : kox ci < 13) (hin : ∀ w ∈ u_ws C T N, w ∈ WT) (hf : f < N) (w : Cond.fieldLink own i (T f).1 (T f).2.1 (T f).2.2.1 ∈ WT) (hk : (kKinds ci)[f]? = some 0) (d : decode cc pc = .ok (.getfield i, 3)) (e9 : pc + 3 = q) (kk : GG (p, l, e, R, s, m, args, below, meth, c, cc, nL, own, g, dep) Q k n o q lv (Value.int (kI M a f) :: st) M) : GG (p, l, e, R, s, m, args, below, meth, c, cc, nL, own, g, dep) Q k n (kg (kt M a ci) o) pc lv (.ref a :: st) M := fun b h H locs ls hH hS hl => by
  subst e9
  obtain ⟨hb, h9⟩ := kg_some h
  obtain ⟨j0, n0, rfl, hj, -⟩ := kt_spec hb
  have kk := kk b h9
  simp only [List.map_cons, kT] at kk ⊢
  rw [kr_succ]
  refine va_get hX.1 hX.2.1 hX.2.2.2.2.1 hin hX.2.2.2.1 hX.2.2.2.2.2.2.2.2.1.1 hH j0 (kEnt_obj hj h13) hc f hf (hX.2.2.2.2.1 _ w) (fun _ h9 => h9) (v := Value.int (kI M (j0 + 1) f)) ?_ d (kk H locs ls hH hS hl)
  rw [kFs_get g.2.2.1 M (j0 + 1) (kKinds ci) 0 f 0 hk, Nat.zero_add]
  rfl
theorem g_getR (q : Nat) (hX : Cok (p, l, e, R, s, m, args, below, meth, c, cc, nL, own, g, dep)) {a ci f i : Nat} {C : String} {T : u_T} {N : Nat} (hc : vwCl[kci ci]? = some (C, T, N)) (h13 : kox ci < 13) (hin : ∀ w ∈ u_ws C T N, w ∈ WT) (hf : f < N) (w : Cond.fieldLink own i (T f).1 (T f).2.1 (T f).2.2.1 ∈ WT) (hk : (kKinds ci)[f]? = some 1) (d : decode cc pc = .ok (.getfield i, 3)) (e9 : pc + 3 = q) (kk : GG (p, l, e, R, s, m, args, below, meth, c, cc, nL, own, g, dep) Q k n o q lv (Value.ref (kR M a f) :: st) M) : GG (p, l, e, R, s, m, args, below, meth, c, cc, nL, own, g, dep) Q k n (kg (kt M a ci) o) pc lv (.ref a :: st) M := fun b h H locs ls hH hS hl => by
  subst e9
  obtain ⟨hb, h9⟩ := kg_some h
  obtain ⟨j0, n0, rfl, hj, -⟩ := kt_spec hb
  have kk := kk b h9
  simp only [List.map_cons, kT] at kk ⊢
  rw [kr_succ]
  refine va_get hX.1 hX.2.1 hX.2.2.2.2.1 hin hX.2.2.2.1 hX.2.2.2.2.2.2.2.2.1.1 hH j0 (kEnt_obj hj h13) hc f hf (hX.2.2.2.2.1 _ w) (fun _ h9 => h9) (v := kr g.2.2.1 (kR M (j0 + 1) f)) ?_ d (kk H locs ls hH hS hl)
  rw [kFs_get g.2.2.1 M (j0 + 1) (kKinds ci) 0 f 1 hk, Nat.zero_add]
  rfl
theorem g_getL (q : Nat) (hX : Cok (p, l, e, R, s, m, args, below, meth, c, cc, nL, own, g, dep)) {a ci f i : Nat} {C : String} {T : u_T} {N : Nat} (hc : vwCl[kci ci]? = some (C, T, N)) (h13 : kox ci < 13) (hin : ∀ w ∈ u_ws C T N, w ∈ WT) (hf : f < N) (w : Cond.fieldLink own i (T f).1 (T f).2.1 (T f).2.2.1 ∈ WT) (hk : (kKinds ci)[f]? = some 2) (d : decode cc pc = .ok (.getfield i, 3)) (e9 : pc + 3 = q) (kk : GG (p, l, e, R, s, m, args, below, meth, c, cc, nL, own, g, dep) Q k n o q lv (Value.long (kL M a f) :: st) M) : GG (p, l, e, R, s, m, args, below, meth, c, cc, nL, own, g, dep) Q k n (kg (kt M a ci) o) pc lv (.ref a :: st) M := fun b h H locs ls hH hS hl => by
  subst e9
  obtain ⟨hb, h9⟩ := kg_some h
  obtain ⟨j0, n0, rfl, hj, -⟩ := kt_spec hb
  have kk := kk b h9
  simp only [List.map_cons, kT] at kk ⊢
  rw [kr_succ]
  refine va_get hX.1 hX.2.1 hX.2.2.2.2.1 hin hX.2.2.2.1 hX.2.2.2.2.2.2.2.2.1.1 hH j0 (kEnt_obj hj h13) hc f hf (hX.2.2.2.2.1 _ w) (fun _ h9 => h9) (v := Value.long (kL M (j0 + 1) f)) ?_ d (kk H locs ls hH hS hl)
  rw [kFs_get g.2.2.1 M (j0 + 1) (kKinds ci) 0 f 2 hk, Nat.zero_add]
  rfl
theorem g_getJ (q : Nat) (hX : Cok (p, l, e, R, s, m, args, below, meth, c, cc, nL, own, g, dep)) {a ci f i : Nat} {C : String} {T : u_T} {N : Nat} (hc : vwCl[kci ci]? = some (C, T, N)) (h13 : kox ci < 13) (hin : ∀ w ∈ u_ws C T N, w ∈ WT) (hf : f < N) (w : Cond.fieldLink own i (T f).1 (T f).2.1 (T f).2.2.1 ∈ WT) (hk : (kKinds ci)[f]? = some 3) (d : decode cc pc = .ok (.getfield i, 3)) (e9 : pc + 3 = q) (kk : GG (p, l, e, R, s, m, args, below, meth, c, cc, nL, own, g, dep) Q k n o q lv (Value.long (kJ M a f) :: st) M) : GG (p, l, e, R, s, m, args, below, meth, c, cc, nL, own, g, dep) Q k n (kg (kt M a ci) o) pc lv (.ref a :: st) M := fun b h H locs ls hH hS hl => by
  subst e9
  obtain ⟨hb, h9⟩ := kg_some h
  obtain ⟨j0, n0, rfl, hj, -⟩ := kt_spec hb
  have kk := kk b h9
  simp only [List.map_cons, kT] at kk ⊢
  rw [kr_succ]
  refine va_get hX.1 hX.2.1 hX.2.2.2.2.1 hin hX.2.2.2.1 hX.2.2.2.2.2.2.2.2.1.1 hH j0 (kEnt_obj hj h13) hc f hf (hX.2.2.2.2.1 _ w) (fun _ h9 => h9) (v := Value.long (kJ M (j0 + 1) f)) ?_ d (kk H locs ls hH hS hl)
  rw [kFs_get g.2.2.1 M (j0 + 1) (kKinds ci) 0 f 3 hk, Nat.zero_add]
  rfl
theorem g_putI (q : Nat) (hX : Cok (p, l, e, R, s, m, args, below, meth, c, cc, nL, own, g, dep)) {a ci f i : Nat} {C : String} {T : u_T} {N : Nat} {ty0 : Nat → FieldType} {v : Int32} (hc : vwCl[kci ci]? = some (C, T, N)) (h13 : kox ci < 13) (hin : ∀ w ∈ u_ws C T N, w ∈ WT) (hf : f < N) (w : Cond.fieldLink own i (T f).1 (T f).2.1 (T f).2.2.1 ∈ WT) (hty : ∀ k, k < N → parseFieldDescriptor (T k).2.2.1 = some (ty0 k)) (hnm : ∀ a, a < N → ∀ b, b < N → a ≠ b → (T a).2.1 ≠ (T b).2.1) (hlen : (kKinds ci).length = N) (hfin : (T f).2.2.2 = false) (hd : parseFieldDescriptor (T f).2.2.1 = some .int) (hk : (kKinds ci)[f]? = some 0) (d : decode cc pc = .ok (.putfield i, 3)) (e9 : pc + 3 = q) (kk : GG (p, l, e, R, s, m, args, below, meth, c, cc, nL, own, g, dep) Q k n o q lv st (ksI M a f v)) : GG (p, l, e, R, s, m, args, below, meth, c, cc, nL, own, g, dep) Q k n (kg (kt M a ci) o) pc lv (.int v :: .ref a :: st) M := fun b h H locs ls hH hS hl => by
  subst e9
  obtain ⟨hb, h9⟩ := kg_some h
  obtain ⟨j0, n0, rfl, hj, -⟩ := kt_spec hb
  have kk := kk b h9
  simp only [List.map_cons, kT] at kk ⊢
  rw [kr_succ]
  refine va_put hX.1 hX.2.1 hX.2.2.2.2.1 hin ty0 hty hnm hX.2.2.2.1 hX.2.2.2.2.2.2.2.2.1.1 hH (kWs_D _ _ _) hS j0 (kEnt_obj hj h13) hc f hf (hX.2.2.2.2.1 _ w) (fun _ h9 => h9) hfin (v := .int v) hd rfl rfl (by rw [kFs_len, hlen]; exact hf) d (fun H1 locs1 hP1 hD1 hS1 => ?_)
  refine kk H1 locs1 ls (show va_P _ _ _ _ from ?_) hS1 hl
  rw [kWs_setI v hj h13 hk]
  exact hP1
theorem g_putZ (q : Nat) (hX : Cok (p, l, e, R, s, m, args, below, meth, c, cc, nL, own, g, dep)) {a ci f i : Nat} {C : String} {T : u_T} {N : Nat} {ty0 : Nat → FieldType} {v : Int32} (hc : vwCl[kci ci]? = some (C, T, N)) (h13 : kox ci < 13) (hin : ∀ w ∈ u_ws C T N, w ∈ WT) (hf : f < N) (w : Cond.fieldLink own i (T f).1 (T f).2.1 (T f).2.2.1 ∈ WT) (hty : ∀ k, k < N → parseFieldDescriptor (T k).2.2.1 = some (ty0 k)) (hnm : ∀ a, a < N → ∀ b, b < N → a ≠ b → (T a).2.1 ≠ (T b).2.1) (hlen : (kKinds ci).length = N) (hfin : (T f).2.2.2 = false) (hd : parseFieldDescriptor (T f).2.2.1 = some .boolean) (hk : (kKinds ci)[f]? = some 0) (d : decode cc pc = .ok (.putfield i, 3)) (e9 : pc + 3 = q) (kk : GG (p, l, e, R, s, m, args, below, meth, c, cc, nL, own, g, dep) Q k n o q lv st (ksI M a f v)) : GG (p, l, e, R, s, m, args, below, meth, c, cc, nL, own, g, dep) Q k n (kg (kt M a ci && (v == 0 || v == 1)) o) pc lv (.int v :: .ref a :: st) M := fun b h H locs ls hH hS hl => by
  subst e9
  obtain ⟨hb, h9⟩ := kg_some h
  simp only [Bool.and_eq_true, Bool.or_eq_true, beq_iff_eq] at hb
  obtain ⟨hb, hv⟩ := hb
  have hv9 : narrow .boolean (.int v) = .int v := by rcases hv with rfl | rfl <;> rfl
  have hv8 : fits .boolean (.int v) = true := by rcases hv with rfl | rfl <;> rfl
  obtain ⟨j0, n0, rfl, hj, -⟩ := kt_spec hb
  have kk := kk b h9
  simp only [List.map_cons, kT] at kk ⊢
  rw [kr_succ]
  refine va_put hX.1 hX.2.1 hX.2.2.2.2.1 hin ty0 hty hnm hX.2.2.2.1 hX.2.2.2.2.2.2.2.2.1.1 hH (kWs_D _ _ _) hS j0 (kEnt_obj hj h13) hc f hf (hX.2.2.2.2.1 _ w) (fun _ h9 => h9) hfin (v := .int v) hd hv9 hv8 (by rw [kFs_len, hlen]; exact hf) d (fun H1 locs1 hP1 hD1 hS1 => ?_)
  refine kk H1 locs1 ls (show va_P _ _ _ _ from ?_) hS1 hl
  rw [kWs_setI v hj h13 hk]
  exact hP1
theorem g_putL (q : Nat) (hX : Cok (p, l, e, R, s, m, args, below, meth, c, cc, nL, own, g, dep)) {a ci f i : Nat} {C : String} {T : u_T} {N : Nat} {ty0 : Nat → FieldType} {v : Int64} (hc : vwCl[kci ci]? = some (C, T, N)) (h13 : kox ci < 13) (hin : ∀ w ∈ u_ws C T N, w ∈ WT) (hf : f < N) (w : Cond.fieldLink own i (T f).1 (T f).2.1 (T f).2.2.1 ∈ WT) (hty : ∀ k, k < N → parseFieldDescriptor (T k).2.2.1 = some (ty0 k)) (hnm : ∀ a, a < N → ∀ b, b < N → a ≠ b → (T a).2.1 ≠ (T b).2.1) (hlen : (kKinds ci).length = N) (hfin : (T f).2.2.2 = false) (hd : parseFieldDescriptor (T f).2.2.1 = some .long) (hk : (kKinds ci)[f]? = some 2) (d : decode cc pc = .ok (.putfield i, 3)) (e9 : pc + 3 = q) (kk : GG (p, l, e, R, s, m, args, below, meth, c, cc, nL, own, g, dep) Q k n o q lv st (ksL M a f v)) : GG (p, l, e, R, s, m, args, below, meth, c, cc, nL, own, g, dep) Q k n (kg (kt M a ci) o) pc lv (.long v :: .ref a :: st) M := fun b h H locs ls hH hS hl => by
  subst e9
  obtain ⟨hb, h9⟩ := kg_some h
  obtain ⟨j0, n0, rfl, hj, -⟩ := kt_spec hb
  have kk := kk b h9
  simp only [List.map_cons, kT] at kk ⊢
  rw [kr_succ]
  refine va_put hX.1 hX.2.1 hX.2.2.2.2.1 hin ty0 hty hnm hX.2.2.2.1 hX.2.2.2.2.2.2.2.2.1.1 hH (kWs_D _ _ _) hS j0 (kEnt_obj hj h13) hc f hf (hX.2.2.2.2.1 _ w) (fun _ h9 => h9) hfin (v := .long v) hd rfl rfl (by rw [kFs_len, hlen]; exact hf) d (fun H1 locs1 hP1 hD1 hS1 => ?_)
  refine kk H1 locs1 ls (show va_P _ _ _ _ from ?_) hS1 hl
  rw [kWs_setL v hj h13 hk]
  exact hP1
theorem g_putJ (q : Nat) (hX : Cok (p, l, e, R, s, m, args, below, meth, c, cc, nL, own, g, dep)) {a ci f i : Nat} {C : String} {T : u_T} {N : Nat} {ty0 : Nat → FieldType} {v : Int64} (hc : vwCl[kci ci]? = some (C, T, N)) (h13 : kox ci < 13) (hin : ∀ w ∈ u_ws C T N, w ∈ WT) (hf : f < N) (w : Cond.fieldLink own i (T f).1 (T f).2.1 (T f).2.2.1 ∈ WT) (hty : ∀ k, k < N → parseFieldDescriptor (T k).2.2.1 = some (ty0 k)) (hnm : ∀ a, a < N → ∀ b, b < N → a ≠ b → (T a).2.1 ≠ (T b).2.1) (hlen : (kKinds ci).length = N) (hfin : (T f).2.2.2 = false) (hd : parseFieldDescriptor (T f).2.2.1 = some .long) (hk : (kKinds ci)[f]? = some 3) (d : decode cc pc = .ok (.putfield i, 3)) (e9 : pc + 3 = q) (kk : GG (p, l, e, R, s, m, args, below, meth, c, cc, nL, own, g, dep) Q k n o q lv st (ksJ M a f v)) : GG (p, l, e, R, s, m, args, below, meth, c, cc, nL, own, g, dep) Q k n (kg (kt M a ci) o) pc lv (.long v :: .ref a :: st) M := fun b h H locs ls hH hS hl => by
  subst e9
  obtain ⟨hb, h9⟩ := kg_some h
  obtain ⟨j0, n0, rfl, hj, -⟩ := kt_spec hb
  have kk := kk b h9
  simp only [List.map_cons, kT] at kk ⊢
  rw [kr_succ]
  refine va_put hX.1 hX.2.1 hX.2.2.2.2.1 hin ty0 hty hnm hX.2.2.2.1 hX.2.2.2.2.2.2.2.2.1.1 hH (kWs_D _ _ _) hS j0 (kEnt_obj hj h13) hc f hf (hX.2.2.2.2.1 _ w) (fun _ h9 => h9) hfin (v := .long v) hd rfl rfl (by rw [kFs_len, hlen]; exact hf) d (fun H1 locs1 hP1 hD1 hS1 => ?_)
  refine kk H1 locs1 ls (show va_P _ _ _ _ from ?_) hS1 hl
  rw [kWs_setJ v hj h13 hk]
  exact hP1
theorem g_putFI (q : Nat) (hX : Cok (p, l, e, R, s, m, args, below, meth, c, cc, nL, own, g, dep)) {a ci f i : Nat} {C : String} {T : u_T} {N : Nat} {ty0 : Nat → FieldType} {v : Int32} (hc : vwCl[kci ci]? = some (C, T, N)) (h13 : kox ci < 13) (hin : ∀ w ∈ u_ws C T N, w ∈ WT) (hf : f < N) (w : Cond.fieldLink own i (T f).1 (T f).2.1 (T f).2.2.1 ∈ WT) (hty : ∀ k, k < N → parseFieldDescriptor (T k).2.2.1 = some (ty0 k)) (hnm : ∀ a, a < N → ∀ b, b < N → a ≠ b → (T a).2.1 ≠ (T b).2.1) (hlen : (kKinds ci).length = N) (hfin : (T f).2.2.2 = true) (hini : meth.name = "<init>") (hdecl : (T f).1 = own) (hd : parseFieldDescriptor (T f).2.2.1 = some .int) (hk : (kKinds ci)[f]? = some 0) (d : decode cc pc = .ok (.putfield i, 3)) (e9 : pc + 3 = q) (kk : GG (p, l, e, R, s, m, args, below, meth, c, cc, nL, own, g, dep) Q k n o q lv st (ksI M a f v)) : GG (p, l, e, R, s, m, args, below, meth, c, cc, nL, own, g, dep) Q k n (kg (kt M a ci) o) pc lv (.int v :: .ref a :: st) M := fun b h H locs ls hH hS hl => by
  subst e9
  obtain ⟨hb, h9⟩ := kg_some h
  obtain ⟨j0, n0, rfl, hj, -⟩ := kt_spec hb
  have kk := kk b h9
  simp only [List.map_cons, kT] at kk ⊢
  rw [kr_succ]
  refine va_putF hX.1 hX.2.1 hX.2.2.2.2.1 hin ty0 hty hnm hX.2.2.2.1 hX.2.2.2.2.2.2.2.2.1.1 hH (kWs_D _ _ _) hS j0 (kEnt_obj hj h13) hc f hf (hX.2.2.2.2.1 _ w) (fun _ h9 => h9) hfin hini hdecl (v := .int v) hd rfl rfl (by rw [kFs_len, hlen]; exact hf) d (fun H1 locs1 hP1 hD1 hS1 => ?_)
  refine kk H1 locs1 ls (show va_P _ _ _ _ from ?_) hS1 hl
  rw [kWs_setI v hj h13 hk]
  exact hP1
theorem g_putFR (q : Nat) (hX : Cok (p, l, e, R, s, m, args, below, meth, c, cc, nL, own, g, dep)) {a ci f i : Nat} {C : String} {T : u_T} {N : Nat} {ty0 : Nat → FieldType} {v : Nat} (hc : vwCl[kci ci]? = some (C, T, N)) (h13 : kox ci < 13) (hin : ∀ w ∈ u_ws C T N, w ∈ WT) (hf : f < N) (w : Cond.fieldLink own i (T f).1 (T f).2.1 (T f).2.2.1 ∈ WT) (hty : ∀ k, k < N → parseFieldDescriptor (T k).2.2.1 = some (ty0 k)) (hnm : ∀ a, a < N → ∀ b, b < N → a ≠ b → (T a).2.1 ≠ (T b).2.1) (hlen : (kKinds ci).length = N) (hfin : (T f).2.2.2 = true) (hini : meth.name = "<init>") (hdecl : (T f).1 = own) {ty : FieldType} (hd : parseFieldDescriptor (T f).2.2.1 = some ty) (hrt : (∃ n, ty = .object n) ∨ ∃ t, ty = .array t) (hk : (kKinds ci)[f]? = some 1) (d : decode cc pc = .ok (.putfield i, 3)) (e9 : pc + 3 = q) (kk : GG (p, l, e, R, s, m, args, below, meth, c, cc, nL, own, g, dep) Q k n o q lv st (ksR M a f v)) : GG (p, l, e, R, s, m, args, below, meth, c, cc, nL, own, g, dep) Q k n (kg (kt M a ci) o) pc lv (.ref v :: .ref a :: st) M := fun b h H locs ls hH hS hl => by
  subst e9
  obtain ⟨hb, h9⟩ := kg_some h
  obtain ⟨j0, n0, rfl, hj, -⟩ := kt_spec hb
  have kk := kk b h9
  simp only [List.map_cons, kT] at kk ⊢
  rw [kr_succ]
  refine va_putF hX.1 hX.2.1 hX.2.2.2.2.1 hin ty0 hty hnm hX.2.2.2.1 hX.2.2.2.2.2.2.2.2.1.1 hH (kWs_D _ _ _) hS j0 (kEnt_obj hj h13) hc f hf (hX.2.2.2.2.1 _ w) (fun _ h9 => h9) hfin hini hdecl (v := kr g.2.2.1 v) hd (by rcases hrt with ⟨n, rfl⟩ | ⟨t, rfl⟩ <;> (by_cases hv : v = 0 <;> first | (subst hv; rfl) | (rw [kr_pos _ hv]; rfl))) (by rcases hrt with ⟨n, rfl⟩ | ⟨t, rfl⟩ <;> (by_cases hv : v = 0 <;> first | (subst hv; rfl) | (rw [kr_pos _ hv]; rfl))) (by rw [kFs_len, hlen]; exact hf) d (fun H1 locs1 hP1 hD1 hS1 => ?_)
  refine kk H1 locs1 ls (show va_P _ _ _ _ from ?_) hS1 hl
  rw [kWs_setR v hj h13 hk]
  exact hP1
theorem g_iald (q : Nat) (hX : Cok (p, l, e, R, s, m, args, below, meth, c, cc, nL, own, g, dep)) {a : Nat} {i : Int32} (d : decode cc pc = .ok (.iaload, 1)) (e9 : pc + 1 = q) (kk : GG (p, l, e, R, s, m, args, below, meth, c, cc, nL, own, g, dep) Q k n o q lv (.int (kI M a (kx i)) :: st) M) : GG (p, l, e, R, s, m, args, below, meth, c, cc, nL, own, g, dep) Q k n (kg (kin M a 13 i) o) pc lv (.int i :: .ref a :: st) M := fun b h H locs ls hH hS hl => by
  subst e9
  obtain ⟨hb, h9⟩ := kg_some h
  obtain ⟨j0, n0, rfl, hj, hn, hvi, hlt⟩ := kin_spec hb
  have kk := kk b h9
  simp only [List.map_cons, kT] at kk ⊢
  rw [kr_succ]
  exact va_iald hX.1 hX.2.1 hX.2.2.2.2.2.2.2.2.1.1 hH j0 0 (kEnt_int hj (Or.inl rfl)) rfl hvi d (kk H locs ls hH hS hl)
theorem g_zald (q : Nat) (hX : Cok (p, l, e, R, s, m, args, below, meth, c, cc, nL, own, g, dep)) {a : Nat} {i : Int32} (d : decode cc pc = .ok (.baload, 1)) (e9 : pc + 1 = q) (kk : GG (p, l, e, R, s, m, args, below, meth, c, cc, nL, own, g, dep) Q k n o q lv (.int (kI M a (kx i)) :: st) M) : GG (p, l, e, R, s, m, args, below, meth, c, cc, nL, own, g, dep) Q k n (kg (kin M a 14 i) o) pc lv (.int i :: .ref a :: st) M := fun b h H locs ls hH hS hl => by
  subst e9
  obtain ⟨hb, h9⟩ := kg_some h
  obtain ⟨j0, n0, rfl, hj, hn, hvi, hlt⟩ := kin_spec hb
  have kk := kk b h9
  simp only [List.map_cons, kT] at kk ⊢
  rw [kr_succ]
  exact va_zald hX.1 hX.2.1 hX.2.2.2.2.2.2.2.2.1.1 hH j0 1 (kEnt_int hj (Or.inr rfl)) rfl hvi d (kk H locs ls hH hS hl)
theorem g_aald (t t0 : Nat) (q : Nat) (hX : Cok (p, l, e, R, s, m, args, below, meth, c, cc, nL, own, g, dep)) {a : Nat} {i : Int32} (C : String) (ht : 15 < kay t) (ht0 : (kTys g.1)[t0]? = some (g.1 t, .object C)) (d : decode cc pc = .ok (.aaload, 1)) (e9 : pc + 1 = q) (kk : GG (p, l, e, R, s, m, args, below, meth, c, cc, nL, own, g, dep) Q k n o q lv (.ref (kR M a (kx i)) :: st) M) : GG (p, l, e, R, s, m, args, below, meth, c, cc, nL, own, g, dep) Q k n (kg (kin M a t i) o) pc lv (.int i :: .ref a :: st) M := fun b h H locs ls hH hS hl => by
  subst e9
  obtain ⟨hb, h9⟩ := kg_some h
  obtain ⟨j0, n0, rfl, hj, hn, hvi, hlt⟩ := kin_spec hb
  have kk := kk b h9
  simp only [List.map_cons, kT] at kk ⊢
  rw [kr_succ]
  exact va_aldq hX.1 hX.2.1 hX.2.2.2.2.2.2.2.2.1.1 hH j0 t0 (kEnt_ref hj ht) ht0 hvi d (kk H locs ls hH hS hl)
theorem g_iast (q : Nat) (hX : Cok (p, l, e, R, s, m, args, below, meth, c, cc, nL, own, g, dep)) {a : Nat} {i v : Int32} (d : decode cc pc = .ok (.iastore, 1)) (e9 : pc + 1 = q) (kk : GG (p, l, e, R, s, m, args, below, meth, c, cc, nL, own, g, dep) Q k n o q lv st (ksI M a (kx i) v)) : GG (p, l, e, R, s, m, args, below, meth, c, cc, nL, own, g, dep) Q k n (kg (kin M a 13 i) o) pc lv (.int v :: .int i :: .ref a :: st) M := fun b h H locs ls hH hS hl => by
  subst e9
  obtain ⟨hb, h9⟩ := kg_some h
  obtain ⟨j0, n0, rfl, hj, hn, hvi, hlt⟩ := kin_spec hb
  have kk := kk b h9
  simp only [List.map_cons, kT] at kk ⊢
  rw [kr_succ]
  refine va_iast hX.1 hX.2.1 hX.2.2.2.2.2.2.2.2.1.1 hH (kWs_D _ _ _) hS j0 0 (kEnt_int hj (Or.inl rfl)) rfl hvi d (fun H1 locs1 hP1 hD1 hS1 => ?_)
  refine kk H1 locs1 ls (show va_P _ _ _ _ from ?_) hS1 hl
  rw [kWs_upI v hj (Or.inl rfl)]
  exact hP1
theorem g_zast (q : Nat) (hX : Cok (p, l, e, R, s, m, args, below, meth, c, cc, nL, own, g, dep)) {a : Nat} {i v : Int32} (d : decode cc pc = .ok (.bastore, 1)) (e9 : pc + 1 = q) (kk : GG (p, l, e, R, s, m, args, below, meth, c, cc, nL, own, g, dep) Q k n o q lv st (ksI M a (kx i) v)) : GG (p, l, e, R, s, m, args, below, meth, c, cc, nL, own, g, dep) Q k n (kg (kin M a 14 i && (v == 0 || v == 1)) o) pc lv (.int v :: .int i :: .ref a :: st) M := fun b h H locs ls hH hS hl => by
  subst e9
  obtain ⟨hb, h9⟩ := kg_some h
  simp only [Bool.and_eq_true, Bool.or_eq_true, beq_iff_eq] at hb
  obtain ⟨hb, hv⟩ := hb
  have hv9 : vp_nar .boolean v = v := by rcases hv with rfl | rfl <;> rfl
  obtain ⟨j0, n0, rfl, hj, hn, hvi, hlt⟩ := kin_spec hb
  have kk := kk b h9
  simp only [List.map_cons, kT] at kk ⊢
  rw [kr_succ]
  refine va_zast hX.1 hX.2.1 hX.2.2.2.2.2.2.2.2.1.1 hH (kWs_D _ _ _) hS j0 1 (kEnt_int hj (Or.inr rfl)) rfl hvi d (fun H1 locs1 hP1 hD1 hS1 => ?_)
  refine kk H1 locs1 ls (show va_P _ _ _ _ from ?_) hS1 hl
  rw [kWs_upI v hj (Or.inr rfl)]
  rw [hv9] at hP1
  exact hP1
theorem g_aast (t t0 ci : Nat) (q : Nat) (hX : Cok (p, l, e, R, s, m, args, below, meth, c, cc, nL, own, g, dep)) {a v : Nat} {i : Int32} {C : String} {T : u_T} {N : Nat} (hc : vwCl[kci ci]? = some (C, T, N)) (h13 : kox ci < 13) (ht : 15 < kay t) (ht0 : (kTys g.1)[t0]? = some (g.1 t, .object C)) (d : decode cc pc = .ok (.aastore, 1)) (e9 : pc + 1 = q) (kk : GG (p, l, e, R, s, m, args, below, meth, c, cc, nL, own, g, dep) Q k n o q lv st (ksR M a (kx i) v)) : GG (p, l, e, R, s, m, args, below, meth, c, cc, nL, own, g, dep) Q k n (kg (kin M a t i && kt M v ci) o) pc lv (.ref v :: .int i :: .ref a :: st) M := fun b h H locs ls hH hS hl => by
  subst e9
  obtain ⟨hb, h9⟩ := kg_some h
  simp only [Bool.and_eq_true] at hb
  obtain ⟨hb, hv⟩ := hb
  obtain ⟨j1, n1, rfl, hj1, -⟩ := kt_spec hv
  obtain ⟨j0, n0, rfl, hj, hn, hvi, hlt⟩ := kin_spec hb
  have kk := kk b h9
  simp only [List.map_cons, kT] at kk ⊢
  rw [kr_succ, kr_succ]
  refine va_astq hX.1 hX.2.1 hX.2.2.2.2.2.2.2.2.1.1 hH (kWs_D _ _ _) hS j0 t0 j1 (kci ci) (r := (C, T, N)) (kEnt_ref hj ht) ht0 (kEnt_obj hj1 h13) hc hvi d (fun H1 locs1 hP1 hD1 hS1 => ?_)
  refine kk H1 locs1 ls (show va_P _ _ _ _ from ?_) hS1 hl
  rw [kWs_upR hj ht]
  exact hP1
theorem g_alen13 (q : Nat) (hX : Cok (p, l, e, R, s, m, args, below, meth, c, cc, nL, own, g, dep)) {a : Nat} (d : decode cc pc = .ok (.arraylength, 1)) (e9 : pc + 1 = q) (kk : GG (p, l, e, R, s, m, args, below, meth, c, cc, nL, own, g, dep) Q k n o q lv (.int (Int32.ofNat (kn M a)) :: st) M) : GG (p, l, e, R, s, m, args, below, meth, c, cc, nL, own, g, dep) Q k n (kg (kt M a 13) o) pc lv (.ref a :: st) M := fun b h H locs ls hH hS hl => by
  subst e9
  obtain ⟨hb, h9⟩ := kg_some h
  obtain ⟨j0, n0, rfl, hj, hn⟩ := kt_spec hb
  have kk := kk b h9
  simp only [List.map_cons, kT] at kk ⊢
  rw [kr_succ]
  exact va_alen hX.1 hX.2.1 hX.2.2.2.2.2.2.2.2.1.1 hH j0 0 (kEnt_int hj (Or.inl rfl)) rfl (by rw [hn]) d (kk H locs ls hH hS hl)
theorem g_alen14 (q : Nat) (hX : Cok (p, l, e, R, s, m, args, below, meth, c, cc, nL, own, g, dep)) {a : Nat} (d : decode cc pc = .ok (.arraylength, 1)) (e9 : pc + 1 = q) (kk : GG (p, l, e, R, s, m, args, below, meth, c, cc, nL, own, g, dep) Q k n o q lv (.int (Int32.ofNat (kn M a)) :: st) M) : GG (p, l, e, R, s, m, args, below, meth, c, cc, nL, own, g, dep) Q k n (kg (kt M a 14) o) pc lv (.ref a :: st) M := fun b h H locs ls hH hS hl => by
  subst e9
  obtain ⟨hb, h9⟩ := kg_some h
  obtain ⟨j0, n0, rfl, hj, hn⟩ := kt_spec hb
  have kk := kk b h9
  simp only [List.map_cons, kT] at kk ⊢
  rw [kr_succ]
  exact va_alen hX.1 hX.2.1 hX.2.2.2.2.2.2.2.2.1.1 hH j0 1 (kEnt_int hj (Or.inr rfl)) rfl (by rw [hn]) d (kk H locs ls hH hS hl)
theorem g_alenR (t t0 : Nat) (q : Nat) (hX : Cok (p, l, e, R, s, m, args, below, meth, c, cc, nL, own, g, dep)) {a : Nat} (C : String) (ht : 15 < kay t) (ht0 : (kTys g.1)[t0]? = some (g.1 t, .object C)) (d : decode cc pc = .ok (.arraylength, 1)) (e9 : pc + 1 = q) (kk : GG (p, l, e, R, s, m, args, below, meth, c, cc, nL, own, g, dep) Q k n o q lv (.int (Int32.ofNat (kn M a)) :: st) M) : GG (p, l, e, R, s, m, args, below, meth, c, cc, nL, own, g, dep) Q k n (kg (kt M a t) o) pc lv (.ref a :: st) M := fun b h H locs ls hH hS hl => by
  subst e9
  obtain ⟨hb, h9⟩ := kg_some h
  obtain ⟨j0, n0, rfl, hj, hn⟩ := kt_spec hb
  have kk := kk b h9
  simp only [List.map_cons, kT] at kk ⊢
  rw [kr_succ]
  exact va_alen hX.1 hX.2.1 hX.2.2.2.2.2.2.2.2.1.1 hH j0 t0 (kEnt_ref hj ht) ht0 (by rw [hn]) d (kk H locs ls hH hS hl)
end kRowsD
theorem kJdk_move {B : Nat} {aD : Nat → Nat} {s U : State} {H : Heap} {locs : List Loc} (h : kJdk B aD s s.heap) (hS : va_S (kZ B) s.heap H locs) (hvm : s.vm.Alike U.vm) : kJdk B aD U H := by
  obtain ⟨⟨h1, h2⟩, ⟨h3, h4, h5, h6⟩, ⟨h7, h8⟩, h9, h10⟩ := h
  have hq : ∀ a : Nat, a < s.heap.size → ¬ kZ B a → H[a]? = s.heap[a]? := hS.2.1
  exact ⟨⟨va_Z.moved hvm (h1.kept hq), va_T.moved hvm (h2.kept hq)⟩, ⟨va_Z.moved hvm (h3.kept hq), va_Z.moved hvm (h4.kept hq), va_T.moved hvm (h5.kept hq), vb_C.moved hvm (h6.kept hq)⟩, ⟨va_Z.moved hvm (h7.kept hq), va_T.moved hvm (h8.kept hq)⟩, va_Z.moved hvm (h9.kept hq), va_T.moved hvm (h10.kept hq)⟩
theorem kOut_move {aD : Nat → ClassId} {B : Nat} {aS aV : Nat → Nat} {s U : State} {H : Heap} {locs : List Loc} (h : kOut aD B aS aV s s.heap) (hS : va_S (kZ B) s.heap H locs) (hvm : s.vm.Alike U.vm) : kOut aD B aS aV U H := by
  obtain ⟨h1, h2, h5, h6⟩ := h
  have hq : ∀ a : Nat, a < s.heap.size → ¬ kZ B a → H[a]? = s.heap[a]? := hS.2.1
  exact ⟨fun i hi => ⟨va_O.moved hvm ((h1 i hi).1.kept hq), va_OF.moved hvm ((h1 i hi).2.1.kept hq), va_OF.moved hvm ((h1 i hi).2.2.1.kept hq), va_T.moved hvm ((h1 i hi).2.2.2.kept hq)⟩, va_Z.moved hvm (h2.kept hq), va_Zq.moved hvm (h5.kept hq), kJdk_move h6 hS hvm⟩
theorem kTab_warm {aD : Nat → ClassId} {D : va_G} {aS : Nat → Nat} {s U : State} (h : kTab aD D aS s) (hW : s.WarmedH U.vm) : kTab aD D aS U := by
  obtain ⟨h1, ⟨h2, h3, h4, h5, h50⟩, h6⟩ := h
  exact ⟨va_K.moved hW.alike h1, ⟨va_AO.moved hW.alike h2, va_AO.moved hW.alike h3, va_AO.moved hW.alike h4, va_AO.moved hW.alike h5, va_AO.moved hW.alike h50⟩, fun i q hi => vk_R.warm hW (h6.1 i q hi), fun q hq => va_Nw.warmM hW (h6.2.1 q hq), kExc.warm hW h6.2.2⟩
theorem kP_same {g : kG} {M : kMem} {u U : State} (hv : U.vm = u.vm) (hh : U.heap = u.heap) (h : kP g M u) : kP g M U := by
  obtain ⟨h1, h2, h3⟩ := h
  have hal : u.vm.Alike U.vm := by rw [hv]; exact Vm.Alike.refl _
  refine ⟨by rw [hh]; exact h1, ?_, ?_⟩
  · rw [hh]
    exact kOut_move (locs := []) h2 va_S.rf hal
  · obtain ⟨h4, ⟨h5, h6, h7, h8, h80⟩, h9⟩ := h3
    exact ⟨va_K.moved hal h4, ⟨va_AO.moved hal h5, va_AO.moved hal h6, va_AO.moved hal h7, va_AO.moved hal h8, va_AO.moved hal h80⟩, fun i q hi => vk_R.same hv (h9.1 i q hi), fun q hq => va_Nw.same rfl hv.symm (h9.2.1 q hq), kExc.same hv.symm h9.2.2⟩
theorem kP_blind (av : List Value) (g : kG) (M : kMem) : FrameBlind (va_Pc av (kP g M)) := fun a U gf mk q => ⟨q.1, kP_same rfl rfl q.2⟩
section kCalls
variable {β β2 : Type} {p : Program} {l : Launch} {e : Env} {R : Room} {s : State} {m : MethodId} {args : Array Value} {below : List Frame} {meth : Method} {c : Code} {cc : ByteArray} {nL : Nat} {own : String} {g : kG} {dep : Nat} {Q : β → State → Prop} {k n : Nat} {o : Option β} {pc : Nat} {lv : List (Nat × Value)} {st : List Value} {M : kMem}
theorem kP_at {H : Heap} {locs : List Loc} (hX : Cok (p, l, e, R, s, m, args, below, meth, c, cc, nL, own, g, dep)) (hH : kHd g.1 g.2.1 g.2.2.1 M H) (hS : va_S (kZ g.2.2.1) s.heap H locs) (U : State) (hU : U.heap = H) (hW : s.WarmedH U.vm) : kP g M U :=
  ⟨⟨by rw [hU]; exact hH, by rw [hU]; exact Nat.le_trans hX.2.2.2.2.2.2.1 hS.1⟩, by rw [hU]; exact kOut_move hX.2.2.2.2.2.2.2.1 hS hW.alike, kTab_warm hX.2.2.2.2.2.2.2.2.1 hW⟩
theorem kZ_in (hX : Cok (p, l, e, R, s, m, args, below, meth, c, cc, nL, own, g, dep)) : ∀ q, s.heap.size ≤ q → kZ g.2.2.1 q := fun q h => Nat.le_trans hX.2.2.2.2.2.2.1 h
theorem k_after {Q0 : State → Prop} {H : Heap} {locs : List Loc} {mc ms : Nat} {ls : Array Slot} {st0 rest : List Value} {a : Array Value} {r : Option Value × kMem}
    (hr : va_Run p l e R s m args below meth c H locs k n mc ms (F0 m pc ls st0) rest (kQ g r a) (kZ g.2.2.1)) (hS : va_S (kZ g.2.2.1) s.heap H locs)
    (kk : ∀ (H1 : Heap) (locs1 : List Loc), kHd g.1 g.2.1 g.2.2.1 r.2 H1 → va_S (kZ g.2.2.1) s.heap H1 locs1 → W p l e R s m args below meth c H1 locs1 (k + mc) (n + ms) Q0 (F0 m (pc + 3) ls ((r.1.map (kT g.2.2.1)).toList ++ rest))) :
    W p l e R s m args below meth c H locs k n Q0 (F0 m pc ls st0) := by
  intro T hT X
  obtain ⟨v, st₀, t, T', L, h0, X', hL, e1, e2, ⟨hv, hH1, hz, hk⟩, st⟩ := hr T hT X
  have hv2 : v = r.1.map (kT g.2.2.1) := by injection hv
  subst hv2
  rw [h0] at hz hk
  obtain ⟨t2, a1, b1⟩ := kk T'.heap (locs ++ L) (by rw [e1]; exact hH1)
    ⟨Nat.le_trans hS.1 (by rw [e1]; exact hz), fun q h1 h2 => by rw [e1, hk q (Nat.lt_of_lt_of_le h1 hS.1) h2]; exact hS.2.1 q h1 h2, fun q hq => by
      rcases List.mem_append.mp hq with h | h
      · exact hS.2.2 q h
      · exact hL q h⟩ T' rfl X'
  exact ⟨t2, st t2 a1, b1⟩
/-- what the tables say of a call, but its contract -/
def kLk (y : MethodName) (bc : ByteArray) (nLc : Nat) (ret : Option FieldType) (nA : Nat) : Prop := Cond.code y bc nLc ret ∈ WT ∧ Cond.instanceMethod y ∈ WT ∧ Cond.initialized y.cls ∈ WT ∧ (y.cls ≠ "java/lang/invoke/MethodHandle" ∧ y.cls ≠ "java/lang/invoke/VarHandle" ∧ (parseMethodDescriptor y.desc).map (fun d => d.parameters.length) = some nA) ∧ nLc ≤ 41
def kLs (y : MethodName) (bc : ByteArray) (nLc : Nat) (ret : Option FieldType) (nA : Nat) : Prop := Cond.code y bc nLc ret ∈ WT ∧ Cond.static y ∈ WT ∧ Cond.initialized y.cls ∈ WT ∧ (y.cls ≠ "java/lang/invoke/MethodHandle" ∧ y.cls ≠ "java/lang/invoke/VarHandle" ∧ (parseMethodDescriptor y.desc).map (fun d => d.parameters.length) = some nA) ∧ nLc ≤ 41
theorem kcat_le {B : Nat} {st : List Value} (h : (st.map (fun v => v.category)).sum ≤ 8) : ((st.map (kT B)).map fun v => v.category).sum ≤ 8 := by
  have e : (st.map (kT B)).map (fun v => v.category) = st.map (fun v => v.category) := by
    rw [List.map_map]
    exact List.map_congr_left (fun v _ => kT_cat B v)
  rw [e]
  exact h
theorem k_callB {index : Nat} {y : MethodName} {bc : ByteArray} {nLc nA depc mc ms : Nat} {ret : Option FieldType} (hX : Cok (p, l, e, R, s, m, args, below, meth, c, cc, nL, own, g, dep)) (wc : Cond.code y bc nLc ret ∈ WT) (wini : Cond.initialized y.cls ∈ WT) (hd : y.cls ≠ "java/lang/invoke/MethodHandle" ∧ y.cls ≠ "java/lang/invoke/VarHandle" ∧ (parseMethodDescriptor y.desc).map (fun d => d.parameters.length) = some nA) (hn : nLc ≤ 41) (hdep : depc + 1 ≤ dep) (wl : Cond.methodLink own index y ∈ WT) :
    CallB R s args own index y bc nLc ret (.code y bc nLc ret :: WT) { frames := depc, cells := mc, slots := ms, locals := 60 * depc } mc ms nA := by
  have hts := hX.2.2.2.2.1
  have hR1 := hX.2.2.2.2.2.2.2.2.2.1
  have hR2 := hX.2.2.2.2.2.2.2.2.2.2
  exact callB_of (Ts := WT) nA hts (kgood fun w hw => (List.mem_cons.mp hw).elim (fun e => by rw [e]; exact wc) id) rfl rfl rfl (hts _ wini) (hts _ wl) hd ⟨by show depc + 1 ≤ R.frames; omega, by show 8 + (nLc + 11) + 60 * depc ≤ R.locals; omega⟩
theorem g_callV (q : Nat) {y : MethodName} {bc : ByteArray} {nLc nA depc index a ci : Nat} {ret : Option FieldType} {C : String} {T : u_T} {N : Nat} {As rest : List Value} {fin : β2 → Option Value × kMem} {o1 : Option β2} {f : β2 → Option β}
    (hX : Cok (p, l, e, R, s, m, args, below, meth, c, cc, nL, own, g, dep)) (hM : kMet l g y bc nLc ret depc 0 0 (.ref a :: As) M fin o1) (hk : kLk y bc nLc ret nA) (hy : y.cls = C) (hc : vwCl[kci ci]? = some (C, T, N)) (h13 : kox ci < 13) (wl : Cond.methodLink own index y ∈ WT) (ws : Cond.selects C y y ∈ WT) (hdep : depc + 1 ≤ dep) (hlen : As.length = nA) (hrest : (rest.map (fun v => v.category)).sum ≤ 8) (hRc : k ≤ R.cells) (hRs : n ≤ R.slots)
    (d : decode cc pc = .ok (.invokevirtual index, 3)) (e9 : pc + 3 = q) (kk : ∀ b : β2, o1 = some b → GG (p, l, e, R, s, m, args, below, meth, c, cc, nL, own, g, dep) Q k n (f b) q lv ((fin b).1.toList ++ rest) (fin b).2) : GG (p, l, e, R, s, m, args, below, meth, c, cc, nL, own, g, dep) Q k n (kg (kt M a ci) (o1.bind f)) pc lv (As.reverse ++ .ref a :: rest) M := fun b h H locs ls hH hS hl => by
  subst e9
  obtain ⟨hb, h9⟩ := kg_some h
  obtain ⟨b1, h1, h2⟩ := Option.bind_eq_some_iff.mp h9
  obtain ⟨j0, n0, rfl, hj, -⟩ := kt_spec hb
  have hMb := hM b1 h1
  simp only [List.map_append, List.map_reverse, List.map_cons, kT] at hMb ⊢
  rw [kr_succ] at hMb ⊢
  have hts := hX.2.2.2.2.1
  have cw : CallW R s args own C index y bc nLc ret (.code y bc nLc ret :: WT) { frames := depc, cells := 0, slots := 0, locals := 60 * depc } 0 0 nA := ⟨k_callB hX hk.1 hk.2.2.1 hk.2.2.2.1 hk.2.2.2.2 hdep wl, hts _ hk.2.1, hts _ ws⟩
  refine k_after (r := fin b1) (va_runV (Ts := WT) (own := own) (nL := nL) (As := As.map (kT g.2.2.1)) (b := g.2.2.1 + 1 + j0) ⟨hX.1, hX.2.1, hX.2.2.1, hX.2.2.2.1, hts⟩ hMb cw ⟨kP_blind _ g M, va_recv hX.2.2.2.2.2.2.2.2.1.1 hH hc (kEnt_obj hj h13), fun U hU hW => ⟨rfl, kP_at hX hH hS U hU hW⟩⟩ rfl (by rw [List.length_map]; exact hlen) hl.1 rfl (lv_room (kcat_le hrest)) d ⟨hRc, hRs⟩) hS (fun H1 locs1 hH1 hS1 => ?_)
  have kk := kk b1 h1 b h2 H1 locs1 ls hH1 hS1 hl
  have e9 : List.map (kT g.2.2.1) ((fin b1).1.toList ++ rest) = ((fin b1).1.map (kT g.2.2.1)).toList ++ List.map (kT g.2.2.1) rest := by
    rw [List.map_append]
    cases (fin b1).1 <;> rfl
  rw [e9] at kk
  exact kk
theorem g_callS (q : Nat) {y : MethodName} {bc : ByteArray} {nLc nA depc index : Nat} {ret : Option FieldType} {As rest : List Value} {fin : β2 → Option Value × kMem} {o1 : Option β2} {f : β2 → Option β}
    (hX : Cok (p, l, e, R, s, m, args, below, meth, c, cc, nL, own, g, dep)) (hM : kMet l g y bc nLc ret depc 0 0 As M fin o1) (hk : kLs y bc nLc ret nA) (wl : Cond.methodLink own index y ∈ WT) (hdep : depc + 1 ≤ dep) (hlen : As.length = nA) (hrest : (rest.map (fun v => v.category)).sum ≤ 8) (hRc : k ≤ R.cells) (hRs : n ≤ R.slots)
    (d : decode cc pc = .ok (.invokestatic index, 3)) (e9 : pc + 3 = q) (kk : ∀ b : β2, o1 = some b → GG (p, l, e, R, s, m, args, below, meth, c, cc, nL, own, g, dep) Q k n (f b) q lv ((fin b).1.toList ++ rest) (fin b).2) : GG (p, l, e, R, s, m, args, below, meth, c, cc, nL, own, g, dep) Q k n (o1.bind f) pc lv (As.reverse ++ rest) M := fun b h H locs ls hH hS hl => by
  subst e9
  obtain ⟨b1, h1, h2⟩ := Option.bind_eq_some_iff.mp h
  have hMb := hM b1 h1
  have hts := hX.2.2.2.2.1
  have cw : CallB R s args own index y bc nLc ret (.code y bc nLc ret :: WT) { frames := depc, cells := 0, slots := 0, locals := 60 * depc } 0 0 nA ∧ (Cond.static y).before args s = true := ⟨k_callB hX hk.1 hk.2.2.1 hk.2.2.2.1 hk.2.2.2.2 hdep wl, hts _ hk.2.1⟩
  simp only [List.map_append, List.map_reverse]
  refine k_after (r := fin b1) (va_runS (Ts := WT) (own := own) (nL := nL) (As := As.map (kT g.2.2.1)) ⟨hX.1, hX.2.1, hX.2.2.1, hX.2.2.2.1, hts⟩ hMb cw ⟨kP_blind _ g M, fun U hU hW => ⟨rfl, kP_at hX hH hS U hU hW⟩⟩ rfl (by rw [List.length_map]; exact hlen) hl.1 rfl (lv_room (kcat_le hrest)) d ⟨hRc, hRs⟩) hS (fun H1 locs1 hH1 hS1 => ?_)
  have kk := kk b1 h1 b h2 H1 locs1 ls hH1 hS1 hl
  have e9 : List.map (kT g.2.2.1) ((fin b1).1.toList ++ rest) = ((fin b1).1.map (kT g.2.2.1)).toList ++ List.map (kT g.2.2.1) rest := by
    rw [List.map_append]
    cases (fin b1).1 <;> rfl
  rw [e9] at kk
  exact kk
theorem g_callN (q : Nat) {y : MethodName} {bc : ByteArray} {nLc nA depc index : Nat} {ret : Option FieldType} {As rest : List Value} {fin : β2 → Option Value × kMem} {o1 : Option β2} {f : β2 → Option β}
    (hX : Cok (p, l, e, R, s, m, args, below, meth, c, cc, nL, own, g, dep)) (hM : kMet l g y bc nLc ret depc 0 0 As M fin o1) (hk : kLs y bc nLc ret nA) (wl : (own, index, y, "SeesawMarket") ∈ kNests) (hdep : depc + 1 ≤ dep) (hlen : As.length = nA) (hrest : (rest.map (fun v => v.category)).sum ≤ 8) (hRc : k ≤ R.cells) (hRs : n ≤ R.slots)
    (d : decode cc pc = .ok (.invokestatic index, 3)) (e9 : pc + 3 = q) (kk : ∀ b : β2, o1 = some b → GG (p, l, e, R, s, m, args, below, meth, c, cc, nL, own, g, dep) Q k n (f b) q lv ((fin b).1.toList ++ rest) (fin b).2) : GG (p, l, e, R, s, m, args, below, meth, c, cc, nL, own, g, dep) Q k n (o1.bind f) pc lv (As.reverse ++ rest) M := fun b h H locs ls hH hS hl => by
  subst e9
  obtain ⟨b1, h1, h2⟩ := Option.bind_eq_some_iff.mp h
  have hMb := hM b1 h1
  have hts := hX.2.2.2.2.1
  have hR1 := hX.2.2.2.2.2.2.2.2.2.1
  have hR2 := hX.2.2.2.2.2.2.2.2.2.2
  have hdep9 := hdep
  have hn9 := hk.2.2.2.2
  have cw : va_CN R s args own index y "SeesawMarket" bc nLc ret (.code y bc nLc ret :: WT) { frames := depc, cells := 0, slots := 0, locals := 60 * depc } 0 0 nA := va_cnB (Ts := WT) nA hts (kgood fun w hw => (List.mem_cons.mp hw).elim (fun e => by rw [e]; exact hk.1) id) rfl rfl rfl (hX.2.2.2.2.2.2.2.2.1.2.2.2.1 _ wl) (hts _ hk.2.2.1) hk.2.2.2.1 ⟨by show depc + 1 ≤ R.frames; omega, by show 8 + (nLc + 11) + 60 * depc ≤ R.locals; omega⟩
  simp only [List.map_append, List.map_reverse]
  refine k_after (r := fin b1) (va_runSN (Ts := WT) (own := own) (nL := nL) (As := As.map (kT g.2.2.1)) ⟨hX.1, hX.2.1, hX.2.2.1, hX.2.2.2.1, hts⟩ hMb ⟨cw, hts _ hk.2.1, trivial⟩ ⟨kP_blind _ g M, fun U hU hW => ⟨rfl, kP_at hX hH hS U hU hW⟩⟩ rfl (by rw [List.length_map]; exact hlen) hl.1 rfl (lv_room (kcat_le hrest)) d ⟨hRc, hRs⟩) hS (fun H1 locs1 hH1 hS1 => ?_)
  have kk := kk b1 h1 b h2 H1 locs1 ls hH1 hS1 hl
  have e9 : List.map (kT g.2.2.1) ((fin b1).1.toList ++ rest) = ((fin b1).1.map (kT g.2.2.1)).toList ++ List.map (kT g.2.2.1) rest := by
    rw [List.map_append]
    cases (fin b1).1 <;> rfl
  rw [e9] at kk
  exact kk
/-- ends -/
theorem g_iret {fin : β → Option Value × kMem} {b0 : β} {mc ms : Nat} {v : Int32} (hX : Cok (p, l, e, R, s, m, args, below, meth, c, cc, nL, own, g, dep)) (hr : meth.sig.returnType = some .int) (hf : fin b0 = (some (.int v), M)) (hc : k ≤ mc) (hs : n ≤ ms) (d : decode cc pc = .ok (.ireturn, 1)) : GG (p, l, e, R, s, m, args, below, meth, c, cc, nL, own, g, dep) (fun b => MQ below (kQ g (fin b)) args s mc ms (kZ g.2.2.1)) k n (some b0) pc lv [.int v] M := fun b h H locs ls hH hS hl => by
  cases h
  refine W.widen (k := mc) (n := ms) hc hs ?_
  exact W.iret hX.1 hX.2.1 hr (fun t ht hW => ⟨by rw [hf]; rfl, by rw [hf, ht]; exact hH, hS.F ht⟩) hS.2.2 d hX.2.2.2.2.2.1
theorem g_zret {fin : β → Option Value × kMem} {b0 : β} {mc ms : Nat} {v : Int32} (hX : Cok (p, l, e, R, s, m, args, below, meth, c, cc, nL, own, g, dep)) (hr : meth.sig.returnType = some .boolean) (hf : fin b0 = (some (.int v), M)) (hc : k ≤ mc) (hs : n ≤ ms) (d : decode cc pc = .ok (.ireturn, 1)) : GG (p, l, e, R, s, m, args, below, meth, c, cc, nL, own, g, dep) (fun b => MQ below (kQ g (fin b)) args s mc ms (kZ g.2.2.1)) k n (kg (v == 0 || v == 1) (some b0)) pc lv [.int v] M := fun b h H locs ls hH hS hl => by
  obtain ⟨hb, h9⟩ := kg_some h
  cases h9
  simp only [Bool.or_eq_true, beq_iff_eq] at hb
  refine W.widen (k := mc) (n := ms) hc hs ?_
  exact W.zret hX.1 hX.2.1 hr (by rcases hb with rfl | rfl <;> rfl) (fun t ht hW => ⟨by rw [hf]; rfl, by rw [hf, ht]; exact hH, hS.F ht⟩) hS.2.2 d hX.2.2.2.2.2.1
theorem g_vret {fin : β → Option Value × kMem} {b0 : β} {mc ms : Nat} (hX : Cok (p, l, e, R, s, m, args, below, meth, c, cc, nL, own, g, dep)) (hr : meth.sig.returnType = none) (hf : fin b0 = (none, M)) (hc : k ≤ mc) (hs : n ≤ ms) (d : decode cc pc = .ok (.return_, 1)) : GG (p, l, e, R, s, m, args, below, meth, c, cc, nL, own, g, dep) (fun b => MQ below (kQ g (fin b)) args s mc ms (kZ g.2.2.1)) k n (some b0) pc lv [] M := fun b h H locs ls hH hS hl => by
  cases h
  refine W.widen (k := mc) (n := ms) hc hs ?_
  exact W.vret hX.1 hX.2.1 hr (fun t ht hW => ⟨by rw [hf]; rfl, by rw [hf, ht]; exact hH, hS.F ht⟩) hS.2.2 d hX.2.2.2.2.2.1
theorem g_aret {fin : β → Option Value × kMem} {b0 : β} {mc ms : Nat} {v : Nat} {rt : FieldType} (hX : Cok (p, l, e, R, s, m, args, below, meth, c, cc, nL, own, g, dep)) (hr : meth.sig.returnType = some rt) (hrt : (∃ n, rt = .object n) ∨ ∃ t, rt = .array t) (hf : fin b0 = (some (.ref v), M)) (hc : k ≤ mc) (hs : n ≤ ms) (d : decode cc pc = .ok (.areturn, 1)) : GG (p, l, e, R, s, m, args, below, meth, c, cc, nL, own, g, dep) (fun b => MQ below (kQ g (fin b)) args s mc ms (kZ g.2.2.1)) k n (some b0) pc lv [.ref v] M := fun b h H locs ls hH hS hl => by
  cases h
  refine W.widen (k := mc) (n := ms) hc hs ?_
  exact W.aret hX.1 hX.2.1 hr hrt (by
    by_cases hv : v = 0
    · exact Or.inl (by rw [hv]; rfl)
    · exact Or.inr ⟨_, kr_pos _ hv⟩) (fun t ht hW => ⟨by rw [hf]; rfl, by rw [hf, ht]; exact hH, hS.F ht⟩) hS.2.2 d hX.2.2.2.2.2.1
theorem g_dret {fin : β → Option Value × kMem} {b0 : β} {mc ms : Nat} {v : UInt64} (hX : Cok (p, l, e, R, s, m, args, below, meth, c, cc, nL, own, g, dep)) (hr : meth.sig.returnType = some .double) (hf : fin b0 = (some (.double v), M)) (hc : k ≤ mc) (hs : n ≤ ms) (d : decode cc pc = .ok (.dreturn, 1)) : GG (p, l, e, R, s, m, args, below, meth, c, cc, nL, own, g, dep) (fun b => MQ below (kQ g (fin b)) args s mc ms (kZ g.2.2.1)) k n (some b0) pc lv [.double v] M := fun b h H locs ls hH hS hl => by
  cases h
  refine W.widen (k := mc) (n := ms) hc hs ?_
  exact W.dret hX.1 hX.2.1 hr (fun t ht hW => ⟨by rw [hf]; rfl, by rw [hf, ht]; exact hH, hS.F ht⟩) hS.2.2 d hX.2.2.2.2.2.1
theorem g_lret {fin : β → Option Value × kMem} {b0 : β} {mc ms : Nat} {v : Int64} (hX : Cok (p, l, e, R, s, m, args, below, meth, c, cc, nL, own, g, dep)) (hr : meth.sig.returnType = some .long) (hf : fin b0 = (some (.long v), M)) (hc : k ≤ mc) (hs : n ≤ ms) (d : decode cc pc = .ok (.lreturn, 1)) : GG (p, l, e, R, s, m, args, below, meth, c, cc, nL, own, g, dep) (fun b => MQ below (kQ g (fin b)) args s mc ms (kZ g.2.2.1)) k n (some b0) pc lv [.long v] M := fun b h H locs ls hH hS hl => by
  cases h
  refine W.widen (k := mc) (n := ms) hc hs ?_
  exact W.lret hX.1 hX.2.1 hr (fun t ht hW => ⟨by rw [hf]; rfl, by rw [hf, ht]; exact hH, hS.F ht⟩) hS.2.2 d hX.2.2.2.2.2.1
theorem g_fret {fin : β → Option Value × kMem} {b0 : β} {mc ms : Nat} {v : UInt32} (hX : Cok (p, l, e, R, s, m, args, below, meth, c, cc, nL, own, g, dep)) (hr : meth.sig.returnType = some .float) (hf : fin b0 = (some (.float v), M)) (hc : k ≤ mc) (hs : n ≤ ms) (d : decode cc pc = .ok (.freturn, 1)) : GG (p, l, e, R, s, m, args, below, meth, c, cc, nL, own, g, dep) (fun b => MQ below (kQ g (fin b)) args s mc ms (kZ g.2.2.1)) k n (some b0) pc lv [.float v] M := fun b h H locs ls hH hS hl => by
  cases h
  refine W.widen (k := mc) (n := ms) hc hs ?_
  exact W.fret hX.1 hX.2.1 hr (fun t ht hW => ⟨by rw [hf]; rfl, by rw [hf, ht]; exact hH, hS.F ht⟩) hS.2.2 d hX.2.2.2.2.2.1
/-- nothing is claimed where there is no result -/
theorem g_none {X : kX} : GG X Q k n none pc lv st M := by
  obtain ⟨p, l, e, R, s, m, args, below, meth, c, cc, nL, own, g, dep⟩ := X
  exact fun b h => by cases h
/-- fewer locals are told -/
theorem g_lv {X : kX} (ks : List Nat) {lv2 : List (Nat × Value)} (hp : lv_pick lv ks = lv2) (kk : GG X Q k n o pc lv2 st M) : GG X Q k n o pc lv st M := by
  obtain ⟨p, l, e, R, s, m, args, below, meth, c, cc, nL, own, g, dep⟩ := X
  refine fun b h H locs ls hH hS hl => kk b h H locs ls hH hS (lv_sub hl ks ?_)
  rw [← hp]
  unfold lv_pick
  rw [List.map_filterMap]
  congr 1
  funext k
  rw [List.getElem?_map]
end kCalls
theorem kT_args (B : Nat) : ∀ (av : List Value) (i : Nat), lv_args i (av.map (kT B)) = (lv_args i av).map (kTq B)
  | [], _ => rfl
  | v :: av, i => by
    simp only [List.map_cons, lv_args, kT_cat]
    rw [kT_args B av]
    rfl
theorem kT_len (B : Nat) : ∀ (av : List Value), (lg_sl (av.map (kT B))).length = (lg_sl av).length
  | [] => rfl
  | v :: av => by
    have ih := kT_len B av
    unfold lg_sl at ih ⊢
    simp only [List.map_cons, List.flatMap_cons, List.length_append, kT_cat, ih]
    congr 1
    by_cases h : v.category = 2
    · rw [if_pos h, if_pos h]; rfl
    · rw [if_neg h, if_neg h]; rfl
/-- a contract out of a walk -/
theorem k_of {β : Type} {l : Launch} {g : kG} {y : MethodName} {bc : ByteArray} {nL : Nat} {ret : Option FieldType} {dep mc ms : Nat} {av : List Value} {M : kMem} {fin : β → Option Value × kMem} {o : Option β} {lv : List (Nat × Value)} (own : String) (hy : plainName y.cls = true) (hown : y.cls = own) (h1 : lv_args 0 av = lv) (h2 : (lg_sl av).length ≤ nL)
    (body : ∀ (p : Program) (e : Env) (s : State) (m : MethodId) (args : Array Value) (below : List Frame) (meth : Method) (c : Code), Cok (p, l, e, { frames := dep, cells := mc, slots := ms, locals := 60 * dep }, s, m, args, below, meth, c, bc, nL, own, g, dep) → meth.sig.returnType = ret → meth.name = y.name →
      GG (p, l, e, { frames := dep, cells := mc, slots := ms, locals := 60 * dep }, s, m, args, below, meth, c, bc, nL, own, g, dep) (fun b => MQ below (kQ g (fin b)) args s mc ms (kZ g.2.2.1)) 0 0 o 0 lv [] M) : kMet l g y bc nL ret dep mc ms av M fin o := by
  intro b hb
  refine Met.ofW (cc := bc) (maxL := nL) (ret := ret) hy rfl ?_
  intro p e s m args below meth c s₁ B hml hv
  obtain ⟨rfl, hH, hO, hT⟩ := hv
  have hts := atoms_spec (ws := .code y bc nL ret :: WT) B.pre
  have hX : Cok (p, l, e, { frames := dep, cells := mc, slots := ms, locals := 60 * dep }, s, m, (av.map (kT g.2.2.1)).toArray, below, meth, c, bc, nL, own, g, dep) := by
    refine ⟨B.exec, B.bytes, hml, ?_, fun w hw => hts w (List.mem_cons_of_mem _ hw), B.notSynchronized, ?_, hO, hT, Nat.le_refl _, Nat.le_refl _⟩
    · rw [← hown]; exact findClass_of_methodNamed B.named
    · exact hH.2
  have hl := lv_entry (av.map (kT g.2.2.1)) (n := nL) (by rw [kT_len]; exact h2)
  rw [kT_args, h1] at hl
  rw [lg_entry_eq]
  exact body p e s m _ below meth c hX B.returns (name_of_methodNamed B.named B.method).1 b hb s.heap [] _ hH.1 va_S.rf hl
theorem q_mabs_s : Cond.static Lib.Math.abs.name ∈ WT := kw 1433 (by decide +kernel) rfl
theorem q_mabs_c : Cond.code Lib.Math.abs.name Lib.Math.abs.code 1 (some .int) ∈ WT := kw 1434 (by decide +kernel) rfl
theorem q_mmax_s : Cond.static Lib.Math.max.name ∈ WT := kw 791 (by decide +kernel) rfl
theorem q_mmax_c : Cond.code Lib.Math.max.name Lib.Math.max.code 2 (some .int) ∈ WT := kw 792 (by decide +kernel) rfl
theorem q_mmin_s : Cond.static Lib.Math.min.name ∈ WT := kw 501 (by decide +kernel) rfl
theorem q_mmin_c : Cond.code Lib.Math.min.name Lib.Math.min.code 2 (some .int) ∈ WT := kw 502 (by decide +kernel) rfl
theorem q_math : Cond.initialized "java/lang/Math" ∈ WT := kw 57 (by decide +kernel) rfl
theorem q_cp_n : Cond.native arraycopyName ∈ WT := kw 617 (by decide +kernel) rfl
theorem q_cp_s : Cond.static arraycopyName ∈ WT := kw 616 (by decide +kernel) rfl
theorem q_cp_i : Cond.initialized "java/lang/System" ∈ WT := kw 58 (by decide +kernel) rfl
section kRowsF
variable {β β2 : Type} {p : Program} {l : Launch} {e : Env} {R : Room} {s : State} {m : MethodId} {args : Array Value} {below : List Frame} {meth : Method} {c : Code} {cc : ByteArray} {nL : Nat} {own : String} {g : kG} {dep : Nat} {Q : β → State → Prop} {k n : Nat} {o : Option β} {pc : Nat} {lv : List (Nat × Value)} {st : List Value} {M : kMem}
theorem g_kl {α : Type} {X : kX} {v : α} {f : α → Option β} (kk : ∀ x, x = v → GG X Q k n (f x) pc lv st M) : GG X Q k n (kl v f) pc lv st M := kk v rfl
theorem g_klI {X : kX} {v : Int32} {f : Int32 → Option β} (kk : ∀ x, x = v → GG X Q k n (f x) pc lv (.int x :: st) M) : GG X Q k n (kl v f) pc lv (.int v :: st) M := kk v rfl
theorem g_klL {X : kX} {v : Int64} {f : Int64 → Option β} (kk : ∀ x, x = v → GG X Q k n (f x) pc lv (.long x :: st) M) : GG X Q k n (kl v f) pc lv (.long v :: st) M := kk v rfl
theorem g_klR {X : kX} {v : Nat} {f : Nat → Option β} (kk : ∀ x, x = v → GG X Q k n (f x) pc lv (.ref x :: st) M) : GG X Q k n (kl v f) pc lv (.ref v :: st) M := kk v rfl
theorem g_klD {X : kX} {v : UInt64} {f : UInt64 → Option β} (kk : ∀ x, x = v → GG X Q k n (f x) pc lv (.double x :: st) M) : GG X Q k n (kl v f) pc lv (.double v :: st) M := kk v rfl
theorem g_klM {X : kX} {f : kMem → Option β} (kk : ∀ x, x = M → GG X Q k n (f x) pc lv st x) : GG X Q k n (kl M f) pc lv st M := kk M rfl
theorem g_zretL {fin : β → Option Value × kMem} {b0 : β} {mc ms : Nat} {v : Int32} (hX : Cok (p, l, e, R, s, m, args, below, meth, c, cc, nL, own, g, dep)) (hr : meth.sig.returnType = some .boolean) (hv : narrow .boolean (.int v) = .int v) (hf : fin b0 = (some (.int v), M)) (hc : k ≤ mc) (hs : n ≤ ms) (d : decode cc pc = .ok (.ireturn, 1)) : GG (p, l, e, R, s, m, args, below, meth, c, cc, nL, own, g, dep) (fun b => MQ below (kQ g (fin b)) args s mc ms (kZ g.2.2.1)) k n (some b0) pc lv [.int v] M := fun b h H locs ls hH hS hl => by
  cases h
  refine W.widen (k := mc) (n := ms) hc hs ?_
  exact W.zret hX.1 hX.2.1 hr hv (fun t ht hW => ⟨by rw [hf]; rfl, by rw [hf, ht]; exact hH, hS.F ht⟩) hS.2.2 d hX.2.2.2.2.2.1
theorem g_callV_i (q : Nat) {y : MethodName} {bc : ByteArray} {nLc nA depc index : Nat} {ret : Option FieldType} {a ci : Nat} {C : String} {T : u_T} {N : Nat} {As rest : List Value} {o1 : Option (Int32 × kMem)} {f : Int32 × kMem → Option β} (hX : Cok (p, l, e, R, s, m, args, below, meth, c, cc, nL, own, g, dep)) (hM : kMet l g y bc nLc ret depc 0 0 (.ref a :: As) M (fun r : Int32 × kMem => (some (.int r.1), r.2)) o1) (hk : kLk y bc nLc ret nA) (hy : y.cls = C) (hc : vwCl[kci ci]? = some (C, T, N)) (h13 : kox ci < 13) (wl : Cond.methodLink own index y ∈ WT) (ws : Cond.selects C y y ∈ WT) (hdep : depc + 1 ≤ dep) (hlen : As.length = nA) (hrest : (rest.map (fun v => v.category)).sum ≤ 8) (hRc : k ≤ R.cells) (hRs : n ≤ R.slots) (d : decode cc pc = .ok (.invokevirtual index, 3)) (e9 : pc + 3 = q) (kk : ∀ r, GG (p, l, e, R, s, m, args, below, meth, c, cc, nL, own, g, dep) Q k n (f r) q lv (.int r.1 :: rest) r.2) : GG (p, l, e, R, s, m, args, below, meth, c, cc, nL, own, g, dep) Q k n (kg (kt M a ci) (o1.bind f)) pc lv (As.reverse ++ .ref a :: rest) M := g_callV q hX hM hk hy hc h13 wl ws hdep hlen hrest hRc hRs d e9 (fun r _ => kk r)
theorem g_callV_l (q : Nat) {y : MethodName} {bc : ByteArray} {nLc nA depc index : Nat} {ret : Option FieldType} {a ci : Nat} {C : String} {T : u_T} {N : Nat} {As rest : List Value} {o1 : Option (Int64 × kMem)} {f : Int64 × kMem → Option β} (hX : Cok (p, l, e, R, s, m, args, below, meth, c, cc, nL, own, g, dep)) (hM : kMet l g y bc nLc ret depc 0 0 (.ref a :: As) M (fun r : Int64 × kMem => (some (.long r.1), r.2)) o1) (hk : kLk y bc nLc ret nA) (hy : y.cls = C) (hc : vwCl[kci ci]? = some (C, T, N)) (h13 : kox ci < 13) (wl : Cond.methodLink own index y ∈ WT) (ws : Cond.selects C y y ∈ WT) (hdep : depc + 1 ≤ dep) (hlen : As.length = nA) (hrest : (rest.map (fun v => v.category)).sum ≤ 8) (hRc : k ≤ R.cells) (hRs : n ≤ R.slots) (d : decode cc pc = .ok (.invokevirtual index, 3)) (e9 : pc + 3 = q) (kk : ∀ r, GG (p, l, e, R, s, m, args, below, meth, c, cc, nL, own, g, dep) Q k n (f r) q lv (.long r.1 :: rest) r.2) : GG (p, l, e, R, s, m, args, below, meth, c, cc, nL, own, g, dep) Q k n (kg (kt M a ci) (o1.bind f)) pc lv (As.reverse ++ .ref a :: rest) M := g_callV q hX hM hk hy hc h13 wl ws hdep hlen hrest hRc hRs d e9 (fun r _ => kk r)
theorem g_callV_ip (q : Nat) {y : MethodName} {bc : ByteArray} {nLc nA depc index : Nat} {ret : Option FieldType} {a ci : Nat} {C : String} {T : u_T} {N : Nat} {As rest : List Value} {o1 : Option (Int32)} {f : Int32 → Option β} (hX : Cok (p, l, e, R, s, m, args, below, meth, c, cc, nL, own, g, dep)) (hM : kMet l g y bc nLc ret depc 0 0 (.ref a :: As) M (fun r : Int32 => (some (.int r), M)) o1) (hk : kLk y bc nLc ret nA) (hy : y.cls = C) (hc : vwCl[kci ci]? = some (C, T, N)) (h13 : kox ci < 13) (wl : Cond.methodLink own index y ∈ WT) (ws : Cond.selects C y y ∈ WT) (hdep : depc + 1 ≤ dep) (hlen : As.length = nA) (hrest : (rest.map (fun v => v.category)).sum ≤ 8) (hRc : k ≤ R.cells) (hRs : n ≤ R.slots) (d : decode cc pc = .ok (.invokevirtual index, 3)) (e9 : pc + 3 = q) (kk : ∀ r, GG (p, l, e, R, s, m, args, below, meth, c, cc, nL, own, g, dep) Q k n (f r) q lv (.int r :: rest) M) : GG (p, l, e, R, s, m, args, below, meth, c, cc, nL, own, g, dep) Q k n (kg (kt M a ci) (o1.bind f)) pc lv (As.reverse ++ .ref a :: rest) M := g_callV q hX hM hk hy hc h13 wl ws hdep hlen hrest hRc hRs d e9 (fun r _ => kk r)
theorem g_callV_lp (q : Nat) {y : MethodName} {bc : ByteArray} {nLc nA depc index : Nat} {ret : Option FieldType} {a ci : Nat} {C : String} {T : u_T} {N : Nat} {As rest : List Value} {o1 : Option (Int64)} {f : Int64 → Option β} (hX : Cok (p, l, e, R, s, m, args, below, meth, c, cc, nL, own, g, dep)) (hM : kMet l g y bc nLc ret depc 0 0 (.ref a :: As) M (fun r : Int64 => (some (.long r), M)) o1) (hk : kLk y bc nLc ret nA) (hy : y.cls = C) (hc : vwCl[kci ci]? = some (C, T, N)) (h13 : kox ci < 13) (wl : Cond.methodLink own index y ∈ WT) (ws : Cond.selects C y y ∈ WT) (hdep : depc + 1 ≤ dep) (hlen : As.length = nA) (hrest : (rest.map (fun v => v.category)).sum ≤ 8) (hRc : k ≤ R.cells) (hRs : n ≤ R.slots) (d : decode cc pc = .ok (.invokevirtual index, 3)) (e9 : pc + 3 = q) (kk : ∀ r, GG (p, l, e, R, s, m, args, below, meth, c, cc, nL, own, g, dep) Q k n (f r) q lv (.long r :: rest) M) : GG (p, l, e, R, s, m, args, below, meth, c, cc, nL, own, g, dep) Q k n (kg (kt M a ci) (o1.bind f)) pc lv (As.reverse ++ .ref a :: rest) M := g_callV q hX hM hk hy hc h13 wl ws hdep hlen hrest hRc hRs d e9 (fun r _ => kk r)
theorem g_callV_r (q : Nat) {y : MethodName} {bc : ByteArray} {nLc nA depc index : Nat} {ret : Option FieldType} {a ci : Nat} {C : String} {T : u_T} {N : Nat} {As rest : List Value} {o1 : Option (Nat × kMem)} {f : Nat × kMem → Option β} (hX : Cok (p, l, e, R, s, m, args, below, meth, c, cc, nL, own, g, dep)) (hM : kMet l g y bc nLc ret depc 0 0 (.ref a :: As) M (fun r : Nat × kMem => (some (.ref r.1), r.2)) o1) (hk : kLk y bc nLc ret nA) (hy : y.cls = C) (hc : vwCl[kci ci]? = some (C, T, N)) (h13 : kox ci < 13) (wl : Cond.methodLink own index y ∈ WT) (ws : Cond.selects C y y ∈ WT) (hdep : depc + 1 ≤ dep) (hlen : As.length = nA) (hrest : (rest.map (fun v => v.category)).sum ≤ 8) (hRc : k ≤ R.cells) (hRs : n ≤ R.slots) (d : decode cc pc = .ok (.invokevirtual index, 3)) (e9 : pc + 3 = q) (kk : ∀ r, GG (p, l, e, R, s, m, args, below, meth, c, cc, nL, own, g, dep) Q k n (f r) q lv (.ref r.1 :: rest) r.2) : GG (p, l, e, R, s, m, args, below, meth, c, cc, nL, own, g, dep) Q k n (kg (kt M a ci) (o1.bind f)) pc lv (As.reverse ++ .ref a :: rest) M := g_callV q hX hM hk hy hc h13 wl ws hdep hlen hrest hRc hRs d e9 (fun r _ => kk r)
theorem g_callV_rp (q : Nat) {y : MethodName} {bc : ByteArray} {nLc nA depc index : Nat} {ret : Option FieldType} {a ci : Nat} {C : String} {T : u_T} {N : Nat} {As rest : List Value} {o1 : Option (Nat)} {f : Nat → Option β} (hX : Cok (p, l, e, R, s, m, args, below, meth, c, cc, nL, own, g, dep)) (hM : kMet l g y bc nLc ret depc 0 0 (.ref a :: As) M (fun r : Nat => (some (.ref r), M)) o1) (hk : kLk y bc nLc ret nA) (hy : y.cls = C) (hc : vwCl[kci ci]? = some (C, T, N)) (h13 : kox ci < 13) (wl : Cond.methodLink own index y ∈ WT) (ws : Cond.selects C y y ∈ WT) (hdep : depc + 1 ≤ dep) (hlen : As.length = nA) (hrest : (rest.map (fun v => v.category)).sum ≤ 8) (hRc : k ≤ R.cells) (hRs : n ≤ R.slots) (d : decode cc pc = .ok (.invokevirtual index, 3)) (e9 : pc + 3 = q) (kk : ∀ r, GG (p, l, e, R, s, m, args, below, meth, c, cc, nL, own, g, dep) Q k n (f r) q lv (.ref r :: rest) M) : GG (p, l, e, R, s, m, args, below, meth, c, cc, nL, own, g, dep) Q k n (kg (kt M a ci) (o1.bind f)) pc lv (As.reverse ++ .ref a :: rest) M := g_callV q hX hM hk hy hc h13 wl ws hdep hlen hrest hRc hRs d e9 (fun r _ => kk r)
theorem g_callV_v (q : Nat) {y : MethodName} {bc : ByteArray} {nLc nA depc index : Nat} {ret : Option FieldType} {a ci : Nat} {C : String} {T : u_T} {N : Nat} {As rest : List Value} {o1 : Option (kMem)} {f : kMem → Option β} (hX : Cok (p, l, e, R, s, m, args, below, meth, c, cc, nL, own, g, dep)) (hM : kMet l g y bc nLc ret depc 0 0 (.ref a :: As) M (fun r : kMem => (none, r)) o1) (hk : kLk y bc nLc ret nA) (hy : y.cls = C) (hc : vwCl[kci ci]? = some (C, T, N)) (h13 : kox ci < 13) (wl : Cond.methodLink own index y ∈ WT) (ws : Cond.selects C y y ∈ WT) (hdep : depc + 1 ≤ dep) (hlen : As.length = nA) (hrest : (rest.map (fun v => v.category)).sum ≤ 8) (hRc : k ≤ R.cells) (hRs : n ≤ R.slots) (d : decode cc pc = .ok (.invokevirtual index, 3)) (e9 : pc + 3 = q) (kk : ∀ r, GG (p, l, e, R, s, m, args, below, meth, c, cc, nL, own, g, dep) Q k n (f r) q lv (rest) r) : GG (p, l, e, R, s, m, args, below, meth, c, cc, nL, own, g, dep) Q k n (kg (kt M a ci) (o1.bind f)) pc lv (As.reverse ++ .ref a :: rest) M := g_callV q hX hM hk hy hc h13 wl ws hdep hlen hrest hRc hRs d e9 (fun r _ => kk r)
theorem g_callV_dp (q : Nat) {y : MethodName} {bc : ByteArray} {nLc nA depc index : Nat} {ret : Option FieldType} {a ci : Nat} {C : String} {T : u_T} {N : Nat} {As rest : List Value} {o1 : Option (UInt64)} {f : UInt64 → Option β} (hX : Cok (p, l, e, R, s, m, args, below, meth, c, cc, nL, own, g, dep)) (hM : kMet l g y bc nLc ret depc 0 0 (.ref a :: As) M (fun r : UInt64 => (some (.double r), M)) o1) (hk : kLk y bc nLc ret nA) (hy : y.cls = C) (hc : vwCl[kci ci]? = some (C, T, N)) (h13 : kox ci < 13) (wl : Cond.methodLink own index y ∈ WT) (ws : Cond.selects C y y ∈ WT) (hdep : depc + 1 ≤ dep) (hlen : As.length = nA) (hrest : (rest.map (fun v => v.category)).sum ≤ 8) (hRc : k ≤ R.cells) (hRs : n ≤ R.slots) (d : decode cc pc = .ok (.invokevirtual index, 3)) (e9 : pc + 3 = q) (kk : ∀ r, GG (p, l, e, R, s, m, args, below, meth, c, cc, nL, own, g, dep) Q k n (f r) q lv (.double r :: rest) M) : GG (p, l, e, R, s, m, args, below, meth, c, cc, nL, own, g, dep) Q k n (kg (kt M a ci) (o1.bind f)) pc lv (As.reverse ++ .ref a :: rest) M := g_callV q hX hM hk hy hc h13 wl ws hdep hlen hrest hRc hRs d e9 (fun r _ => kk r)
theorem g_callV_fp (q : Nat) {y : MethodName} {bc : ByteArray} {nLc nA depc index : Nat} {ret : Option FieldType} {a ci : Nat} {C : String} {T : u_T} {N : Nat} {As rest : List Value} {o1 : Option (UInt32)} {f : UInt32 → Option β} (hX : Cok (p, l, e, R, s, m, args, below, meth, c, cc, nL, own, g, dep)) (hM : kMet l g y bc nLc ret depc 0 0 (.ref a :: As) M (fun r : UInt32 => (some (.float r), M)) o1) (hk : kLk y bc nLc ret nA) (hy : y.cls = C) (hc : vwCl[kci ci]? = some (C, T, N)) (h13 : kox ci < 13) (wl : Cond.methodLink own index y ∈ WT) (ws : Cond.selects C y y ∈ WT) (hdep : depc + 1 ≤ dep) (hlen : As.length = nA) (hrest : (rest.map (fun v => v.category)).sum ≤ 8) (hRc : k ≤ R.cells) (hRs : n ≤ R.slots) (d : decode cc pc = .ok (.invokevirtual index, 3)) (e9 : pc + 3 = q) (kk : ∀ r, GG (p, l, e, R, s, m, args, below, meth, c, cc, nL, own, g, dep) Q k n (f r) q lv (.float r :: rest) M) : GG (p, l, e, R, s, m, args, below, meth, c, cc, nL, own, g, dep) Q k n (kg (kt M a ci) (o1.bind f)) pc lv (As.reverse ++ .ref a :: rest) M := g_callV q hX hM hk hy hc h13 wl ws hdep hlen hrest hRc hRs d e9 (fun r _ => kk r)
theorem g_callS_i (q : Nat) {y : MethodName} {bc : ByteArray} {nLc nA depc index : Nat} {ret : Option FieldType} {As rest : List Value} {o1 : Option (Int32 × kMem)} {f : Int32 × kMem → Option β} (hX : Cok (p, l, e, R, s, m, args, below, meth, c, cc, nL, own, g, dep)) (hM : kMet l g y bc nLc ret depc 0 0 As M (fun r : Int32 × kMem => (some (.int r.1), r.2)) o1) (hk : kLs y bc nLc ret nA) (wl : Cond.methodLink own index y ∈ WT) (hdep : depc + 1 ≤ dep) (hlen : As.length = nA) (hrest : (rest.map (fun v => v.category)).sum ≤ 8) (hRc : k ≤ R.cells) (hRs : n ≤ R.slots) (d : decode cc pc = .ok (.invokestatic index, 3)) (e9 : pc + 3 = q) (kk : ∀ r, GG (p, l, e, R, s, m, args, below, meth, c, cc, nL, own, g, dep) Q k n (f r) q lv (.int r.1 :: rest) r.2) : GG (p, l, e, R, s, m, args, below, meth, c, cc, nL, own, g, dep) Q k n (o1.bind f) pc lv (As.reverse ++ rest) M := g_callS q hX hM hk wl hdep hlen hrest hRc hRs d e9 (fun r _ => kk r)
theorem g_callS_ip (q : Nat) {y : MethodName} {bc : ByteArray} {nLc nA depc index : Nat} {ret : Option FieldType} {As rest : List Value} {o1 : Option (Int32)} {f : Int32 → Option β} (hX : Cok (p, l, e, R, s, m, args, below, meth, c, cc, nL, own, g, dep)) (hM : kMet l g y bc nLc ret depc 0 0 As M (fun r : Int32 => (some (.int r), M)) o1) (hk : kLs y bc nLc ret nA) (wl : Cond.methodLink own index y ∈ WT) (hdep : depc + 1 ≤ dep) (hlen : As.length = nA) (hrest : (rest.map (fun v => v.category)).sum ≤ 8) (hRc : k ≤ R.cells) (hRs : n ≤ R.slots) (d : decode cc pc = .ok (.invokestatic index, 3)) (e9 : pc + 3 = q) (kk : ∀ r, GG (p, l, e, R, s, m, args, below, meth, c, cc, nL, own, g, dep) Q k n (f r) q lv (.int r :: rest) M) : GG (p, l, e, R, s, m, args, below, meth, c, cc, nL, own, g, dep) Q k n (o1.bind f) pc lv (As.reverse ++ rest) M := g_callS q hX hM hk wl hdep hlen hrest hRc hRs d e9 (fun r _ => kk r)
theorem g_callS_lp (q : Nat) {y : MethodName} {bc : ByteArray} {nLc nA depc index : Nat} {ret : Option FieldType} {As rest : List Value} {o1 : Option (Int64)} {f : Int64 → Option β} (hX : Cok (p, l, e, R, s, m, args, below, meth, c, cc, nL, own, g, dep)) (hM : kMet l g y bc nLc ret depc 0 0 As M (fun r : Int64 => (some (.long r), M)) o1) (hk : kLs y bc nLc ret nA) (wl : Cond.methodLink own index y ∈ WT) (hdep : depc + 1 ≤ dep) (hlen : As.length = nA) (hrest : (rest.map (fun v => v.category)).sum ≤ 8) (hRc : k ≤ R.cells) (hRs : n ≤ R.slots) (d : decode cc pc = .ok (.invokestatic index, 3)) (e9 : pc + 3 = q) (kk : ∀ r, GG (p, l, e, R, s, m, args, below, meth, c, cc, nL, own, g, dep) Q k n (f r) q lv (.long r :: rest) M) : GG (p, l, e, R, s, m, args, below, meth, c, cc, nL, own, g, dep) Q k n (o1.bind f) pc lv (As.reverse ++ rest) M := g_callS q hX hM hk wl hdep hlen hrest hRc hRs d e9 (fun r _ => kk r)
theorem g_callS_r (q : Nat) {y : MethodName} {bc : ByteArray} {nLc nA depc index : Nat} {ret : Option FieldType} {As rest : List Value} {o1 : Option (Nat × kMem)} {f : Nat × kMem → Option β} (hX : Cok (p, l, e, R, s, m, args, below, meth, c, cc, nL, own, g, dep)) (hM : kMet l g y bc nLc ret depc 0 0 As M (fun r : Nat × kMem => (some (.ref r.1), r.2)) o1) (hk : kLs y bc nLc ret nA) (wl : Cond.methodLink own index y ∈ WT) (hdep : depc + 1 ≤ dep) (hlen : As.length = nA) (hrest : (rest.map (fun v => v.category)).sum ≤ 8) (hRc : k ≤ R.cells) (hRs : n ≤ R.slots) (d : decode cc pc = .ok (.invokestatic index, 3)) (e9 : pc + 3 = q) (kk : ∀ r, GG (p, l, e, R, s, m, args, below, meth, c, cc, nL, own, g, dep) Q k n (f r) q lv (.ref r.1 :: rest) r.2) : GG (p, l, e, R, s, m, args, below, meth, c, cc, nL, own, g, dep) Q k n (o1.bind f) pc lv (As.reverse ++ rest) M := g_callS q hX hM hk wl hdep hlen hrest hRc hRs d e9 (fun r _ => kk r)
theorem g_callS_rp (q : Nat) {y : MethodName} {bc : ByteArray} {nLc nA depc index : Nat} {ret : Option FieldType} {As rest : List Value} {o1 : Option (Nat)} {f : Nat → Option β} (hX : Cok (p, l, e, R, s, m, args, below, meth, c, cc, nL, own, g, dep)) (hM : kMet l g y bc nLc ret depc 0 0 As M (fun r : Nat => (some (.ref r), M)) o1) (hk : kLs y bc nLc ret nA) (wl : Cond.methodLink own index y ∈ WT) (hdep : depc + 1 ≤ dep) (hlen : As.length = nA) (hrest : (rest.map (fun v => v.category)).sum ≤ 8) (hRc : k ≤ R.cells) (hRs : n ≤ R.slots) (d : decode cc pc = .ok (.invokestatic index, 3)) (e9 : pc + 3 = q) (kk : ∀ r, GG (p, l, e, R, s, m, args, below, meth, c, cc, nL, own, g, dep) Q k n (f r) q lv (.ref r :: rest) M) : GG (p, l, e, R, s, m, args, below, meth, c, cc, nL, own, g, dep) Q k n (o1.bind f) pc lv (As.reverse ++ rest) M := g_callS q hX hM hk wl hdep hlen hrest hRc hRs d e9 (fun r _ => kk r)
theorem g_callS_v (q : Nat) {y : MethodName} {bc : ByteArray} {nLc nA depc index : Nat} {ret : Option FieldType} {As rest : List Value} {o1 : Option (kMem)} {f : kMem → Option β} (hX : Cok (p, l, e, R, s, m, args, below, meth, c, cc, nL, own, g, dep)) (hM : kMet l g y bc nLc ret depc 0 0 As M (fun r : kMem => (none, r)) o1) (hk : kLs y bc nLc ret nA) (wl : Cond.methodLink own index y ∈ WT) (hdep : depc + 1 ≤ dep) (hlen : As.length = nA) (hrest : (rest.map (fun v => v.category)).sum ≤ 8) (hRc : k ≤ R.cells) (hRs : n ≤ R.slots) (d : decode cc pc = .ok (.invokestatic index, 3)) (e9 : pc + 3 = q) (kk : ∀ r, GG (p, l, e, R, s, m, args, below, meth, c, cc, nL, own, g, dep) Q k n (f r) q lv (rest) r) : GG (p, l, e, R, s, m, args, below, meth, c, cc, nL, own, g, dep) Q k n (o1.bind f) pc lv (As.reverse ++ rest) M := g_callS q hX hM hk wl hdep hlen hrest hRc hRs d e9 (fun r _ => kk r)
theorem g_callN_i (q : Nat) {y : MethodName} {bc : ByteArray} {nLc nA depc index : Nat} {ret : Option FieldType} {As rest : List Value} {o1 : Option (Int32 × kMem)} {f : Int32 × kMem → Option β} (hX : Cok (p, l, e, R, s, m, args, below, meth, c, cc, nL, own, g, dep)) (hM : kMet l g y bc nLc ret depc 0 0 As M (fun r : Int32 × kMem => (some (.int r.1), r.2)) o1) (hk : kLs y bc nLc ret nA) (wl : (own, index, y, "SeesawMarket") ∈ kNests) (hdep : depc + 1 ≤ dep) (hlen : As.length = nA) (hrest : (rest.map (fun v => v.category)).sum ≤ 8) (hRc : k ≤ R.cells) (hRs : n ≤ R.slots) (d : decode cc pc = .ok (.invokestatic index, 3)) (e9 : pc + 3 = q) (kk : ∀ r, GG (p, l, e, R, s, m, args, below, meth, c, cc, nL, own, g, dep) Q k n (f r) q lv (.int r.1 :: rest) r.2) : GG (p, l, e, R, s, m, args, below, meth, c, cc, nL, own, g, dep) Q k n (o1.bind f) pc lv (As.reverse ++ rest) M := g_callN q hX hM hk wl hdep hlen hrest hRc hRs d e9 (fun r _ => kk r)
theorem g_callN_ip (q : Nat) {y : MethodName} {bc : ByteArray} {nLc nA depc index : Nat} {ret : Option FieldType} {As rest : List Value} {o1 : Option (Int32)} {f : Int32 → Option β} (hX : Cok (p, l, e, R, s, m, args, below, meth, c, cc, nL, own, g, dep)) (hM : kMet l g y bc nLc ret depc 0 0 As M (fun r : Int32 => (some (.int r), M)) o1) (hk : kLs y bc nLc ret nA) (wl : (own, index, y, "SeesawMarket") ∈ kNests) (hdep : depc + 1 ≤ dep) (hlen : As.length = nA) (hrest : (rest.map (fun v => v.category)).sum ≤ 8) (hRc : k ≤ R.cells) (hRs : n ≤ R.slots) (d : decode cc pc = .ok (.invokestatic index, 3)) (e9 : pc + 3 = q) (kk : ∀ r, GG (p, l, e, R, s, m, args, below, meth, c, cc, nL, own, g, dep) Q k n (f r) q lv (.int r :: rest) M) : GG (p, l, e, R, s, m, args, below, meth, c, cc, nL, own, g, dep) Q k n (o1.bind f) pc lv (As.reverse ++ rest) M := g_callN q hX hM hk wl hdep hlen hrest hRc hRs d e9 (fun r _ => kk r)
theorem g_callN_lp (q : Nat) {y : MethodName} {bc : ByteArray} {nLc nA depc index : Nat} {ret : Option FieldType} {As rest : List Value} {o1 : Option (Int64)} {f : Int64 → Option β} (hX : Cok (p, l, e, R, s, m, args, below, meth, c, cc, nL, own, g, dep)) (hM : kMet l g y bc nLc ret depc 0 0 As M (fun r : Int64 => (some (.long r), M)) o1) (hk : kLs y bc nLc ret nA) (wl : (own, index, y, "SeesawMarket") ∈ kNests) (hdep : depc + 1 ≤ dep) (hlen : As.length = nA) (hrest : (rest.map (fun v => v.category)).sum ≤ 8) (hRc : k ≤ R.cells) (hRs : n ≤ R.slots) (d : decode cc pc = .ok (.invokestatic index, 3)) (e9 : pc + 3 = q) (kk : ∀ r, GG (p, l, e, R, s, m, args, below, meth, c, cc, nL, own, g, dep) Q k n (f r) q lv (.long r :: rest) M) : GG (p, l, e, R, s, m, args, below, meth, c, cc, nL, own, g, dep) Q k n (o1.bind f) pc lv (As.reverse ++ rest) M := g_callN q hX hM hk wl hdep hlen hrest hRc hRs d e9 (fun r _ => kk r)
theorem g_callN_r (q : Nat) {y : MethodName} {bc : ByteArray} {nLc nA depc index : Nat} {ret : Option FieldType} {As rest : List Value} {o1 : Option (Nat × kMem)} {f : Nat × kMem → Option β} (hX : Cok (p, l, e, R, s, m, args, below, meth, c, cc, nL, own, g, dep)) (hM : kMet l g y bc nLc ret depc 0 0 As M (fun r : Nat × kMem => (some (.ref r.1), r.2)) o1) (hk : kLs y bc nLc ret nA) (wl : (own, index, y, "SeesawMarket") ∈ kNests) (hdep : depc + 1 ≤ dep) (hlen : As.length = nA) (hrest : (rest.map (fun v => v.category)).sum ≤ 8) (hRc : k ≤ R.cells) (hRs : n ≤ R.slots) (d : decode cc pc = .ok (.invokestatic index, 3)) (e9 : pc + 3 = q) (kk : ∀ r, GG (p, l, e, R, s, m, args, below, meth, c, cc, nL, own, g, dep) Q k n (f r) q lv (.ref r.1 :: rest) r.2) : GG (p, l, e, R, s, m, args, below, meth, c, cc, nL, own, g, dep) Q k n (o1.bind f) pc lv (As.reverse ++ rest) M := g_callN q hX hM hk wl hdep hlen hrest hRc hRs d e9 (fun r _ => kk r)
theorem g_callN_rp (q : Nat) {y : MethodName} {bc : ByteArray} {nLc nA depc index : Nat} {ret : Option FieldType} {As rest : List Value} {o1 : Option (Nat)} {f : Nat → Option β} (hX : Cok (p, l, e, R, s, m, args, below, meth, c, cc, nL, own, g, dep)) (hM : kMet l g y bc nLc ret depc 0 0 As M (fun r : Nat => (some (.ref r), M)) o1) (hk : kLs y bc nLc ret nA) (wl : (own, index, y, "SeesawMarket") ∈ kNests) (hdep : depc + 1 ≤ dep) (hlen : As.length = nA) (hrest : (rest.map (fun v => v.category)).sum ≤ 8) (hRc : k ≤ R.cells) (hRs : n ≤ R.slots) (d : decode cc pc = .ok (.invokestatic index, 3)) (e9 : pc + 3 = q) (kk : ∀ r, GG (p, l, e, R, s, m, args, below, meth, c, cc, nL, own, g, dep) Q k n (f r) q lv (.ref r :: rest) M) : GG (p, l, e, R, s, m, args, below, meth, c, cc, nL, own, g, dep) Q k n (o1.bind f) pc lv (As.reverse ++ rest) M := g_callN q hX hM hk wl hdep hlen hrest hRc hRs d e9 (fun r _ => kk r)
theorem g_callN_v (q : Nat) {y : MethodName} {bc : ByteArray} {nLc nA depc index : Nat} {ret : Option FieldType} {As rest : List Value} {o1 : Option (kMem)} {f : kMem → Option β} (hX : Cok (p, l, e, R, s, m, args, below, meth, c, cc, nL, own, g, dep)) (hM : kMet l g y bc nLc ret depc 0 0 As M (fun r : kMem => (none, r)) o1) (hk : kLs y bc nLc ret nA) (wl : (own, index, y, "SeesawMarket") ∈ kNests) (hdep : depc + 1 ≤ dep) (hlen : As.length = nA) (hrest : (rest.map (fun v => v.category)).sum ≤ 8) (hRc : k ≤ R.cells) (hRs : n ≤ R.slots) (d : decode cc pc = .ok (.invokestatic index, 3)) (e9 : pc + 3 = q) (kk : ∀ r, GG (p, l, e, R, s, m, args, below, meth, c, cc, nL, own, g, dep) Q k n (f r) q lv (rest) r) : GG (p, l, e, R, s, m, args, below, meth, c, cc, nL, own, g, dep) Q k n (o1.bind f) pc lv (As.reverse ++ rest) M := g_callN q hX hM hk wl hdep hlen hrest hRc hRs d e9 (fun r _ => kk r)
theorem g_mabs (q : Nat) (hX : Cok (p, l, e, R, s, m, args, below, meth, c, cc, nL, own, g, dep)) {x y : Int32} {i : Nat} (wl : Cond.methodLink own i Lib.Math.abs.name ∈ WT) (d : decode cc pc = .ok (.invokestatic i, 3)) (e9 : pc + 3 = q) (hst : (st.map (fun v => v.category)).sum ≤ 8) (hdp : 1 ≤ dep) (hRc : k ≤ R.cells) (hRs : n ≤ R.slots) (kk : GG (p, l, e, R, s, m, args, below, meth, c, cc, nL, own, g, dep) Q k n o q lv (.int (kabs x) :: st) M) : GG (p, l, e, R, s, m, args, below, meth, c, cc, nL, own, g, dep) Q k n o pc lv (.int x :: st) M := fun b h H locs ls hH hS hl => by
  subst e9
  have hts := hX.2.2.2.2.1
  have h1 := hX.2.2.2.2.2.2.2.2.2.1
  have h2 := hX.2.2.2.2.2.2.2.2.2.2
  have h3 := kcat_le (B := g.2.2.1) hst
  exact va_mabs hX.1 hX.2.1 (by rw [hX.2.2.1]; exact hl.1.symm) hX.2.2.2.1 (hts _ wl) (hts _ q_mabs_s) (hts _ q_math) (hts _ q_mabs_c) (by omega) (by omega) hRc hRs d (kk b h H locs ls hH hS hl)
theorem g_mmax (q : Nat) (hX : Cok (p, l, e, R, s, m, args, below, meth, c, cc, nL, own, g, dep)) {x y : Int32} {i : Nat} (wl : Cond.methodLink own i Lib.Math.max.name ∈ WT) (d : decode cc pc = .ok (.invokestatic i, 3)) (e9 : pc + 3 = q) (hst : (st.map (fun v => v.category)).sum ≤ 8) (hdp : 1 ≤ dep) (hRc : k ≤ R.cells) (hRs : n ≤ R.slots) (kk : GG (p, l, e, R, s, m, args, below, meth, c, cc, nL, own, g, dep) Q k n o q lv (.int (kmax x y) :: st) M) : GG (p, l, e, R, s, m, args, below, meth, c, cc, nL, own, g, dep) Q k n o pc lv (.int y :: .int x :: st) M := fun b h H locs ls hH hS hl => by
  subst e9
  have hts := hX.2.2.2.2.1
  have h1 := hX.2.2.2.2.2.2.2.2.2.1
  have h2 := hX.2.2.2.2.2.2.2.2.2.2
  have h3 := kcat_le (B := g.2.2.1) hst
  exact va_mmax hX.1 hX.2.1 (by rw [hX.2.2.1]; exact hl.1.symm) hX.2.2.2.1 (hts _ wl) (hts _ q_mmax_s) (hts _ q_math) (hts _ q_mmax_c) (by omega) (by omega) hRc hRs d (kk b h H locs ls hH hS hl)
theorem g_mmin (q : Nat) (hX : Cok (p, l, e, R, s, m, args, below, meth, c, cc, nL, own, g, dep)) {x y : Int32} {i : Nat} (wl : Cond.methodLink own i Lib.Math.min.name ∈ WT) (d : decode cc pc = .ok (.invokestatic i, 3)) (e9 : pc + 3 = q) (hst : (st.map (fun v => v.category)).sum ≤ 8) (hdp : 1 ≤ dep) (hRc : k ≤ R.cells) (hRs : n ≤ R.slots) (kk : GG (p, l, e, R, s, m, args, below, meth, c, cc, nL, own, g, dep) Q k n o q lv (.int (kmin x y) :: st) M) : GG (p, l, e, R, s, m, args, below, meth, c, cc, nL, own, g, dep) Q k n o pc lv (.int y :: .int x :: st) M := fun b h H locs ls hH hS hl => by
  subst e9
  have hts := hX.2.2.2.2.1
  have h1 := hX.2.2.2.2.2.2.2.2.2.1
  have h2 := hX.2.2.2.2.2.2.2.2.2.2
  have h3 := kcat_le (B := g.2.2.1) hst
  exact va_mmin hX.1 hX.2.1 (by rw [hX.2.2.1]; exact hl.1.symm) hX.2.2.2.1 (hts _ wl) (hts _ q_mmin_s) (hts _ q_math) (hts _ q_mmin_c) (by omega) (by omega) hRc hRs d (kk b h H locs ls hH hS hl)
theorem kcpOk_spec {M : kMem} {a0 a1 : Nat} {sp dp n : Int32} (h : kcpOk M a0 sp a1 dp n = true) : ∃ j0 n0 j1 n1, a0 = j0 + 1 ∧ M.1[j0]? = some (13, n0) ∧ a1 = j1 + 1 ∧ M.1[j1]? = some (13, n1) ∧ ¬ sp < 0 ∧ ¬ dp < 0 ∧ ¬ n < 0 ∧ sp.toNatClampNeg + n.toNatClampNeg ≤ n0 ∧ dp.toNatClampNeg + n.toNatClampNeg ≤ n1 := by
  unfold kcpOk at h
  simp only [Bool.and_eq_true, decide_eq_true_eq] at h
  obtain ⟨h1, h2, h3, h4, h5, h6, h7⟩ := h
  obtain ⟨j0, n0, e1, e2, e3⟩ := kt_spec h1
  obtain ⟨j1, n1, e4, e5, e6⟩ := kt_spec h2
  rw [e3] at h6
  rw [e6] at h7
  exact ⟨j0, n0, j1, n1, e1, e2, e4, e5, Int32.not_lt.mpr h3, Int32.not_lt.mpr h4, Int32.not_lt.mpr h5, h6, h7⟩
theorem kWs_cp {aD : Nat → ClassId} {B : Nat} {M : kMem} {j0 j1 n1 : Nat} (sp dp n : Int32) (h : M.1[j1]? = some (13, n1)) : kWs aD B (kcp M (j0 + 1) sp (j1 + 1) dp n) = (kWs aD B M).set j1 (B + 1 + j1, .inl (aD 13, n1, .inl (va_cpy (fun j => kI M (j0 + 1) j) (fun j => kI M (j1 + 1) j) sp.toNatClampNeg dp.toNatClampNeg n.toNatClampNeg))) := by
  refine kWs_set rfl (List.getElem?_eq_some_iff.mp h).1 (fun x hx => ?_) (fun j x hj => kEnt_congr x (fun i => if_neg (by omega)) (fun i => rfl) (fun i => rfl))
  cases h.symm.trans hx
  have e9 : (fun i => kI (kcp M (j0 + 1) sp (j1 + 1) dp n) (j1 + 1) i) = va_cpy (fun j => kI M (j0 + 1) j) (fun j => kI M (j1 + 1) j) sp.toNatClampNeg dp.toNatClampNeg n.toNatClampNeg := by
    funext i
    unfold va_cpy kcp kI
    by_cases hi : dp.toNatClampNeg ≤ i ∧ i < dp.toNatClampNeg + n.toNatClampNeg
    · rw [if_pos hi]
      exact if_pos ⟨rfl, hi⟩
    · rw [if_neg hi]
      exact if_neg (fun z => hi z.2)
  rw [← e9]
  rfl
theorem g_copy (q : Nat) (hX : Cok (p, l, e, R, s, m, args, below, meth, c, cc, nL, own, g, dep)) {a0 a1 : Nat} {sp dp z : Int32} {i : Nat} (wl : Cond.methodLink own i arraycopyName ∈ WT) (d : decode cc pc = .ok (.invokestatic i, 3)) (e9 : pc + 3 = q) (hst : (st.map (fun v => v.category)).sum ≤ 8) (hdp : 1 ≤ dep) (kk : GG (p, l, e, R, s, m, args, below, meth, c, cc, nL, own, g, dep) Q k n o q lv st (kcp M a0 sp a1 dp z)) : GG (p, l, e, R, s, m, args, below, meth, c, cc, nL, own, g, dep) Q k n (kg (kcpOk M a0 sp a1 dp z) o) pc lv (.int z :: .int dp :: .ref a1 :: .int sp :: .ref a0 :: st) M := fun b h H locs ls hH hS hl => by
  subst e9
  obtain ⟨hb, h9⟩ := kg_some h
  obtain ⟨j0, n0, j1, n1, rfl, hj0, rfl, hj1, h1, h2, h3, h4, h5⟩ := kcpOk_spec hb
  have kk := kk b h9
  simp only [List.map_cons, kT] at kk ⊢
  rw [kr_succ, kr_succ]
  have hts := hX.2.2.2.2.1
  have r1 := hX.2.2.2.2.2.2.2.2.2.1
  have r2 := hX.2.2.2.2.2.2.2.2.2.2
  have r3 := kcat_le (B := g.2.2.1) hst
  have r4 : nativeFrameWords "java/lang/System" "arraycopy" 5 + 11 ≤ 50 := by decide
  refine va_copyi hX.1 hX.2.1 (by rw [hX.2.2.1]; exact hl.1.symm) hX.2.2.2.1 (hts _ wl) (hts _ q_cp_n) (hts _ q_cp_s) (hts _ q_cp_i) hX.2.2.2.2.2.2.2.2.1.1 hH (kWs_D _ _ _) hS j0 j1 0 0 (kEnt_int hj0 (Or.inl rfl)) (kEnt_int hj1 (Or.inl rfl)) rfl rfl rfl h1 h2 h3 h4 h5 (fun _ _ => rfl) (by omega) (by omega) d (fun H1 locs1 hP1 hD1 hS1 => ?_)
  refine kk H1 locs1 ls (show va_P _ _ _ _ from ?_) hS1 hl
  rw [kWs_cp sp dp z hj1]
  exact hP1
theorem g_ldcS (q : Nat) (hX : Cok (p, l, e, R, s, m, args, below, meth, c, cc, nL, own, g, dep)) {i j : Nat} {t : String} (hi : kStrs[i]? = some (own, j, t)) (d : decode cc pc = .ok (.ldc j, 2)) (e9 : pc + 2 = q) (kk : GG (p, l, e, R, s, m, args, below, meth, c, cc, nL, own, g, dep) Q k n o q lv (.retAddr (g.2.2.2.1 i) :: st) M) : GG (p, l, e, R, s, m, args, below, meth, c, cc, nL, own, g, dep) Q k n o pc lv st M := fun b h H locs ls hH hS hl => by
  subst e9
  exact va_ldcS hX.1 hX.2.1 hX.2.2.2.1 (hX.2.2.2.2.2.2.2.2.1.2.2.1 i _ hi) d (kk b h H locs ls hH hS hl)
end kRowsF
