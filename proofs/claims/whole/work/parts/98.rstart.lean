/-! what stands at the law's start -/
def wF : List Cond := flatC (Cond.and given_1 narrow_1)
def wB : List Nat := [110, 165, 248, 310, 320, 329, 339, 347, 355, 364, 372, 379, 388, 396, 404, 412, 420, 430, 467, 499, 516, 532, 550, 578, 604, 642, 674, 706, 733, 749]
def wT (i : Nat) : Term := match kStrs[i]? with
  | some q => Term.string q.1 q.2.1
  | none => Term.string "" 0
theorem w_x : ∀ i, i < 30 → wF[wB.getD i 0]? = some (Cond.exactly (wT i) "java/lang/String") ∧ wF[wB.getD i 0 + 1]? = some (Cond.eq (.field (wT i) "java/lang/String" "coder" "B") (.int 0)) ∧ wF[wB.getD i 0 + 2]? = some (Cond.arrayOf (.field (wT i) "java/lang/String" "value" "[B") .byte) ∧ wF[wB.getD i 0 + 3]? = some (Cond.eq (.length (.field (wT i) "java/lang/String" "value" "[B")) (.int (Int32.ofNat (kSlen.getD i 0)))) := by decide +kernel
theorem w_e : ∀ i, i < 30 → ∀ j, j < kSlen.getD i 0 → wF[wB.getD i 0 + 4 + j]? = some (Cond.eq (.elem (.field (wT i) "java/lang/String" "value" "[B") (.int (Int32.ofNat j))) (.int ((kSbyt.getD i []).getD j 0))) := by decide +kernel
theorem w_l : ∀ i, i < 30 → kSlen.getD i 0 < 2 ^ 31 := by decide +kernel
theorem w_str {args : Array Value} {s : State} {A : Nat → Prop} (h : ∀ c ∈ wF, c.before args s = true) (hA : ∀ a : Nat, a < s.heap.size → ¬ A a) (i : Nat) (hi : i < 30) : ∃ q : Nat × Nat, (wT i).eval args s none [] s = some (.ref q.1) ∧ va_O "java/lang/String" q.1 A s s.heap ∧ va_OF "java/lang/String" "coder" "B" (.int 0) q.1 A s s.heap ∧ va_OF "java/lang/String" "value" "[B" (.ref q.2) q.1 A s s.heap ∧ va_T .byte q.2 (kSlen.getD i 0) (fun j => .int ((kSbyt.getD i []).getD j 0)) A s s.heap := by
  obtain ⟨x1, x2, x3, x4⟩ := w_x i hi
  have y1 := h _ (List.mem_of_getElem? x1)
  have y2 := h _ (List.mem_of_getElem? x2)
  have y3 := h _ (List.mem_of_getElem? x3)
  have y4 := h _ (List.mem_of_getElem? x4)
  obtain ⟨a, c, cA, kA, q1, -⟩ := Cond.exactly_spec (args := args) (first := s) (o := none) (s := s) (idx := []) y1
  obtain ⟨t, ht, hT⟩ := va_Tof (f := fun j => .int ((kSbyt.getD i []).getD j 0)) (A := A) (w_l i hi) y3 (va_eqt y4) (fun j hj => va_eqt (h _ (List.mem_of_getElem? (w_e i hi j hj)))) hA
  exact ⟨(a, t), q1, va_Oof y1 q1 hA, vk_OFof q1 (va_eqt y2) hA, vk_OFof q1 ht hA, hT⟩
def wS : List Nat := [458, 515, 516, 556, 604, 626, 652, 668, 669, 783, 785, 786, 787, 788, 789, 790, 791, 1182, 1232, 1261, 1310, 1351, 1424, 1445, 1501, 1513, 1554, 1579, 1595, 1603]
theorem w_sr : ∀ i, i < 30 → (kStrs[i]?).map (fun q => Cond.stringRef q.1 q.2.1 q.2.2) = lw_tbl[wS.getD i 0]? := by decide +kernel
def wN : List Nat := [163, 219, 279, 532, 535, 639, 1571]
theorem w_n : ∀ i, i < 7 → (kNests[i]?).map (fun q => Cond.methodLinkNest q.1 q.2.1 q.2.2.1 q.2.2.2) = lw_tbl[wN.getD i 0]? := by decide +kernel
theorem w_len : kStrs.length = 30 ∧ kNests.length = 7 := by decide +kernel
theorem w_arr {s : State} {args : Array Value} {t : FieldType} (h : (Cond.arrayClass t).before args s = true) (ht : ∀ cA, s.vm.findClass ("[" ++ t.toString) = some cA → va_RA s cA t) : ∃ cA : ClassId, ArrOfT s cA t ∧ va_RA s cA t := by
  obtain ⟨cA, kA, comp, h1, h2, h3⟩ := Cond.arrayClass_spec (args := args) (first := s) (o := none) (s := s) (idx := []) h
  exact ⟨cA, fun n z => ⟨(fun k h => by cases h), kA, h2, comp, h3⟩, ht cA h1⟩
theorem w_aro {s : State} {args : Array Value} {C : String} (h : (Cond.arrayOver (.object C)).before args s = true) : ∃ cA : ClassId, ArrOfT s cA (.object C) ∧ va_RA s cA (.object C) := by
  obtain ⟨comp, cA, kA, h1, -, h2, h3, h4⟩ := Cond.arrayOver_spec (args := args) (first := s) (o := none) (s := s) (idx := []) h
  exact ⟨cA, fun n z => ⟨(fun k h => by cases h), kA, h2, comp, h3⟩, kA, comp, h2, h3, h1, h4⟩
set_option maxRecDepth 20000 in
theorem w_K {s : State} {args : Array Value} (hts : ∀ w ∈ lw_tbl, w.before args s = true) : ∃ (aD : Nat → ClassId) (D : va_G), va_K D vwCl (kTys aD) s := by
  have hw : ∀ w ∈ WT, w.before args s = true := fun w hw => hts w (List.mem_filter.mp hw).1
  obtain ⟨c0, i0, n0⟩ := u_known (C := RX0) (T := TX0) (N := 5) (n := 5) hw inX0 (hts _ (List.mem_of_getElem? (i := 297) (by decide +kernel)))
  obtain ⟨c1, i1, n1⟩ := u_known (C := RX1) (T := TX1) (N := 7) (n := 7) hw inX1 (hts _ (List.mem_of_getElem? (i := 218) (by decide +kernel)))
  obtain ⟨c2, i2, n2⟩ := u_known (C := RX2) (T := TX2) (N := 4) (n := 4) hw inX2 (hts _ (List.mem_of_getElem? (i := 278) (by decide +kernel)))
  obtain ⟨c3, i3, n3⟩ := u_known (C := RX3) (T := TX3) (N := 3) (n := 3) hw inX3 (hts _ (List.mem_of_getElem? (i := 439) (by decide +kernel)))
  obtain ⟨c4, i4, n4⟩ := u_known (C := RX4) (T := TX4) (N := 16) (n := 16) hw inX4 (hts _ (List.mem_of_getElem? (i := 268) (by decide +kernel)))
  obtain ⟨c5, i5, n5⟩ := u_known (C := RX6) (T := TX6) (N := 6) (n := 6) hw inX6 (hts _ (List.mem_of_getElem? (i := 211) (by decide +kernel)))
  obtain ⟨c6, i6, n6⟩ := u_known (C := RX8) (T := TX8) (N := 2) (n := 2) hw inX8 (hts _ (List.mem_of_getElem? (i := 162) (by decide +kernel)))
  obtain ⟨c7, i7, n7⟩ := u_known (C := RX9) (T := TX9) (N := 8) (n := 8) hw inX9 (hts _ (List.mem_of_getElem? (i := 178) (by decide +kernel)))
  obtain ⟨c8, i8, n8⟩ := u_known (C := RX10) (T := TX10) (N := 8) (n := 8) hw inX10 (hts _ (List.mem_of_getElem? (i := 323) (by decide +kernel)))
  obtain ⟨c9, i9, n9⟩ := u_known (C := RX11) (T := TX11) (N := 9) (n := 9) hw inX11 (hts _ (List.mem_of_getElem? (i := 154) (by decide +kernel)))
  obtain ⟨c10, i10, n10⟩ := u_known (C := RX12) (T := TX12) (N := 30) (n := 30) hw inX12 (hts _ (List.mem_of_getElem? (i := 1605) (by decide +kernel)))
  obtain ⟨d13, a13⟩ := w_arr (hts (.arrayClass .int) (List.mem_of_getElem? (i := 176) (by decide +kernel))) (fun _ h => h)
  obtain ⟨d14, a14⟩ := w_arr (hts (.arrayClass .boolean) (List.mem_of_getElem? (i := 747) (by decide +kernel))) (fun _ h => h)
  obtain ⟨d15, a15⟩ := w_arr (hts (.arrayClass .long) (List.mem_of_getElem? (i := 2392) (by decide +kernel))) (fun _ h => h)
  obtain ⟨d16, a16⟩ := w_aro (hts (.arrayOver (.object RX0)) (List.mem_of_getElem? (i := 274) (by decide +kernel)))
  obtain ⟨d17, a17⟩ := w_aro (hts (.arrayOver (.object RX10)) (List.mem_of_getElem? (i := 276) (by decide +kernel)))
  obtain ⟨d18, a18⟩ := w_aro (hts (.arrayOver (.object RX4)) (List.mem_of_getElem? (i := 445) (by decide +kernel)))
  obtain ⟨d19, a19⟩ := w_aro (hts (.arrayOver (.object RX1)) (List.mem_of_getElem? (i := 217) (by decide +kernel)))
  refine ⟨fun t => [d13, d14, d15, d16, d17, d18, d19].getD (t - 13) d13, (fun k => [c0, c1, c2, c3, c4, c5, c6, c7, c8, c9, c10].getD k c0, fun k => [i0, i1, i2, i3, i4, i5, i6, i7, i8, i9, i10].getD k i0), fun k q hq => ?_, fun k q hq => ?_⟩
  · match k, hq with
    | 0, hq => cases hq; exact n0
    | 1, hq => cases hq; exact n1
    | 2, hq => cases hq; exact n2
    | 3, hq => cases hq; exact n3
    | 4, hq => cases hq; exact n4
    | 5, hq => cases hq; exact n5
    | 6, hq => cases hq; exact n6
    | 7, hq => cases hq; exact n7
    | 8, hq => cases hq; exact n8
    | 9, hq => cases hq; exact n9
    | 10, hq => cases hq; exact n10
    | k + 11, hq => simp [vwCl] at hq
  · match k, hq with
    | 0, hq => cases hq; exact a13
    | 1, hq => cases hq; exact a14
    | 2, hq => cases hq; exact a15
    | 3, hq => cases hq; exact a16
    | 4, hq => cases hq; exact a17
    | 5, hq => cases hq; exact a18
    | 6, hq => cases hq; exact a19
    | k + 7, hq => simp [kTys] at hq
theorem w_Out {s : State} {args : Array Value} {B : Nat} (hts : ∀ w ∈ lw_tbl, w.before args s = true) (hs : ∀ c ∈ wF, c.before args s = true) (hB : s.heap.size = B + 1) : ∃ aS aV : Nat → Nat, kOut B aS aV s s.heap ∧ ∀ (i : Nat) (q : String × Nat × String), kStrs[i]? = some q → vk_R q.1 q.2.1 q.2.2 (aS i) s := by
  have hA : ∀ a : Nat, a < s.heap.size → ¬ kZ B a := fun a h h2 => by
    have : B + 1 ≤ a := h2
    omega
  have h0 : ∀ i : Nat, ∃ q : Nat × Nat, i < 30 → (wT i).eval args s none [] s = some (.ref q.1) ∧ va_O "java/lang/String" q.1 (kZ B) s s.heap ∧ va_OF "java/lang/String" "coder" "B" (.int 0) q.1 (kZ B) s s.heap ∧ va_OF "java/lang/String" "value" "[B" (.ref q.2) q.1 (kZ B) s s.heap ∧ va_T .byte q.2 (kSlen.getD i 0) (fun j => .int ((kSbyt.getD i []).getD j 0)) (kZ B) s s.heap := by
    intro i
    by_cases hi : i < 30
    · obtain ⟨q, hq⟩ := w_str (A := kZ B) hs hA i hi
      exact ⟨q, fun _ => hq⟩
    · exact ⟨(0, 0), fun h => absurd h hi⟩
  obtain ⟨ad, had⟩ := Classical.axiomOfChoice h0
  refine ⟨fun i => (ad i).1, fun i => (ad i).2, ⟨fun i hi => ⟨(had i hi).2.1, (had i hi).2.2.1, (had i hi).2.2.2.1, (had i hi).2.2.2.2⟩, ?_, ?_, ?_, ?_⟩, fun i q hq => ?_⟩
  · exact va_Zof (hts (.laysStatic "java/lang/String" "COMPACT_STRINGS" "Z") (List.mem_of_getElem? (i := 472) (by decide +kernel))) (hts (.initialized "java/lang/String") (List.mem_of_getElem? (i := 139) (by decide +kernel))) (va_eqt (hs (Cond.eq (.static "java/lang/String" "COMPACT_STRINGS" "Z") (.int 1)) (List.mem_of_getElem? (i := 4) (by decide +kernel)))) hA
  · exact vx_Zqof (hts (.laysStatic Bundle.tN "UNASSIGNED_STACK" Bundle.steD) (List.mem_of_getElem? (i := 1168) (by decide +kernel))) (hts (.initialized Bundle.tN) (List.mem_of_getElem? (i := 147) (by decide +kernel))) (hs (Cond.isRef (.static Bundle.tN "UNASSIGNED_STACK" Bundle.steD)) (List.mem_of_getElem? (i := 9) (by decide +kernel))) hA
  · exact vx_Zqof (hts (.laysStatic Bundle.tN "SUPPRESSED_SENTINEL" Bundle.listD) (List.mem_of_getElem? (i := 1170) (by decide +kernel))) (hts (.initialized Bundle.tN) (List.mem_of_getElem? (i := 147) (by decide +kernel))) (hs (Cond.isRef (.static Bundle.tN "SUPPRESSED_SENTINEL" Bundle.listD)) (List.mem_of_getElem? (i := 10) (by decide +kernel))) hA
  · exact va_Zqof (hts (.laysStatic "jdk/internal/util/Preconditions" "SIOOBE_FORMATTER" "Ljava/util/function/BiFunction;") (List.mem_of_getElem? (i := 488) (by decide +kernel))) (hts (.initialized "jdk/internal/util/Preconditions") (List.mem_of_getElem? (i := 141) (by decide +kernel))) (hs (Cond.isRef (.static "jdk/internal/util/Preconditions" "SIOOBE_FORMATTER" "Ljava/util/function/BiFunction;")) (List.mem_of_getElem? (i := 5) (by decide +kernel))) hA
  · have hi : i < 30 := by
      rw [← w_len.1]
      exact (List.getElem?_eq_some_iff.mp hq).1
    have h1 := w_sr i hi
    rw [hq] at h1
    have h2 := (had i hi).1
    unfold wT at h2
    rw [hq] at h2
    exact vk_R.of (hts _ (List.mem_of_getElem? h1.symm)) h2
theorem w_Tab {s : State} {args : Array Value} {aD : Nat → ClassId} {D : va_G} {aS : Nat → Nat} (hts : ∀ w ∈ lw_tbl, w.before args s = true) (hK : va_K D vwCl (kTys aD) s) (hS : ∀ (i : Nat) (q : String × Nat × String), kStrs[i]? = some q → vk_R q.1 q.2.1 q.2.2 (aS i) s) : kTab aD D aS s := by
  refine ⟨hK, ⟨va_AO.of (hts (.arrayOver (.object RX0)) (List.mem_of_getElem? (i := 274) (by decide +kernel))), va_AO.of (hts (.arrayOver (.object RX10)) (List.mem_of_getElem? (i := 276) (by decide +kernel))), va_AO.of (hts (.arrayOver (.object RX4)) (List.mem_of_getElem? (i := 445) (by decide +kernel))), va_AO.of (hts (.arrayOver (.object RX1)) (List.mem_of_getElem? (i := 217) (by decide +kernel)))⟩, hS, fun q hq => ?_, ⟨va_Nw.of rfl (hts (.declares (Bundle.initS "java/lang/RuntimeException")) (List.mem_of_getElem? (i := 1145) (by decide +kernel))), va_Nw.of rfl (hts (.declares (Bundle.initS "java/lang/Exception")) (List.mem_of_getElem? (i := 1147) (by decide +kernel))), va_Nw.of rfl (hts (.declares (Bundle.initS "java/lang/Throwable")) (List.mem_of_getElem? (i := 1149) (by decide +kernel)))⟩, va_Nw.of rfl (hts (.castable "java/lang/IndexOutOfBoundsException" "java/lang/IndexOutOfBoundsException") (List.mem_of_getElem? (i := 1254) (by decide +kernel))), va_Nw.of rfl (hts (.castable "java/lang/IllegalArgumentException" "java/lang/IllegalArgumentException") (List.mem_of_getElem? (i := 1225) (by decide +kernel))), va_Nw.of rfl (hts (.castable "java/lang/IllegalStateException" "java/lang/IllegalStateException") (List.mem_of_getElem? (i := 1143) (by decide +kernel)))⟩
  obtain ⟨i, hi⟩ := List.mem_iff_getElem?.mp hq
  have h11 : i < 7 := by
    rw [← w_len.2]
    exact (List.getElem?_eq_some_iff.mp hi).1
  have h1 := w_n i h11
  rw [hi] at h1
  exact va_Nw.of rfl (hts _ (List.mem_of_getElem? h1.symm))
theorem w_Nc {s : State} {args : Array Value} (hs : ∀ c ∈ wF, c.before args s = true) : kNc s := ⟨va_Nc.of (hs (Cond.not (.castable "java/lang/IllegalArgumentException" "java/lang/IndexOutOfBoundsException")) (List.mem_of_getElem? (i := 49) (by decide +kernel))), va_Nc.of (hs (Cond.not (.castable "java/lang/IllegalStateException" "java/lang/IndexOutOfBoundsException")) (List.mem_of_getElem? (i := 48) (by decide +kernel))), va_Nc.of (hs (Cond.not (.castable "java/lang/IllegalStateException" "java/lang/IllegalArgumentException")) (List.mem_of_getElem? (i := 35) (by decide +kernel)))⟩
