/-! what stands at the law's start -/
def wF : List Cond := flatC (Cond.and given_1 narrow_1)
def wB : List Nat := [343, 398, 482, 546, 559, 572, 587, 601, 616, 633, 653, 673, 695, 716, 739, 764, 811, 864, 899, 934, 969, 1021, 1070]
def wT (i : Nat) : Term := match kStrs[i]? with
  | some q => Term.string q.1 q.2.1
  | none => Term.string "" 0
theorem w_x : ∀ i, i < 23 → wF[wB.getD i 0]? = some (Cond.exactly (wT i) "java/lang/String") ∧ wF[wB.getD i 0 + 1]? = some (Cond.eq (.field (wT i) "java/lang/String" "coder" "B") (.int 0)) ∧ wF[wB.getD i 0 + 2]? = some (Cond.arrayOf (.field (wT i) "java/lang/String" "value" "[B") .byte) ∧ wF[wB.getD i 0 + 3]? = some (Cond.eq (.length (.field (wT i) "java/lang/String" "value" "[B")) (.int (Int32.ofNat (kSlen.getD i 0)))) := by decide +kernel
theorem w_e : ∀ i, i < 23 → ∀ j, j < kSlen.getD i 0 → wF[wB.getD i 0 + 4 + j]? = some (Cond.eq (.elem (.field (wT i) "java/lang/String" "value" "[B") (.int (Int32.ofNat j))) (.int ((kSbyt.getD i []).getD j 0))) := by decide +kernel
theorem w_l : ∀ i, i < 23 → kSlen.getD i 0 < 2 ^ 31 := by decide +kernel
theorem w_str {args : Array Value} {s : State} {A : Nat → Prop} (h : ∀ c ∈ wF, c.before args s = true) (hA : ∀ a : Nat, a < s.heap.size → ¬ A a) (i : Nat) (hi : i < 23) : ∃ q : Nat × Nat, (wT i).eval args s none [] s = some (.ref q.1) ∧ va_O "java/lang/String" q.1 A s s.heap ∧ va_OF "java/lang/String" "coder" "B" (.int 0) q.1 A s s.heap ∧ va_OF "java/lang/String" "value" "[B" (.ref q.2) q.1 A s s.heap ∧ va_T .byte q.2 (kSlen.getD i 0) (fun j => .int ((kSbyt.getD i []).getD j 0)) A s s.heap := by
  obtain ⟨x1, x2, x3, x4⟩ := w_x i hi
  have y1 := h _ (List.mem_of_getElem? x1)
  have y2 := h _ (List.mem_of_getElem? x2)
  have y3 := h _ (List.mem_of_getElem? x3)
  have y4 := h _ (List.mem_of_getElem? x4)
  obtain ⟨a, c, cA, kA, q1, -⟩ := Cond.exactly_spec (args := args) (first := s) (o := none) (s := s) (idx := []) y1
  obtain ⟨t, ht, hT⟩ := va_Tof (f := fun j => .int ((kSbyt.getD i []).getD j 0)) (A := A) (w_l i hi) y3 (va_eqt y4) (fun j hj => va_eqt (h _ (List.mem_of_getElem? (w_e i hi j hj)))) hA
  exact ⟨(a, t), q1, va_Oof y1 q1 hA, vk_OFof q1 (va_eqt y2) hA, vk_OFof q1 ht hA, hT⟩
def wS : List Nat := [370, 427, 428, 468, 516, 538, 564, 580, 581, 743, 1050, 1089, 1429, 1430, 1431, 1543, 1587, 1681, 1868, 1890, 1970, 2001, 2128]
theorem w_sr : ∀ i, i < 23 → (kStrs[i]?).map (fun q => Cond.stringRef q.1 q.2.1 q.2.2) = lw_tbl[wS.getD i 0]? := by decide +kernel
def wN : List Nat := [99, 155, 202, 444, 447, 551]
theorem w_n : ∀ i, i < 6 → (kNests[i]?).map (fun q => Cond.methodLinkNest q.1 q.2.1 q.2.2.1 q.2.2.2) = lw_tbl[wN.getD i 0]? := by decide +kernel
theorem w_len : kStrs.length = 23 ∧ kNests.length = 6 := by decide +kernel
theorem w_arr {s : State} {args : Array Value} {t : FieldType} (h : (Cond.arrayClass t).before args s = true) (ht : ∀ cA, s.vm.findClass ("[" ++ t.toString) = some cA → va_RA s cA t) : ∃ cA : ClassId, ArrOfT s cA t ∧ va_RA s cA t := by
  obtain ⟨cA, kA, comp, h1, h2, h3⟩ := Cond.arrayClass_spec (args := args) (first := s) (o := none) (s := s) (idx := []) h
  exact ⟨cA, fun n z => ⟨(fun k h => by cases h), kA, h2, comp, h3⟩, ht cA h1⟩
theorem w_aro {s : State} {args : Array Value} {C : String} (h : (Cond.arrayOver (.object C)).before args s = true) : ∃ cA : ClassId, ArrOfT s cA (.object C) ∧ va_RA s cA (.object C) := by
  obtain ⟨comp, cA, kA, h1, -, h2, h3, h4⟩ := Cond.arrayOver_spec (args := args) (first := s) (o := none) (s := s) (idx := []) h
  exact ⟨cA, fun n z => ⟨(fun k h => by cases h), kA, h2, comp, h3⟩, kA, comp, h2, h3, h1, h4⟩
theorem inIN : ∀ w ∈ u_ws RIN TIN 1, w ∈ WT := by
  intro w hw
  have h9 : u_ws RIN TIN 1 = [1127].filterMap (fun i => lw_tbl[i]?) := by decide +kernel
  have h8 : (u_ws RIN TIN 1).all goodWord = true := by decide +kernel
  have h7 := List.all_eq_true.mp h8 w hw
  rw [h9] at hw
  obtain ⟨i, -, hi⟩ := List.mem_filterMap.mp hw
  exact kw i hi h7
theorem inAI : ∀ w ∈ u_ws RAI TAI 4, w ∈ WT := by
  intro w hw
  have h9 : u_ws RAI TAI 4 = [1774, 1776, 1778, 1780].filterMap (fun i => lw_tbl[i]?) := by decide +kernel
  have h8 : (u_ws RAI TAI 4).all goodWord = true := by decide +kernel
  have h7 := List.all_eq_true.mp h8 w hw
  rw [h9] at hw
  obtain ⟨i, -, hi⟩ := List.mem_filterMap.mp hw
  exact kw i hi h7
set_option maxRecDepth 20000 in
theorem w_K {s : State} {args : Array Value} (hts : ∀ w ∈ lw_tbl, w.before args s = true) : ∃ (aD : Nat → ClassId) (D : va_G), va_K D vwCl (kTys aD) s := by
  have hw : ∀ w ∈ WT, w.before args s = true := x_all hts
  obtain ⟨c0, i0, n0⟩ := u_known (C := RJ0) (T := TJ0) (N := 4) (n := 4) hw inJ0 (hts _ (List.mem_of_getElem? (i := 1440) (by decide +kernel)))
  obtain ⟨c1, i1, n1⟩ := u_known (C := RSB) (T := TSB) (N := 4) (n := 4) hw inSB (hts _ (List.mem_of_getElem? (i := 742) (by decide +kernel)))
  obtain ⟨c2, i2, n2⟩ := u_known (C := RIN) (T := TIN) (N := 1) (n := 1) hw inIN (hts _ (List.mem_of_getElem? (i := 1118) (by decide +kernel)))
  obtain ⟨c3, i3, n3⟩ := u_known (C := RAI) (T := TAI) (N := 4) (n := 4) hw inAI (hts _ (List.mem_of_getElem? (i := 1765) (by decide +kernel)))
  obtain ⟨c4, i4, n4⟩ := u_known (C := RAL) (T := TAL) (N := 3) (n := 3) hw inAL (hts _ (List.mem_of_getElem? (i := 671) (by decide +kernel)))
  obtain ⟨c5, i5, n5⟩ := u_known (C := RX0) (T := TX0) (N := 5) (n := 5) hw inX0 (hts _ (List.mem_of_getElem? (i := 220) (by decide +kernel)))
  obtain ⟨c6, i6, n6⟩ := u_known (C := RX1) (T := TX1) (N := 7) (n := 7) hw inX1 (hts _ (List.mem_of_getElem? (i := 154) (by decide +kernel)))
  obtain ⟨c7, i7, n7⟩ := u_known (C := RX2) (T := TX2) (N := 4) (n := 4) hw inX2 (hts _ (List.mem_of_getElem? (i := 201) (by decide +kernel)))
  obtain ⟨c8, i8, n8⟩ := u_known (C := RX3) (T := TX3) (N := 3) (n := 3) hw inX3 (hts _ (List.mem_of_getElem? (i := 352) (by decide +kernel)))
  obtain ⟨c9, i9, n9⟩ := u_known (C := RX4) (T := TX4) (N := 16) (n := 16) hw inX4 (hts _ (List.mem_of_getElem? (i := 191) (by decide +kernel)))
  obtain ⟨c10, i10, n10⟩ := u_known (C := RX6) (T := TX6) (N := 6) (n := 6) hw inX6 (hts _ (List.mem_of_getElem? (i := 147) (by decide +kernel)))
  obtain ⟨c11, i11, n11⟩ := u_known (C := RX8) (T := TX8) (N := 2) (n := 2) hw inX8 (hts _ (List.mem_of_getElem? (i := 98) (by decide +kernel)))
  obtain ⟨c12, i12, n12⟩ := u_known (C := RX9) (T := TX9) (N := 8) (n := 8) hw inX9 (hts _ (List.mem_of_getElem? (i := 114) (by decide +kernel)))
  obtain ⟨c13, i13, n13⟩ := u_known (C := RX10) (T := TX10) (N := 8) (n := 8) hw inX10 (hts _ (List.mem_of_getElem? (i := 244) (by decide +kernel)))
  obtain ⟨c14, i14, n14⟩ := u_known (C := RX11) (T := TX11) (N := 9) (n := 9) hw inX11 (hts _ (List.mem_of_getElem? (i := 90) (by decide +kernel)))
  obtain ⟨c15, i15, n15⟩ := u_known (C := RLB) (T := TLB) (N := 5) (n := 5) hw inLB (hts _ (List.mem_of_getElem? (i := 914) (by decide +kernel)))
  obtain ⟨c16, i16, n16⟩ := u_known (C := RLT) (T := TLT) (N := 7) (n := 7) hw inLT (hts _ (List.mem_of_getElem? (i := 1053) (by decide +kernel)))
  obtain ⟨c17, i17, n17⟩ := u_known (C := RL) (T := TL) (N := 12) (n := 12) hw inL (hts _ (List.mem_of_getElem? (i := 665) (by decide +kernel)))
  obtain ⟨c18, i18, n18⟩ := u_known (C := RSE) (T := TSE) (N := 2) (n := 2) hw inSE (hts _ (List.mem_of_getElem? (i := 2071) (by decide +kernel)))
  obtain ⟨c19, i19, n19⟩ := u_known (C := RTE) (T := TTE) (N := 6) (n := 6) hw inTE (hts _ (List.mem_of_getElem? (i := 1368) (by decide +kernel)))
  obtain ⟨c20, i20, n20⟩ := u_known (C := RTI) (T := TTI) (N := 4) (n := 4) hw inTI (hts _ (List.mem_of_getElem? (i := 1790) (by decide +kernel)))
  obtain ⟨c21, i21, n21⟩ := u_known (C := RTV) (T := TTV) (N := 1) (n := 1) hw inTV (hts _ (List.mem_of_getElem? (i := 1745) (by decide +kernel)))
  obtain ⟨c22, i22, n22⟩ := u_known (C := RTM) (T := TTM) (N := 9) (n := 9) hw inTM (hts _ (List.mem_of_getElem? (i := 930) (by decide +kernel)))
  obtain ⟨d13, a13⟩ := w_arr (hts (.arrayClass .int) (List.mem_of_getElem? (i := 112) (by decide +kernel))) (fun _ h => h)
  obtain ⟨d14, a14⟩ := w_arr (hts (.arrayClass .boolean) (List.mem_of_getElem? (i := 659) (by decide +kernel))) (fun _ h => h)
  obtain ⟨d20, a20⟩ := w_arr (hts (.arrayClass .byte) (List.mem_of_getElem? (i := 660) (by decide +kernel))) (fun _ h => h)
  obtain ⟨d16, a16⟩ := w_aro (hts (.arrayOver (.object RX0)) (List.mem_of_getElem? (i := 197) (by decide +kernel)))
  obtain ⟨d17, a17⟩ := w_aro (hts (.arrayOver (.object RX10)) (List.mem_of_getElem? (i := 199) (by decide +kernel)))
  obtain ⟨d18, a18⟩ := w_aro (hts (.arrayOver (.object RX4)) (List.mem_of_getElem? (i := 358) (by decide +kernel)))
  obtain ⟨d19, a19⟩ := w_aro (hts (.arrayOver (.object RX1)) (List.mem_of_getElem? (i := 153) (by decide +kernel)))
  obtain ⟨d21, a21⟩ := w_aro (hts (.arrayOver (.object "java/lang/Object")) (List.mem_of_getElem? (i := 1046) (by decide +kernel)))
  refine ⟨fun t => [d13, d14, d13, d16, d17, d18, d19, d20, d21].getD (t - 13) d13, (fun k => [c0, c1, c2, c3, c4, c5, c6, c7, c8, c9, c10, c11, c12, c13, c14, c15, c16, c17, c18, c19, c20, c21, c22].getD k c0, fun k => [i0, i1, i2, i3, i4, i5, i6, i7, i8, i9, i10, i11, i12, i13, i14, i15, i16, i17, i18, i19, i20, i21, i22].getD k i0), fun k q hq => ?_, fun k q hq => ?_⟩
  · match k, hq with
    | 0, hq => cases hq; exact n0
    | 1, hq => cases hq; exact n1
    | 2, hq => cases hq; exact n2
    | 3, hq => cases hq; exact n3
    | 4, hq => cases hq; exact n4
    | 5, hq => cases hq; exact n5
    | 6, hq => cases hq; exact n6
    | 7, hq => cases hq; exact n7
    | 8, hq => cases hq; exact n8
    | 9, hq => cases hq; exact n9
    | 10, hq => cases hq; exact n10
    | 11, hq => cases hq; exact n11
    | 12, hq => cases hq; exact n12
    | 13, hq => cases hq; exact n13
    | 14, hq => cases hq; exact n14
    | 15, hq => cases hq; exact n15
    | 16, hq => cases hq; exact n16
    | 17, hq => cases hq; exact n17
    | 18, hq => cases hq; exact n18
    | 19, hq => cases hq; exact n19
    | 20, hq => cases hq; exact n20
    | 21, hq => cases hq; exact n21
    | 22, hq => cases hq; exact n22
    | k + 23, hq => simp [vwCl] at hq
  · match k, hq with
    | 0, hq => cases hq; exact a13
    | 1, hq => cases hq; exact a14
    | 2, hq => cases hq; exact a20
    | 3, hq => cases hq; exact a16
    | 4, hq => cases hq; exact a17
    | 5, hq => cases hq; exact a18
    | 6, hq => cases hq; exact a19
    | 7, hq => cases hq; exact a21
    | k + 8, hq => simp [kTys] at hq
