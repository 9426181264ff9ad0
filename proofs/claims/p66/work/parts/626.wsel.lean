/-! every word of WT holds at the start: the four private methods of AbstractStringBuilder, selected on a StringBuilder -/
theorem x_sel {y z : MethodName} {s : State} {args : Array Value} (hy : y.cls ≠ "java/lang/invoke/MethodHandle" ∧ y.cls ≠ "java/lang/invoke/VarHandle") (hz : z.cls = y.cls) (hsz : (Cond.selects RSB z z).before args s = true) (hpriv : (Cond.privateMethod y).before args s = true) (hinst : (Cond.instanceMethod y).before args s = true) : (Cond.selects RSB y y).before args s = true := by
  obtain ⟨c, r2, m2, q1, q2, q3, q4, kP, hkP, hkPi⟩ := Cond.selects_spec hsz
  obtain ⟨mk, methM, hnamed, hmethM, -, -⟩ := Cond.instanceMethod_spec hinst
  have hfound : s.methodFound? y.cls y.name y.desc = some mk := State.methodFound?_of_named hnamed hy
  have hcls : mk.cls = m2.cls := Option.some.inj ((findClass_of_methodNamed hnamed).symm.trans (by rw [← hz]; exact findClass_of_methodNamed q3))
  have hsel : selectMethod {} s.vm c mk = .method mk := selectMethod_private hmethM (Cond.privateMethod_at hpriv mk methM hnamed hmethM)
  simp only [Cond.before, Cond.holds, Cond.value, q1, hfound, hnamed, hsel, hcls, hkP]
  simp; exact hkPi
theorem x_all {s : State} {args : Array Value} (hts : ∀ w ∈ lw_tbl, w.before args s = true) : ∀ w ∈ WT, w.before args s = true := by
  intro w hw
  have hz : (Cond.selects RSB yAS_isLatin1_aae02 yAS_isLatin1_aae02).before args s = true := hts _ (List.mem_of_getElem? (i := 812) (by decide +kernel))
  rcases List.mem_append.mp (List.mem_filter.mp hw).1 with h | h
  · exact hts w h
  · simp only [xSel, xPriv, List.map_cons, List.map_nil, List.mem_cons, List.not_mem_nil, or_false] at h
    rcases h with rfl | rfl | rfl | rfl
    · exact x_sel (z := yAS_isLatin1_aae02) (by decide +kernel) rfl hz (hts _ (List.mem_of_getElem? (i := 780) (by decide +kernel))) (hts _ (List.mem_of_getElem? (i := 781) (by decide +kernel)))
    · exact x_sel (z := yAS_isLatin1_aae02) (by decide +kernel) rfl hz (hts _ (List.mem_of_getElem? (i := 784) (by decide +kernel))) (hts _ (List.mem_of_getElem? (i := 785) (by decide +kernel)))
    · exact x_sel (z := yAS_isLatin1_aae02) (by decide +kernel) rfl hz (hts _ (List.mem_of_getElem? (i := 831) (by decide +kernel))) (hts _ (List.mem_of_getElem? (i := 832) (by decide +kernel)))
    · exact x_sel (z := yAS_isLatin1_aae02) (by decide +kernel) rfl hz (hts _ (List.mem_of_getElem? (i := 835) (by decide +kernel))) (hts _ (List.mem_of_getElem? (i := 836) (by decide +kernel)))
