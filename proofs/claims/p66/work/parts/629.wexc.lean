/-! what the tables say at the start: casts, fields by nest, methods by interface -/
def xC : List Nat := [805, 919, 1154, 1758, 1783, 1825, 2080, 2086, 2178, 2186, 2188, 2190, 2192, 2197, 2199, 2200, 2211]
def xL : List Nat := [686, 942, 965, 967, 969, 971, 973, 974, 1059, 1061, 1062, 1064, 1066, 1068, 1069, 1071, 1073]
def xF1 : List Nat := [918, 989, 1093, 1153, 1757, 1757, 1818, 1834, 2079, 2079, 2095, 2095]
def xF2 : List Nat := [917, 988, 1092, 1152, 1756, 1756, 1817, 1833, 2078, 2078, 2094, 2094]
def xF3 : List Nat := [923, 993, 1097, 1158, 1762, 1787, 1829, 1847, 2084, 2090, 2099, 2104]
def xF4 : List Nat := [921, 991, 1095, 1156, 1760, 1785, 1827, 1845, 2082, 2088, 2097, 2102]
def xF5 : List Nat := [919, 919, 919, 1154, 1758, 1783, 1825, 1825, 2080, 2086, 2080, 2086]
theorem x_C : ∀ i, i < 17 → (kCasts[i]?).map (fun q => Cond.castable q.1 q.2) = lw_tbl[xC.getD i 0]? := by decide +kernel
theorem x_L : ∀ i, i < 17 → (kFNest[i]?).map (fun q => Cond.fieldLinkNest q.1 q.2.1 q.2.2.1 q.2.2.2.1 q.2.2.2.2.1 q.2.2.2.2.2) = lw_tbl[xL.getD i 0]? := by decide +kernel
theorem x_F1 : ∀ i, i < 12 → (kFws[i]?).map (fun q => Cond.declares q.2.1) = lw_tbl[xF1.getD i 0]? := by decide +kernel
theorem x_F2 : ∀ i, i < 12 → (kFws[i]?).map (fun q => Cond.interfaceMethod q.2.1.cls q.2.1.cls q.2.1.name q.2.1.desc) = lw_tbl[xF2.getD i 0]? := by decide +kernel
theorem x_F3 : ∀ i, i < 12 → (kFws[i]?).map (fun q => Cond.publicMethod q.2.2) = lw_tbl[xF3.getD i 0]? := by decide +kernel
theorem x_F4 : ∀ i, i < 12 → (kFws[i]?).map (fun q => Cond.unhidden q.1 q.2.1.name q.2.1.desc) = lw_tbl[xF4.getD i 0]? := by decide +kernel
theorem x_F5 : ∀ i, i < 12 → (kFws[i]?).map (fun q => Cond.castable q.1 q.2.1.cls) = lw_tbl[xF5.getD i 0]? := by decide +kernel
theorem x_len : kCasts.length = 17 ∧ kFNest.length = 17 ∧ kFws.length = 12 := by decide +kernel
theorem w_Exc {s : State} {args : Array Value} (hts : ∀ w ∈ lw_tbl, w.before args s = true) : kExc s := by
  refine ⟨fun q hq => ?_, fun q hq => ?_, fun q hq => ?_⟩
  · obtain ⟨i, hi⟩ := List.mem_iff_getElem?.mp hq
    have hl : i < 17 := by
      rw [← x_len.1]
      exact (List.getElem?_eq_some_iff.mp hi).1
    have h1 := x_C i hl
    rw [hi] at h1
    exact va_Nw.of rfl (hts _ (List.mem_of_getElem? h1.symm))
  · obtain ⟨i, hi⟩ := List.mem_iff_getElem?.mp hq
    have hl : i < 17 := by
      rw [← x_len.2.1]
      exact (List.getElem?_eq_some_iff.mp hi).1
    have h1 := x_L i hl
    rw [hi] at h1
    exact va_Nw.of rfl (hts _ (List.mem_of_getElem? h1.symm))
  · obtain ⟨i, hi⟩ := List.mem_iff_getElem?.mp hq
    have hl : i < 12 := by
      rw [← x_len.2.2]
      exact (List.getElem?_eq_some_iff.mp hi).1
    have h1 := x_F1 i hl
    rw [hi] at h1
    have h2 := x_F2 i hl
    rw [hi] at h2
    have h3 := x_F3 i hl
    rw [hi] at h3
    have h4 := x_F4 i hl
    rw [hi] at h4
    have h5 := x_F5 i hl
    rw [hi] at h5
    exact va_Fw.of (hts _ (List.mem_of_getElem? h1.symm)) (hts _ (List.mem_of_getElem? h2.symm)) (hts _ (List.mem_of_getElem? h3.symm)) (hts _ (List.mem_of_getElem? h4.symm)) (hts _ (List.mem_of_getElem? h5.symm))
