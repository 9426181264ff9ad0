/-! each call of the law's body answers alike on both sides, and goes on -/
def zS (Ls : Nat) (x4 : Int32) : Prop := (decide (0 ≤ x4 + 1) && decide ((x4 + 1 : Int32).toNatClampNeg < Ls)) = true ∧ (decide (0 ≤ x4 + 2) && decide ((x4 + 2 : Int32).toNatClampNeg < Ls)) = true ∧ (decide (0 ≤ x4 + 3) && decide ((x4 + 3 : Int32).toNatClampNeg < Ls)) = true ∧ (decide (0 ≤ x4 + 4) && decide ((x4 + 4 : Int32).toNatClampNeg < Ls)) = true ∧ (decide (0 ≤ x4 + 5) && decide ((x4 + 5 : Int32).toNatClampNeg < Ls)) = true
theorem zS_0 {Ls a : Nat} (h : a + 6 ≤ Ls) (hL : Ls ≤ 3072) : (decide (0 ≤ nI a) && decide ((nI a).toNatClampNeg < Ls)) = true := by
  rw [Bool.and_eq_true]
  exact ⟨decide_eq_true (nI_0le (by omega)), decide_eq_true (by rw [nI_clamp (by omega)]; omega)⟩
theorem zS_p {Ls a j : Nat} (h : a + j + 1 ≤ Ls) (hL : Ls ≤ 3072) : (decide (0 ≤ nI a + nI j) && decide ((nI a + nI j).toNatClampNeg < Ls)) = true := by
  have e : nI a + nI j = nI (a + j) := (Int32.ofNat_add a j).symm
  rw [e, Bool.and_eq_true]
  exact ⟨decide_eq_true (nI_0le (by omega)), decide_eq_true (by rw [nI_clamp (by omega)]; omega)⟩
theorem zS_of {Ls a : Nat} (h : a + 6 ≤ Ls) (hL : Ls ≤ 3072) : zS Ls (nI a) := ⟨zS_p (j := 1) (by omega) hL, zS_p (j := 2) (by omega) hL, zS_p (j := 3) (by omega) hL, zS_p (j := 4) (by omega) hL, zS_p (j := 5) (by omega) hL⟩
theorem zS_next {t : Nat} : nI (6 * t) + 6 = nI (6 * (t + 1)) := (Int32.ofNat_add (6 * t) 6).symm
theorem zl_end {Ls t : Nat} (hL : Ls ≤ 3072) (h2 : 6 * t ≤ Ls + 6) (h3 : Ls < 6 * t + 6) : Int32.ofNat Ls - 6 < nI (6 * t) := by
  have h1 : (Int32.ofNat Ls - 6).toInt = (Ls : Int) - 6 := by
    rw [Int32.toInt_sub, Int32.toInt_ofNat_of_lt (by omega)]
    show ((Ls : Int) - 6).bmod _ = _
    exact Int.bmod_eq_of_le (by omega) (by omega)
  rw [Int32.lt_iff_toInt_lt, h1]
  show _ < (Int32.ofNat (6 * t)).toInt
  rw [Int32.toInt_ofNat_of_lt (by omega)]
  omega
theorem zl_go {Ls t : Nat} (hL : Ls ≤ 3072) (h2 : 6 * t ≤ Ls + 6) (h3 : ¬ Ls < 6 * t + 6) : ¬ Int32.ofNat Ls - 6 < nI (6 * t) := by
  have h1 : (Int32.ofNat Ls - 6).toInt = (Ls : Int) - 6 := by
    rw [Int32.toInt_sub, Int32.toInt_ofNat_of_lt (by omega)]
    show ((Ls : Int) - 6).bmod _ = _
    exact Int.bmod_eq_of_le (by omega) (by omega)
  rw [Int32.lt_iff_toInt_lt, h1]
  show ¬ _ < (Int32.ofNat (6 * t)).toInt
  rw [Int32.toInt_ofNat_of_lt (by omega)]
  omega
theorem zl_if {α : Type} {c : Prop} [Decidable c] {a b : Option α} {v : α} (h1 : c → a = some v) (h2 : b = some v) : (if c then a else b) = some v := by
  by_cases z : c
  · rw [if_pos z]; exact h1 z
  · rw [if_neg z]; exact h2
theorem z_out : kt Mb 552 15 = true ∧ kn Mb 552 = 1 := by decide +kernel
theorem z_kin {I : kInts} {L : kLngs} : kin (wm Mb I L) 552 15 0 = true := by
  rw [wm_kin]
  unfold kin
  rw [z_out.1, z_out.2]
  decide
theorem z_t1 {I : kInts} {L : kLngs} : kt (wm Mb I L) 1 11 = true := (wm_kt Mb I L 1 11).trans x1_t.1
theorem z_t2 {I : kInts} {L : kLngs} : kt (wm Mb I L) 540 12 = true := (wm_kt Mb I L 540 12).trans sr_k
theorem z_thrown {N : Nat} {I : kInts} {L : kLngs} : F_X12_thrown N (wm Mb I L) 540 = some (I 540 6) := by
  unfold F_X12_thrown
  rw [z_t2, kg_t, wm_kI]
def zLs (L : kLngs) (v : Int64) : kLngs := fun a j => if a = 552 ∧ j = 0 then v else L a j
theorem z_ks {I : kInts} {L : kLngs} {v : Int64} : ksL (wm Mb I L) 552 (kx 0) v = wm Mb I (zLs L v) := by
  rw [kx_0]
  generalize Mb = M
  rfl
theorem z_kL {I : kInts} {L L2 : kLngs} {v : Int64} (h : LF (zLs L v) L2) : kL (wm Mb I L2) 552 (kx 0) = v := by
  rw [wm_kL, kx_0, h 552 0 (by omega)]
  exact if_pos ⟨rfl, rfl⟩
theorem z_cmp {v : Int64} : lg_cmp v v = 0 := by
  unfold lg_cmp
  simp
/-- a call of a helper, and the reference's call: the same exception, or the same answer -/
theorem zx_int {lst : List (Nat × Nat)} {fc : kMem → Option ((Int32 ⊕ Nat) × kMem)} {fr : kMem → Option (Int32 × kMem)} {I : kInts} {L : kLngs} {N : Nat} {k23 : kMem → Int32 → Option Unit} {x4 : Int32} (hs : SameX lst fc fr I) (EX : Nat → kMem → Option (Int32 × kMem)) (hEX : ∀ c k M, (c, k) ∈ lst → EX c M = some (nI k, M)) (hn : ∀ q ∈ lst, nI q.2 ≠ 0) (hk : ∀ I2 L2, Rel I2 → k23 (wm Mb I2 L2) (x4 + 6) = some ()) :
    (kg (kt (wm Mb I L) 1 11) <| kbc (fc (wm Mb I L)) (fun r M2 => kg (kin M2 552 15 0) <| kl (ksL M2 552 (kx 0) r.toInt64) fun M3 => some ((0 : Int32), M3)) EX).bind (fun r1 => kl r1.1 fun v2 => kg (kt r1.2 540 12) <| (fr r1.2).bind fun r3 => kl r3.1 fun v4 => kg (kt r3.2 540 12) <| (F_X12_thrown N r3.2 540).bind fun r5 =>
      if r5 = v2 then (if v2 = 0 then (kg (kin r3.2 552 15 0) <| if (lg_cmp (kL r3.2 552 (kx 0)) v4.toInt64) = 0 then (kl (x4 + 6) fun v7 => k23 r3.2 v7) else none) else kl (x4 + 6) fun v6 => k23 r3.2 v6) else none) = some () := by
  obtain ⟨o, I1, h1, h2⟩ := hs L
  rw [z_t1, kg_t, h1]
  cases o with
  | inl v =>
    obtain ⟨w, I2, L2, h3, h4, h5, h6⟩ := h2 (zLs L v.toInt64)
    have h7 : w = v ∧ I2 540 6 = 0 := by
      rcases h6 with h6 | ⟨c, k, h6, -⟩
      · exact ⟨(Sum.inl.inj h6.1).symm, h6.2⟩
      · cases h6
    obtain ⟨rfl, h8⟩ := h7
    simp only [kbc, z_kin, kg_t, kl_v, z_ks, Option.bind_some, z_t2, h3, z_thrown, h8, if_true, z_kL h5, z_cmp]
    exact hk I2 L2 h4
  | inr c =>
    obtain ⟨w, I2, L2, h3, h4, h5, h6⟩ := h2 L
    rcases h6 with h6 | ⟨c', k, h6, h7, h8⟩
    · cases h6.1
    · cases h6
      have h9 := hn _ h7
      simp only [kbc, hEX _ _ _ h7, kg_t, kl_v, Option.bind_some, z_t2, h3, z_thrown, h8, if_true, if_neg h9]
      exact hk I2 L2 h4
theorem zx_bool {lst : List (Nat × Nat)} {fc : kMem → Option ((Int32 ⊕ Nat) × kMem)} {fr : kMem → Option (Int32 × kMem)} {I : kInts} {L : kLngs} {N : Nat} {k23 : kMem → Int32 → Option Unit} {x4 : Int32} (hs : SameX lst fc fr I) (EX : Nat → kMem → Option (Int32 × kMem)) (hEX : ∀ c k M, (c, k) ∈ lst → EX c M = some (nI k, M)) (hn : ∀ q ∈ lst, nI q.2 ≠ 0) (hk : ∀ I2 L2, Rel I2 → k23 (wm Mb I2 L2) (x4 + 6) = some ()) :
    (kg (kt (wm Mb I L) 1 11) <| kbc (fc (wm Mb I L)) (fun r M2 => if r = 0 then (kg (kin M2 552 15 0) <| kl (ksL M2 552 (kx 0) 0) fun M3 => some ((0 : Int32), M3)) else kg (kin M2 552 15 0) <| kl (ksL M2 552 (kx 0) 1) fun M3 => some ((0 : Int32), M3)) EX).bind (fun r1 => kl r1.1 fun v2 => kg (kt r1.2 540 12) <| (fr r1.2).bind fun r3 => kl r3.1 fun v4 => kg (kt r3.2 540 12) <| (F_X12_thrown N r3.2 540).bind fun r5 =>
      if r5 = v2 then (if v2 = 0 then (kg (kin r3.2 552 15 0) <| if v4 = 0 then (if (lg_cmp (kL r3.2 552 (kx 0)) 0) = 0 then (kl (x4 + 6) fun v7 => k23 r3.2 v7) else none) else if (lg_cmp (kL r3.2 552 (kx 0)) 1) = 0 then (kl (x4 + 6) fun v8 => k23 r3.2 v8) else none) else kl (x4 + 6) fun v6 => k23 r3.2 v6) else none) = some () := by
  obtain ⟨o, I1, h1, h2⟩ := hs L
  rw [z_t1, kg_t, h1]
  cases o with
  | inl v =>
    by_cases z : v = 0
    · obtain ⟨w, I2, L2, h3, h4, h5, h6⟩ := h2 (zLs L 0)
      have h7 : w = v ∧ I2 540 6 = 0 := by
        rcases h6 with h6 | ⟨c, k, h6, -⟩
        · exact ⟨(Sum.inl.inj h6.1).symm, h6.2⟩
        · cases h6
      obtain ⟨rfl, h8⟩ := h7
      simp only [kbc, z, z_kin, kg_t, kl_v, z_ks, Option.bind_some, z_t2, h3, z_thrown, h8, if_true, z_kL h5, z_cmp]
      exact hk I2 L2 h4
    · obtain ⟨w, I2, L2, h3, h4, h5, h6⟩ := h2 (zLs L 1)
      have h7 : w = v ∧ I2 540 6 = 0 := by
        rcases h6 with h6 | ⟨c, k, h6, -⟩
        · exact ⟨(Sum.inl.inj h6.1).symm, h6.2⟩
        · cases h6
      obtain ⟨rfl, h8⟩ := h7
      simp only [kbc, z, if_false, z_kin, kg_t, kl_v, z_ks, Option.bind_some, z_t2, h3, z_thrown, h8, if_true, z_kL h5, z_cmp]
      exact hk I2 L2 h4
  | inr c =>
    obtain ⟨w, I2, L2, h3, h4, h5, h6⟩ := h2 L
    rcases h6 with h6 | ⟨c', k, h6, h7, h8⟩
    · cases h6.1
    · cases h6
      have h9 := hn _ h7
      simp only [kbc, hEX _ _ _ h7, kg_t, kl_v, Option.bind_some, z_t2, h3, z_thrown, h8, if_true, if_neg h9]
      exact hk I2 L2 h4
theorem zx_look {fc : kMem → Option Int32} {fr : kMem → Option (Int32 × kMem)} {I : kInts} {L : kLngs} {k23 : kMem → Int32 → Option Unit} {x4 : Int32} (hs : SameI fc fr I) (hk : ∀ I2 L2, Rel I2 → k23 (wm Mb I2 L2) (x4 + 6) = some ()) :
    (kg (kt (wm Mb I L) 1 11) <| (fc (wm Mb I L)).bind fun r1 => kg (kt (wm Mb I L) 540 12) <| (fr (wm Mb I L)).bind fun r2 => if r1 = r2.1 then (kl (x4 + 6) fun v3 => k23 r2.2 v3) else none) = some () := by
  obtain ⟨v, h1, h2⟩ := hs L
  obtain ⟨I2, L2, h3, h4, -⟩ := h2 L
  simp only [z_t1, z_t2, kg_t, kl_v, Option.bind_some, h1, h3, if_true]
  exact hk I2 L2 h4
theorem zx_both {fc fr : kMem → Option (Int32 × kMem)} {I : kInts} {L : kLngs} {k23 : kMem → Int32 → Option Unit} {x4 : Int32} (hs : Same0 fc fr I) (hk : ∀ I2 L2, Rel I2 → k23 (wm Mb I2 L2) (x4 + 6) = some ()) :
    (kg (kt (wm Mb I L) 1 11) <| (fc (wm Mb I L)).bind fun r1 => kg (kt r1.2 540 12) <| (fr r1.2).bind fun r2 => if r1.1 = r2.1 then (kl (x4 + 6) fun v3 => k23 r2.2 v3) else none) = some () := by
  obtain ⟨v, I1, h1, h2⟩ := hs L
  obtain ⟨I2, L2, h3, h4, -⟩ := h2 L
  simp only [z_t1, z_t2, kg_t, kl_v, Option.bind_some, h1, h3, if_true]
  exact hk I2 L2 h4
theorem zc_2078 {I : kInts} {L : kLngs} {N Ls : Nat} {xs : Nat → Int32} {k23 : kMem → Int32 → Option Unit} {x4 : Int32} (h : Rel I) (hN : 20000 < N) (hk : ∀ I2 L2, Rel I2 → k23 (wm Mb I2 L2) (x4 + 6) = some ()) : F_L_law_2078 N Ls xs 1 540 552 k23 (wm Mb I L) x4 = some () := by
  unfold F_L_law_2078
  obtain ⟨v, h1, h2⟩ := sf_averagePurse (N := N) h (Nat.lt_trans (by decide) hN) L
  obtain ⟨I2, L2, h3, h4, -⟩ := h2 L
  simp only [z_t1, z_t2, kg_t, kl_v, Option.bind_some, h1, h3]
  by_cases z : Op.cmpValue (FP.dcmp v v) .l = 0
  · simp only [z, if_true]
    exact hk I2 L2 h4
  · simp only [z, if_false]
    exact hk I2 L2 h4
theorem zc_2119 {I : kInts} {L : kLngs} {N Ls : Nat} {xs : Nat → Int32} {k23 : kMem → Int32 → Option Unit} {x4 : Int32} (h : Rel I) (hN : 20000 < N) (hk : ∀ I2 L2, Rel I2 → k23 (wm Mb I2 L2) (x4 + 6) = some ()) : F_L_law_2119 N Ls xs 1 540 552 k23 (wm Mb I L) x4 = some () := by
  unfold F_L_law_2119
  obtain ⟨v, h1, h2⟩ := sf_occupancy (N := N) h (Nat.lt_trans (by decide) hN) L
  obtain ⟨I2, L2, h3, h4, -⟩ := h2 L
  obtain ⟨a, s, ha, hs, h5⟩ := sf_ocv (N := N) h L (Nat.lt_trans (by decide) hN)
  rw [h1] at h5
  cases h5
  simp only [z_t1, z_t2, kg_t, kl_v, Option.bind_some, h1, h3, oc_nn a ha s hs]
  by_cases z : Op.cmpValue (FP.dcmp (FP.f2d (ocV a s)) (FP.f2d (ocV a s))) .l = 0
  · simp only [z, if_true]
    exact hk I2 L2 h4
  · simp only [z, if_false]
    exact hk I2 L2 h4
theorem zc_308 {I : kInts} {L : kLngs} {N Ls : Nat} {xs : Nat → Int32} {k23 : kMem → Int32 → Option Unit} {x4 : Int32} (h : Rel I) (hN : 20000 < N) (hS : zS Ls x4) (hk : ∀ I2 L2, Rel I2 → k23 (wm Mb I2 L2) (x4 + 6) = some ()) : F_L_law_308 N Ls xs 1 540 552 k23 (wm Mb I L) x4 = some () := by
  unfold F_L_law_308 F_L_append
  simp only [hS.1, hS.2.1, hS.2.2.1, hS.2.2.2.1, hS.2.2.2.2, kg_t]
  exact zx_int (sx_append (N := N) h (xs (kx (x4 + 1))) (xs (kx (x4 + 2))) (xs (kx (x4 + 3))) (xs (kx (x4 + 4))) (xs (kx (x4 + 5))) (Nat.lt_trans (by decide) hN)) _ (fun c9 k9 M9 h9 => by simp only [List.mem_cons, List.not_mem_nil, or_false, Prod.mk.injEq] at h9; obtain ⟨rfl, rfl⟩ := h9; rfl) (by decide) hk
theorem zc_412 {I : kInts} {L : kLngs} {N Ls : Nat} {xs : Nat → Int32} {k23 : kMem → Int32 → Option Unit} {x4 : Int32} (h : Rel I) (hN : 20000 < N) (hS : zS Ls x4) (hk : ∀ I2 L2, Rel I2 → k23 (wm Mb I2 L2) (x4 + 6) = some ()) : F_L_law_412 N Ls xs 1 540 552 k23 (wm Mb I L) x4 = some () := by
  unfold F_L_law_412 F_L_truncate
  simp only [hS.1, hS.2.1, hS.2.2.1, hS.2.2.2.1, hS.2.2.2.2, kg_t]
  exact zx_int (sx_truncate (N := N) h (xs (kx (x4 + 1)))) _ (fun c9 k9 M9 h9 => by simp only [List.mem_cons, List.not_mem_nil, or_false, Prod.mk.injEq] at h9; obtain ⟨rfl, rfl⟩ := h9; rfl) (by decide) hk
theorem zc_468 {I : kInts} {L : kLngs} {N Ls : Nat} {xs : Nat → Int32} {k23 : kMem → Int32 → Option Unit} {x4 : Int32} (h : Rel I) (hN : 20000 < N) (hS : zS Ls x4) (hk : ∀ I2 L2, Rel I2 → k23 (wm Mb I2 L2) (x4 + 6) = some ()) : F_L_law_468 N Ls xs 1 540 552 k23 (wm Mb I L) x4 = some () := by
  unfold F_L_law_468
  have h9 := zx_both (L := L) (k23 := k23) (x4 := x4) (lk_load (N := N) h (Nat.lt_trans (by decide) hN)) hk
  exact h9
theorem zc_481 {I : kInts} {L : kLngs} {N Ls : Nat} {xs : Nat → Int32} {k23 : kMem → Int32 → Option Unit} {x4 : Int32} (h : Rel I) (hN : 20000 < N) (hS : zS Ls x4) (hk : ∀ I2 L2, Rel I2 → k23 (wm Mb I2 L2) (x4 + 6) = some ()) : F_L_law_481 N Ls xs 1 540 552 k23 (wm Mb I L) x4 = some () := by
  unfold F_L_law_481
  have h9 := zx_both (L := L) (k23 := k23) (x4 := x4) (lk_runScript (N := N) h hN) hk
  exact h9
theorem zc_494 {I : kInts} {L : kLngs} {N Ls : Nat} {xs : Nat → Int32} {k23 : kMem → Int32 → Option Unit} {x4 : Int32} (h : Rel I) (hN : 20000 < N) (hS : zS Ls x4) (hk : ∀ I2 L2, Rel I2 → k23 (wm Mb I2 L2) (x4 + 6) = some ()) : F_L_law_494 N Ls xs 1 540 552 k23 (wm Mb I L) x4 = some () := by
  unfold F_L_law_494
  have h9 := zx_look (L := L) (k23 := k23) (x4 := x4) (sm_errorCode (N := N) h) hk
  exact h9
theorem zc_507 {I : kInts} {L : kLngs} {N Ls : Nat} {xs : Nat → Int32} {k23 : kMem → Int32 → Option Unit} {x4 : Int32} (h : Rel I) (hN : 20000 < N) (hS : zS Ls x4) (hk : ∀ I2 L2, Rel I2 → k23 (wm Mb I2 L2) (x4 + 6) = some ()) : F_L_law_507 N Ls xs 1 540 552 k23 (wm Mb I L) x4 = some () := by
  unfold F_L_law_507
  have h9 := zx_look (L := L) (k23 := k23) (x4 := x4) (sm_errorPosition (N := N) h) hk
  exact h9
theorem zc_520 {I : kInts} {L : kLngs} {N Ls : Nat} {xs : Nat → Int32} {k23 : kMem → Int32 → Option Unit} {x4 : Int32} (h : Rel I) (hN : 20000 < N) (hS : zS Ls x4) (hk : ∀ I2 L2, Rel I2 → k23 (wm Mb I2 L2) (x4 + 6) = some ()) : F_L_law_520 N Ls xs 1 540 552 k23 (wm Mb I L) x4 = some () := by
  unfold F_L_law_520
  have h9 := zx_look (L := L) (k23 := k23) (x4 := x4) (sm_day (N := N) h) hk
  exact h9
theorem zc_533 {I : kInts} {L : kLngs} {N Ls : Nat} {xs : Nat → Int32} {k23 : kMem → Int32 → Option Unit} {x4 : Int32} (h : Rel I) (hN : 20000 < N) (hS : zS Ls x4) (hk : ∀ I2 L2, Rel I2 → k23 (wm Mb I2 L2) (x4 + 6) = some ()) : F_L_law_533 N Ls xs 1 540 552 k23 (wm Mb I L) x4 = some () := by
  unfold F_L_law_533
  have h9 := zx_look (L := L) (k23 := k23) (x4 := x4) (sm_bank (N := N) h) hk
  exact h9
theorem zc_546 {I : kInts} {L : kLngs} {N Ls : Nat} {xs : Nat → Int32} {k23 : kMem → Int32 → Option Unit} {x4 : Int32} (h : Rel I) (hN : 20000 < N) (hS : zS Ls x4) (hk : ∀ I2 L2, Rel I2 → k23 (wm Mb I2 L2) (x4 + 6) = some ()) : F_L_law_546 N Ls xs 1 540 552 k23 (wm Mb I L) x4 = some () := by
  unfold F_L_law_546
  have h9 := zx_look (L := L) (k23 := k23) (x4 := x4) (sm_wage (N := N) h) hk
  exact h9
theorem zc_559 {I : kInts} {L : kLngs} {N Ls : Nat} {xs : Nat → Int32} {k23 : kMem → Int32 → Option Unit} {x4 : Int32} (h : Rel I) (hN : 20000 < N) (hS : zS Ls x4) (hk : ∀ I2 L2, Rel I2 → k23 (wm Mb I2 L2) (x4 + 6) = some ()) : F_L_law_559 N Ls xs 1 540 552 k23 (wm Mb I L) x4 = some () := by
  unfold F_L_law_559
  have h9 := zx_look (L := L) (k23 := k23) (x4 := x4) (sm_basePrice (N := N) h) hk
  exact h9
theorem zc_572 {I : kInts} {L : kLngs} {N Ls : Nat} {xs : Nat → Int32} {k23 : kMem → Int32 → Option Unit} {x4 : Int32} (h : Rel I) (hN : 20000 < N) (hS : zS Ls x4) (hk : ∀ I2 L2, Rel I2 → k23 (wm Mb I2 L2) (x4 + 6) = some ()) : F_L_law_572 N Ls xs 1 540 552 k23 (wm Mb I L) x4 = some () := by
  unfold F_L_law_572
  have h9 := zx_look (L := L) (k23 := k23) (x4 := x4) (sm_retirementAge (N := N) h) hk
  exact h9
theorem zc_585 {I : kInts} {L : kLngs} {N Ls : Nat} {xs : Nat → Int32} {k23 : kMem → Int32 → Option Unit} {x4 : Int32} (h : Rel I) (hN : 20000 < N) (hS : zS Ls x4) (hk : ∀ I2 L2, Rel I2 → k23 (wm Mb I2 L2) (x4 + 6) = some ()) : F_L_law_585 N Ls xs 1 540 552 k23 (wm Mb I L) x4 = some () := by
  unfold F_L_law_585
  have h9 := zx_look (L := L) (k23 := k23) (x4 := x4) (sm_boardCount (N := N) h) hk
  exact h9
theorem zc_598 {I : kInts} {L : kLngs} {N Ls : Nat} {xs : Nat → Int32} {k23 : kMem → Int32 → Option Unit} {x4 : Int32} (h : Rel I) (hN : 20000 < N) (hS : zS Ls x4) (hk : ∀ I2 L2, Rel I2 → k23 (wm Mb I2 L2) (x4 + 6) = some ()) : F_L_law_598 N Ls xs 1 540 552 k23 (wm Mb I L) x4 = some () := by
  unfold F_L_law_598 F_L_armLength
  simp only [hS.1, hS.2.1, hS.2.2.1, hS.2.2.2.1, hS.2.2.2.2, kg_t]
  exact zx_int (sx_armLength (N := N) h (xs (kx (x4 + 1)))) _ (fun c9 k9 M9 h9 => by simp only [List.mem_cons, List.not_mem_nil, or_false, Prod.mk.injEq] at h9; obtain ⟨rfl, rfl⟩ := h9; rfl) (by decide) hk
theorem zc_654 {I : kInts} {L : kLngs} {N Ls : Nat} {xs : Nat → Int32} {k23 : kMem → Int32 → Option Unit} {x4 : Int32} (h : Rel I) (hN : 20000 < N) (hS : zS Ls x4) (hk : ∀ I2 L2, Rel I2 → k23 (wm Mb I2 L2) (x4 + 6) = some ()) : F_L_law_654 N Ls xs 1 540 552 k23 (wm Mb I L) x4 = some () := by
  unfold F_L_law_654 F_L_stiffness
  simp only [hS.1, hS.2.1, hS.2.2.1, hS.2.2.2.1, hS.2.2.2.2, kg_t]
  exact zx_int (sx_stiffness (N := N) h (xs (kx (x4 + 1)))) _ (fun c9 k9 M9 h9 => by simp only [List.mem_cons, List.not_mem_nil, or_false, Prod.mk.injEq] at h9; obtain ⟨rfl, rfl⟩ := h9; rfl) (by decide) hk
theorem zc_710 {I : kInts} {L : kLngs} {N Ls : Nat} {xs : Nat → Int32} {k23 : kMem → Int32 → Option Unit} {x4 : Int32} (h : Rel I) (hN : 20000 < N) (hS : zS Ls x4) (hk : ∀ I2 L2, Rel I2 → k23 (wm Mb I2 L2) (x4 + 6) = some ()) : F_L_law_710 N Ls xs 1 540 552 k23 (wm Mb I L) x4 = some () := by
  unfold F_L_law_710 F_L_torque
  simp only [hS.1, hS.2.1, hS.2.2.1, hS.2.2.2.1, hS.2.2.2.2, kg_t]
  exact zx_int (sx_torque (N := N) h (xs (kx (x4 + 1))) (Nat.lt_trans (by decide) hN)) _ (fun c9 k9 M9 h9 => by simp only [List.mem_cons, List.not_mem_nil, or_false, Prod.mk.injEq] at h9; obtain ⟨rfl, rfl⟩ := h9; rfl) (by decide) hk
theorem zc_766 {I : kInts} {L : kLngs} {N Ls : Nat} {xs : Nat → Int32} {k23 : kMem → Int32 → Option Unit} {x4 : Int32} (h : Rel I) (hN : 20000 < N) (hS : zS Ls x4) (hk : ∀ I2 L2, Rel I2 → k23 (wm Mb I2 L2) (x4 + 6) = some ()) : F_L_law_766 N Ls xs 1 540 552 k23 (wm Mb I L) x4 = some () := by
  unfold F_L_law_766 F_L_tilt
  simp only [hS.1, hS.2.1, hS.2.2.1, hS.2.2.2.1, hS.2.2.2.2, kg_t]
  exact zx_int (sx_tilt (N := N) h (xs (kx (x4 + 1))) (Nat.lt_trans (by decide) hN)) _ (fun c9 k9 M9 h9 => by simp only [List.mem_cons, List.not_mem_nil, or_false, Prod.mk.injEq] at h9; obtain ⟨rfl, rfl⟩ := h9; rfl) (by decide) hk
theorem zc_822 {I : kInts} {L : kLngs} {N Ls : Nat} {xs : Nat → Int32} {k23 : kMem → Int32 → Option Unit} {x4 : Int32} (h : Rel I) (hN : 20000 < N) (hS : zS Ls x4) (hk : ∀ I2 L2, Rel I2 → k23 (wm Mb I2 L2) (x4 + 6) = some ()) : F_L_law_822 N Ls xs 1 540 552 k23 (wm Mb I L) x4 = some () := by
  unfold F_L_law_822 F_L_isBalanced
  simp only [hS.1, hS.2.1, hS.2.2.1, hS.2.2.2.1, hS.2.2.2.2, kg_t]
  exact zx_bool (sx_isBalanced (N := N) h (xs (kx (x4 + 1))) (Nat.lt_trans (by decide) hN)) _ (fun c9 k9 M9 h9 => by simp only [List.mem_cons, List.not_mem_nil, or_false, Prod.mk.injEq] at h9; obtain ⟨rfl, rfl⟩ := h9; rfl) (by decide) hk
theorem zc_885 {I : kInts} {L : kLngs} {N Ls : Nat} {xs : Nat → Int32} {k23 : kMem → Int32 → Option Unit} {x4 : Int32} (h : Rel I) (hN : 20000 < N) (hS : zS Ls x4) (hk : ∀ I2 L2, Rel I2 → k23 (wm Mb I2 L2) (x4 + 6) = some ()) : F_L_law_885 N Ls xs 1 540 552 k23 (wm Mb I L) x4 = some () := by
  unfold F_L_law_885 F_L_seatOwner
  simp only [hS.1, hS.2.1, hS.2.2.1, hS.2.2.2.1, hS.2.2.2.2, kg_t]
  exact zx_int (sx_seatOwner (N := N) h (xs (kx (x4 + 1))) (xs (kx (x4 + 2))) (Nat.lt_trans (by decide) hN)) _ (fun c9 k9 M9 h9 => by simp only [List.mem_cons, List.not_mem_nil, or_false, Prod.mk.injEq] at h9; obtain ⟨rfl, rfl⟩ := h9; rfl) (by decide) hk
theorem zc_953 {I : kInts} {L : kLngs} {N Ls : Nat} {xs : Nat → Int32} {k23 : kMem → Int32 → Option Unit} {x4 : Int32} (h : Rel I) (hN : 20000 < N) (hS : zS Ls x4) (hk : ∀ I2 L2, Rel I2 → k23 (wm Mb I2 L2) (x4 + 6) = some ()) : F_L_law_953 N Ls xs 1 540 552 k23 (wm Mb I L) x4 = some () := by
  unfold F_L_law_953 F_L_seatHeight
  simp only [hS.1, hS.2.1, hS.2.2.1, hS.2.2.2.1, hS.2.2.2.2, kg_t]
  exact zx_int (sx_seatHeight (N := N) h (xs (kx (x4 + 1))) (xs (kx (x4 + 2))) (Nat.lt_trans (by decide) hN)) _ (fun c9 k9 M9 h9 => by simp only [List.mem_cons, List.not_mem_nil, or_false, Prod.mk.injEq] at h9; obtain ⟨rfl, rfl⟩ := h9; rfl) (by decide) hk
theorem zc_1021 {I : kInts} {L : kLngs} {N Ls : Nat} {xs : Nat → Int32} {k23 : kMem → Int32 → Option Unit} {x4 : Int32} (h : Rel I) (hN : 20000 < N) (hS : zS Ls x4) (hk : ∀ I2 L2, Rel I2 → k23 (wm Mb I2 L2) (x4 + 6) = some ()) : F_L_law_1021 N Ls xs 1 540 552 k23 (wm Mb I L) x4 = some () := by
  unfold F_L_law_1021 F_L_seatPrice
  simp only [hS.1, hS.2.1, hS.2.2.1, hS.2.2.2.1, hS.2.2.2.2, kg_t]
  exact zx_int (sx_seatPrice (N := N) h (xs (kx (x4 + 1))) (xs (kx (x4 + 2))) (Nat.lt_trans (by decide) hN)) _ (fun c9 k9 M9 h9 => by simp only [List.mem_cons, List.not_mem_nil, or_false, Prod.mk.injEq] at h9; obtain ⟨rfl, rfl⟩ := h9; rfl) (by decide) hk
theorem zc_1089 {I : kInts} {L : kLngs} {N Ls : Nat} {xs : Nat → Int32} {k23 : kMem → Int32 → Option Unit} {x4 : Int32} (h : Rel I) (hN : 20000 < N) (hS : zS Ls x4) (hk : ∀ I2 L2, Rel I2 → k23 (wm Mb I2 L2) (x4 + 6) = some ()) : F_L_law_1089 N Ls xs 1 540 552 k23 (wm Mb I L) x4 = some () := by
  unfold F_L_law_1089 F_L_balancingSeat
  simp only [hS.1, hS.2.1, hS.2.2.1, hS.2.2.2.1, hS.2.2.2.2, kg_t]
  exact zx_int (sx_balancingSeat (N := N) h (xs (kx (x4 + 1))) (xs (kx (x4 + 2))) (Nat.lt_trans (by decide) hN)) _ (fun c9 k9 M9 h9 => by simp only [List.mem_cons, List.not_mem_nil, or_false, Prod.mk.injEq] at h9; rcases h9 with ⟨rfl, rfl⟩ | ⟨rfl, rfl⟩ <;> rfl) (by decide) hk
theorem zc_1157 {I : kInts} {L : kLngs} {N Ls : Nat} {xs : Nat → Int32} {k23 : kMem → Int32 → Option Unit} {x4 : Int32} (h : Rel I) (hN : 20000 < N) (hS : zS Ls x4) (hk : ∀ I2 L2, Rel I2 → k23 (wm Mb I2 L2) (x4 + 6) = some ()) : F_L_law_1157 N Ls xs 1 540 552 k23 (wm Mb I L) x4 = some () := by
  unfold F_L_law_1157
  have h9 := zx_look (L := L) (k23 := k23) (x4 := x4) (sm_traderCount (N := N) h) hk
  exact h9
theorem zc_1170 {I : kInts} {L : kLngs} {N Ls : Nat} {xs : Nat → Int32} {k23 : kMem → Int32 → Option Unit} {x4 : Int32} (h : Rel I) (hN : 20000 < N) (hS : zS Ls x4) (hk : ∀ I2 L2, Rel I2 → k23 (wm Mb I2 L2) (x4 + 6) = some ()) : F_L_law_1170 N Ls xs 1 540 552 k23 (wm Mb I L) x4 = some () := by
  unfold F_L_law_1170
  have h9 := zx_look (L := L) (k23 := k23) (x4 := x4) (sx_findTrader (N := N) h (Nat.lt_trans (by decide) hN)) hk
  exact h9
theorem zc_1183 {I : kInts} {L : kLngs} {N Ls : Nat} {xs : Nat → Int32} {k23 : kMem → Int32 → Option Unit} {x4 : Int32} (h : Rel I) (hN : 20000 < N) (hS : zS Ls x4) (hk : ∀ I2 L2, Rel I2 → k23 (wm Mb I2 L2) (x4 + 6) = some ()) : F_L_law_1183 N Ls xs 1 540 552 k23 (wm Mb I L) x4 = some () := by
  unfold F_L_law_1183 F_L_nameLetter
  simp only [hS.1, hS.2.1, hS.2.2.1, hS.2.2.2.1, hS.2.2.2.2, kg_t]
  exact zx_int (sx_nameLetter (N := N) h (xs (kx (x4 + 1))) (xs (kx (x4 + 2))) (Nat.lt_trans (by decide) hN)) _ (fun c9 k9 M9 h9 => by simp only [List.mem_cons, List.not_mem_nil, or_false, Prod.mk.injEq] at h9; obtain ⟨rfl, rfl⟩ := h9; rfl) (by decide) hk
theorem zc_1251 {I : kInts} {L : kLngs} {N Ls : Nat} {xs : Nat → Int32} {k23 : kMem → Int32 → Option Unit} {x4 : Int32} (h : Rel I) (hN : 20000 < N) (hS : zS Ls x4) (hk : ∀ I2 L2, Rel I2 → k23 (wm Mb I2 L2) (x4 + 6) = some ()) : F_L_law_1251 N Ls xs 1 540 552 k23 (wm Mb I L) x4 = some () := by
  unfold F_L_law_1251 F_L_weightOf
  simp only [hS.1, hS.2.1, hS.2.2.1, hS.2.2.2.1, hS.2.2.2.2, kg_t]
  exact zx_int (sx_weightOf (N := N) h (xs (kx (x4 + 1)))) _ (fun c9 k9 M9 h9 => by simp only [List.mem_cons, List.not_mem_nil, or_false, Prod.mk.injEq] at h9; obtain ⟨rfl, rfl⟩ := h9; rfl) (by decide) hk
theorem zc_1307 {I : kInts} {L : kLngs} {N Ls : Nat} {xs : Nat → Int32} {k23 : kMem → Int32 → Option Unit} {x4 : Int32} (h : Rel I) (hN : 20000 < N) (hS : zS Ls x4) (hk : ∀ I2 L2, Rel I2 → k23 (wm Mb I2 L2) (x4 + 6) = some ()) : F_L_law_1307 N Ls xs 1 540 552 k23 (wm Mb I L) x4 = some () := by
  unfold F_L_law_1307 F_L_purseOf
  simp only [hS.1, hS.2.1, hS.2.2.1, hS.2.2.2.1, hS.2.2.2.2, kg_t]
  exact zx_int (sx_purseOf (N := N) h (xs (kx (x4 + 1)))) _ (fun c9 k9 M9 h9 => by simp only [List.mem_cons, List.not_mem_nil, or_false, Prod.mk.injEq] at h9; obtain ⟨rfl, rfl⟩ := h9; rfl) (by decide) hk
theorem zc_1363 {I : kInts} {L : kLngs} {N Ls : Nat} {xs : Nat → Int32} {k23 : kMem → Int32 → Option Unit} {x4 : Int32} (h : Rel I) (hN : 20000 < N) (hS : zS Ls x4) (hk : ∀ I2 L2, Rel I2 → k23 (wm Mb I2 L2) (x4 + 6) = some ()) : F_L_law_1363 N Ls xs 1 540 552 k23 (wm Mb I L) x4 = some () := by
  unfold F_L_law_1363 F_L_ageOf
  simp only [hS.1, hS.2.1, hS.2.2.1, hS.2.2.2.1, hS.2.2.2.2, kg_t]
  exact zx_int (sx_ageOf (N := N) h (xs (kx (x4 + 1)))) _ (fun c9 k9 M9 h9 => by simp only [List.mem_cons, List.not_mem_nil, or_false, Prod.mk.injEq] at h9; obtain ⟨rfl, rfl⟩ := h9; rfl) (by decide) hk
theorem zc_1419 {I : kInts} {L : kLngs} {N Ls : Nat} {xs : Nat → Int32} {k23 : kMem → Int32 → Option Unit} {x4 : Int32} (h : Rel I) (hN : 20000 < N) (hS : zS Ls x4) (hk : ∀ I2 L2, Rel I2 → k23 (wm Mb I2 L2) (x4 + 6) = some ()) : F_L_law_1419 N Ls xs 1 540 552 k23 (wm Mb I L) x4 = some () := by
  unfold F_L_law_1419 F_L_isPresent
  simp only [hS.1, hS.2.1, hS.2.2.1, hS.2.2.2.1, hS.2.2.2.2, kg_t]
  exact zx_bool (sx_isPresent (N := N) h (xs (kx (x4 + 1))) (Nat.lt_trans (by decide) hN)) _ (fun c9 k9 M9 h9 => by simp only [List.mem_cons, List.not_mem_nil, or_false, Prod.mk.injEq] at h9; obtain ⟨rfl, rfl⟩ := h9; rfl) (by decide) hk
theorem zc_1482 {I : kInts} {L : kLngs} {N Ls : Nat} {xs : Nat → Int32} {k23 : kMem → Int32 → Option Unit} {x4 : Int32} (h : Rel I) (hN : 20000 < N) (hS : zS Ls x4) (hk : ∀ I2 L2, Rel I2 → k23 (wm Mb I2 L2) (x4 + 6) = some ()) : F_L_law_1482 N Ls xs 1 540 552 k23 (wm Mb I L) x4 = some () := by
  unfold F_L_law_1482 F_L_boardOf
  simp only [hS.1, hS.2.1, hS.2.2.1, hS.2.2.2.1, hS.2.2.2.2, kg_t]
  exact zx_int (sx_boardOf (N := N) h (xs (kx (x4 + 1)))) _ (fun c9 k9 M9 h9 => by simp only [List.mem_cons, List.not_mem_nil, or_false, Prod.mk.injEq] at h9; obtain ⟨rfl, rfl⟩ := h9; rfl) (by decide) hk
theorem zc_1538 {I : kInts} {L : kLngs} {N Ls : Nat} {xs : Nat → Int32} {k23 : kMem → Int32 → Option Unit} {x4 : Int32} (h : Rel I) (hN : 20000 < N) (hS : zS Ls x4) (hk : ∀ I2 L2, Rel I2 → k23 (wm Mb I2 L2) (x4 + 6) = some ()) : F_L_law_1538 N Ls xs 1 540 552 k23 (wm Mb I L) x4 = some () := by
  unfold F_L_law_1538 F_L_positionOf
  simp only [hS.1, hS.2.1, hS.2.2.1, hS.2.2.2.1, hS.2.2.2.2, kg_t]
  exact zx_int (sx_positionOf (N := N) h (xs (kx (x4 + 1)))) _ (fun c9 k9 M9 h9 => by simp only [List.mem_cons, List.not_mem_nil, or_false, Prod.mk.injEq] at h9; obtain ⟨rfl, rfl⟩ := h9; rfl) (by decide) hk
theorem zc_1594 {I : kInts} {L : kLngs} {N Ls : Nat} {xs : Nat → Int32} {k23 : kMem → Int32 → Option Unit} {x4 : Int32} (h : Rel I) (hN : 20000 < N) (hS : zS Ls x4) (hk : ∀ I2 L2, Rel I2 → k23 (wm Mb I2 L2) (x4 + 6) = some ()) : F_L_law_1594 N Ls xs 1 540 552 k23 (wm Mb I L) x4 = some () := by
  unfold F_L_law_1594 F_L_incomeOf
  simp only [hS.1, hS.2.1, hS.2.2.1, hS.2.2.2.1, hS.2.2.2.2, kg_t]
  exact zx_int (sx_incomeOf (N := N) h (xs (kx (x4 + 1))) (Nat.lt_trans (by decide) hN)) _ (fun c9 k9 M9 h9 => by simp only [List.mem_cons, List.not_mem_nil, or_false, Prod.mk.injEq] at h9; obtain ⟨rfl, rfl⟩ := h9; rfl) (by decide) hk
theorem zc_1650 {I : kInts} {L : kLngs} {N Ls : Nat} {xs : Nat → Int32} {k23 : kMem → Int32 → Option Unit} {x4 : Int32} (h : Rel I) (hN : 20000 < N) (hS : zS Ls x4) (hk : ∀ I2 L2, Rel I2 → k23 (wm Mb I2 L2) (x4 + 6) = some ()) : F_L_law_1650 N Ls xs 1 540 552 k23 (wm Mb I L) x4 = some () := by
  unfold F_L_law_1650
  simp only [hS.1, hS.2.1, hS.2.2.1, hS.2.2.2.1, hS.2.2.2.2, kg_t]
  have h9 := zx_look (L := L) (k23 := k23) (x4 := x4) (sx_richestAt (N := N) h (xs (kx (x4 + 1))) (Nat.lt_trans (by decide) hN)) hk
  exact h9
theorem zc_1675 {I : kInts} {L : kLngs} {N Ls : Nat} {xs : Nat → Int32} {k23 : kMem → Int32 → Option Unit} {x4 : Int32} (h : Rel I) (hN : 20000 < N) (hS : zS Ls x4) (hk : ∀ I2 L2, Rel I2 → k23 (wm Mb I2 L2) (x4 + 6) = some ()) : F_L_law_1675 N Ls xs 1 540 552 k23 (wm Mb I L) x4 = some () := by
  unfold F_L_law_1675 F_L_reasonAgainstSeat
  simp only [hS.1, hS.2.1, hS.2.2.1, hS.2.2.2.1, hS.2.2.2.2, kg_t]
  exact zx_int (sx_reasonAgainstSeat (N := N) h (xs (kx (x4 + 1))) (xs (kx (x4 + 2))) (xs (kx (x4 + 3))) (Nat.lt_trans (by decide) hN)) _ (fun c9 k9 M9 h9 => by simp only [List.mem_cons, List.not_mem_nil, or_false, Prod.mk.injEq] at h9; obtain ⟨rfl, rfl⟩ := h9; rfl) (by decide) hk
theorem zc_1755 {I : kInts} {L : kLngs} {N Ls : Nat} {xs : Nat → Int32} {k23 : kMem → Int32 → Option Unit} {x4 : Int32} (h : Rel I) (hN : 20000 < N) (hS : zS Ls x4) (hk : ∀ I2 L2, Rel I2 → k23 (wm Mb I2 L2) (x4 + 6) = some ()) : F_L_law_1755 N Ls xs 1 540 552 k23 (wm Mb I L) x4 = some () := by
  unfold F_L_law_1755 F_L_reasonAgainstSale
  simp only [hS.1, hS.2.1, hS.2.2.1, hS.2.2.2.1, hS.2.2.2.2, kg_t]
  exact zx_int (sx_reasonAgainstSale (N := N) h (xs (kx (x4 + 1))) (xs (kx (x4 + 2))) (xs (kx (x4 + 3))) (Nat.lt_trans (by decide) hN)) _ (fun c9 k9 M9 h9 => by simp only [List.mem_cons, List.not_mem_nil, or_false, Prod.mk.injEq] at h9; rcases h9 with ⟨rfl, rfl⟩ | ⟨rfl, rfl⟩ <;> rfl) (by decide) hk
theorem zc_1835 {I : kInts} {L : kLngs} {N Ls : Nat} {xs : Nat → Int32} {k23 : kMem → Int32 → Option Unit} {x4 : Int32} (h : Rel I) (hN : 20000 < N) (hS : zS Ls x4) (hk : ∀ I2 L2, Rel I2 → k23 (wm Mb I2 L2) (x4 + 6) = some ()) : F_L_law_1835 N Ls xs 1 540 552 k23 (wm Mb I L) x4 = some () := by
  unfold F_L_law_1835 F_L_reasonAgainstSwap
  simp only [hS.1, hS.2.1, hS.2.2.1, hS.2.2.2.1, hS.2.2.2.2, kg_t]
  exact zx_int (sx_reasonAgainstSwap (N := N) h (xs (kx (x4 + 1))) (xs (kx (x4 + 2))) (Nat.lt_trans (by decide) hN)) _ (fun c9 k9 M9 h9 => by simp only [List.mem_cons, List.not_mem_nil, or_false, Prod.mk.injEq] at h9; rcases h9 with ⟨rfl, rfl⟩ | ⟨rfl, rfl⟩ <;> rfl) (by decide) hk
theorem zc_1903 {I : kInts} {L : kLngs} {N Ls : Nat} {xs : Nat → Int32} {k23 : kMem → Int32 → Option Unit} {x4 : Int32} (h : Rel I) (hN : 20000 < N) (hS : zS Ls x4) (hk : ∀ I2 L2, Rel I2 → k23 (wm Mb I2 L2) (x4 + 6) = some ()) : F_L_law_1903 N Ls xs 1 540 552 k23 (wm Mb I L) x4 = some () := by
  unfold F_L_law_1903 F_L_weightUnitPrice
  simp only [hS.1, hS.2.1, hS.2.2.1, hS.2.2.2.1, hS.2.2.2.2, kg_t]
  exact zx_int (sx_weightUnitPrice (N := N) h (xs (kx (x4 + 1))) (xs (kx (x4 + 2))) (Nat.lt_trans (by decide) hN)) _ (fun c9 k9 M9 h9 => by simp only [List.mem_cons, List.not_mem_nil, or_false, Prod.mk.injEq] at h9; rcases h9 with ⟨rfl, rfl⟩ | ⟨rfl, rfl⟩ <;> rfl) (by decide) hk
theorem zc_1971 {I : kInts} {L : kLngs} {N Ls : Nat} {xs : Nat → Int32} {k23 : kMem → Int32 → Option Unit} {x4 : Int32} (h : Rel I) (hN : 20000 < N) (hS : zS Ls x4) (hk : ∀ I2 L2, Rel I2 → k23 (wm Mb I2 L2) (x4 + 6) = some ()) : F_L_law_1971 N Ls xs 1 540 552 k23 (wm Mb I L) x4 = some () := by
  unfold F_L_law_1971 F_L_bestSeat
  simp only [hS.1, hS.2.1, hS.2.2.1, hS.2.2.2.1, hS.2.2.2.2, kg_t]
  exact zx_int (sx_bestSeat (N := N) h (xs (kx (x4 + 1))) (xs (kx (x4 + 2))) (Nat.lt_trans (by decide) hN)) _ (fun c9 k9 M9 h9 => by simp only [List.mem_cons, List.not_mem_nil, or_false, Prod.mk.injEq] at h9; obtain ⟨rfl, rfl⟩ := h9; rfl) (by decide) hk
theorem zc_2039 {I : kInts} {L : kLngs} {N Ls : Nat} {xs : Nat → Int32} {k23 : kMem → Int32 → Option Unit} {x4 : Int32} (h : Rel I) (hN : 20000 < N) (hS : zS Ls x4) (hk : ∀ I2 L2, Rel I2 → k23 (wm Mb I2 L2) (x4 + 6) = some ()) : F_L_law_2039 N Ls xs 1 540 552 k23 (wm Mb I L) x4 = some () := by
  unfold F_L_law_2039
  have h9 := zx_look (L := L) (k23 := k23) (x4 := x4) (sm_seatsSold (N := N) h) hk
  exact h9
theorem zc_2052 {I : kInts} {L : kLngs} {N Ls : Nat} {xs : Nat → Int32} {k23 : kMem → Int32 → Option Unit} {x4 : Int32} (h : Rel I) (hN : 20000 < N) (hS : zS Ls x4) (hk : ∀ I2 L2, Rel I2 → k23 (wm Mb I2 L2) (x4 + 6) = some ()) : F_L_law_2052 N Ls xs 1 540 552 k23 (wm Mb I L) x4 = some () := by
  unfold F_L_law_2052
  have h9 := zx_look (L := L) (k23 := k23) (x4 := x4) (sm_weightSold (N := N) h) hk
  exact h9
theorem zc_2065 {I : kInts} {L : kLngs} {N Ls : Nat} {xs : Nat → Int32} {k23 : kMem → Int32 → Option Unit} {x4 : Int32} (h : Rel I) (hN : 20000 < N) (hS : zS Ls x4) (hk : ∀ I2 L2, Rel I2 → k23 (wm Mb I2 L2) (x4 + 6) = some ()) : F_L_law_2065 N Ls xs 1 540 552 k23 (wm Mb I L) x4 = some () := by
  unfold F_L_law_2065
  have h9 := zx_look (L := L) (k23 := k23) (x4 := x4) (sm_fallCount (N := N) h) hk
  exact h9
theorem zc_2162 {I : kInts} {L : kLngs} {N Ls : Nat} {xs : Nat → Int32} {k23 : kMem → Int32 → Option Unit} {x4 : Int32} (h : Rel I) (hN : 20000 < N) (hS : zS Ls x4) (hk : ∀ I2 L2, Rel I2 → k23 (wm Mb I2 L2) (x4 + 6) = some ()) : F_L_law_2162 N Ls xs 1 540 552 k23 (wm Mb I L) x4 = some () := by
  unfold F_L_law_2162
  have h9 := zx_look (L := L) (k23 := k23) (x4 := x4) (sm_contradictions (N := N) h (Nat.lt_trans (by decide) hN)) hk
  exact h9
theorem zc_2175 {I : kInts} {L : kLngs} {N Ls : Nat} {xs : Nat → Int32} {k23 : kMem → Int32 → Option Unit} {x4 : Int32} (h : Rel I) (hN : 20000 < N) (hS : zS Ls x4) (hk : ∀ I2 L2, Rel I2 → k23 (wm Mb I2 L2) (x4 + 6) = some ()) : F_L_law_2175 N Ls xs 1 540 552 k23 (wm Mb I L) x4 = some () := by
  unfold F_L_law_2175
  simp only [hS.1, hS.2.1, hS.2.2.1, hS.2.2.2.1, hS.2.2.2.2, kg_t]
  have h9 := zx_look (L := L) (k23 := k23) (x4 := x4) (sx_eventKind (N := N) h (xs (kx (x4 + 1)))) hk
  exact h9
theorem zc_2200 {I : kInts} {L : kLngs} {N Ls : Nat} {xs : Nat → Int32} {k23 : kMem → Int32 → Option Unit} {x4 : Int32} (h : Rel I) (hN : 20000 < N) (hS : zS Ls x4) (hk : ∀ I2 L2, Rel I2 → k23 (wm Mb I2 L2) (x4 + 6) = some ()) : F_L_law_2200 N Ls xs 1 540 552 k23 (wm Mb I L) x4 = some () := by
  unfold F_L_law_2200
  simp only [hS.1, hS.2.1, hS.2.2.1, hS.2.2.2.1, hS.2.2.2.2, kg_t]
  have h9 := zx_look (L := L) (k23 := k23) (x4 := x4) (sx_eventTrader (N := N) h (xs (kx (x4 + 1)))) hk
  exact h9
theorem zc_2225 {I : kInts} {L : kLngs} {N Ls : Nat} {xs : Nat → Int32} {k23 : kMem → Int32 → Option Unit} {x4 : Int32} (h : Rel I) (hN : 20000 < N) (hS : zS Ls x4) (hk : ∀ I2 L2, Rel I2 → k23 (wm Mb I2 L2) (x4 + 6) = some ()) : F_L_law_2225 N Ls xs 1 540 552 k23 (wm Mb I L) x4 = some () := by
  unfold F_L_law_2225
  simp only [hS.1, hS.2.1, hS.2.2.1, hS.2.2.2.1, hS.2.2.2.2, kg_t]
  have h9 := zx_look (L := L) (k23 := k23) (x4 := x4) (sx_eventDay (N := N) h (xs (kx (x4 + 1)))) hk
  exact h9
theorem zc_2250 {I : kInts} {L : kLngs} {N Ls : Nat} {xs : Nat → Int32} {k23 : kMem → Int32 → Option Unit} {x4 : Int32} (h : Rel I) (hN : 20000 < N) (hS : zS Ls x4) (hk : ∀ I2 L2, Rel I2 → k23 (wm Mb I2 L2) (x4 + 6) = some ()) : F_L_law_2250 N Ls xs 1 540 552 k23 (wm Mb I L) x4 = some () := by
  unfold F_L_law_2250 F_L_purseAfter
  simp only [hS.1, hS.2.1, hS.2.2.1, hS.2.2.2.1, hS.2.2.2.2, kg_t]
  exact zx_int (sx_purseAfter (N := N) h (xs (kx (x4 + 1))) (xs (kx (x4 + 2))) (Nat.lt_trans (by decide) hN)) _ (fun c9 k9 M9 h9 => by simp only [List.mem_cons, List.not_mem_nil, or_false, Prod.mk.injEq] at h9; rcases h9 with ⟨rfl, rfl⟩ | ⟨rfl, rfl⟩ <;> rfl) (by decide) hk
theorem zc_2318 {I : kInts} {L : kLngs} {N Ls : Nat} {xs : Nat → Int32} {k23 : kMem → Int32 → Option Unit} {x4 : Int32} (h : Rel I) (hN : 20000 < N) (hS : zS Ls x4) (hk : ∀ I2 L2, Rel I2 → k23 (wm Mb I2 L2) (x4 + 6) = some ()) : F_L_law_2318 N Ls xs 1 540 552 k23 (wm Mb I L) x4 = some () := by
  unfold F_L_law_2318 F_L_bankAfter
  simp only [hS.1, hS.2.1, hS.2.2.1, hS.2.2.2.1, hS.2.2.2.2, kg_t]
  exact zx_int (sx_bankAfter (N := N) h (xs (kx (x4 + 1))) (Nat.lt_trans (by decide) hN)) _ (fun c9 k9 M9 h9 => by simp only [List.mem_cons, List.not_mem_nil, or_false, Prod.mk.injEq] at h9; obtain ⟨rfl, rfl⟩ := h9; rfl) (by decide) hk
theorem zc_2374 {I : kInts} {L : kLngs} {N Ls : Nat} {xs : Nat → Int32} {k23 : kMem → Int32 → Option Unit} {x4 : Int32} (h : Rel I) (hN : 20000 < N) (hS : zS Ls x4) (hk : ∀ I2 L2, Rel I2 → k23 (wm Mb I2 L2) (x4 + 6) = some ()) : F_L_law_2374 N Ls xs 1 540 552 k23 (wm Mb I L) x4 = some () := by
  unfold F_L_law_2374 F_L_daysUntilFall
  simp only [hS.1, hS.2.1, hS.2.2.1, hS.2.2.2.1, hS.2.2.2.2, kg_t]
  exact zx_int (sx_daysUntilFall (N := N) h (xs (kx (x4 + 1))) (Nat.lt_trans (by decide) hN)) _ (fun c9 k9 M9 h9 => by simp only [List.mem_cons, List.not_mem_nil, or_false, Prod.mk.injEq] at h9; obtain ⟨rfl, rfl⟩ := h9; rfl) (by decide) hk
theorem zc_2430 {I : kInts} {L : kLngs} {N Ls : Nat} {xs : Nat → Int32} {k23 : kMem → Int32 → Option Unit} {x4 : Int32} (h : Rel I) (hN : 20000 < N) (hS : zS Ls x4) (hk : ∀ I2 L2, Rel I2 → k23 (wm Mb I2 L2) (x4 + 6) = some ()) : F_L_law_2430 N Ls xs 1 540 552 k23 (wm Mb I L) x4 = some () := by
  unfold F_L_law_2430 F_L_daysUntilRetirement
  simp only [hS.1, hS.2.1, hS.2.2.1, hS.2.2.2.1, hS.2.2.2.2, kg_t]
  exact zx_int (sx_daysUntilRetirement (N := N) h (xs (kx (x4 + 1))) (Nat.lt_trans (by decide) hN)) _ (fun c9 k9 M9 h9 => by simp only [List.mem_cons, List.not_mem_nil, or_false, Prod.mk.injEq] at h9; obtain ⟨rfl, rfl⟩ := h9; rfl) (by decide) hk
theorem zc_2486 {I : kInts} {L : kLngs} {N Ls : Nat} {xs : Nat → Int32} {k23 : kMem → Int32 → Option Unit} {x4 : Int32} (h : Rel I) (hN : 20000 < N) (hS : zS Ls x4) (hk : ∀ I2 L2, Rel I2 → k23 (wm Mb I2 L2) (x4 + 6) = some ()) : F_L_law_2486 N Ls xs 1 540 552 k23 (wm Mb I L) x4 = some () := by
  unfold F_L_law_2486 F_L_join
  simp only [hS.1, hS.2.1, hS.2.2.1, hS.2.2.2.1, hS.2.2.2.2, kg_t]
  exact zx_int (sx_join (N := N) h (xs (kx (x4 + 1))) (xs (kx (x4 + 2))) (Nat.lt_trans (by decide) hN)) _ (fun c9 k9 M9 h9 => by simp only [List.mem_cons, List.not_mem_nil, or_false, Prod.mk.injEq] at h9; rcases h9 with ⟨rfl, rfl⟩ | ⟨rfl, rfl⟩ <;> rfl) (by decide) hk
theorem zc_2554 {I : kInts} {L : kLngs} {N Ls : Nat} {xs : Nat → Int32} {k23 : kMem → Int32 → Option Unit} {x4 : Int32} (h : Rel I) (hN : 20000 < N) (hS : zS Ls x4) (hk : ∀ I2 L2, Rel I2 → k23 (wm Mb I2 L2) (x4 + 6) = some ()) : F_L_law_2554 N Ls xs 1 540 552 k23 (wm Mb I L) x4 = some () := by
  unfold F_L_law_2554 F_L_buySeat
  simp only [hS.1, hS.2.1, hS.2.2.1, hS.2.2.2.1, hS.2.2.2.2, kg_t]
  exact zx_int (sx_buySeat (N := N) h (xs (kx (x4 + 1))) (xs (kx (x4 + 2))) (xs (kx (x4 + 3))) (Nat.lt_trans (by decide) hN)) _ (fun c9 k9 M9 h9 => by simp only [List.mem_cons, List.not_mem_nil, or_false, Prod.mk.injEq] at h9; rcases h9 with ⟨rfl, rfl⟩ | ⟨rfl, rfl⟩ <;> rfl) (by decide) hk
theorem zc_2634 {I : kInts} {L : kLngs} {N Ls : Nat} {xs : Nat → Int32} {k23 : kMem → Int32 → Option Unit} {x4 : Int32} (h : Rel I) (hN : 20000 < N) (hS : zS Ls x4) (hk : ∀ I2 L2, Rel I2 → k23 (wm Mb I2 L2) (x4 + 6) = some ()) : F_L_law_2634 N Ls xs 1 540 552 k23 (wm Mb I L) x4 = some () := by
  unfold F_L_law_2634 F_L_leaveSeat
  simp only [hS.1, hS.2.1, hS.2.2.1, hS.2.2.2.1, hS.2.2.2.2, kg_t]
  exact zx_int (sx_leaveSeat (N := N) h (xs (kx (x4 + 1))) (Nat.lt_trans (by decide) hN)) _ (fun c9 k9 M9 h9 => by simp only [List.mem_cons, List.not_mem_nil, or_false, Prod.mk.injEq] at h9; rcases h9 with ⟨rfl, rfl⟩ | ⟨rfl, rfl⟩ <;> rfl) (by decide) hk
theorem zc_2690 {I : kInts} {L : kLngs} {N Ls : Nat} {xs : Nat → Int32} {k23 : kMem → Int32 → Option Unit} {x4 : Int32} (h : Rel I) (hN : 20000 < N) (hS : zS Ls x4) (hk : ∀ I2 L2, Rel I2 → k23 (wm Mb I2 L2) (x4 + 6) = some ()) : F_L_law_2690 N Ls xs 1 540 552 k23 (wm Mb I L) x4 = some () := by
  unfold F_L_law_2690 F_L_sellWeight
  simp only [hS.1, hS.2.1, hS.2.2.1, hS.2.2.2.1, hS.2.2.2.2, kg_t]
  exact zx_int (sx_sellWeight (N := N) h (xs (kx (x4 + 1))) (xs (kx (x4 + 2))) (xs (kx (x4 + 3))) (Nat.lt_trans (by decide) hN)) _ (fun c9 k9 M9 h9 => by simp only [List.mem_cons, List.not_mem_nil, or_false, Prod.mk.injEq] at h9; rcases h9 with ⟨rfl, rfl⟩ | ⟨rfl, rfl⟩ | ⟨rfl, rfl⟩ <;> rfl) (by decide) hk
theorem zc_2770 {I : kInts} {L : kLngs} {N Ls : Nat} {xs : Nat → Int32} {k23 : kMem → Int32 → Option Unit} {x4 : Int32} (h : Rel I) (hN : 20000 < N) (hS : zS Ls x4) (hk : ∀ I2 L2, Rel I2 → k23 (wm Mb I2 L2) (x4 + 6) = some ()) : F_L_law_2770 N Ls xs 1 540 552 k23 (wm Mb I L) x4 = some () := by
  unfold F_L_law_2770 F_L_swapSeats
  simp only [hS.1, hS.2.1, hS.2.2.1, hS.2.2.2.1, hS.2.2.2.2, kg_t]
  exact zx_int (sx_swapSeats (N := N) h (xs (kx (x4 + 1))) (xs (kx (x4 + 2))) (Nat.lt_trans (by decide) hN)) _ (fun c9 k9 M9 h9 => by simp only [List.mem_cons, List.not_mem_nil, or_false, Prod.mk.injEq] at h9; rcases h9 with ⟨rfl, rfl⟩ | ⟨rfl, rfl⟩ | ⟨rfl, rfl⟩ <;> rfl) (by decide) hk
theorem zc_2838 {I : kInts} {L : kLngs} {N Ls : Nat} {xs : Nat → Int32} {k23 : kMem → Int32 → Option Unit} {x4 : Int32} (h : Rel I) (hN : 20000 < N) (hS : zS Ls x4) (hk : ∀ I2 L2, Rel I2 → k23 (wm Mb I2 L2) (x4 + 6) = some ()) : F_L_law_2838 N Ls xs 1 540 552 k23 (wm Mb I L) x4 = some () := by
  unfold F_L_law_2838 F_L_setWage
  simp only [hS.1, hS.2.1, hS.2.2.1, hS.2.2.2.1, hS.2.2.2.2, kg_t]
  exact zx_int (sx_setWage (N := N) h (xs (kx (x4 + 1))) (Nat.lt_trans (by decide) hN)) _ (fun c9 k9 M9 h9 => by simp only [List.mem_cons, List.not_mem_nil, or_false, Prod.mk.injEq] at h9; obtain ⟨rfl, rfl⟩ := h9; rfl) (by decide) hk
theorem zc_2894 {I : kInts} {L : kLngs} {N Ls : Nat} {xs : Nat → Int32} {k23 : kMem → Int32 → Option Unit} {x4 : Int32} (h : Rel I) (hN : 20000 < N) (hS : zS Ls x4) (hk : ∀ I2 L2, Rel I2 → k23 (wm Mb I2 L2) (x4 + 6) = some ()) : F_L_law_2894 N Ls xs 1 540 552 k23 (wm Mb I L) x4 = some () := by
  unfold F_L_law_2894 F_L_advance
  simp only [hS.1, hS.2.1, hS.2.2.1, hS.2.2.2.1, hS.2.2.2.2, kg_t]
  exact zx_int (sx_advance (N := N) h (xs (kx (x4 + 1))) (Nat.lt_trans (by decide) hN)) _ (fun c9 k9 M9 h9 => by simp only [List.mem_cons, List.not_mem_nil, or_false, Prod.mk.injEq] at h9; rcases h9 with ⟨rfl, rfl⟩ | ⟨rfl, rfl⟩ <;> rfl) (by decide) hk
theorem zc_2950 {I : kInts} {L : kLngs} {N Ls : Nat} {xs : Nat → Int32} {k23 : kMem → Int32 → Option Unit} {x4 : Int32} (h : Rel I) (hN : 20000 < N) (hS : zS Ls x4) (hk : ∀ I2 L2, Rel I2 → k23 (wm Mb I2 L2) (x4 + 6) = some ()) : F_L_law_2950 N Ls xs 1 540 552 k23 (wm Mb I L) x4 = some () := by
  unfold F_L_law_2950 F_L_writeBoard
  simp only [hS.1, hS.2.1, hS.2.2.1, hS.2.2.2.1, hS.2.2.2.2, kg_t]
  exact zx_int (sx_writeBoard (N := N) h (xs (kx (x4 + 1))) (Nat.lt_trans (by decide) hN)) _ (fun c9 k9 M9 h9 => by simp only [List.mem_cons, List.not_mem_nil, or_false, Prod.mk.injEq] at h9; obtain ⟨rfl, rfl⟩ := h9; rfl) (by decide) hk
theorem zc_3006 {I : kInts} {L : kLngs} {N Ls : Nat} {xs : Nat → Int32} {k23 : kMem → Int32 → Option Unit} {x4 : Int32} (h : Rel I) (hN : 20000 < N) (hS : zS Ls x4) (hk : ∀ I2 L2, Rel I2 → k23 (wm Mb I2 L2) (x4 + 6) = some ()) : F_L_law_3006 N Ls xs 1 540 552 k23 (wm Mb I L) x4 = some () := by
  unfold F_L_law_3006
  simp only [hS.1, hS.2.1, hS.2.2.1, hS.2.2.2.1, hS.2.2.2.2, kg_t]
  have h9 := zx_look (L := L) (k23 := k23) (x4 := x4) (sx_outputByte (N := N) h (xs (kx (x4 + 1)))) hk
  exact h9
theorem zc_3031 {I : kInts} {L : kLngs} {N Ls : Nat} {xs : Nat → Int32} {k23 : kMem → Int32 → Option Unit} {x4 : Int32} (h : Rel I) (hN : 20000 < N) (hS : zS Ls x4) (hk : ∀ I2 L2, Rel I2 → k23 (wm Mb I2 L2) (x4 + 6) = some ()) : F_L_law_3031 N Ls xs 1 540 552 k23 (wm Mb I L) x4 = some () := by
  unfold F_L_law_3031
  have h9 := zx_look (L := L) (k23 := k23) (x4 := x4) (sm_undoCount (N := N) h) hk
  exact h9
theorem zc_3044 {I : kInts} {L : kLngs} {N Ls : Nat} {xs : Nat → Int32} {k23 : kMem → Int32 → Option Unit} {x4 : Int32} (h : Rel I) (hN : 20000 < N) (hS : zS Ls x4) (hk : ∀ I2 L2, Rel I2 → k23 (wm Mb I2 L2) (x4 + 6) = some ()) : F_L_law_3044 N Ls xs 1 540 552 k23 (wm Mb I L) x4 = some () := by
  unfold F_L_law_3044 F_L_undo
  exact zx_int (sx_undo (N := N) h (Nat.lt_trans (by decide) hN)) _ (fun c9 k9 M9 h9 => by simp only [List.mem_cons, List.not_mem_nil, or_false, Prod.mk.injEq] at h9; obtain ⟨rfl, rfl⟩ := h9; rfl) (by decide) hk
theorem zc_3088 {I : kInts} {L : kLngs} {N Ls : Nat} {xs : Nat → Int32} {k23 : kMem → Int32 → Option Unit} {x4 : Int32} (h : Rel I) (hN : 20000 < N) (hS : zS Ls x4) (hk : ∀ I2 L2, Rel I2 → k23 (wm Mb I2 L2) (x4 + 6) = some ()) : F_L_law_3088 N Ls xs 1 540 552 k23 (wm Mb I L) x4 = some () := by
  unfold F_L_law_3088 F_L_save
  simp only [hS.1, hS.2.1, hS.2.2.1, hS.2.2.2.1, hS.2.2.2.2, kg_t]
  exact zx_int (sx_save (N := N) h (xs (kx (x4 + 1))) (Nat.lt_trans (by decide) hN)) _ (fun c9 k9 M9 h9 => by simp only [List.mem_cons, List.not_mem_nil, or_false, Prod.mk.injEq] at h9; obtain ⟨rfl, rfl⟩ := h9; rfl) (by decide) hk
theorem zc_3144 {I : kInts} {L : kLngs} {N Ls : Nat} {xs : Nat → Int32} {k23 : kMem → Int32 → Option Unit} {x4 : Int32} (h : Rel I) (hN : 20000 < N) (hS : zS Ls x4) (hk : ∀ I2 L2, Rel I2 → k23 (wm Mb I2 L2) (x4 + 6) = some ()) : F_L_law_3144 N Ls xs 1 540 552 k23 (wm Mb I L) x4 = some () := by
  unfold F_L_law_3144 F_L_restore
  simp only [hS.1, hS.2.1, hS.2.2.1, hS.2.2.2.1, hS.2.2.2.2, kg_t]
  exact zx_int (sx_restore (N := N) h (xs (kx (x4 + 1))) (Nat.lt_trans (by decide) hN)) _ (fun c9 k9 M9 h9 => by simp only [List.mem_cons, List.not_mem_nil, or_false, Prod.mk.injEq] at h9; rcases h9 with ⟨rfl, rfl⟩ | ⟨rfl, rfl⟩ <;> rfl) (by decide) hk
