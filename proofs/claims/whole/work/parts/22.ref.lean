/-! the reference over its row -/
def rf (I : kInts) (r f : Nat → Int32) : kInts := fun a j => if a = 541 then r j else if a = 546 then f j else I a j
def setr (r : Nat → Int32) (k : Nat) (v : Int32) : Nat → Int32 := fun j => if j = k then v else r j
section
variable {N : Nat} {I : kInts} {L : kLngs} {r f : Nat → Int32}
theorem rf_eta (I : kInts) : rf I (I 541) (I 546) = I := by
  funext a j
  unfold rf
  split
  · next h => rw [h]
  · split
    · next h => rw [h]
    · rfl
theorem rf_s (j : Nat) : rf I r f 541 j = r j := rfl
theorem rf_f (j : Nat) : rf I r f 546 j = f j := rfl
theorem rf_o {a : Nat} (j : Nat) (h1 : a ≠ 541) (h2 : a ≠ 546) : rf I r f a j = I a j := by unfold rf; rw [if_neg h1, if_neg h2]
theorem rf_us (j : Nat) (v : Int32) : up (rf I r f) 541 j v = rf I (setr r j v) f := by
  funext a k
  unfold up rf setr
  by_cases h : a = 541 <;> by_cases h2 : k = j <;> simp [h, h2]
theorem rf_uf (j : Nat) (v : Int32) : up (rf I r f) 546 j v = rf I r (setr f j v) := by
  funext a k
  unfold up rf setr
  by_cases h : a = 546 <;> by_cases h2 : k = j <;> simp [h, h2]
theorem rf_uo {a : Nat} (j : Nat) (v : Int32) (h1 : a ≠ 541) (h2 : a ≠ 546) : up (rf I r f) a j v = rf (up I a j v) r f := by
  funext b k
  unfold up rf
  by_cases h : b = a
  · subst h; simp [h1, h2]
  · simp [h]
theorem rf_rf (r2 f2 : Nat → Int32) : rf (rf I r f) r2 f2 = rf I r2 f2 := by
  funext a j
  unfold rf
  split
  · rfl
  · split <;> rfl
theorem sr_k : kt Mb 540 12 = true := sh_r.1
theorem sr_0 : kR Mb 540 0 = 541 := sh_r.2.1
theorem sr_1 : kR Mb 540 1 = 542 := sh_r.2.2.1
theorem sr_2 : kR Mb 540 2 = 543 := sh_r.2.2.2.1
theorem sr_3 : kR Mb 540 3 = 544 := sh_r.2.2.2.2.1
theorem sr_4 : kR Mb 540 4 = 545 := sh_r.2.2.2.2.2.1
theorem sr_7 : kR Mb 540 7 = 546 := sh_r.2.2.2.2.2.2.1
theorem sr_8 : kR Mb 540 8 = 547 := sh_r.2.2.2.2.2.2.2.1
theorem sr_9 : kR Mb 540 9 = 548 := sh_r.2.2.2.2.2.2.2.2.1
theorem sr_26 : kR Mb 540 26 = 549 := sh_r.2.2.2.2.2.2.2.2.2.1
theorem sr_27 : kR Mb 540 27 = 550 := sh_r.2.2.2.2.2.2.2.2.2.2.1
theorem sr_28 : kR Mb 540 28 = 551 := sh_r.2.2.2.2.2.2.2.2.2.2.2
theorem kin_s {k : Nat} (h : k < 293) : kin Mb 541 13 (nI k) = true := kin_nI sh_a.2.2.2.1.1 sh_a.2.2.2.1.2 h (by decide)
theorem kin_f {k : Nat} (h : k < 24) : kin Mb 546 14 (nI k) = true := kin_nI sh_a.2.2.2.2.2.2.2.2.1.1 sh_a.2.2.2.2.2.2.2.2.1.2 h (by decide)
theorem rx_at (c d x w : Nat) : (nI c + nI d * nI x) + nI w = nI (c + d * x + w) := by rw [pk_mul, nI_add, nI_add]
theorem rx_atT0 (M : kMem) (t : Nat) : F_X12_atTrader N M (nI t) 0 = some (nI (89 + 7 * t + 0)) := congrArg some (rx_at 89 7 t 0)
theorem rx_atT1 (M : kMem) (t : Nat) : F_X12_atTrader N M (nI t) 1 = some (nI (89 + 7 * t + 1)) := congrArg some (rx_at 89 7 t 1)
theorem rx_atT2 (M : kMem) (t : Nat) : F_X12_atTrader N M (nI t) 2 = some (nI (89 + 7 * t + 2)) := congrArg some (rx_at 89 7 t 2)
theorem rx_atT3 (M : kMem) (t : Nat) : F_X12_atTrader N M (nI t) 3 = some (nI (89 + 7 * t + 3)) := congrArg some (rx_at 89 7 t 3)
theorem rx_atT4 (M : kMem) (t : Nat) : F_X12_atTrader N M (nI t) 4 = some (nI (89 + 7 * t + 4)) := congrArg some (rx_at 89 7 t 4)
theorem rx_atT5 (M : kMem) (t : Nat) : F_X12_atTrader N M (nI t) 5 = some (nI (89 + 7 * t + 5)) := congrArg some (rx_at 89 7 t 5)
theorem rx_atT6 (M : kMem) (t : Nat) : F_X12_atTrader N M (nI t) 6 = some (nI (89 + 7 * t + 6)) := congrArg some (rx_at 89 7 t 6)
theorem rx_atB0 (M : kMem) (b : Nat) : F_X12_atBoard N M (nI b) 0 = some (nI (14 + 15 * b + 0)) := congrArg some (rx_at 14 15 b 0)
theorem rx_atB1 (M : kMem) (b : Nat) : F_X12_atBoard N M (nI b) 1 = some (nI (14 + 15 * b + 1)) := congrArg some (rx_at 14 15 b 1)
theorem rx_atB2 (M : kMem) (b : Nat) : F_X12_atBoard N M (nI b) 2 = some (nI (14 + 15 * b + 2)) := congrArg some (rx_at 14 15 b 2)
theorem rx_has0 {t : Nat} (h : t < 24) : F_X12_has N (wm Mb (rf I r f) L) 540 (nI t) 0 = some (r (89 + 7 * t + 0)) := by
  unfold F_X12_has
  simp (disch := omega) only [rx_atT0, wm_kR, wm_kt, wm_kn, wm_kin, wm_kL, wm_kI, wm_ksI, wm_ksL, wm_kJ, wm_ksJ, kg_t, kl_v, Option.bind_some, sr_k, sr_0, sr_1, sr_2, sr_3, sr_4, sr_7, sr_8, sr_9, sr_26, sr_27, sr_28, kin_s, kx_nI, rf_s]
theorem rx_has1 {t : Nat} (h : t < 24) : F_X12_has N (wm Mb (rf I r f) L) 540 (nI t) 1 = some (r (89 + 7 * t + 1)) := by
  unfold F_X12_has
  simp (disch := omega) only [rx_atT1, wm_kR, wm_kt, wm_kn, wm_kin, wm_kL, wm_kI, wm_ksI, wm_ksL, wm_kJ, wm_ksJ, kg_t, kl_v, Option.bind_some, sr_k, sr_0, sr_1, sr_2, sr_3, sr_4, sr_7, sr_8, sr_9, sr_26, sr_27, sr_28, kin_s, kx_nI, rf_s]
theorem rx_has2 {t : Nat} (h : t < 24) : F_X12_has N (wm Mb (rf I r f) L) 540 (nI t) 2 = some (r (89 + 7 * t + 2)) := by
  unfold F_X12_has
  simp (disch := omega) only [rx_atT2, wm_kR, wm_kt, wm_kn, wm_kin, wm_kL, wm_kI, wm_ksI, wm_ksL, wm_kJ, wm_ksJ, kg_t, kl_v, Option.bind_some, sr_k, sr_0, sr_1, sr_2, sr_3, sr_4, sr_7, sr_8, sr_9, sr_26, sr_27, sr_28, kin_s, kx_nI, rf_s]
theorem rx_has3 {t : Nat} (h : t < 24) : F_X12_has N (wm Mb (rf I r f) L) 540 (nI t) 3 = some (r (89 + 7 * t + 3)) := by
  unfold F_X12_has
  simp (disch := omega) only [rx_atT3, wm_kR, wm_kt, wm_kn, wm_kin, wm_kL, wm_kI, wm_ksI, wm_ksL, wm_kJ, wm_ksJ, kg_t, kl_v, Option.bind_some, sr_k, sr_0, sr_1, sr_2, sr_3, sr_4, sr_7, sr_8, sr_9, sr_26, sr_27, sr_28, kin_s, kx_nI, rf_s]
theorem rx_has4 {t : Nat} (h : t < 24) : F_X12_has N (wm Mb (rf I r f) L) 540 (nI t) 4 = some (r (89 + 7 * t + 4)) := by
  unfold F_X12_has
  simp (disch := omega) only [rx_atT4, wm_kR, wm_kt, wm_kn, wm_kin, wm_kL, wm_kI, wm_ksI, wm_ksL, wm_kJ, wm_ksJ, kg_t, kl_v, Option.bind_some, sr_k, sr_0, sr_1, sr_2, sr_3, sr_4, sr_7, sr_8, sr_9, sr_26, sr_27, sr_28, kin_s, kx_nI, rf_s]
theorem rx_has5 {t : Nat} (h : t < 24) : F_X12_has N (wm Mb (rf I r f) L) 540 (nI t) 5 = some (r (89 + 7 * t + 5)) := by
  unfold F_X12_has
  simp (disch := omega) only [rx_atT5, wm_kR, wm_kt, wm_kn, wm_kin, wm_kL, wm_kI, wm_ksI, wm_ksL, wm_kJ, wm_ksJ, kg_t, kl_v, Option.bind_some, sr_k, sr_0, sr_1, sr_2, sr_3, sr_4, sr_7, sr_8, sr_9, sr_26, sr_27, sr_28, kin_s, kx_nI, rf_s]
theorem rx_has6 {t : Nat} (h : t < 24) : F_X12_has N (wm Mb (rf I r f) L) 540 (nI t) 6 = some (r (89 + 7 * t + 6)) := by
  unfold F_X12_has
  simp (disch := omega) only [rx_atT6, wm_kR, wm_kt, wm_kn, wm_kin, wm_kL, wm_kI, wm_ksI, wm_ksL, wm_kJ, wm_ksJ, kg_t, kl_v, Option.bind_some, sr_k, sr_0, sr_1, sr_2, sr_3, sr_4, sr_7, sr_8, sr_9, sr_26, sr_27, sr_28, kin_s, kx_nI, rf_s]
theorem rx_ofB0 {b : Nat} (h : b < 5) : F_X12_ofBoard N (wm Mb (rf I r f) L) 540 (nI b) 0 = some (r (14 + 15 * b + 0)) := by
  unfold F_X12_ofBoard
  simp (disch := omega) only [rx_atB0, wm_kR, wm_kt, wm_kn, wm_kin, wm_kL, wm_kI, wm_ksI, wm_ksL, wm_kJ, wm_ksJ, kg_t, kl_v, Option.bind_some, sr_k, sr_0, sr_1, sr_2, sr_3, sr_4, sr_7, sr_8, sr_9, sr_26, sr_27, sr_28, kin_s, kx_nI, rf_s]
theorem rx_ofB1 {b : Nat} (h : b < 5) : F_X12_ofBoard N (wm Mb (rf I r f) L) 540 (nI b) 1 = some (r (14 + 15 * b + 1)) := by
  unfold F_X12_ofBoard
  simp (disch := omega) only [rx_atB1, wm_kR, wm_kt, wm_kn, wm_kin, wm_kL, wm_kI, wm_ksI, wm_ksL, wm_kJ, wm_ksJ, kg_t, kl_v, Option.bind_some, sr_k, sr_0, sr_1, sr_2, sr_3, sr_4, sr_7, sr_8, sr_9, sr_26, sr_27, sr_28, kin_s, kx_nI, rf_s]
theorem rx_ofB2 {b : Nat} (h : b < 5) : F_X12_ofBoard N (wm Mb (rf I r f) L) 540 (nI b) 2 = some (r (14 + 15 * b + 2)) := by
  unfold F_X12_ofBoard
  simp (disch := omega) only [rx_atB2, wm_kR, wm_kt, wm_kn, wm_kin, wm_kL, wm_kI, wm_ksI, wm_ksL, wm_kJ, wm_ksJ, kg_t, kl_v, Option.bind_some, sr_k, sr_0, sr_1, sr_2, sr_3, sr_4, sr_7, sr_8, sr_9, sr_26, sr_27, sr_28, kin_s, kx_nI, rf_s]
end
