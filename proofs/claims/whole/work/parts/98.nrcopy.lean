/-! the reference, ahead of the long: what is said over the shape of the whole memory, said over all cells but the last (printed from the parts that stand) -/
def cellsD : List (Nat × Nat) := (List.range 551).map (fun k => cellAt (k + 1))
def Md : kMem := (cellsD, fun _ _ => 0, refB, fun _ _ => 0)
theorem Md1 : Md.1 = cellsD := by
  unfold Md
  with_reducible rfl
theorem cD {a : Nat} (h1 : 1 ≤ a) (h2 : a ≤ 551) : kcell Md a = some (cellAt a) := by
  obtain ⟨k, rfl⟩ : ∃ k, a = k + 1 := ⟨a - 1, by omega⟩
  rw [kcell_s, Md1]
  unfold cellsD
  rw [List.getElem?_map, List.getElem?_range (by omega)]
  exact Option.map_some _ _
theorem ktB_d {a t n : Nat} (h : (1 ≤ a ∧ a ≤ 551) ∧ cellAt a = (t, n)) : kt Md a t = true ∧ kn Md a = n := by
  unfold kt kn
  rw [cD h.1.1 h.1.2, h.2]
  simp
theorem kt_of_d {t n : Nat} (a : Nat) (h : ((decide (1 ≤ a) && decide (a ≤ 551)) && ((cellAt a).1 == t && (cellAt a).2 == n)) = true) : kt Md a t = true ∧ kn Md a = n := by
  simp only [Bool.and_eq_true, decide_eq_true_eq, beq_iff_eq] at h
  exact ktB_d ⟨h.1, Prod.ext h.2.1 h.2.2⟩
theorem sh_r_d : kt Md 540 12 = true ∧ kR Md 540 0 = 541 ∧ kR Md 540 1 = 542 ∧ kR Md 540 2 = 543 ∧ kR Md 540 3 = 544 ∧ kR Md 540 4 = 545 ∧ kR Md 540 7 = 546 ∧ kR Md 540 8 = 547 ∧ kR Md 540 9 = 548 ∧ kR Md 540 26 = 549 ∧ kR Md 540 27 = 550 ∧ kR Md 540 28 = 551 := ⟨(kt_of_d (n := 30) 540 (by decide)).1, rfl, rfl, rfl, rfl, rfl, rfl, rfl, rfl, rfl, rfl, rfl⟩
theorem sh_a_d : (∀ a ∈ [3, 5, 547, 548], kt Md a 13 = true ∧ kn Md a = 800) ∧ (∀ a ∈ [7, 8, 9], kt Md a 13 = true ∧ kn Md a = 801) ∧ (∀ a ∈ ([] : List Nat), kt Md a 13 = true ∧ kn Md a = 6) ∧ (kt Md 541 13 = true ∧ kn Md 541 = 293) ∧ (kt Md 542 13 = true ∧ kn Md 542 = 293) ∧ (kt Md 543 13 = true ∧ kn Md 543 = 2344) ∧ (kt Md 544 13 = true ∧ kn Md 544 = 586) ∧ (kt Md 545 14 = true ∧ kn Md 545 = 2) ∧ (kt Md 546 14 = true ∧ kn Md 546 = 24) ∧ (kt Md 549 13 = true ∧ kn Md 549 = 4) ∧ (kt Md 550 13 = true ∧ kn Md 550 = 4) ∧ (kt Md 551 13 = true ∧ kn Md 551 = 200) ∧ True :=
  ⟨fun a ha => kt_of_d a ((show ∀ a ∈ [3, 5, 547, 548], ((decide (1 ≤ a) && decide (a ≤ 551)) && ((cellAt a).1 == 13 && (cellAt a).2 == 800)) = true by decide) a ha), fun a ha => kt_of_d a ((show ∀ a ∈ [7, 8, 9], ((decide (1 ≤ a) && decide (a ≤ 551)) && ((cellAt a).1 == 13 && (cellAt a).2 == 801)) = true by decide) a ha), fun a ha => kt_of_d a ((show ∀ a ∈ ([] : List Nat), ((decide (1 ≤ a) && decide (a ≤ 551)) && ((cellAt a).1 == 13 && (cellAt a).2 == 6)) = true by decide) a ha), kt_of_d 541 (by decide), kt_of_d 542 (by decide), kt_of_d 543 (by decide), kt_of_d 544 (by decide), kt_of_d 545 (by decide), kt_of_d 546 (by decide), kt_of_d 549 (by decide), kt_of_d 550 (by decide), kt_of_d 551 (by decide), trivial⟩
section
variable {N : Nat} {I : kInts} {L : kLngs} {r f : Nat → Int32}
theorem sr_k_d : kt Md 540 12 = true := sh_r_d.1
end
section
variable {N : Nat} {I : kInts} {L : kLngs} {r f : Nat → Int32}
theorem sr_0_d : kR Md 540 0 = 541 := sh_r_d.2.1
end
section
variable {N : Nat} {I : kInts} {L : kLngs} {r f : Nat → Int32}
theorem sr_1_d : kR Md 540 1 = 542 := sh_r_d.2.2.1
end
section
variable {N : Nat} {I : kInts} {L : kLngs} {r f : Nat → Int32}
theorem sr_2_d : kR Md 540 2 = 543 := sh_r_d.2.2.2.1
end
section
variable {N : Nat} {I : kInts} {L : kLngs} {r f : Nat → Int32}
theorem sr_3_d : kR Md 540 3 = 544 := sh_r_d.2.2.2.2.1
end
section
variable {N : Nat} {I : kInts} {L : kLngs} {r f : Nat → Int32}
theorem sr_4_d : kR Md 540 4 = 545 := sh_r_d.2.2.2.2.2.1
end
section
variable {N : Nat} {I : kInts} {L : kLngs} {r f : Nat → Int32}
theorem sr_7_d : kR Md 540 7 = 546 := sh_r_d.2.2.2.2.2.2.1
end
section
variable {N : Nat} {I : kInts} {L : kLngs} {r f : Nat → Int32}
theorem sr_8_d : kR Md 540 8 = 547 := sh_r_d.2.2.2.2.2.2.2.1
end
section
variable {N : Nat} {I : kInts} {L : kLngs} {r f : Nat → Int32}
theorem sr_9_d : kR Md 540 9 = 548 := sh_r_d.2.2.2.2.2.2.2.2.1
end
section
variable {N : Nat} {I : kInts} {L : kLngs} {r f : Nat → Int32}
theorem sr_26_d : kR Md 540 26 = 549 := sh_r_d.2.2.2.2.2.2.2.2.2.1
end
section
variable {N : Nat} {I : kInts} {L : kLngs} {r f : Nat → Int32}
theorem sr_27_d : kR Md 540 27 = 550 := sh_r_d.2.2.2.2.2.2.2.2.2.2.1
end
section
variable {N : Nat} {I : kInts} {L : kLngs} {r f : Nat → Int32}
theorem sr_28_d : kR Md 540 28 = 551 := sh_r_d.2.2.2.2.2.2.2.2.2.2.2
end
section
variable {N : Nat} {I : kInts} {L : kLngs} {r f : Nat → Int32}
theorem kin_s_d {k : Nat} (h : k < 293) : kin Md 541 13 (nI k) = true := kin_nI sh_a_d.2.2.2.1.1 sh_a_d.2.2.2.1.2 h (by decide)
end
section
variable {N : Nat} {I : kInts} {L : kLngs} {r f : Nat → Int32}
theorem rx_has2_d {t : Nat} (h : t < 24) : F_X12_has N (wm Md (rf I r f) L) 540 (nI t) 2 = some (r (89 + 7 * t + 2)) := by
  unfold F_X12_has
  simp (disch := omega) only [rx_atT2, wm_kR, wm_kt, wm_kn, wm_kin, wm_kL, wm_kI, wm_ksI, wm_ksL, wm_kJ, wm_ksJ, kg_t, kl_v, Option.bind_some, sr_k_d, sr_0_d, sr_1_d, sr_2_d, sr_3_d, sr_4_d, sr_7_d, sr_8_d, sr_9_d, sr_26_d, sr_27_d, sr_28_d, kin_s_d, kx_nI, rf_s]
end
section
variable {N : Nat} {I : kInts} {L : kLngs} {r f : Nat → Int32} {nb nt : Nat}
theorem rx_sits_d {t b q : Nat} (ht : t < 24) (hb : b < 5) (hq : q < 13) (h6 : q ≠ 6) : F_X12_sits N (wm Md (rf I r f) L) 540 (nI t) (nI b) (pz q) = some (wm Md (rf I (siR r t b q) f) L) := by
  have h7 := si_lt hb hq
  unfold F_X12_sits siR
  simp only [wm_kR, wm_kt, wm_kn, wm_kin, wm_kL, wm_kI, wm_ksI, wm_ksL, wm_kJ, wm_ksJ, kg_t, kl_v, Option.bind_some, sr_k_d, sr_0_d, sr_1_d, sr_2_d, sr_3_d, sr_4_d, sr_7_d, sr_8_d, sr_9_d, sr_26_d, sr_27_d, sr_28_d, rx_atS _ hq h6, rx_atT5, rx_atT6, nI_1]
  simp (disch := omega) only [kin_s_d, kg_t, kx_nI, rf_us]
end
section
variable {N : Nat} {I : kInts} {L : kLngs} {r f : Nat → Int32} {nb nt m : Nat}
theorem kl_0_d : kin Md 541 13 0 = true := kin_s_d (k := 0) (by decide)
end
section
variable {N : Nat} {I : kInts} {L : kLngs} {r f : Nat → Int32} {nb nt m : Nat}
theorem kl_1_d : kin Md 541 13 1 = true := kin_s_d (k := 1) (by decide)
end
section
variable {N : Nat} {I : kInts} {L : kLngs} {r f : Nat → Int32} {nb nt m : Nat}
theorem kl_2_d : kin Md 541 13 2 = true := kin_s_d (k := 2) (by decide)
end
section
variable {N : Nat} {I : kInts} {L : kLngs} {r f : Nat → Int32} {nb nt m : Nat}
theorem kl_3_d : kin Md 541 13 3 = true := kin_s_d (k := 3) (by decide)
end
section
variable {N : Nat} {I : kInts} {L : kLngs} {r f : Nat → Int32} {nb nt m : Nat}
theorem kl_4_d : kin Md 541 13 4 = true := kin_s_d (k := 4) (by decide)
end
section
variable {N : Nat} {I : kInts} {L : kLngs} {r f : Nat → Int32} {nb nt m : Nat}
theorem kl_5_d : kin Md 541 13 5 = true := kin_s_d (k := 5) (by decide)
end
section
variable {N : Nat} {I : kInts} {L : kLngs} {r f : Nat → Int32} {nb nt m : Nat}
theorem kl_6_d : kin Md 541 13 6 = true := kin_s_d (k := 6) (by decide)
end
section
variable {N : Nat} {I : kInts} {L : kLngs} {r f : Nat → Int32} {nb nt m : Nat}
theorem kl_7_d : kin Md 541 13 7 = true := kin_s_d (k := 7) (by decide)
end
section
variable {N : Nat} {I : kInts} {L : kLngs} {r f : Nat → Int32} {nb nt m : Nat}
theorem kl_8_d : kin Md 541 13 8 = true := kin_s_d (k := 8) (by decide)
end
section
variable {N : Nat} {I : kInts} {L : kLngs} {r f : Nat → Int32} {nb nt m : Nat}
theorem kl_9_d : kin Md 541 13 9 = true := kin_s_d (k := 9) (by decide)
end
section
variable {N : Nat} {I : kInts} {L : kLngs} {r f : Nat → Int32} {nb nt m : Nat}
theorem kl_10_d : kin Md 541 13 10 = true := kin_s_d (k := 10) (by decide)
end
section
variable {N : Nat} {I : kInts} {L : kLngs} {r f : Nat → Int32} {nb nt m : Nat}
theorem kl_11_d : kin Md 541 13 11 = true := kin_s_d (k := 11) (by decide)
end
section
variable {N : Nat} {I : kInts} {L : kLngs} {r f : Nat → Int32} {nb nt m : Nat}
theorem kl_12_d : kin Md 541 13 12 = true := kin_s_d (k := 12) (by decide)
end
section
variable {N : Nat} {I : kInts} {L : kLngs} {r f : Nat → Int32} {nb nt m : Nat}
theorem kl_13_d : kin Md 541 13 13 = true := kin_s_d (k := 13) (by decide)
end
section
variable {N : Nat} {I : kInts} {L : kLngs} {r f : Nat → Int32} {nb nt m : Nat} {cc w p ag : Int32}
theorem rx_appears_d (hn : nt < 24) (h8 : r 8 = nI nt) : F_X12_appears N (wm Md (rf I r f) L) 540 cc w p ag = some (wm Md (rf I (apR r nt cc w p ag) f) L) := by
  unfold F_X12_appears
  have e8 : (8 : Int32) = nI 8 := rfl
  rw [e8]
  have ea : nI nt + 1 = nI (nt + 1) := by rw [nI_succ]
  simp (disch := omega) only [wm_kR, wm_kt, wm_kn, wm_kin, wm_kL, wm_kI, wm_ksI, wm_ksL, wm_kJ, wm_ksJ, kg_t, kl_v, Option.bind_some, sr_k_d, sr_0_d, sr_1_d, sr_2_d, sr_3_d, sr_4_d, sr_7_d, sr_8_d, sr_9_d, sr_26_d, sr_27_d, sr_28_d, kin_s_d, kx_nI, rf_s, rf_us, h8, ea, rx_atT0, rx_atT1, rx_atT2, rx_atT3, rx_atT4, rx_atT5, rx_atT6]
  rfl
end
section
variable {N : Nat} {I : kInts} {L : kLngs} {n c : Nat} {T : Nat → Nat} {σ : sg} {r s : Nat → Int32} {nb nt m : Nat} {a1 a2 a3 : Int32}
theorem rx_builds_d {f : Nat → Int32} (hn : nb < 5) (h7 : r 7 = nI nb) : F_X12_builds N (wm Md (rf I r f) L) 540 a1 a2 a3 = some (wm Md (rf I (boR r nb a1 a2 a3) f) L) := by
  unfold F_X12_builds
  have e7 : (7 : Int32) = nI 7 := rfl
  rw [e7]
  have ea : nI nb + 1 = nI (nb + 1) := by rw [nI_succ]
  simp (disch := omega) only [wm_kR, wm_kt, wm_kn, wm_kin, wm_kL, wm_kI, wm_ksI, wm_ksL, wm_kJ, wm_ksJ, kg_t, kl_v, Option.bind_some, sr_k_d, sr_0_d, sr_1_d, sr_2_d, sr_3_d, sr_4_d, sr_7_d, sr_8_d, sr_9_d, sr_26_d, sr_27_d, sr_28_d, kin_s_d, kx_nI, rf_s, rf_us, h7, ea, rx_atB0, rx_atB1, rx_atB2]
  rfl
end
section
variable {N : Nat} {I : kInts} {L : kLngs} {n c : Nat} {T : Nat → Nat} {r s f : Nat → Int32} {nb nt : Nat}
theorem rx_allL_d (h24 : nt ≤ 24) (h8 : r 8 = nI nt) : ∀ (k i z : Nat) (x : Int32), i + k = nt → k < z → x = nI (kx (r 5) + sumN (pu r) i) → (∀ t, t < nt → nn (r (89 + 7 * t + 2))) → F_X12_allCoins_9 N (wm Md (rf I r f) L) z 540 x (nI i) = some (nI (tot r nt)) := by
  intro k
  induction k with
  | zero =>
    intro i z x e hz hx hn
    obtain ⟨z, rfl⟩ : ∃ v, z = v + 1 := ⟨z - 1, by omega⟩
    have : i = nt := by omega
    subst this
    unfold F_X12_allCoins_9
    simp (disch := omega) only [wm_kR, wm_kt, wm_kn, wm_kin, wm_kL, wm_kI, wm_ksI, wm_ksL, wm_kJ, wm_ksJ, kg_t, kl_v, Option.bind_some, sr_k_d, sr_0_d, sr_1_d, sr_2_d, sr_3_d, sr_4_d, sr_7_d, sr_8_d, sr_9_d, sr_26_d, sr_27_d, sr_28_d, kl_0_d, kl_1_d, kl_2_d, kl_3_d, kl_4_d, kl_5_d, kl_6_d, kl_7_d, kl_8_d, kl_9_d, kl_10_d, kl_11_d, kl_12_d, kl_13_d, kx_l0, kx_l1, kx_l2, kx_l3, kx_l4, kx_l5, kx_l6, kx_l7, kx_l8, kx_l9, kx_l10, kx_l11, kx_l12, kx_l13, rf_s, h8, nI_ltP]
    rw [if_neg (by omega), hx]
    rfl
  | succ k ih =>
    intro i z x e hz hx hn
    obtain ⟨z, rfl⟩ : ∃ v, z = v + 1 := ⟨z - 1, by omega⟩
    have h1 := ih (i + 1) z (x + r (89 + 7 * i + 2)) (by omega) (by omega) (by
      have h2 : r (89 + 7 * i + 2) = nI (kx (r (89 + 7 * i + 2))) := hn i (by omega)
      rw [hx, h2, nI_add]
      show nI (kx (r 5) + sumN (pu r) i + kx (r (89 + 7 * i + 2))) = nI (kx (r 5) + (sumN (pu r) i + pu r i))
      unfold pu
      rw [Nat.add_assoc]) hn
    unfold F_X12_allCoins_9
    simp (disch := omega) only [wm_kR, wm_kt, wm_kn, wm_kin, wm_kL, wm_kI, wm_ksI, wm_ksL, wm_kJ, wm_ksJ, kg_t, kl_v, Option.bind_some, sr_k_d, sr_0_d, sr_1_d, sr_2_d, sr_3_d, sr_4_d, sr_7_d, sr_8_d, sr_9_d, sr_26_d, sr_27_d, sr_28_d, kl_0_d, kl_1_d, kl_2_d, kl_3_d, kl_4_d, kl_5_d, kl_6_d, kl_7_d, kl_8_d, kl_9_d, kl_10_d, kl_11_d, kl_12_d, kl_13_d, kx_l0, kx_l1, kx_l2, kx_l3, kx_l4, kx_l5, kx_l6, kx_l7, kx_l8, kx_l9, kx_l10, kx_l11, kx_l12, kx_l13, rf_s, h8, nI_ltP, rx_has2_d (show i < 24 by omega), nI_1]
    rw [if_pos (by omega)]
    exact h1
end
section
variable {N : Nat} {I : kInts} {L : kLngs} {n c : Nat} {T : Nat → Nat} {r s f : Nat → Int32} {nb nt : Nat}
theorem rx_all_d (h : RI r nb nt) (hN : 1000 < N) : F_X12_allCoins N (wm Md (rf I r f) L) 540 = some (nI (tot r nt)) := by
  have h24 := h.nt24
  have h1 := rx_allL_d (N := N) (I := I) (L := L) (f := f) h24 h.r8 nt 0 N (r 5) (by omega) (by omega) h.c.1 h.c.2.1
  unfold F_X12_allCoins
  simp (disch := omega) only [wm_kR, wm_kt, wm_kn, wm_kin, wm_kL, wm_kI, wm_ksI, wm_ksL, wm_kJ, wm_ksJ, kg_t, kl_v, Option.bind_some, sr_k_d, sr_0_d, sr_1_d, sr_2_d, sr_3_d, sr_4_d, sr_7_d, sr_8_d, sr_9_d, sr_26_d, sr_27_d, sr_28_d, kl_0_d, kl_1_d, kl_2_d, kl_3_d, kl_4_d, kl_5_d, kl_6_d, kl_7_d, kl_8_d, kl_9_d, kl_10_d, kl_11_d, kl_12_d, kl_13_d, kx_l0, kx_l1, kx_l2, kx_l3, kx_l4, kx_l5, kx_l6, kx_l7, kx_l8, kx_l9, kx_l10, kx_l11, kx_l12, kx_l13, rf_s]
  exact h1
end
