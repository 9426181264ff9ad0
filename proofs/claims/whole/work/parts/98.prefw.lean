/-! the reference is made: the walk -/
section
variable {N : Nat} {D : List (Nat × Nat)} {I : kInts} {R : Nat → Nat → Nat} {L : kLngs} {j : Nat} {v : Int32}
theorem st_i {k : kMem → Option kMem} {o : Option kMem} (h4 : cqt D 540 12 = true) (hk : k (wz D (up I 540 j v) R L) = o) : (kg (kt (wz D I R L) 540 12) <| kl (ksI (wz D I R L) 540 j v) k) = o := by
  rw [wz_kt, h4, kg_t, wz_ksI]
  exact hk
def f0 : Nat → Int32 := fun _ => 0
theorem v_rf (hI : ∀ a j, 539 < a → I a j = 0) : up (up (up (up (up (up (up I 540 19 (-1)) 541 0 3) 541 1 4) 541 2 2) 541 3 40) 541 4 5) 541 5 200 = rf (up I 540 19 (-1)) e0 f0 := by
  funext a j
  unfold rf
  by_cases h : a = 541
  · subst h
    rw [if_pos rfl]
    unfold e0
    unfold setr up
    rw [hI 541 j (by decide)]
    simp
  rw [if_neg h, up_ne (by omega), up_ne (by omega), up_ne (by omega), up_ne (by omega), up_ne (by omega), up_ne (by omega)]
  by_cases h2 : a = 546
  · subst h2
    rw [if_pos rfl, up_ne (by omega), hI 546 j (by decide)]
    rfl
  · rw [if_neg h2]
theorem e_RI (h : RI fg9 2 4) : RI e9 2 4 := (RI_10 h (Or.inl rfl) (e9 9)).eqr e_is9
theorem i_ref (hI : ∀ a j, 539 < a → I a j = 0) (hR : RI fg9 2 4) (hN : 1000 < N) : F_X12_init N (wz vD0 I refC zL) 540 = some (wm Md (rf (up I 540 19 (-1)) eF f0) zL) := by
  obtain ⟨z0, z1, z2, z3, z4, z5, z6, z7, z8, -⟩ := v_Zall hI
  have y8 : Zr vD8 (up I 540 19 (-1)) vR8 zL := z8.i (by rw [vD_l.2.2.2.2.2.2.2.2.1]; decide)
  have y9 : Zr vD9 (up I 540 19 (-1)) vR9 zL := st_rZ 26 549 y8 (by show 540 ≤ vD9.length; rw [vD_l.2.2.2.2.2.2.2.2.2.1]; decide)
  have ya : Zr vDa (up I 540 19 (-1)) vRa zL := st_rZ 27 550 y9 (by show 540 ≤ vDa.length; rw [vD_l.2.2.2.2.2.2.2.2.2.2.1]; decide)
  unfold F_X12_init
  rw [show (wz vD0 I refC zL).1.length = 540 from vD_l.1]
  unfold F_X12_init_b
  rw [show decide ((540 : Nat) ≠ 0) = true from rfl, kg_t]
  refine st_r (D := vD0) (I := I) (R := refC) (L := zL) (t := 13) (nf := (293 : Int32).toNatClampNeg) 541 0 (by rw [vD_l.1]) z0 (by decide +kernel) (by decide +kernel) ?_
  refine st_r (D := vD1) (I := I) (R := vR1) (L := zL) (t := 13) (nf := (293 : Int32).toNatClampNeg) 542 1 (by rw [vD_l.2.1]) z1 (by decide +kernel) (by decide +kernel) ?_
  refine st_r (D := vD2) (I := I) (R := vR2) (L := zL) (t := 13) (nf := (2344 : Int32).toNatClampNeg) 543 2 (by rw [vD_l.2.2.1]) z2 (by decide +kernel) (by decide +kernel) ?_
  refine st_r (D := vD3) (I := I) (R := vR3) (L := zL) (t := 13) (nf := (586 : Int32).toNatClampNeg) 544 3 (by rw [vD_l.2.2.2.1]) z3 (by decide +kernel) (by decide +kernel) ?_
  refine st_r (D := vD4) (I := I) (R := vR4) (L := zL) (t := 14) (nf := (2 : Int32).toNatClampNeg) 545 4 (by rw [vD_l.2.2.2.2.1]) z4 (by decide +kernel) (by decide +kernel) ?_
  refine st_r (D := vD5) (I := I) (R := vR5) (L := zL) (t := 14) (nf := (24 : Int32).toNatClampNeg) 546 7 (by rw [vD_l.2.2.2.2.2.1]) z5 (by decide +kernel) (by decide +kernel) ?_
  refine st_r (D := vD6) (I := I) (R := vR6) (L := zL) (t := 13) (nf := (800 : Int32).toNatClampNeg) 547 8 (by rw [vD_l.2.2.2.2.2.2.1]) z6 (by decide +kernel) (by decide +kernel) ?_
  refine st_r (D := vD7) (I := I) (R := vR7) (L := zL) (t := 13) (nf := (800 : Int32).toNatClampNeg) 548 9 (by rw [vD_l.2.2.2.2.2.2.2.1]) z7 (by decide +kernel) (by decide +kernel) ?_
  refine st_i (D := vD8) (I := I) (R := vR8) (L := zL) (by decide +kernel) ?_
  refine st_r (D := vD8) (I := up I 540 19 (-1)) (R := vR8) (L := zL) (t := 13) (nf := (4 : Int32).toNatClampNeg) 549 26 (by rw [vD_l.2.2.2.2.2.2.2.2.1]) y8 (by decide +kernel) (by decide +kernel) ?_
  refine st_r (D := vD9) (I := up I 540 19 (-1)) (R := vR9) (L := zL) (t := 13) (nf := (4 : Int32).toNatClampNeg) 550 27 (by rw [vD_l.2.2.2.2.2.2.2.2.2.1]) y9 (by decide +kernel) (by decide +kernel) ?_
  refine st_r (D := vDa) (I := up I 540 19 (-1)) (R := vRa) (L := zL) (t := 13) (nf := (200 : Int32).toNatClampNeg) 551 28 (by rw [vD_l.2.2.2.2.2.2.2.2.2.2.1]) ya (by decide +kernel) (by decide +kernel) ?_
  have hv : wz (vDa ++ [(13, (200 : Int32).toNatClampNeg)]) (up I 540 19 (-1)) (upR vRa 540 28 551) zL = wm Md (up I 540 19 (-1)) zL := v_MD
  rw [hv]
  have b1 : F_X12_builds N (wm Md (rf (up I 540 19 (-1)) e0 f0) zL) 540 3 10 60 = some (wm Md (rf (up I 540 19 (-1)) e1 f0) zL) := rx_builds_d (nb := 0) (by decide) rfl
  have b2 : F_X12_builds N (wm Md (rf (up I 540 19 (-1)) e1 f0) zL) 540 2 5 30 = some (wm Md (rf (up I 540 19 (-1)) e2 f0) zL) := rx_builds_d (nb := 1) (by decide) (by decide)
  have b3 : F_X12_appears N (wm Md (rf (up I 540 19 (-1)) e2 f0) zL) 540 1486 10 30 0 = some (wm Md (rf (up I 540 19 (-1)) e3 f0) zL) := rx_appears_d (nt := 0) (by decide) (by decide)
  have b4 : F_X12_appears N (wm Md (rf (up I 540 19 (-1)) e3 f0) zL) 540 2530 6 25 12 = some (wm Md (rf (up I 540 19 (-1)) e4 f0) zL) := rx_appears_d (nt := 1) (by decide) (by decide)
  have b5 : F_X12_appears N (wm Md (rf (up I 540 19 (-1)) e4 f0) zL) 540 3124 8 12 38 = some (wm Md (rf (up I 540 19 (-1)) e5 f0) zL) := rx_appears_d (nt := 2) (by decide) (by decide)
  have b6 : F_X12_appears N (wm Md (rf (up I 540 19 (-1)) e5 f0) zL) 540 4142 15 40 5 = some (wm Md (rf (up I 540 19 (-1)) e6 f0) zL) := rx_appears_d (nt := 3) (by decide) (by decide)
  have b7 : F_X12_sits N (wm Md (rf (up I 540 19 (-1)) e6 f0) zL) 540 0 0 (-2) = some (wm Md (rf (up I 540 19 (-1)) e7 f0) zL) := rx_sits_d (t := 0) (b := 0) (q := 4) (by decide) (by decide) (by decide) (by decide)
  have b8 : F_X12_sits N (wm Md (rf (up I 540 19 (-1)) e7 f0) zL) 540 1 0 3 = some (wm Md (rf (up I 540 19 (-1)) e8 f0) zL) := rx_sits_d (t := 1) (b := 0) (q := 9) (by decide) (by decide) (by decide) (by decide)
  have b9 : F_X12_sits N (wm Md (rf (up I 540 19 (-1)) e8 f0) zL) 540 2 1 1 = some (wm Md (rf (up I 540 19 (-1)) e9 f0) zL) := rx_sits_d (t := 2) (b := 1) (q := 7) (by decide) (by decide) (by decide) (by decide)
  have ba : F_X12_allCoins N (wm Md (rf (up I 540 19 (-1)) e9 f0) zL) 540 = some (nI (tot e9 4)) := rx_all_d (e_RI hR) hN
  simp only [wm_kR, wm_kt, wm_kn, wm_kin, wm_kL, wm_kI, wm_ksI, wm_ksL, wm_kJ, wm_ksJ, kg_t, kl_v, Option.bind_some, sr_k_d, sr_0_d, kl_0_d, kl_1_d, kl_2_d, kl_3_d, kl_4_d, kl_5_d, kl_9_d, kx_l0, kx_l1, kx_l2, kx_l3, kx_l4, kx_l5, kx_l9, v_rf hI, q_kendD, q_kgrD, b1, b2, b3, b4, b5, b6, b7, b8, b9, ba, rf_us]
  rfl
end
