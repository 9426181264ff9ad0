/-! contradictions: both answer alike -/
def cnA (r : Nat → Int32) (nt : Nat) : Nat → Nat → Int32 → Int32
  | 0, _, x => x
  | k + 1, i, x => cnA r nt k (i + 1) (x + kabs (tqr r nt i - tdO r i (kx (r (14 + 15 * i + 0))) 1 0))
section
variable {N : Nat} {I : kInts} {L : kLngs} {r s f : Nat → Int32} {nb nt m : Nat}
theorem cx_cnL (hm : m ∈ mks) (hR : RI r nb nt) (hM : RM I m r nb nt) (hN : 100 < N) (k : Nat) : ∀ (i w : Nat) (x : Int32), i + k = nb → k < w → F_X4_countContradictions_20 N (wm Mb I L) w m x (nI i) = some (cnA r nt k i x) := by
  have h5 := hR.nb5
  induction k with
  | zero =>
    intro i w x e hw
    obtain ⟨w, rfl⟩ : ∃ v, w = v + 1 := ⟨w - 1, by omega⟩
    unfold F_X4_countContradictions_20
    simp (disch := omega) only [wm_kR, wm_kt, wm_kn, wm_kin, wm_kL, wm_kI, wm_ksI, wm_ksL, wm_kJ, wm_ksJ, kg_t, kl_v, Option.bind_some, mm_k hm, hM.bc, hR.r7, nI_ltP]
    rw [if_neg (by omega)]
    rfl
  | succ k ih =>
    intro i w x e hw
    obtain ⟨w, rfl⟩ : ∃ v, w = v + 1 := ⟨w - 1, by omega⟩
    have hi : i < 5 := by omega
    have hb : i < nb := by omega
    obtain ⟨a, s', l, ha, -, -, ra, -⟩ := hR.b i hb
    have z1 := cx_tdO (N := N) (L := L) hm hR hM hb ra (by omega) hN a 1 N 0 (by omega) (by omega) (by omega)
    have z2 := cx_wrong (N := N) (L := L) hm hR hM hb ra (by omega) (2 * a + 1) (6 - a) N (by omega) (by omega) (by omega)
    rw [← pz_na (show a ≤ 6 by omega)] at z2
    rw [show nI 1 = 1 from rfl] at z1
    have h2 := ih (i + 1) w (x + kabs (tqr r nt i - tdO r i a 1 0)) (by omega) (by omega)
    unfold F_X4_countContradictions_20 F_X4_torqueByDistances F_X4_wrongSeats
    simp (disch := omega) only [wm_kR, wm_kt, wm_kn, wm_kin, wm_kL, wm_kI, wm_ksI, wm_ksL, wm_kJ, wm_ksJ, kg_t, kl_v, Option.bind_some, mm_k hm, hM.bc, hR.r7, nI_ltP, kin_b hm hi, kx_nI, bb_r hm hi, bb_k hm hi, cx_tq hm hi hR hM hN, z1, (hM.bb i hb).1, ra, z2, add0, nI_1]
    rw [if_pos (by omega)]
    show _ = some (cnA r nt k (i + 1) (x + kabs (tqr r nt i - tdO r i (kx (r (14 + 15 * i + 0))) 1 0)))
    rw [ra, kx_nI (by omega)]
    exact h2
theorem rx_cnL (hR : RI r nb nt) (hN : 100 < N) (k : Nat) : ∀ (i w : Nat) (x : Int32), i + k = nb → k < w → F_X12_contradictions_23 N w (wm Mb (rf I r f) L) 540 x (nI i) = some (cnA r nt k i x, wm Mb (rf I r f) L) := by
  have h5 := hR.nb5
  induction k with
  | zero =>
    intro i w x e hw
    obtain ⟨w, rfl⟩ : ∃ v, w = v + 1 := ⟨w - 1, by omega⟩
    unfold F_X12_contradictions_23
    simp (disch := omega) only [wm_kR, wm_kt, wm_kn, wm_kin, wm_kL, wm_kI, wm_ksI, wm_ksL, wm_kJ, wm_ksJ, kg_t, kl_v, Option.bind_some, sr_k, sr_0, sr_1, sr_2, sr_3, sr_4, sr_7, sr_8, sr_9, sr_26, sr_27, sr_28, kl_0, kl_1, kl_2, kl_3, kl_4, kl_5, kl_6, kl_7, kl_8, kl_9, kl_10, kl_11, kl_12, kl_13, kx_l0, kx_l1, kx_l2, kx_l3, kx_l4, kx_l5, kx_l6, kx_l7, kx_l8, kx_l9, kx_l10, kx_l11, kx_l12, kx_l13, rf_s, hR.r7, nI_ltP]
    rw [if_neg (by omega)]
    rfl
  | succ k ih =>
    intro i w x e hw
    obtain ⟨w, rfl⟩ : ∃ v, w = v + 1 := ⟨w - 1, by omega⟩
    have hi : i < 5 := by omega
    have hb : i < nb := by omega
    obtain ⟨a, s', l, ha, -, -, ra, -⟩ := hR.b i hb
    have z1 := rx_tdO (N := N) (I := I) (L := L) (f := f) hR hb ra (by omega) hN a 1 N 0 (by omega) (by omega) (by omega)
    have z2 := rx_wrong (N := N) (I := I) (L := L) (f := f) hR hb ra (by omega) (2 * a + 1) (6 - a) N (by omega) (by omega) (by omega)
    rw [← pz_na (show a ≤ 6 by omega)] at z2
    rw [show nI 1 = 1 from rfl] at z1
    have h2 := ih (i + 1) w (x + kabs (tqr r nt i - tdO r i a 1 0)) (by omega) (by omega)
    unfold F_X12_contradictions_23 F_X12_torqueByDistances F_X12_wrongSeats
    simp (disch := omega) only [wm_kR, wm_kt, wm_kn, wm_kin, wm_kL, wm_kI, wm_ksI, wm_ksL, wm_kJ, wm_ksJ, kg_t, kl_v, Option.bind_some, sr_k, sr_0, sr_1, sr_2, sr_3, sr_4, sr_7, sr_8, sr_9, sr_26, sr_27, sr_28, kl_0, kl_1, kl_2, kl_3, kl_4, kl_5, kl_6, kl_7, kl_8, kl_9, kl_10, kl_11, kl_12, kl_13, kx_l0, kx_l1, kx_l2, kx_l3, kx_l4, kx_l5, kx_l6, kx_l7, kx_l8, kx_l9, kx_l10, kx_l11, kx_l12, kx_l13, rf_s, hR.r7, nI_ltP, rx_tqr hR hb hN, z1, rx_bare, rx_ofB0 hi, ra, z2, add0, nI_1]
    rw [if_pos (by omega)]
    show _ = some (cnA r nt k (i + 1) (x + kabs (tqr r nt i - tdO r i (kx (r (14 + 15 * i + 0))) 1 0)), _)
    rw [ra, kx_nI (by omega)]
    exact h2
theorem sm_contradictions (h : Rel I) (hN : 100 < N) : SameI (fun M => F_X11_contradictions N M 1) (fun M => F_X12_contradictions N M 540) I := by
  obtain ⟨nb, nt, hR, hM⟩ := h.2.2.1.row
  intro L
  have es : avP (I 541) nt 0 (I 541 5) = avP (I 541) nt 0 0 + I 541 5 := by
    have z := avP_sh (r := I 541) nt 0 0 (I 541 5)
    rw [show (0 : Int32) + I 541 5 = I 541 5 by grind] at z
    exact z
  have ec : I 541 9 - (avP (I 541) nt 0 0 + I 541 5) = I 541 9 - avP (I 541) nt 0 0 - I 541 5 := by grind
  refine ⟨cnA (I 541) nt nb 0 (kabs (I 541 9 - avP (I 541) nt 0 0 - I 541 5)), ?_, fun L' => ⟨tw6 I 0, L', ?_, h.tw, LF.rf'⟩⟩
  · show F_X11_contradictions N (wm Mb I L) 1 = _
    have z1 := cx_avP (N := N) (L := L) m169 hR hM nt 0 N 0 (by omega) (by have := hR.nt24; omega)
    have z2 := cx_cnL (N := N) (L := L) m169 hR hM hN nb 0 N (kabs (I 541 9 - avP (I 541) nt 0 0 - I 541 5)) (by omega) (by have := hR.nb5; omega)
    rw [show nI 0 = 0 from rfl] at z1 z2
    unfold F_X11_contradictions F_X4_countContradictions F_X4_coinsInPurses
    simp only [wm_kR, wm_kt, wm_kn, wm_kin, wm_kL, wm_kI, wm_ksI, wm_ksL, wm_kJ, wm_ksJ, kg_t, kl_v, Option.bind_some, x1_t.1, x1_t.2.1, mm_k m169, z1, hM.g.2.2.2.2.2.2.2.1, hM.bank, z2]
  · show F_X12_contradictions N (wm Mb I L') 540 = _
    have z1 := rx_av2 (N := N) (I := tw6 I 0) (L := L') (f := I 546) hR hN
    have z2 := rx_cnL (N := N) (I := tw6 I 0) (L := L') (f := I 546) hR hN nb 0 N (kabs (I 541 9 - avP (I 541) nt 0 0 - I 541 5)) (by omega) (by have := hR.nb5; omega)
    rw [tw_rf, show nI 0 = 0 from rfl] at z2
    rw [tw_rf, es] at z1
    unfold F_X12_contradictions
    simp only [wm_kR, wm_kt, wm_kn, wm_kin, wm_kL, wm_kI, wm_ksI, wm_ksL, wm_kJ, wm_ksJ, kg_t, kl_v, Option.bind_some, sr_k, sr_0, sr_1, sr_2, sr_3, sr_4, sr_7, sr_8, sr_9, sr_26, sr_27, sr_28, kl_0, kl_1, kl_2, kl_3, kl_4, kl_5, kl_6, kl_7, kl_8, kl_9, kl_10, kl_11, kl_12, kl_13, kx_l0, kx_l1, kx_l2, kx_l3, kx_l4, kx_l5, kx_l6, kx_l7, kx_l8, kx_l9, kx_l10, kx_l11, kx_l12, kx_l13, tw_fd, z1, tw_row, rx_bare, ec, z2]
end
