/-! the doors of the calls: a trader, a board, a seat that there is -/
section
variable {N : Nat} {I : kInts} {L : kLngs} {r s f : Nat → Int32} {nb nt : Nat}
theorem m169 : (44 : Nat) ∈ mks := by decide
theorem x1_t : kt Mb 1 11 = true ∧ kR Mb 1 4 = 44 ∧ kR Mb 1 6 = 126 ∧ kR Mb 1 0 = 2 ∧ kR Mb 1 1 = 4 ∧ kR Mb 1 2 = 6 ∧ kR Mb 1 3 = 10 ∧ kR Mb 1 5 = 85 ∧ kR Mb 1 7 = 456 ∧ kR Mb 1 8 = 457 := ⟨sh_x.1, rfl, rfl, rfl, rfl, rfl, rfl, rfl, rfl, rfl⟩
theorem cx_exT_in (hR : RI r nb nt) (hM : RM I 44 r nb nt) {t : Nat} (ht : t < nt) : F_X11_existingTrader N (wm Mb I L) 1 (nI t) = some (.inl (tr 44 t), wm Mb I L) := by
  unfold F_X11_existingTrader
  simp only [wm_kR, wm_kt, wm_kn, wm_kin, wm_kL, wm_kI, wm_ksI, wm_ksL, wm_kJ, wm_ksJ, kg_t, kl_v, Option.bind_some, x1_t.1, x1_t.2.1, mm_k m169, cx_tn_in m169 hR hM ht, tr_ne0, if_false]
theorem cx_exT_out (hR : RI r nb nt) (hM : RM I 44 r nb nt) {x : Int32} (hx : x < 0 ∨ nI nt ≤ x) : F_X11_existingTrader N (wm Mb I L) 1 x = some (.inr 1, wm Mb I L) := by
  unfold F_X11_existingTrader
  simp only [wm_kR, wm_kt, wm_kn, wm_kin, wm_kL, wm_kI, wm_ksI, wm_ksL, wm_kJ, wm_ksJ, kg_t, kl_v, Option.bind_some, x1_t.1, x1_t.2.1, mm_k m169, cx_tn_out m169 hR hM hx, if_true]
theorem cx_exB_in (hR : RI r nb nt) (hM : RM I 44 r nb nt) {b : Nat} (hb : b < nb) : F_X11_existingBoard N (wm Mb I L) 1 (nI b) = some (.inl (bd 44 b), wm Mb I L) := by
  unfold F_X11_existingBoard
  simp only [wm_kR, wm_kt, wm_kn, wm_kin, wm_kL, wm_kI, wm_ksI, wm_ksL, wm_kJ, wm_ksJ, kg_t, kl_v, Option.bind_some, x1_t.1, x1_t.2.1, mm_k m169, cx_bn_in m169 hR hM hb, bd_ne0, if_false]
theorem cx_exB_out (hR : RI r nb nt) (hM : RM I 44 r nb nt) {x : Int32} (hx : x < 0 ∨ nI nb ≤ x) : F_X11_existingBoard N (wm Mb I L) 1 x = some (.inr 1, wm Mb I L) := by
  unfold F_X11_existingBoard
  simp only [wm_kR, wm_kt, wm_kn, wm_kin, wm_kL, wm_kI, wm_ksI, wm_ksL, wm_kJ, wm_ksJ, kg_t, kl_v, Option.bind_some, x1_t.1, x1_t.2.1, mm_k m169, cx_bn_out m169 hR hM hx, if_true]
theorem cx_bs_in (hR : RI r nb nt) (hM : RM I 44 r nb nt) {b a q : Nat} (hb : b < nb) (ha : r (14 + 15 * b + 0) = nI a) (ha6 : a ≤ 6) (h1 : 6 - a ≤ q) (h2 : q ≤ 6 + a) (h6 : q ≠ 6) : F_X11_boardWithSeat N (wm Mb I L) 1 (nI b) (pz q) = some (.inl (bd 44 b), wm Mb I L) := by
  have h5 := hR.nb5
  have hb' : b < 5 := by omega
  unfold F_X11_boardWithSeat
  simp only [wm_kR, wm_kt, wm_kn, wm_kin, wm_kL, wm_kI, wm_ksI, wm_ksL, wm_kJ, wm_ksJ, kg_t, kl_v, Option.bind_some, x1_t.1, cx_exB_in hR hM hb, kbx, bb_k m169 hb', cx_hasSeat m169 hb' ((hM.bb b hb).1.trans ha), if_pos (pos_in ha6 h1 h2 h6), if_neg one0]
theorem cx_bs_outB (hR : RI r nb nt) (hM : RM I 44 r nb nt) {x p : Int32} (hx : x < 0 ∨ nI nb ≤ x) : F_X11_boardWithSeat N (wm Mb I L) 1 x p = some (.inr 1, wm Mb I L) := by
  unfold F_X11_boardWithSeat
  simp only [wm_kR, wm_kt, wm_kn, wm_kin, wm_kL, wm_kI, wm_ksI, wm_ksL, wm_kJ, wm_ksJ, kg_t, kl_v, Option.bind_some, x1_t.1, cx_exB_out hR hM hx, kbx]
theorem cx_bs_outS (hR : RI r nb nt) (hM : RM I 44 r nb nt) {b a : Nat} {p : Int32} (hb : b < nb) (ha : r (14 + 15 * b + 0) = nI a) (hp : ¬ (p ≠ 0 ∧ ¬ p < -nI a ∧ ¬ nI a < p)) : F_X11_boardWithSeat N (wm Mb I L) 1 (nI b) p = some (.inr 1, wm Mb I L) := by
  have h5 := hR.nb5
  have hb' : b < 5 := by omega
  unfold F_X11_boardWithSeat
  simp only [wm_kR, wm_kt, wm_kn, wm_kin, wm_kL, wm_kI, wm_ksI, wm_ksL, wm_kJ, wm_ksJ, kg_t, kl_v, Option.bind_some, x1_t.1, cx_exB_in hR hM hb, kbx, bb_k m169 hb', cx_hasSeat m169 hb' ((hM.bb b hb).1.trans ha), if_neg hp, if_true]
/-! the reference -/
theorem tw_row {v : Int32} (j : Nat) : tw6 I v 541 j = I 541 j := tw_o (Or.inl (by decide))
theorem rx_noT_in (hR : RI (I 541) nb nt) {t : Nat} (ht : t < nt) : F_X12_noTrader N (wm Mb (tw6 I 0) L) 540 (nI t) = some (0, wm Mb (tw6 I 0) L) := by
  have h24 := hR.nt24
  have h0 : ¬ (nI t < 0 ∨ nI nt ≤ nI t) := by
    rw [nI_lt0 (show t < 2147483648 by omega), Int32.le_iff_lt_or_eq, nI_ltI (by omega) (by omega)]
    rintro (z | z | z)
    · exact z
    · omega
    · have := (nI_eq (by omega) (by omega)).mp z; omega
  have hb2 : ((0 : Int32) == 0 || (0 : Int32) == 1) = true := rfl
  unfold F_X12_noTrader
  simp only [wm_kR, wm_kt, wm_kn, wm_kin, wm_kL, wm_kI, wm_ksI, wm_ksL, wm_kJ, wm_ksJ, kg_t, kl_v, Option.bind_some, sr_k, sr_0, sr_1, sr_2, sr_3, sr_4, sr_7, sr_8, sr_9, sr_26, sr_27, sr_28, kl_0, kl_1, kl_2, kl_3, kl_4, kl_5, kl_6, kl_7, kl_8, kl_9, kl_10, kl_11, kl_12, kl_13, kx_l0, kx_l1, kx_l2, kx_l3, kx_l4, kx_l5, kx_l6, kx_l7, kx_l8, kx_l9, kx_l10, kx_l11, kx_l12, kx_l13, tw_row, hR.r8, in0 _ _ (show nt < 1000 by omega), if_neg h0, if_neg one0, rx_stopF, hb2]
theorem rx_noT_out (hR : RI (I 541) nb nt) {x : Int32} (hx : x < 0 ∨ nI nt ≤ x) : F_X12_noTrader N (wm Mb (tw6 I 0) L) 540 x = some (1, wm Mb (tw6 I 1) L) := by
  have h24 := hR.nt24
  have hb2 : ((1 : Int32) == 0 || (1 : Int32) == 1) = true := rfl
  unfold F_X12_noTrader
  simp only [wm_kR, wm_kt, wm_kn, wm_kin, wm_kL, wm_kI, wm_ksI, wm_ksL, wm_kJ, wm_ksJ, kg_t, kl_v, Option.bind_some, sr_k, sr_0, sr_1, sr_2, sr_3, sr_4, sr_7, sr_8, sr_9, sr_26, sr_27, sr_28, kl_0, kl_1, kl_2, kl_3, kl_4, kl_5, kl_6, kl_7, kl_8, kl_9, kl_10, kl_11, kl_12, kl_13, kx_l0, kx_l1, kx_l2, kx_l3, kx_l4, kx_l5, kx_l6, kx_l7, kx_l8, kx_l9, kx_l10, kx_l11, kx_l12, kx_l13, tw_row, hR.r8, in0 _ _ (show nt < 1000 by omega), if_pos hx, if_true, rx_stopT one0 one0, hb2]
theorem rx_noB_in (hR : RI (I 541) nb nt) {b : Nat} (hb : b < nb) : F_X12_noBoard N (wm Mb (tw6 I 0) L) 540 (nI b) = some (0, wm Mb (tw6 I 0) L) := by
  have h5 := hR.nb5
  have h0 : ¬ (nI b < 0 ∨ nI nb ≤ nI b) := by
    rw [nI_lt0 (show b < 2147483648 by omega), Int32.le_iff_lt_or_eq, nI_ltI (by omega) (by omega)]
    rintro (z | z | z)
    · exact z
    · omega
    · have := (nI_eq (by omega) (by omega)).mp z; omega
  have hb2 : ((0 : Int32) == 0 || (0 : Int32) == 1) = true := rfl
  unfold F_X12_noBoard
  simp only [wm_kR, wm_kt, wm_kn, wm_kin, wm_kL, wm_kI, wm_ksI, wm_ksL, wm_kJ, wm_ksJ, kg_t, kl_v, Option.bind_some, sr_k, sr_0, sr_1, sr_2, sr_3, sr_4, sr_7, sr_8, sr_9, sr_26, sr_27, sr_28, kl_0, kl_1, kl_2, kl_3, kl_4, kl_5, kl_6, kl_7, kl_8, kl_9, kl_10, kl_11, kl_12, kl_13, kx_l0, kx_l1, kx_l2, kx_l3, kx_l4, kx_l5, kx_l6, kx_l7, kx_l8, kx_l9, kx_l10, kx_l11, kx_l12, kx_l13, tw_row, hR.r7, in0 _ _ (show nb < 1000 by omega), if_neg h0, if_neg one0, rx_stopF, hb2]
theorem rx_noB_out (hR : RI (I 541) nb nt) {x : Int32} (hx : x < 0 ∨ nI nb ≤ x) : F_X12_noBoard N (wm Mb (tw6 I 0) L) 540 x = some (1, wm Mb (tw6 I 1) L) := by
  have h5 := hR.nb5
  have hb2 : ((1 : Int32) == 0 || (1 : Int32) == 1) = true := rfl
  unfold F_X12_noBoard
  simp only [wm_kR, wm_kt, wm_kn, wm_kin, wm_kL, wm_kI, wm_ksI, wm_ksL, wm_kJ, wm_ksJ, kg_t, kl_v, Option.bind_some, sr_k, sr_0, sr_1, sr_2, sr_3, sr_4, sr_7, sr_8, sr_9, sr_26, sr_27, sr_28, kl_0, kl_1, kl_2, kl_3, kl_4, kl_5, kl_6, kl_7, kl_8, kl_9, kl_10, kl_11, kl_12, kl_13, kx_l0, kx_l1, kx_l2, kx_l3, kx_l4, kx_l5, kx_l6, kx_l7, kx_l8, kx_l9, kx_l10, kx_l11, kx_l12, kx_l13, tw_row, hR.r7, in0 _ _ (show nb < 1000 by omega), if_pos hx, if_true, rx_stopT one0 one0, hb2]
theorem rx_isPos (hR : RI (I 541) nb nt) {b a : Nat} (hb : b < nb) (ha : I 541 (14 + 15 * b + 0) = nI a) (p : Int32) : F_X12_isPosition N (wm Mb (tw6 I 0) L) 540 (nI b) p = some (if p ≠ 0 ∧ ¬ p < -nI a ∧ ¬ nI a < p then 1 else 0) := by
  have h5 := hR.nb5
  have hob := rx_ofB0 (N := N) (I := tw6 I 0) (L := L) (r := I 541) (f := I 546) (show b < 5 by omega)
  rw [tw_rf, ha] at hob
  unfold F_X12_isPosition
  by_cases c0 : p = 0
  · simp only [c0, if_true, ne_eq, not_true, false_and, if_false]
  · simp only [c0, if_false, wm_kR, wm_kt, wm_kn, wm_kin, wm_kL, wm_kI, wm_ksI, wm_ksL, wm_kJ, wm_ksJ, kg_t, kl_v, Option.bind_some, sr_k, sr_0, sr_1, sr_2, sr_3, sr_4, sr_7, sr_8, sr_9, sr_26, sr_27, sr_28, hob, in_ok, ne_eq, not_false_eq_true, true_and]
    by_cases c1 : p < -nI a
    · simp only [c1, if_true, not_true, false_and, if_false]
    · by_cases c2 : nI a < p
      · simp only [c1, c2, if_true, if_false, not_true, and_false]
      · simp only [c1, c2, if_false, if_neg one0, not_false_eq_true, and_self, if_true]
theorem rx_noS_in (hR : RI (I 541) nb nt) {b a q : Nat} (hb : b < nb) (ha : I 541 (14 + 15 * b + 0) = nI a) (ha6 : a ≤ 6) (h1 : 6 - a ≤ q) (h2 : q ≤ 6 + a) (h6 : q ≠ 6) : F_X12_noSeat N (wm Mb (tw6 I 0) L) 540 (nI b) (pz q) = some (0, wm Mb (tw6 I 0) L) := by
  unfold F_X12_noSeat
  simp only [wm_kR, wm_kt, wm_kn, wm_kin, wm_kL, wm_kI, wm_ksI, wm_ksL, wm_kJ, wm_ksJ, kg_t, kl_v, Option.bind_some, sr_k, sr_0, sr_1, sr_2, sr_3, sr_4, sr_7, sr_8, sr_9, sr_26, sr_27, sr_28, rx_noB_in hR hb, rx_isPos hR hb ha, if_pos (pos_in ha6 h1 h2 h6), if_neg one0, rx_stopF, if_true]
theorem rx_noS_outB (hR : RI (I 541) nb nt) {x p : Int32} (hx : x < 0 ∨ nI nb ≤ x) : F_X12_noSeat N (wm Mb (tw6 I 0) L) 540 x p = some (1, wm Mb (tw6 I 1) L) := by
  unfold F_X12_noSeat
  simp only [wm_kR, wm_kt, wm_kn, wm_kin, wm_kL, wm_kI, wm_ksI, wm_ksL, wm_kJ, wm_ksJ, kg_t, kl_v, Option.bind_some, sr_k, sr_0, sr_1, sr_2, sr_3, sr_4, sr_7, sr_8, sr_9, sr_26, sr_27, sr_28, rx_noB_out hR hx, if_neg one0]
theorem rx_noS_outS (hR : RI (I 541) nb nt) {b a : Nat} {p : Int32} (hb : b < nb) (ha : I 541 (14 + 15 * b + 0) = nI a) (hp : ¬ (p ≠ 0 ∧ ¬ p < -nI a ∧ ¬ nI a < p)) : F_X12_noSeat N (wm Mb (tw6 I 0) L) 540 (nI b) p = some (1, wm Mb (tw6 I 1) L) := by
  unfold F_X12_noSeat
  simp only [wm_kR, wm_kt, wm_kn, wm_kin, wm_kL, wm_kI, wm_ksI, wm_ksL, wm_kJ, wm_ksJ, kg_t, kl_v, Option.bind_some, sr_k, sr_0, sr_1, sr_2, sr_3, sr_4, sr_7, sr_8, sr_9, sr_26, sr_27, sr_28, rx_noB_in hR hb, rx_isPos hR hb ha, if_neg hp, if_true, rx_stopT one0 one0, if_neg one0]
end
