/-! the changes: a seat bought, a seat left, weight sold, seats swapped, days passed -/
section
variable {N : Nat} {I : kInts} {r s f : Nat → Int32} {nb nt : Nat}
theorem sx_leaveSeat (h : Rel I) (x : Int32) (hN : 5000 < N) : SameX [(1, 1), (3, 2)] (fun M => F_X11_leaveSeat N M 1 x) (fun M => F_X12_leaveSeat N M 540 x) I := by
  obtain ⟨nb, nt, hR, hM⟩ := h.2.2.1.row
  have h5 := hR.nb5
  have h24 := hR.nt24
  have hN1 : 100 < N := by omega
  intro L
  rcases num_cases x (show nt < 1000 by omega) with ⟨t, ht, rfl⟩ | hx
  · have k1 := tt_k m169 (show t < 24 by omega)
    have g1 := cx_seated (N := N) (L := L) m169 h24 hM ht
    by_cases e1 : I 541 (89 + 7 * t + 5) = -1
    · have g2 : ∀ L', F_X12_isSeated N (wm Mb (tw6 I 0) L') 540 (nI t) = some (if I 541 (89 + 7 * t + 5) = -1 then 0 else 1) := fun L' => by
        have := rx_seated (N := N) (I := tw6 I 0) (L := L') (r := I 541) (f := I 546) (show t < 24 by omega)
        rw [tw_rf] at this
        exact this
      refine ⟨.inr 3, I, ?_, fun L' => ⟨0, tw6 I 2, L', ?_, h.tw, LF.rf', Or.inr ⟨3, 2, rfl, by simp, tw_6⟩⟩⟩
      · show F_X11_leaveSeat N (wm Mb I L) 1 (nI t) = _
        unfold F_X11_leaveSeat F_X11_requireSeat
        simp only [wm_kR, wm_kt, wm_kn, wm_kin, wm_kL, wm_kI, wm_ksI, wm_ksL, wm_kJ, wm_ksJ, kg_t, kl_v, Option.bind_some, x1_t.1, x1_t.2.1, cx_exT_in hR hM ht, k1, g1, e1, if_true, kbx]
      · show F_X12_leaveSeat N (wm Mb I L') 540 (nI t) = _
        unfold F_X12_leaveSeat F_X12_leaveSeat_27
        simp only [wm_kR, wm_kt, wm_kn, wm_kin, wm_kL, wm_kI, wm_ksI, wm_ksL, wm_kJ, wm_ksJ, kg_t, kl_v, Option.bind_some, sr_k, sr_0, sr_1, sr_2, sr_3, sr_4, sr_7, sr_8, sr_9, sr_26, sr_27, sr_28, tw_fd, rx_noT_in hR ht, if_true, g2, e1, rx_stopT two0 one0, if_neg one0]
    · obtain ⟨I1, a1, a2, a3, a4⟩ := do_change (L := L) h hN hR hM
      obtain ⟨I2, b1, b2, b3⟩ := cx_unseat (N := N) (L := L) m169 hR a2 ht
      obtain ⟨c1, c2, c3⟩ := a4 I2 b3
      have hR2 : RI (I2 541) nb nt := by rw [c1]; exact hR
      refine ⟨.inl (I 541 (89 + 7 * t + 5)), I2, ?_, fun L' => ?_⟩
      · show F_X11_leaveSeat N (wm Mb I L) 1 (nI t) = _
        unfold F_X11_leaveSeat F_X11_requireSeat
        simp only [wm_kR, wm_kt, wm_kn, wm_kin, wm_kL, wm_kI, wm_ksI, wm_ksL, wm_kJ, wm_ksJ, kg_t, kl_v, Option.bind_some, x1_t.1, x1_t.2.1, x1_t.2.2.1, s47h.1, mm_k m169, kbx, cx_exT_in hR hM ht, k1, g1, e1, if_false, if_neg one0, (a2.tt t ht).2.2.2.2.1, a1, b1]
      · obtain ⟨J, d1, d2, d3⟩ := c3 L'
        obtain ⟨d4, d5⟩ := d3 _ (I 546) nb nt (RI_riS hR ht) b2
        have e := rx_leaves (N := N) (I := J) (L := L') (f := I 546) hR ht
        rw [← d2] at e
        refine ⟨I 541 (89 + 7 * t + 5), _, L', ?_, d4, LF.rf', Or.inl ⟨rfl, d5⟩⟩
        show F_X12_leaveSeat N (wm Mb _ L') 540 (nI t) = _
        have g2 := rx_seated (N := N) (I := tw6 I2 0) (L := L') (r := I2 541) (f := I2 546) (show t < 24 by omega)
        rw [tw_rf, c1] at g2
        unfold F_X12_leaveSeat F_X12_leaveSeat_27
        simp only [wm_kR, wm_kt, wm_kn, wm_kin, wm_kL, wm_kI, wm_ksI, wm_ksL, wm_kJ, wm_ksJ, kg_t, kl_v, Option.bind_some, sr_k, sr_0, sr_1, sr_2, sr_3, sr_4, sr_7, sr_8, sr_9, sr_26, sr_27, sr_28, kl_0, kl_1, kl_2, kl_3, kl_4, kl_5, kl_6, kl_7, kl_8, kl_9, kl_10, kl_11, kl_12, kl_13, kx_l0, kx_l1, kx_l2, kx_l3, kx_l4, kx_l5, kx_l6, kx_l7, kx_l8, kx_l9, kx_l10, kx_l11, kx_l12, kx_l13, tw_fd, rx_noT_in hR2 ht, g2, e1, if_false, rx_stopF, if_true, if_neg one0, d1, e]
  · refine ⟨.inr 1, I, ?_, fun L' => ⟨0, tw6 I 1, L', ?_, h.tw, LF.rf', Or.inr ⟨1, 1, rfl, by simp, tw_6⟩⟩⟩
    · show F_X11_leaveSeat N (wm Mb I L) 1 x = _
      unfold F_X11_leaveSeat 
      simp only [wm_kR, wm_kt, wm_kn, wm_kin, wm_kL, wm_kI, wm_ksI, wm_ksL, wm_kJ, wm_ksJ, kg_t, kl_v, Option.bind_some, x1_t.1, x1_t.2.1, cx_exT_out hR hM hx, kbx]
    · show F_X12_leaveSeat N (wm Mb I L') 540 x = _
      unfold F_X12_leaveSeat 
      simp only [wm_kR, wm_kt, wm_kn, wm_kin, wm_kL, wm_kI, wm_ksI, wm_ksL, wm_kJ, wm_ksJ, kg_t, kl_v, Option.bind_some, sr_k, sr_0, sr_1, sr_2, sr_3, sr_4, sr_7, sr_8, sr_9, sr_26, sr_27, sr_28, tw_fd, rx_noT_out hR hx, if_neg one0]
theorem sx_buySeat (h : Rel I) (w x p : Int32) (hN : 5000 < N) : SameX [(1, 1), (3, 2)] (fun M => F_X11_buySeat N M 1 w x p) (fun M => F_X12_buySeat N M 540 w x p) I := by
  obtain ⟨nb, nt, hR, hM⟩ := h.2.2.1.row
  have h5 := hR.nb5
  have h24 := hR.nt24
  have hN1 : 100 < N := by omega
  intro L
  rcases num_cases w (show nt < 1000 by omega) with ⟨t, ht, rfl⟩ | hw
  · rcases num_cases x (show nb < 1000 by omega) with ⟨b, hb, rfl⟩ | hx
    · obtain ⟨a, s', l, ha, -, -, ra, -⟩ := hR.b b hb
      by_cases hp : p ≠ 0 ∧ ¬ p < -nI a ∧ ¬ nI a < p
      · obtain ⟨q, p1, p2, p3, rfl⟩ := pos_of (show a ≤ 6 by omega) hp.1 hp.2.1 hp.2.2
        have g1 := cx_aSeat (N := N) (L := L) m169 hR hM ht hb ra (show a ≤ 6 by omega) p1 p2 p3 hN1
        by_cases e1 : aSeat (I 541) nt t b q = 0
        · obtain ⟨I1, a1, a2, a3, a4⟩ := do_change (L := L) h hN hR hM
          obtain ⟨I2, b1, b2, b3⟩ := cx_sells (N := N) (L := L) m169 hN1 hR a2 ht hb (show q < 13 by omega) p3 e1
          obtain ⟨c1, c2, c3⟩ := a4 I2 b3
          have hR2 : RI (I2 541) nb nt := by rw [c1]; exact hR
          refine ⟨.inl (prS (I 541) nt b (pz q)), I2, ?_, fun L' => ?_⟩
          · show F_X11_buySeat N (wm Mb I L) 1 (nI t) (nI b) (pz q) = _
            unfold F_X11_buySeat F_X11_requirePossible
            simp only [wm_kR, wm_kt, wm_kn, wm_kin, wm_kL, wm_kI, wm_ksI, wm_ksL, wm_kJ, wm_ksJ, kg_t, kl_v, Option.bind_some, x1_t.1, x1_t.2.1, x1_t.2.2.1, s47h.1, mm_k m169, kbx, cx_exT_in hR hM ht, cx_bs_in hR hM hb ra (show a ≤ 6 by omega) p1 p2 p3, g1, e1, if_true, a1, b1]
          · obtain ⟨J, d1, d2, d3⟩ := c3 L'
            obtain ⟨d4, d5⟩ := d3 _ (I 546) nb nt (RI_bu hR ht hb ra (show a ≤ 6 by omega) p1 p2 p3 e1) b2
            have e := rx_buys (N := N) (I := J) (L := L') (f := I 546) hN1 hR ht hb (show q < 13 by omega) p3 e1
            rw [← d2] at e
            refine ⟨prS (I 541) nt b (pz q), _, L', ?_, d4, LF.rf', Or.inl ⟨rfl, d5⟩⟩
            show F_X12_buySeat N (wm Mb _ L') 540 (nI t) (nI b) (pz q) = _
            have g2 := rx_aSeat (N := N) (I := tw6 I2 0) (L := L') (f := I2 546) hR2 ht hb (show q < 13 by omega) p3 hN1
            rw [tw_rf, c1] at g2
            have ra2 : I2 541 (14 + 15 * b + 0) = nI a := by rw [c1]; exact ra
            unfold F_X12_buySeat F_X12_buySeat_38
            simp only [wm_kR, wm_kt, wm_kn, wm_kin, wm_kL, wm_kI, wm_ksI, wm_ksL, wm_kJ, wm_ksJ, kg_t, kl_v, Option.bind_some, sr_k, sr_0, sr_1, sr_2, sr_3, sr_4, sr_7, sr_8, sr_9, sr_26, sr_27, sr_28, kl_0, kl_1, kl_2, kl_3, kl_4, kl_5, kl_6, kl_7, kl_8, kl_9, kl_10, kl_11, kl_12, kl_13, kx_l0, kx_l1, kx_l2, kx_l3, kx_l4, kx_l5, kx_l6, kx_l7, kx_l8, kx_l9, kx_l10, kx_l11, kx_l12, kx_l13, tw_fd, rx_noT_in hR2 ht, rx_noS_in hR2 hb ra2 (show a ≤ 6 by omega) p1 p2 p3, g2, e1, rx_stopF, if_true, if_neg one0, d1, e]
        · have g2 : ∀ L', F_X12_againstSeat N (wm Mb (tw6 I 0) L') 540 (nI t) (nI b) (pz q) = some (aSeat (I 541) nt t b q) := fun L' => by
            have := rx_aSeat (N := N) (I := tw6 I 0) (L := L') (f := I 546) hR ht hb (show q < 13 by omega) p3 hN1
            rw [tw_rf] at this
            exact this
          refine ⟨.inr 3, I, ?_, fun L' => ⟨0, tw6 I 2, L', ?_, h.tw, LF.rf', Or.inr ⟨3, 2, rfl, by simp, tw_6⟩⟩⟩
          · show F_X11_buySeat N (wm Mb I L) 1 (nI t) (nI b) (pz q) = _
            unfold F_X11_buySeat F_X11_requirePossible
            simp only [wm_kR, wm_kt, wm_kn, wm_kin, wm_kL, wm_kI, wm_ksI, wm_ksL, wm_kJ, wm_ksJ, kg_t, kl_v, Option.bind_some, x1_t.1, x1_t.2.1, mm_k m169, cx_exT_in hR hM ht, cx_bs_in hR hM hb ra (show a ≤ 6 by omega) p1 p2 p3, g1, e1, if_false, kbx]
          · show F_X12_buySeat N (wm Mb I L') 540 (nI t) (nI b) (pz q) = _
            unfold F_X12_buySeat F_X12_buySeat_38
            simp only [wm_kR, wm_kt, wm_kn, wm_kin, wm_kL, wm_kI, wm_ksI, wm_ksL, wm_kJ, wm_ksJ, kg_t, kl_v, Option.bind_some, sr_k, sr_0, sr_1, sr_2, sr_3, sr_4, sr_7, sr_8, sr_9, sr_26, sr_27, sr_28, tw_fd, rx_noT_in hR ht, rx_noS_in hR hb ra (show a ≤ 6 by omega) p1 p2 p3, if_true, g2, e1, if_false, rx_stopT two0 one0, if_neg one0]
      · refine ⟨.inr 1, I, ?_, fun L' => ⟨0, tw6 I 1, L', ?_, h.tw, LF.rf', Or.inr ⟨1, 1, rfl, by simp, tw_6⟩⟩⟩
        · show F_X11_buySeat N (wm Mb I L) 1 (nI t) (nI b) p = _
          unfold F_X11_buySeat 
          simp only [wm_kR, wm_kt, wm_kn, wm_kin, wm_kL, wm_kI, wm_ksI, wm_ksL, wm_kJ, wm_ksJ, kg_t, kl_v, Option.bind_some, x1_t.1, x1_t.2.1, cx_exT_in hR hM ht, cx_bs_outS hR hM hb ra hp, kbx]
        · show F_X12_buySeat N (wm Mb I L') 540 (nI t) (nI b) p = _
          unfold F_X12_buySeat 
          simp only [wm_kR, wm_kt, wm_kn, wm_kin, wm_kL, wm_kI, wm_ksI, wm_ksL, wm_kJ, wm_ksJ, kg_t, kl_v, Option.bind_some, sr_k, sr_0, sr_1, sr_2, sr_3, sr_4, sr_7, sr_8, sr_9, sr_26, sr_27, sr_28, tw_fd, rx_noT_in hR ht, rx_noS_outS hR hb ra hp, if_true, if_neg one0]
    · refine ⟨.inr 1, I, ?_, fun L' => ⟨0, tw6 I 1, L', ?_, h.tw, LF.rf', Or.inr ⟨1, 1, rfl, by simp, tw_6⟩⟩⟩
      · show F_X11_buySeat N (wm Mb I L) 1 (nI t) x p = _
        unfold F_X11_buySeat 
        simp only [wm_kR, wm_kt, wm_kn, wm_kin, wm_kL, wm_kI, wm_ksI, wm_ksL, wm_kJ, wm_ksJ, kg_t, kl_v, Option.bind_some, x1_t.1, x1_t.2.1, cx_exT_in hR hM ht, cx_bs_outB hR hM hx, kbx]
      · show F_X12_buySeat N (wm Mb I L') 540 (nI t) x p = _
        unfold F_X12_buySeat 
        simp only [wm_kR, wm_kt, wm_kn, wm_kin, wm_kL, wm_kI, wm_ksI, wm_ksL, wm_kJ, wm_ksJ, kg_t, kl_v, Option.bind_some, sr_k, sr_0, sr_1, sr_2, sr_3, sr_4, sr_7, sr_8, sr_9, sr_26, sr_27, sr_28, tw_fd, rx_noT_in hR ht, rx_noS_outB hR hx, if_true, if_neg one0]
  · refine ⟨.inr 1, I, ?_, fun L' => ⟨0, tw6 I 1, L', ?_, h.tw, LF.rf', Or.inr ⟨1, 1, rfl, by simp, tw_6⟩⟩⟩
    · show F_X11_buySeat N (wm Mb I L) 1 w x p = _
      unfold F_X11_buySeat 
      simp only [wm_kR, wm_kt, wm_kn, wm_kin, wm_kL, wm_kI, wm_ksI, wm_ksL, wm_kJ, wm_ksJ, kg_t, kl_v, Option.bind_some, x1_t.1, x1_t.2.1, cx_exT_out hR hM hw, kbx]
    · show F_X12_buySeat N (wm Mb I L') 540 w x p = _
      unfold F_X12_buySeat 
      simp only [wm_kR, wm_kt, wm_kn, wm_kin, wm_kL, wm_kI, wm_ksI, wm_ksL, wm_kJ, wm_ksJ, kg_t, kl_v, Option.bind_some, sr_k, sr_0, sr_1, sr_2, sr_3, sr_4, sr_7, sr_8, sr_9, sr_26, sr_27, sr_28, tw_fd, rx_noT_out hR hw, if_neg one0]
theorem sx_sellWeight (h : Rel I) (w x u : Int32) (hN : 5000 < N) : SameX [(1, 1), (2, 2), (3, 3)] (fun M => F_X11_sellWeight N M 1 w x u) (fun M => F_X12_sellWeight N M 540 w x u) I := by
  obtain ⟨nb, nt, hR, hM⟩ := h.2.2.1.row
  have h5 := hR.nb5
  have h24 := hR.nt24
  have hN1 : 100 < N := by omega
  intro L
  rcases num_cases w (show nt < 1000 by omega) with ⟨t, ht, rfl⟩ | hw
  · rcases num_cases x (show nt < 1000 by omega) with ⟨s, hs, rfl⟩ | hx
    · by_cases hts : t = s
      · subst hts
        refine ⟨.inr 2, I, ?_, fun L' => ⟨0, tw6 I 2, L', ?_, h.tw, LF.rf', Or.inr ⟨2, 2, rfl, by simp, tw_6⟩⟩⟩
        · show F_X11_sellWeight N (wm Mb I L) 1 (nI t) (nI t) u = _
          unfold F_X11_sellWeight 
          simp only [wm_kR, wm_kt, wm_kn, wm_kin, wm_kL, wm_kI, wm_ksI, wm_ksL, wm_kJ, wm_ksJ, kg_t, kl_v, Option.bind_some, x1_t.1, x1_t.2.1, cx_exT_in hR hM ht, F_X11_requireDifferent, if_true, kbx]
        · show F_X12_sellWeight N (wm Mb I L') 540 (nI t) (nI t) u = _
          unfold F_X12_sellWeight F_X12_noSale
          simp only [wm_kR, wm_kt, wm_kn, wm_kin, wm_kL, wm_kI, wm_ksI, wm_ksL, wm_kJ, wm_ksJ, kg_t, kl_v, Option.bind_some, sr_k, sr_0, sr_1, sr_2, sr_3, sr_4, sr_7, sr_8, sr_9, sr_26, sr_27, sr_28, tw_fd, rx_noT_in hR ht, if_true, rx_stopT two0 one0, if_neg one0]
      · have hne := nI_ne (show t < 1000 by omega) (show s < 1000 by omega) hts
        by_cases hu : u < 1 ∨ 50 < u
        · refine ⟨.inr 2, I, ?_, fun L' => ⟨0, tw6 I 2, L', ?_, h.tw, LF.rf', Or.inr ⟨2, 2, rfl, by simp, tw_6⟩⟩⟩
          · show F_X11_sellWeight N (wm Mb I L) 1 (nI t) (nI s) u = _
            unfold F_X11_sellWeight 
            simp only [wm_kR, wm_kt, wm_kn, wm_kin, wm_kL, wm_kI, wm_ksI, wm_ksL, wm_kJ, wm_ksJ, kg_t, kl_v, Option.bind_some, x1_t.1, x1_t.2.1, cx_exT_in hR hM ht, cx_exT_in hR hM hs, F_X11_requireDifferent, hne, if_false, cx_range, if_pos hu, kbx]
          · show F_X12_sellWeight N (wm Mb I L') 540 (nI t) (nI s) u = _
            unfold F_X12_sellWeight F_X12_noSale
            simp only [wm_kR, wm_kt, wm_kn, wm_kin, wm_kL, wm_kI, wm_ksI, wm_ksL, wm_kJ, wm_ksJ, kg_t, kl_v, Option.bind_some, sr_k, sr_0, sr_1, sr_2, sr_3, sr_4, sr_7, sr_8, sr_9, sr_26, sr_27, sr_28, tw_fd, rx_noT_in hR ht, rx_noT_in hR hs, if_true, hne, if_false, in50, if_pos hu, rx_stopT two0 one0, if_neg one0]
        · obtain ⟨U, hU, rfl⟩ : ∃ U, U < 51 ∧ u = nI U := by
            rcases num_cases u (n := 51) (by decide) with y | y | y
            · exact y
            · exact absurd (Or.inl (by have h1 : (0 : Int32) < 1 := by decide
                                       grind)) hu
            · have : 50 < u := by
                have h1 : (50 : Int32) < nI 51 := by decide
                grind
              exact absurd (Or.inr this) hu
          have hU1 : 1 ≤ U := by
            by_cases z : U = 0
            · subst z
              exact absurd (Or.inl (by decide)) hu
            · omega
          have g1 := cx_aSale (N := N) (L := L) m169 hR hM ht hs (nI U) hN1
          by_cases e1 : aSale (I 541) nt t s (nI U) = 0
          · obtain ⟨I1, a1, a2, a3, a4⟩ := do_change (L := L) h hN hR hM
            obtain ⟨I2, b1, b2, b3⟩ := cx_moveW (N := N) (L := L) m169 hN1 hR a2 ht hs hts e1
            obtain ⟨c1, c2, c3⟩ := a4 I2 b3
            have hR2 : RI (I2 541) nb nt := by rw [c1]; exact hR
            refine ⟨.inl (nI U * uprS (I 541) nt t s), I2, ?_, fun L' => ?_⟩
            · show F_X11_sellWeight N (wm Mb I L) 1 (nI t) (nI s) (nI U) = _
              unfold F_X11_sellWeight F_X11_requirePossible
              simp only [wm_kR, wm_kt, wm_kn, wm_kin, wm_kL, wm_kI, wm_ksI, wm_ksL, wm_kJ, wm_ksJ, kg_t, kl_v, Option.bind_some, x1_t.1, x1_t.2.1, x1_t.2.2.1, s47h.1, mm_k m169, kbx, cx_exT_in hR hM ht, cx_exT_in hR hM hs, F_X11_requireDifferent, hne, if_false, cx_range, if_neg hu, g1, e1, if_true, a1, b1]
            · obtain ⟨J, d1, d2, d3⟩ := c3 L'
              obtain ⟨d4, d5⟩ := d3 _ (I 546) nb nt (RI_se hR ht hs hts hU1 (show U ≤ 50 by omega) e1) b2
              have e := rx_sells (N := N) (I := J) (L := L') (f := I 546) hN1 hR ht hs hts e1
              rw [← d2] at e
              refine ⟨nI U * uprS (I 541) nt t s, _, L', ?_, d4, LF.rf', Or.inl ⟨rfl, d5⟩⟩
              show F_X12_sellWeight N (wm Mb _ L') 540 (nI t) (nI s) (nI U) = _
              have g2 := rx_aSale (N := N) (I := tw6 I2 0) (L := L') (f := I2 546) hR2 ht hs (nI U) hN1
              rw [tw_rf, c1] at g2
              unfold F_X12_sellWeight F_X12_noSale F_X12_sellWeight_31
              simp only [wm_kR, wm_kt, wm_kn, wm_kin, wm_kL, wm_kI, wm_ksI, wm_ksL, wm_kJ, wm_ksJ, kg_t, kl_v, Option.bind_some, sr_k, sr_0, sr_1, sr_2, sr_3, sr_4, sr_7, sr_8, sr_9, sr_26, sr_27, sr_28, kl_0, kl_1, kl_2, kl_3, kl_4, kl_5, kl_6, kl_7, kl_8, kl_9, kl_10, kl_11, kl_12, kl_13, kx_l0, kx_l1, kx_l2, kx_l3, kx_l4, kx_l5, kx_l6, kx_l7, kx_l8, kx_l9, kx_l10, kx_l11, kx_l12, kx_l13, tw_fd, rx_noT_in hR2 ht, rx_noT_in hR2 hs, hne, if_false, in50, if_neg hu, g2, e1, rx_stopF, if_true, if_neg one0, d1, e]
          · have g2 : ∀ L', F_X12_againstSale N (wm Mb (tw6 I 0) L') 540 (nI t) (nI s) (nI U) = some (aSale (I 541) nt t s (nI U)) := fun L' => by
              have := rx_aSale (N := N) (I := tw6 I 0) (L := L') (f := I 546) hR ht hs (nI U) hN1
              rw [tw_rf] at this
              exact this
            refine ⟨.inr 3, I, ?_, fun L' => ⟨0, tw6 I 3, L', ?_, h.tw, LF.rf', Or.inr ⟨3, 3, rfl, by simp, tw_6⟩⟩⟩
            · show F_X11_sellWeight N (wm Mb I L) 1 (nI t) (nI s) (nI U) = _
              unfold F_X11_sellWeight F_X11_requirePossible
              simp only [wm_kR, wm_kt, wm_kn, wm_kin, wm_kL, wm_kI, wm_ksI, wm_ksL, wm_kJ, wm_ksJ, kg_t, kl_v, Option.bind_some, x1_t.1, x1_t.2.1, mm_k m169, cx_exT_in hR hM ht, cx_exT_in hR hM hs, F_X11_requireDifferent, hne, if_false, cx_range, if_neg hu, g1, e1, kbx]
            · show F_X12_sellWeight N (wm Mb I L') 540 (nI t) (nI s) (nI U) = _
              unfold F_X12_sellWeight F_X12_noSale F_X12_sellWeight_31
              simp only [wm_kR, wm_kt, wm_kn, wm_kin, wm_kL, wm_kI, wm_ksI, wm_ksL, wm_kJ, wm_ksJ, kg_t, kl_v, Option.bind_some, sr_k, sr_0, sr_1, sr_2, sr_3, sr_4, sr_7, sr_8, sr_9, sr_26, sr_27, sr_28, tw_fd, rx_noT_in hR ht, rx_noT_in hR hs, if_true, hne, if_false, in50, if_neg hu, rx_stopF, g2, e1, rx_stopT three0 one0, if_neg one0]
    · refine ⟨.inr 1, I, ?_, fun L' => ⟨0, tw6 I 1, L', ?_, h.tw, LF.rf', Or.inr ⟨1, 1, rfl, by simp, tw_6⟩⟩⟩
      · show F_X11_sellWeight N (wm Mb I L) 1 (nI t) x u = _
        unfold F_X11_sellWeight 
        simp only [wm_kR, wm_kt, wm_kn, wm_kin, wm_kL, wm_kI, wm_ksI, wm_ksL, wm_kJ, wm_ksJ, kg_t, kl_v, Option.bind_some, x1_t.1, x1_t.2.1, cx_exT_in hR hM ht, cx_exT_out hR hM hx, kbx]
      · show F_X12_sellWeight N (wm Mb I L') 540 (nI t) x u = _
        unfold F_X12_sellWeight F_X12_noSale
        simp only [wm_kR, wm_kt, wm_kn, wm_kin, wm_kL, wm_kI, wm_ksI, wm_ksL, wm_kJ, wm_ksJ, kg_t, kl_v, Option.bind_some, sr_k, sr_0, sr_1, sr_2, sr_3, sr_4, sr_7, sr_8, sr_9, sr_26, sr_27, sr_28, tw_fd, rx_noT_in hR ht, rx_noT_out hR hx, if_true, if_neg one0]
  · refine ⟨.inr 1, I, ?_, fun L' => ⟨0, tw6 I 1, L', ?_, h.tw, LF.rf', Or.inr ⟨1, 1, rfl, by simp, tw_6⟩⟩⟩
    · show F_X11_sellWeight N (wm Mb I L) 1 w x u = _
      unfold F_X11_sellWeight 
      simp only [wm_kR, wm_kt, wm_kn, wm_kin, wm_kL, wm_kI, wm_ksI, wm_ksL, wm_kJ, wm_ksJ, kg_t, kl_v, Option.bind_some, x1_t.1, x1_t.2.1, cx_exT_out hR hM hw, kbx]
    · show F_X12_sellWeight N (wm Mb I L') 540 w x u = _
      unfold F_X12_sellWeight F_X12_noSale
      simp only [wm_kR, wm_kt, wm_kn, wm_kin, wm_kL, wm_kI, wm_ksI, wm_ksL, wm_kJ, wm_ksJ, kg_t, kl_v, Option.bind_some, sr_k, sr_0, sr_1, sr_2, sr_3, sr_4, sr_7, sr_8, sr_9, sr_26, sr_27, sr_28, tw_fd, rx_noT_out hR hw, if_neg one0]
theorem sx_swapSeats (h : Rel I) (w x : Int32) (hN : 5000 < N) : SameX [(1, 1), (2, 2), (3, 3)] (fun M => F_X11_swapSeats N M 1 w x) (fun M => F_X12_swapSeats N M 540 w x) I := by
  obtain ⟨nb, nt, hR, hM⟩ := h.2.2.1.row
  have h5 := hR.nb5
  have h24 := hR.nt24
  have hN1 : 100 < N := by omega
  intro L
  rcases num_cases w (show nt < 1000 by omega) with ⟨t, ht, rfl⟩ | hw
  · rcases num_cases x (show nt < 1000 by omega) with ⟨s, hs, rfl⟩ | hx
    · by_cases hts : t = s
      · subst hts
        refine ⟨.inr 2, I, ?_, fun L' => ⟨0, tw6 I 2, L', ?_, h.tw, LF.rf', Or.inr ⟨2, 2, rfl, by simp, tw_6⟩⟩⟩
        · show F_X11_swapSeats N (wm Mb I L) 1 (nI t) (nI t) = _
          unfold F_X11_swapSeats 
          simp only [wm_kR, wm_kt, wm_kn, wm_kin, wm_kL, wm_kI, wm_ksI, wm_ksL, wm_kJ, wm_ksJ, kg_t, kl_v, Option.bind_some, x1_t.1, x1_t.2.1, cx_exT_in hR hM ht, F_X11_requireDifferent, if_true, kbx]
        · show F_X12_swapSeats N (wm Mb I L') 540 (nI t) (nI t) = _
          unfold F_X12_swapSeats F_X12_noPair
          simp only [wm_kR, wm_kt, wm_kn, wm_kin, wm_kL, wm_kI, wm_ksI, wm_ksL, wm_kJ, wm_ksJ, kg_t, kl_v, Option.bind_some, sr_k, sr_0, sr_1, sr_2, sr_3, sr_4, sr_7, sr_8, sr_9, sr_26, sr_27, sr_28, tw_fd, rx_noT_in hR ht, if_true, rx_stopT two0 one0, if_neg one0]
      · have hne := nI_ne (show t < 1000 by omega) (show s < 1000 by omega) hts
        have g1 := cx_aSwap (N := N) (L := L) m169 hR hM ht hs hN1
        by_cases e1 : aSwap (I 541) nt t s = 0
        · obtain ⟨v1, v2, v3⟩ := aSwap_0 e1
          obtain ⟨b, q, st1⟩ := hR.seat ht v1
          obtain ⟨b2, q2, st2⟩ := hR.seat hs v2
          obtain ⟨I1, a1, a2, a3, a4⟩ := do_change (L := L) h hN hR hM
          obtain ⟨I2, b1, b2, b3⟩ := cx_exch (N := N) (L := L) m169 hN1 hR a2 ht hs hts st1 st2 v3
          obtain ⟨c1, c2, c3⟩ := a4 I2 b3
          have hR2 : RI (I2 541) nb nt := by rw [c1]; exact hR
          refine ⟨.inl (oh (I 541) nt s - oh (I 541) nt t), I2, ?_, fun L' => ?_⟩
          · show F_X11_swapSeats N (wm Mb I L) 1 (nI t) (nI s) = _
            unfold F_X11_swapSeats F_X11_requirePossible
            simp only [wm_kR, wm_kt, wm_kn, wm_kin, wm_kL, wm_kI, wm_ksI, wm_ksL, wm_kJ, wm_ksJ, kg_t, kl_v, Option.bind_some, x1_t.1, x1_t.2.1, x1_t.2.2.1, s47h.1, mm_k m169, kbx, cx_exT_in hR hM ht, cx_exT_in hR hM hs, F_X11_requireDifferent, hne, if_false, g1, e1, if_true, a1, b1]
          · obtain ⟨J, d1, d2, d3⟩ := c3 L'
            obtain ⟨d4, d5⟩ := d3 _ (I 546) nb nt (RI_sw hR ht hs hts st1 st2) b2
            have e := rx_swaps (N := N) (I := J) (L := L') (f := I 546) hN1 hR ht hs hts st1 st2
            rw [← d2] at e
            refine ⟨oh (I 541) nt s - oh (I 541) nt t, _, L', ?_, d4, LF.rf', Or.inl ⟨rfl, d5⟩⟩
            show F_X12_swapSeats N (wm Mb _ L') 540 (nI t) (nI s) = _
            have g2 := rx_aSwap (N := N) (I := tw6 I2 0) (L := L') (f := I2 546) hR2 ht hs hN1
            rw [tw_rf, c1] at g2
            unfold F_X12_swapSeats F_X12_noPair F_X12_swapSeats_29
            simp only [wm_kR, wm_kt, wm_kn, wm_kin, wm_kL, wm_kI, wm_ksI, wm_ksL, wm_kJ, wm_ksJ, kg_t, kl_v, Option.bind_some, sr_k, sr_0, sr_1, sr_2, sr_3, sr_4, sr_7, sr_8, sr_9, sr_26, sr_27, sr_28, kl_0, kl_1, kl_2, kl_3, kl_4, kl_5, kl_6, kl_7, kl_8, kl_9, kl_10, kl_11, kl_12, kl_13, kx_l0, kx_l1, kx_l2, kx_l3, kx_l4, kx_l5, kx_l6, kx_l7, kx_l8, kx_l9, kx_l10, kx_l11, kx_l12, kx_l13, tw_fd, rx_noT_in hR2 ht, rx_noT_in hR2 hs, hne, if_false, g2, e1, rx_stopF, if_true, if_neg one0, d1, e]
        · have g2 : ∀ L', F_X12_againstSwap N (wm Mb (tw6 I 0) L') 540 (nI t) (nI s) = some (aSwap (I 541) nt t s) := fun L' => by
            have := rx_aSwap (N := N) (I := tw6 I 0) (L := L') (f := I 546) hR ht hs hN1
            rw [tw_rf] at this
            exact this
          refine ⟨.inr 3, I, ?_, fun L' => ⟨0, tw6 I 3, L', ?_, h.tw, LF.rf', Or.inr ⟨3, 3, rfl, by simp, tw_6⟩⟩⟩
          · show F_X11_swapSeats N (wm Mb I L) 1 (nI t) (nI s) = _
            unfold F_X11_swapSeats F_X11_requirePossible
            simp only [wm_kR, wm_kt, wm_kn, wm_kin, wm_kL, wm_kI, wm_ksI, wm_ksL, wm_kJ, wm_ksJ, kg_t, kl_v, Option.bind_some, x1_t.1, x1_t.2.1, mm_k m169, cx_exT_in hR hM ht, cx_exT_in hR hM hs, F_X11_requireDifferent, hne, if_false, g1, e1, kbx]
          · show F_X12_swapSeats N (wm Mb I L') 540 (nI t) (nI s) = _
            unfold F_X12_swapSeats F_X12_noPair F_X12_swapSeats_29
            simp only [wm_kR, wm_kt, wm_kn, wm_kin, wm_kL, wm_kI, wm_ksI, wm_ksL, wm_kJ, wm_ksJ, kg_t, kl_v, Option.bind_some, sr_k, sr_0, sr_1, sr_2, sr_3, sr_4, sr_7, sr_8, sr_9, sr_26, sr_27, sr_28, tw_fd, rx_noT_in hR ht, rx_noT_in hR hs, if_true, hne, if_false, rx_stopF, g2, e1, rx_stopT three0 one0, if_neg one0]
    · refine ⟨.inr 1, I, ?_, fun L' => ⟨0, tw6 I 1, L', ?_, h.tw, LF.rf', Or.inr ⟨1, 1, rfl, by simp, tw_6⟩⟩⟩
      · show F_X11_swapSeats N (wm Mb I L) 1 (nI t) x = _
        unfold F_X11_swapSeats 
        simp only [wm_kR, wm_kt, wm_kn, wm_kin, wm_kL, wm_kI, wm_ksI, wm_ksL, wm_kJ, wm_ksJ, kg_t, kl_v, Option.bind_some, x1_t.1, x1_t.2.1, cx_exT_in hR hM ht, cx_exT_out hR hM hx, kbx]
      · show F_X12_swapSeats N (wm Mb I L') 540 (nI t) x = _
        unfold F_X12_swapSeats F_X12_noPair
        simp only [wm_kR, wm_kt, wm_kn, wm_kin, wm_kL, wm_kI, wm_ksI, wm_ksL, wm_kJ, wm_ksJ, kg_t, kl_v, Option.bind_some, sr_k, sr_0, sr_1, sr_2, sr_3, sr_4, sr_7, sr_8, sr_9, sr_26, sr_27, sr_28, tw_fd, rx_noT_in hR ht, rx_noT_out hR hx, if_true, if_neg one0]
  · refine ⟨.inr 1, I, ?_, fun L' => ⟨0, tw6 I 1, L', ?_, h.tw, LF.rf', Or.inr ⟨1, 1, rfl, by simp, tw_6⟩⟩⟩
    · show F_X11_swapSeats N (wm Mb I L) 1 w x = _
      unfold F_X11_swapSeats 
      simp only [wm_kR, wm_kt, wm_kn, wm_kin, wm_kL, wm_kI, wm_ksI, wm_ksL, wm_kJ, wm_ksJ, kg_t, kl_v, Option.bind_some, x1_t.1, x1_t.2.1, cx_exT_out hR hM hw, kbx]
    · show F_X12_swapSeats N (wm Mb I L') 540 w x = _
      unfold F_X12_swapSeats F_X12_noPair
      simp only [wm_kR, wm_kt, wm_kn, wm_kin, wm_kL, wm_kI, wm_ksI, wm_ksL, wm_kJ, wm_ksJ, kg_t, kl_v, Option.bind_some, sr_k, sr_0, sr_1, sr_2, sr_3, sr_4, sr_7, sr_8, sr_9, sr_26, sr_27, sr_28, tw_fd, rx_noT_out hR hw, if_neg one0]
theorem sx_advance (h : Rel I) (x : Int32) (hN : 5000 < N) : SameX [(2, 1), (3, 2)] (fun M => F_X11_advance N M 1 x) (fun M => F_X12_advance N M 540 x) I := by
  obtain ⟨nb, nt, hR, hM⟩ := h.2.2.1.row
  have h5 := hR.nb5
  have h24 := hR.nt24
  have hN1 : 100 < N := by omega
  intro L
  by_cases hx : x < 1 ∨ 30 < x
  · refine ⟨.inr 2, I, ?_, fun L' => ⟨0, tw6 I 1, L', ?_, h.tw, LF.rf', Or.inr ⟨2, 1, rfl, by simp, tw_6⟩⟩⟩
    · show F_X11_advance N (wm Mb I L) 1 x = _
      unfold F_X11_advance 
      simp only [wm_kR, wm_kt, wm_kn, wm_kin, wm_kL, wm_kI, wm_ksI, wm_ksL, wm_kJ, wm_ksJ, kg_t, kl_v, Option.bind_some, x1_t.1, x1_t.2.1, cx_range, if_pos hx, kbx]
    · show F_X12_advance N (wm Mb I L') 540 x = _
      unfold F_X12_advance F_X12_advance_23
      simp only [wm_kR, wm_kt, wm_kn, wm_kin, wm_kL, wm_kI, wm_ksI, wm_ksL, wm_kJ, wm_ksJ, kg_t, kl_v, Option.bind_some, sr_k, sr_0, sr_1, sr_2, sr_3, sr_4, sr_7, sr_8, sr_9, sr_26, sr_27, sr_28, tw_fd, in30, if_pos hx, if_true, rx_stopT one0 one0, if_neg one0]
  · obtain ⟨D, hD, rfl⟩ : ∃ D, D < 31 ∧ x = nI D := by
      rcases num_cases x (n := 31) (by decide) with y | y | y
      · exact y
      · exact absurd (Or.inl (by have h1 : (0 : Int32) < 1 := by decide
                                 grind)) hx
      · have : 30 < x := by
          have h1 : (30 : Int32) < nI 31 := by decide
          grind
        exact absurd (Or.inr this) hx
    by_cases e1 : 9999 < I 541 6 + nI D
    · refine ⟨.inr 3, I, ?_, fun L' => ⟨0, tw6 I 2, L', ?_, h.tw, LF.rf', Or.inr ⟨3, 2, rfl, by simp, tw_6⟩⟩⟩
      · show F_X11_advance N (wm Mb I L) 1 (nI D) = _
        unfold F_X11_advance F_X4_allowsDays
        simp only [wm_kR, wm_kt, wm_kn, wm_kin, wm_kL, wm_kI, wm_ksI, wm_ksL, wm_kJ, wm_ksJ, kg_t, kl_v, Option.bind_some, x1_t.1, x1_t.2.1, cx_range, if_neg hx, mm_k m169, hM.day, e1, if_true, kbx]
      · show F_X12_advance N (wm Mb I L') 540 (nI D) = _
        unfold F_X12_advance F_X12_advance_23 F_X12_advance_51
        simp only [wm_kR, wm_kt, wm_kn, wm_kin, wm_kL, wm_kI, wm_ksI, wm_ksL, wm_kJ, wm_ksJ, kg_t, kl_v, Option.bind_some, sr_k, sr_0, sr_1, sr_2, sr_3, sr_4, sr_7, sr_8, sr_9, sr_26, sr_27, sr_28, tw_fd, in30, if_neg hx, if_neg one0, rx_stopF, if_true, tw_row, kl_6, kx_l6, e1, rx_stopT two0 one0]
    · obtain ⟨I1, a1, a2, a3, a4⟩ := do_change (L := L) h hN hR hM
      obtain ⟨I2, b1, b2, b3⟩ := cx_days (N := N) (L := L) m169 hN1 hR a2 (show D ≤ 100 by omega)
      obtain ⟨c1, c2, c3⟩ := a4 I2 b3
      have hR2 : RI (I2 541) nb nt := by rw [c1]; exact hR
      refine ⟨.inl (dyN nb nt D (I 541) 12 - I 541 12), I2, ?_, fun L' => ?_⟩
      · show F_X11_advance N (wm Mb I L) 1 (nI D) = _
        unfold F_X11_advance F_X4_allowsDays
        simp only [wm_kR, wm_kt, wm_kn, wm_kin, wm_kL, wm_kI, wm_ksI, wm_ksL, wm_kJ, wm_ksJ, kg_t, kl_v, Option.bind_some, x1_t.1, x1_t.2.1, x1_t.2.2.1, s47h.1, mm_k m169, kbx, cx_range, if_neg hx, hM.day, e1, if_false, if_neg one0, a1, b1]
      · obtain ⟨J, d1, d2, d3⟩ := c3 L'
        obtain ⟨d4, d5⟩ := d3 _ (dyNF nb nt D (I 541) (I 546)) nb nt (RI_dyN D _ hR) b2
        have e := rx_days (N := N) (I := J) (L := L') (f := I 546) hN1 hR (show D ≤ 100 by omega)
        rw [← d2] at e
        refine ⟨dyN nb nt D (I 541) 12 - I 541 12, _, L', ?_, d4, LF.rf', Or.inl ⟨rfl, d5⟩⟩
        show F_X12_advance N (wm Mb _ L') 540 (nI D) = _
        have er : ∀ j, tw6 I2 0 541 j = I 541 j := fun j => by rw [tw_row, c1]
        unfold F_X12_advance F_X12_advance_23 F_X12_advance_51
        simp only [wm_kR, wm_kt, wm_kn, wm_kin, wm_kL, wm_kI, wm_ksI, wm_ksL, wm_kJ, wm_ksJ, kg_t, kl_v, Option.bind_some, sr_k, sr_0, sr_1, sr_2, sr_3, sr_4, sr_7, sr_8, sr_9, sr_26, sr_27, sr_28, kl_0, kl_1, kl_2, kl_3, kl_4, kl_5, kl_6, kl_7, kl_8, kl_9, kl_10, kl_11, kl_12, kl_13, kx_l0, kx_l1, kx_l2, kx_l3, kx_l4, kx_l5, kx_l6, kx_l7, kx_l8, kx_l9, kx_l10, kx_l11, kx_l12, kx_l13, tw_fd, in30, if_neg hx, er, e1, if_false, rx_stopF, if_true, if_neg one0, d1, e]
end
