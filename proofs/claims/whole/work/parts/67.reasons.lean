/-! reasons and prices asked -/
section
variable {N : Nat} {I : kInts} {L : kLngs} {r s f : Nat → Int32} {nb nt : Nat}
theorem in1 (M : kMem) (x : Int32) (lo hi : Int32) : F_X12_in N M x.toInt64 lo.toInt64 hi.toInt64 = some (if x < lo ∨ hi < x then 0 else 1) := by
  rw [in_ok]
  by_cases c1 : x < lo
  · simp only [c1, if_true, true_or]
  · simp only [c1, if_false, false_or]
theorem in50 (M : kMem) (x : Int32) : F_X12_in N M x.toInt64 1 50 = some (if x < 1 ∨ 50 < x then 0 else 1) := by
  have h := in1 (N := N) M x 1 50
  rw [show (1 : Int32).toInt64 = 1 from rfl, show (50 : Int32).toInt64 = 50 from rfl] at h
  exact h
theorem cx_range (M : kMem) (x lo hi : Int32) : F_X11_requireRange N M x lo hi = some (if x < lo ∨ hi < x then .inr 2 else .inl (), M) := by
  unfold F_X11_requireRange
  by_cases c1 : x < lo
  · simp only [c1, if_true, true_or]
  · by_cases c2 : hi < x
    · simp only [c1, c2, if_true, if_false, or_true]
    · simp only [c1, c2, if_false, or_self]
theorem nI_ne {s t : Nat} (hs : s < 1000) (ht : t < 1000) (h : s ≠ t) : ¬ nI s = nI t := fun z => h ((nI_eq (by omega) (by omega)).mp z)
theorem two0 : ¬ (2 : Int32) = 0 := by decide
theorem three0 : ¬ (3 : Int32) = 0 := by decide
theorem sx_reasonAgainstSeat (h : Rel I) (w x p : Int32) (hN : 100 < N) : SameX [(1, 1)] (fun M => F_X11_reasonAgainstSeat N M 1 w x p) (fun M => F_X12_reasonAgainstSeat N M 540 w x p) I := by
  obtain ⟨nb, nt, hR, hM⟩ := h.2.2.1.row
  have h5 := hR.nb5
  have h24 := hR.nt24
  intro L
  rcases num_cases w (show nt < 1000 by omega) with ⟨t, ht, rfl⟩ | hw
  · rcases num_cases x (show nb < 1000 by omega) with ⟨b, hb, rfl⟩ | hx
    · obtain ⟨a, s', l, ha, -, -, ra, -⟩ := hR.b b hb
      by_cases hp : p ≠ 0 ∧ ¬ p < -nI a ∧ ¬ nI a < p
      · obtain ⟨q, p1, p2, p3, rfl⟩ := pos_of (show a ≤ 6 by omega) hp.1 hp.2.1 hp.2.2
        refine ⟨.inl (aSeat (I 541) nt t b q), I, ?_, fun L' => ⟨aSeat (I 541) nt t b q, tw6 I 0, L', ?_, h.tw, LF.rf', Or.inl ⟨rfl, tw_6⟩⟩⟩
        · show F_X11_reasonAgainstSeat N (wm Mb I L) 1 (nI t) (nI b) (pz q) = _
          unfold F_X11_reasonAgainstSeat
          simp only [wm_kR, wm_kt, wm_kn, wm_kin, wm_kL, wm_kI, wm_ksI, wm_ksL, wm_kJ, wm_ksJ, kg_t, kl_v, Option.bind_some, x1_t.1, x1_t.2.1, mm_k m169, cx_exT_in hR hM ht, cx_bs_in hR hM hb ra (show a ≤ 6 by omega) p1 p2 p3, kbx, cx_aSeat m169 hR hM ht hb ra (show a ≤ 6 by omega) p1 p2 p3 hN]
        · show F_X12_reasonAgainstSeat N (wm Mb I L') 540 (nI t) (nI b) (pz q) = _
          have hh := rx_aSeat (N := N) (I := tw6 I 0) (L := L') (f := I 546) hR ht hb (show q < 13 by omega) p3 hN
          rw [tw_rf] at hh
          unfold F_X12_reasonAgainstSeat
          simp only [wm_kR, wm_kt, wm_kn, wm_kin, wm_kL, wm_kI, wm_ksI, wm_ksL, wm_kJ, wm_ksJ, kg_t, kl_v, Option.bind_some, sr_k, sr_0, sr_1, sr_2, sr_3, sr_4, sr_7, sr_8, sr_9, sr_26, sr_27, sr_28, tw_fd, rx_noT_in hR ht, rx_noS_in hR hb ra (show a ≤ 6 by omega) p1 p2 p3, if_true, hh]
      · refine ⟨.inr 1, I, ?_, fun L' => ⟨0, tw6 I 1, L', ?_, h.tw, LF.rf', Or.inr ⟨1, 1, rfl, by simp, tw_6⟩⟩⟩
        · show F_X11_reasonAgainstSeat N (wm Mb I L) 1 (nI t) (nI b) p = _
          unfold F_X11_reasonAgainstSeat
          simp only [wm_kR, wm_kt, wm_kn, wm_kin, wm_kL, wm_kI, wm_ksI, wm_ksL, wm_kJ, wm_ksJ, kg_t, kl_v, Option.bind_some, x1_t.1, x1_t.2.1, cx_exT_in hR hM ht, cx_bs_outS hR hM hb ra hp, kbx]
        · show F_X12_reasonAgainstSeat N (wm Mb I L') 540 (nI t) (nI b) p = _
          unfold F_X12_reasonAgainstSeat 
          simp only [wm_kR, wm_kt, wm_kn, wm_kin, wm_kL, wm_kI, wm_ksI, wm_ksL, wm_kJ, wm_ksJ, kg_t, kl_v, Option.bind_some, sr_k, sr_0, sr_1, sr_2, sr_3, sr_4, sr_7, sr_8, sr_9, sr_26, sr_27, sr_28, tw_fd, rx_noT_in hR ht, rx_noS_outS hR hb ra hp, if_true, if_neg one0]
    · refine ⟨.inr 1, I, ?_, fun L' => ⟨0, tw6 I 1, L', ?_, h.tw, LF.rf', Or.inr ⟨1, 1, rfl, by simp, tw_6⟩⟩⟩
      · show F_X11_reasonAgainstSeat N (wm Mb I L) 1 (nI t) x p = _
        unfold F_X11_reasonAgainstSeat
        simp only [wm_kR, wm_kt, wm_kn, wm_kin, wm_kL, wm_kI, wm_ksI, wm_ksL, wm_kJ, wm_ksJ, kg_t, kl_v, Option.bind_some, x1_t.1, x1_t.2.1, cx_exT_in hR hM ht, cx_bs_outB hR hM hx, kbx]
      · show F_X12_reasonAgainstSeat N (wm Mb I L') 540 (nI t) x p = _
        unfold F_X12_reasonAgainstSeat 
        simp only [wm_kR, wm_kt, wm_kn, wm_kin, wm_kL, wm_kI, wm_ksI, wm_ksL, wm_kJ, wm_ksJ, kg_t, kl_v, Option.bind_some, sr_k, sr_0, sr_1, sr_2, sr_3, sr_4, sr_7, sr_8, sr_9, sr_26, sr_27, sr_28, tw_fd, rx_noT_in hR ht, rx_noS_outB hR hx, if_true, if_neg one0]
  · refine ⟨.inr 1, I, ?_, fun L' => ⟨0, tw6 I 1, L', ?_, h.tw, LF.rf', Or.inr ⟨1, 1, rfl, by simp, tw_6⟩⟩⟩
    · show F_X11_reasonAgainstSeat N (wm Mb I L) 1 w x p = _
      unfold F_X11_reasonAgainstSeat
      simp only [wm_kR, wm_kt, wm_kn, wm_kin, wm_kL, wm_kI, wm_ksI, wm_ksL, wm_kJ, wm_ksJ, kg_t, kl_v, Option.bind_some, x1_t.1, x1_t.2.1, cx_exT_out hR hM hw, kbx]
    · show F_X12_reasonAgainstSeat N (wm Mb I L') 540 w x p = _
      unfold F_X12_reasonAgainstSeat 
      simp only [wm_kR, wm_kt, wm_kn, wm_kin, wm_kL, wm_kI, wm_ksI, wm_ksL, wm_kJ, wm_ksJ, kg_t, kl_v, Option.bind_some, sr_k, sr_0, sr_1, sr_2, sr_3, sr_4, sr_7, sr_8, sr_9, sr_26, sr_27, sr_28, tw_fd, rx_noT_out hR hw, if_neg one0]
theorem sx_weightUnitPrice (h : Rel I) (w x : Int32) (hN : 100 < N) : SameX [(1, 1), (3, 2)] (fun M => F_X11_weightUnitPrice N M 1 w x) (fun M => F_X12_weightUnitPrice N M 540 w x) I := by
  obtain ⟨nb, nt, hR, hM⟩ := h.2.2.1.row
  have h5 := hR.nb5
  have h24 := hR.nt24
  intro L
  rcases num_cases w (show nt < 1000 by omega) with ⟨t, ht, rfl⟩ | hw
  · rcases num_cases x (show nt < 1000 by omega) with ⟨s, hs, rfl⟩ | hx
    · have c1 := cx_seated (N := N) (L := L) m169 h24 hM ht
      have c2 := cx_seated (N := N) (L := L) m169 h24 hM hs
      have k1 := tt_k m169 (show t < 24 by omega)
      have k2 := tt_k m169 (show s < 24 by omega)
      have d1 : ∀ L', F_X12_isSeated N (wm Mb (tw6 I 0) L') 540 (nI t) = some (if I 541 (89 + 7 * t + 5) = -1 then 0 else 1) := fun L' => by
        have := rx_seated (N := N) (I := tw6 I 0) (L := L') (r := I 541) (f := I 546) (show t < 24 by omega)
        rw [tw_rf] at this
        exact this
      have d2 : ∀ L', F_X12_isSeated N (wm Mb (tw6 I 0) L') 540 (nI s) = some (if I 541 (89 + 7 * s + 5) = -1 then 0 else 1) := fun L' => by
        have := rx_seated (N := N) (I := tw6 I 0) (L := L') (r := I 541) (f := I 546) (show s < 24 by omega)
        rw [tw_rf] at this
        exact this
      by_cases e1 : I 541 (89 + 7 * t + 5) = -1
      · refine ⟨.inr 3, I, ?_, fun L' => ⟨0, tw6 I 2, L', ?_, h.tw, LF.rf', Or.inr ⟨3, 2, rfl, by simp, tw_6⟩⟩⟩
        · show F_X11_weightUnitPrice N (wm Mb I L) 1 (nI t) (nI s) = _
          unfold F_X11_weightUnitPrice F_X11_requireSeat
          simp only [wm_kR, wm_kt, wm_kn, wm_kin, wm_kL, wm_kI, wm_ksI, wm_ksL, wm_kJ, wm_ksJ, kg_t, kl_v, Option.bind_some, x1_t.1, x1_t.2.1, cx_exT_in hR hM ht, cx_exT_in hR hM hs, kbx, k1, c1, e1, if_true]
        · show F_X12_weightUnitPrice N (wm Mb I L') 540 (nI t) (nI s) = _
          unfold F_X12_weightUnitPrice F_X12_weightUnitPrice_38 F_X12_weightUnitPrice_43
          simp only [wm_kR, wm_kt, wm_kn, wm_kin, wm_kL, wm_kI, wm_ksI, wm_ksL, wm_kJ, wm_ksJ, kg_t, kl_v, Option.bind_some, sr_k, sr_0, sr_1, sr_2, sr_3, sr_4, sr_7, sr_8, sr_9, sr_26, sr_27, sr_28, tw_fd, rx_noT_in hR ht, rx_noT_in hR hs, if_true, d1, e1, rx_stopT two0 one0, if_neg one0]
      · by_cases e2 : I 541 (89 + 7 * s + 5) = -1
        · refine ⟨.inr 3, I, ?_, fun L' => ⟨0, tw6 I 2, L', ?_, h.tw, LF.rf', Or.inr ⟨3, 2, rfl, by simp, tw_6⟩⟩⟩
          · show F_X11_weightUnitPrice N (wm Mb I L) 1 (nI t) (nI s) = _
            unfold F_X11_weightUnitPrice F_X11_requireSeat
            simp only [wm_kR, wm_kt, wm_kn, wm_kin, wm_kL, wm_kI, wm_ksI, wm_ksL, wm_kJ, wm_ksJ, kg_t, kl_v, Option.bind_some, x1_t.1, x1_t.2.1, cx_exT_in hR hM ht, cx_exT_in hR hM hs, kbx, k1, k2, c1, c2, e1, e2, if_true, if_false, if_neg one0]
          · show F_X12_weightUnitPrice N (wm Mb I L') 540 (nI t) (nI s) = _
            unfold F_X12_weightUnitPrice F_X12_weightUnitPrice_38 F_X12_weightUnitPrice_43
            simp only [wm_kR, wm_kt, wm_kn, wm_kin, wm_kL, wm_kI, wm_ksI, wm_ksL, wm_kJ, wm_ksJ, kg_t, kl_v, Option.bind_some, sr_k, sr_0, sr_1, sr_2, sr_3, sr_4, sr_7, sr_8, sr_9, sr_26, sr_27, sr_28, tw_fd, rx_noT_in hR ht, rx_noT_in hR hs, if_true, if_false, d1, d2, e1, e2, rx_stopT two0 one0, if_neg one0]
        · obtain ⟨b, q, st1⟩ := hR.seat ht e1
          obtain ⟨b2, q2, st2⟩ := hR.seat hs e2
          refine ⟨.inl (uprS (I 541) nt t s), I, ?_, fun L' => ⟨uprS (I 541) nt t s, tw6 I 0, L', ?_, h.tw, LF.rf', Or.inl ⟨rfl, tw_6⟩⟩⟩
          · show F_X11_weightUnitPrice N (wm Mb I L) 1 (nI t) (nI s) = _
            unfold F_X11_weightUnitPrice F_X11_requireSeat
            simp only [wm_kR, wm_kt, wm_kn, wm_kin, wm_kL, wm_kI, wm_ksI, wm_ksL, wm_kJ, wm_ksJ, kg_t, kl_v, Option.bind_some, x1_t.1, x1_t.2.1, mm_k m169, cx_exT_in hR hM ht, cx_exT_in hR hM hs, kbx, k1, k2, c1, c2, e1, e2, if_false, if_neg one0, cx_up m169 hR hM ht st1 hs st2 hN]
          · show F_X12_weightUnitPrice N (wm Mb I L') 540 (nI t) (nI s) = _
            have hh := rx_uprice (N := N) (I := tw6 I 0) (L := L') (f := I 546) hR ht st1 hs st2 hN
            rw [tw_rf] at hh
            unfold F_X12_weightUnitPrice F_X12_weightUnitPrice_43
            simp only [wm_kR, wm_kt, wm_kn, wm_kin, wm_kL, wm_kI, wm_ksI, wm_ksL, wm_kJ, wm_ksJ, kg_t, kl_v, Option.bind_some, sr_k, sr_0, sr_1, sr_2, sr_3, sr_4, sr_7, sr_8, sr_9, sr_26, sr_27, sr_28, tw_fd, rx_noT_in hR ht, rx_noT_in hR hs, if_true, if_false, d1, d2, e1, e2, rx_stopF, if_neg one0, hh]
    · refine ⟨.inr 1, I, ?_, fun L' => ⟨0, tw6 I 1, L', ?_, h.tw, LF.rf', Or.inr ⟨1, 1, rfl, by simp, tw_6⟩⟩⟩
      · show F_X11_weightUnitPrice N (wm Mb I L) 1 (nI t) x = _
        unfold F_X11_weightUnitPrice
        simp only [wm_kR, wm_kt, wm_kn, wm_kin, wm_kL, wm_kI, wm_ksI, wm_ksL, wm_kJ, wm_ksJ, kg_t, kl_v, Option.bind_some, x1_t.1, x1_t.2.1, cx_exT_in hR hM ht, cx_exT_out hR hM hx, kbx]
      · show F_X12_weightUnitPrice N (wm Mb I L') 540 (nI t) x = _
        unfold F_X12_weightUnitPrice 
        simp only [wm_kR, wm_kt, wm_kn, wm_kin, wm_kL, wm_kI, wm_ksI, wm_ksL, wm_kJ, wm_ksJ, kg_t, kl_v, Option.bind_some, sr_k, sr_0, sr_1, sr_2, sr_3, sr_4, sr_7, sr_8, sr_9, sr_26, sr_27, sr_28, tw_fd, rx_noT_in hR ht, rx_noT_out hR hx, if_true, if_neg one0]
  · refine ⟨.inr 1, I, ?_, fun L' => ⟨0, tw6 I 1, L', ?_, h.tw, LF.rf', Or.inr ⟨1, 1, rfl, by simp, tw_6⟩⟩⟩
    · show F_X11_weightUnitPrice N (wm Mb I L) 1 w x = _
      unfold F_X11_weightUnitPrice
      simp only [wm_kR, wm_kt, wm_kn, wm_kin, wm_kL, wm_kI, wm_ksI, wm_ksL, wm_kJ, wm_ksJ, kg_t, kl_v, Option.bind_some, x1_t.1, x1_t.2.1, cx_exT_out hR hM hw, kbx]
    · show F_X12_weightUnitPrice N (wm Mb I L') 540 w x = _
      unfold F_X12_weightUnitPrice 
      simp only [wm_kR, wm_kt, wm_kn, wm_kin, wm_kL, wm_kI, wm_ksI, wm_ksL, wm_kJ, wm_ksJ, kg_t, kl_v, Option.bind_some, sr_k, sr_0, sr_1, sr_2, sr_3, sr_4, sr_7, sr_8, sr_9, sr_26, sr_27, sr_28, tw_fd, rx_noT_out hR hw, if_neg one0]
theorem sx_reasonAgainstSwap (h : Rel I) (w x : Int32) (hN : 100 < N) : SameX [(1, 1), (2, 2)] (fun M => F_X11_reasonAgainstSwap N M 1 w x) (fun M => F_X12_reasonAgainstSwap N M 540 w x) I := by
  obtain ⟨nb, nt, hR, hM⟩ := h.2.2.1.row
  have h5 := hR.nb5
  have h24 := hR.nt24
  intro L
  rcases num_cases w (show nt < 1000 by omega) with ⟨t, ht, rfl⟩ | hw
  · rcases num_cases x (show nt < 1000 by omega) with ⟨s, hs, rfl⟩ | hx
    · by_cases hts : t = s
      · subst hts
        refine ⟨.inr 2, I, ?_, fun L' => ⟨0, tw6 I 2, L', ?_, h.tw, LF.rf', Or.inr ⟨2, 2, rfl, by simp, tw_6⟩⟩⟩
        · show F_X11_reasonAgainstSwap N (wm Mb I L) 1 (nI t) (nI t) = _
          unfold F_X11_reasonAgainstSwap
          simp only [wm_kR, wm_kt, wm_kn, wm_kin, wm_kL, wm_kI, wm_ksI, wm_ksL, wm_kJ, wm_ksJ, kg_t, kl_v, Option.bind_some, x1_t.1, x1_t.2.1, cx_exT_in hR hM ht, F_X11_requireDifferent, if_true, kbx]
        · show F_X12_reasonAgainstSwap N (wm Mb I L') 540 (nI t) (nI t) = _
          unfold F_X12_reasonAgainstSwap F_X12_noPair
          simp only [wm_kR, wm_kt, wm_kn, wm_kin, wm_kL, wm_kI, wm_ksI, wm_ksL, wm_kJ, wm_ksJ, kg_t, kl_v, Option.bind_some, sr_k, sr_0, sr_1, sr_2, sr_3, sr_4, sr_7, sr_8, sr_9, sr_26, sr_27, sr_28, tw_fd, rx_noT_in hR ht, if_true, rx_stopT two0 one0, if_neg one0]
      · have hne := nI_ne (show t < 1000 by omega) (show s < 1000 by omega) hts
        refine ⟨.inl (aSwap (I 541) nt t s), I, ?_, fun L' => ⟨aSwap (I 541) nt t s, tw6 I 0, L', ?_, h.tw, LF.rf', Or.inl ⟨rfl, tw_6⟩⟩⟩
        · show F_X11_reasonAgainstSwap N (wm Mb I L) 1 (nI t) (nI s) = _
          unfold F_X11_reasonAgainstSwap
          simp only [wm_kR, wm_kt, wm_kn, wm_kin, wm_kL, wm_kI, wm_ksI, wm_ksL, wm_kJ, wm_ksJ, kg_t, kl_v, Option.bind_some, x1_t.1, x1_t.2.1, mm_k m169, cx_exT_in hR hM ht, cx_exT_in hR hM hs, F_X11_requireDifferent, hne, if_false, kbx, cx_aSwap m169 hR hM ht hs hN]
        · show F_X12_reasonAgainstSwap N (wm Mb I L') 540 (nI t) (nI s) = _
          have hh := rx_aSwap (N := N) (I := tw6 I 0) (L := L') (f := I 546) hR ht hs hN
          rw [tw_rf] at hh
          unfold F_X12_reasonAgainstSwap F_X12_noPair
          simp only [wm_kR, wm_kt, wm_kn, wm_kin, wm_kL, wm_kI, wm_ksI, wm_ksL, wm_kJ, wm_ksJ, kg_t, kl_v, Option.bind_some, sr_k, sr_0, sr_1, sr_2, sr_3, sr_4, sr_7, sr_8, sr_9, sr_26, sr_27, sr_28, tw_fd, rx_noT_in hR ht, rx_noT_in hR hs, if_true, hne, if_false, rx_stopF, if_neg one0, hh]
    · refine ⟨.inr 1, I, ?_, fun L' => ⟨0, tw6 I 1, L', ?_, h.tw, LF.rf', Or.inr ⟨1, 1, rfl, by simp, tw_6⟩⟩⟩
      · show F_X11_reasonAgainstSwap N (wm Mb I L) 1 (nI t) x = _
        unfold F_X11_reasonAgainstSwap
        simp only [wm_kR, wm_kt, wm_kn, wm_kin, wm_kL, wm_kI, wm_ksI, wm_ksL, wm_kJ, wm_ksJ, kg_t, kl_v, Option.bind_some, x1_t.1, x1_t.2.1, cx_exT_in hR hM ht, cx_exT_out hR hM hx, kbx]
      · show F_X12_reasonAgainstSwap N (wm Mb I L') 540 (nI t) x = _
        unfold F_X12_reasonAgainstSwap F_X12_noPair
        simp only [wm_kR, wm_kt, wm_kn, wm_kin, wm_kL, wm_kI, wm_ksI, wm_ksL, wm_kJ, wm_ksJ, kg_t, kl_v, Option.bind_some, sr_k, sr_0, sr_1, sr_2, sr_3, sr_4, sr_7, sr_8, sr_9, sr_26, sr_27, sr_28, tw_fd, rx_noT_in hR ht, rx_noT_out hR hx, if_true, if_neg one0]
  · refine ⟨.inr 1, I, ?_, fun L' => ⟨0, tw6 I 1, L', ?_, h.tw, LF.rf', Or.inr ⟨1, 1, rfl, by simp, tw_6⟩⟩⟩
    · show F_X11_reasonAgainstSwap N (wm Mb I L) 1 w x = _
      unfold F_X11_reasonAgainstSwap
      simp only [wm_kR, wm_kt, wm_kn, wm_kin, wm_kL, wm_kI, wm_ksI, wm_ksL, wm_kJ, wm_ksJ, kg_t, kl_v, Option.bind_some, x1_t.1, x1_t.2.1, cx_exT_out hR hM hw, kbx]
    · show F_X12_reasonAgainstSwap N (wm Mb I L') 540 w x = _
      unfold F_X12_reasonAgainstSwap F_X12_noPair
      simp only [wm_kR, wm_kt, wm_kn, wm_kin, wm_kL, wm_kI, wm_ksI, wm_ksL, wm_kJ, wm_ksJ, kg_t, kl_v, Option.bind_some, sr_k, sr_0, sr_1, sr_2, sr_3, sr_4, sr_7, sr_8, sr_9, sr_26, sr_27, sr_28, tw_fd, rx_noT_out hR hw, if_neg one0]
theorem sx_reasonAgainstSale (h : Rel I) (w x u : Int32) (hN : 100 < N) : SameX [(1, 1), (2, 2)] (fun M => F_X11_reasonAgainstSale N M 1 w x u) (fun M => F_X12_reasonAgainstSale N M 540 w x u) I := by
  obtain ⟨nb, nt, hR, hM⟩ := h.2.2.1.row
  have h5 := hR.nb5
  have h24 := hR.nt24
  intro L
  rcases num_cases w (show nt < 1000 by omega) with ⟨t, ht, rfl⟩ | hw
  · rcases num_cases x (show nt < 1000 by omega) with ⟨s, hs, rfl⟩ | hx
    · by_cases hts : t = s
      · subst hts
        refine ⟨.inr 2, I, ?_, fun L' => ⟨0, tw6 I 2, L', ?_, h.tw, LF.rf', Or.inr ⟨2, 2, rfl, by simp, tw_6⟩⟩⟩
        · show F_X11_reasonAgainstSale N (wm Mb I L) 1 (nI t) (nI t) u = _
          unfold F_X11_reasonAgainstSale
          simp only [wm_kR, wm_kt, wm_kn, wm_kin, wm_kL, wm_kI, wm_ksI, wm_ksL, wm_kJ, wm_ksJ, kg_t, kl_v, Option.bind_some, x1_t.1, x1_t.2.1, cx_exT_in hR hM ht, F_X11_requireDifferent, if_true, kbx]
        · show F_X12_reasonAgainstSale N (wm Mb I L') 540 (nI t) (nI t) u = _
          unfold F_X12_reasonAgainstSale F_X12_noSale
          simp only [wm_kR, wm_kt, wm_kn, wm_kin, wm_kL, wm_kI, wm_ksI, wm_ksL, wm_kJ, wm_ksJ, kg_t, kl_v, Option.bind_some, sr_k, sr_0, sr_1, sr_2, sr_3, sr_4, sr_7, sr_8, sr_9, sr_26, sr_27, sr_28, tw_fd, rx_noT_in hR ht, if_true, rx_stopT two0 one0, if_neg one0]
      · have hne := nI_ne (show t < 1000 by omega) (show s < 1000 by omega) hts
        by_cases hu : u < 1 ∨ 50 < u
        · refine ⟨.inr 2, I, ?_, fun L' => ⟨0, tw6 I 2, L', ?_, h.tw, LF.rf', Or.inr ⟨2, 2, rfl, by simp, tw_6⟩⟩⟩
          · show F_X11_reasonAgainstSale N (wm Mb I L) 1 (nI t) (nI s) u = _
            unfold F_X11_reasonAgainstSale
            simp only [wm_kR, wm_kt, wm_kn, wm_kin, wm_kL, wm_kI, wm_ksI, wm_ksL, wm_kJ, wm_ksJ, kg_t, kl_v, Option.bind_some, x1_t.1, x1_t.2.1, cx_exT_in hR hM ht, cx_exT_in hR hM hs, F_X11_requireDifferent, hne, if_false, cx_range, if_pos hu, kbx]
          · show F_X12_reasonAgainstSale N (wm Mb I L') 540 (nI t) (nI s) u = _
            unfold F_X12_reasonAgainstSale F_X12_noSale
            simp only [wm_kR, wm_kt, wm_kn, wm_kin, wm_kL, wm_kI, wm_ksI, wm_ksL, wm_kJ, wm_ksJ, kg_t, kl_v, Option.bind_some, sr_k, sr_0, sr_1, sr_2, sr_3, sr_4, sr_7, sr_8, sr_9, sr_26, sr_27, sr_28, tw_fd, rx_noT_in hR ht, rx_noT_in hR hs, if_true, hne, if_false, in50, if_pos hu, rx_stopT two0 one0, if_neg one0]
        · refine ⟨.inl (aSale (I 541) nt t s u), I, ?_, fun L' => ⟨aSale (I 541) nt t s u, tw6 I 0, L', ?_, h.tw, LF.rf', Or.inl ⟨rfl, tw_6⟩⟩⟩
          · show F_X11_reasonAgainstSale N (wm Mb I L) 1 (nI t) (nI s) u = _
            unfold F_X11_reasonAgainstSale
            simp only [wm_kR, wm_kt, wm_kn, wm_kin, wm_kL, wm_kI, wm_ksI, wm_ksL, wm_kJ, wm_ksJ, kg_t, kl_v, Option.bind_some, x1_t.1, x1_t.2.1, mm_k m169, cx_exT_in hR hM ht, cx_exT_in hR hM hs, F_X11_requireDifferent, hne, if_false, cx_range, if_neg hu, kbx, cx_aSale m169 hR hM ht hs u hN]
          · show F_X12_reasonAgainstSale N (wm Mb I L') 540 (nI t) (nI s) u = _
            have hh := rx_aSale (N := N) (I := tw6 I 0) (L := L') (f := I 546) hR ht hs u hN
            rw [tw_rf] at hh
            unfold F_X12_reasonAgainstSale F_X12_noSale
            simp only [wm_kR, wm_kt, wm_kn, wm_kin, wm_kL, wm_kI, wm_ksI, wm_ksL, wm_kJ, wm_ksJ, kg_t, kl_v, Option.bind_some, sr_k, sr_0, sr_1, sr_2, sr_3, sr_4, sr_7, sr_8, sr_9, sr_26, sr_27, sr_28, tw_fd, rx_noT_in hR ht, rx_noT_in hR hs, if_true, hne, if_false, in50, if_neg hu, rx_stopF, if_neg one0, hh]
    · refine ⟨.inr 1, I, ?_, fun L' => ⟨0, tw6 I 1, L', ?_, h.tw, LF.rf', Or.inr ⟨1, 1, rfl, by simp, tw_6⟩⟩⟩
      · show F_X11_reasonAgainstSale N (wm Mb I L) 1 (nI t) x u = _
        unfold F_X11_reasonAgainstSale
        simp only [wm_kR, wm_kt, wm_kn, wm_kin, wm_kL, wm_kI, wm_ksI, wm_ksL, wm_kJ, wm_ksJ, kg_t, kl_v, Option.bind_some, x1_t.1, x1_t.2.1, cx_exT_in hR hM ht, cx_exT_out hR hM hx, kbx]
      · show F_X12_reasonAgainstSale N (wm Mb I L') 540 (nI t) x u = _
        unfold F_X12_reasonAgainstSale F_X12_noSale
        simp only [wm_kR, wm_kt, wm_kn, wm_kin, wm_kL, wm_kI, wm_ksI, wm_ksL, wm_kJ, wm_ksJ, kg_t, kl_v, Option.bind_some, sr_k, sr_0, sr_1, sr_2, sr_3, sr_4, sr_7, sr_8, sr_9, sr_26, sr_27, sr_28, tw_fd, rx_noT_in hR ht, rx_noT_out hR hx, if_true, if_neg one0]
  · refine ⟨.inr 1, I, ?_, fun L' => ⟨0, tw6 I 1, L', ?_, h.tw, LF.rf', Or.inr ⟨1, 1, rfl, by simp, tw_6⟩⟩⟩
    · show F_X11_reasonAgainstSale N (wm Mb I L) 1 w x u = _
      unfold F_X11_reasonAgainstSale
      simp only [wm_kR, wm_kt, wm_kn, wm_kin, wm_kL, wm_kI, wm_ksI, wm_ksL, wm_kJ, wm_ksJ, kg_t, kl_v, Option.bind_some, x1_t.1, x1_t.2.1, cx_exT_out hR hM hw, kbx]
    · show F_X12_reasonAgainstSale N (wm Mb I L') 540 w x u = _
      unfold F_X12_reasonAgainstSale F_X12_noSale
      simp only [wm_kR, wm_kt, wm_kn, wm_kin, wm_kL, wm_kI, wm_ksI, wm_ksL, wm_kJ, wm_ksJ, kg_t, kl_v, Option.bind_some, sr_k, sr_0, sr_1, sr_2, sr_3, sr_4, sr_7, sr_8, sr_9, sr_26, sr_27, sr_28, tw_fd, rx_noT_out hR hw, if_neg one0]
end
