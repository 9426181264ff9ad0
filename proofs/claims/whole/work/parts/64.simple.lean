/-! the calls that only look, of one number -/
section
variable {N : Nat} {I : kInts} {r s f : Nat → Int32} {nb nt : Nat}
theorem tw_fd {v : Int32} : up I 540 6 v = tw6 I v := rfl
theorem sm_day (h : Rel I) : SameI (fun M => F_X11_day N M 1) (fun M => F_X12_day N M 540) I := by
  obtain ⟨nb, nt, hR, hM⟩ := h.2.2.1.row
  intro L
  refine ⟨I 44 0, ?_, fun L' => ⟨tw6 I 0, L', ?_, h.tw, LF.rf'⟩⟩
  · show F_X11_day N (wm Mb I L) 1 = _
    unfold F_X11_day
    simp only [wm_kR, wm_kt, wm_kn, wm_kin, wm_kL, wm_kI, wm_ksI, wm_ksL, wm_kJ, wm_ksJ, kg_t, kl_v, Option.bind_some, x1_t.1, x1_t.2.1, mm_k m169]
  · show F_X12_day N (wm Mb I L') 540 = _
    unfold F_X12_day
    simp only [wm_kR, wm_kt, wm_kn, wm_kin, wm_kL, wm_kI, wm_ksI, wm_ksL, wm_kJ, wm_ksJ, kg_t, kl_v, Option.bind_some, sr_k, sr_0, sr_1, sr_2, sr_3, sr_4, sr_7, sr_8, sr_9, sr_26, sr_27, sr_28, kl_0, kl_1, kl_2, kl_3, kl_4, kl_5, kl_6, kl_7, kl_8, kl_9, kl_10, kl_11, kl_12, kl_13, kx_l0, kx_l1, kx_l2, kx_l3, kx_l4, kx_l5, kx_l6, kx_l7, kx_l8, kx_l9, kx_l10, kx_l11, kx_l12, kx_l13, tw_fd, tw_row, hM.g.1]
theorem sm_bank (h : Rel I) : SameI (fun M => F_X11_bank N M 1) (fun M => F_X12_bank N M 540) I := by
  obtain ⟨nb, nt, hR, hM⟩ := h.2.2.1.row
  intro L
  refine ⟨I 44 1, ?_, fun L' => ⟨tw6 I 0, L', ?_, h.tw, LF.rf'⟩⟩
  · show F_X11_bank N (wm Mb I L) 1 = _
    unfold F_X11_bank
    simp only [wm_kR, wm_kt, wm_kn, wm_kin, wm_kL, wm_kI, wm_ksI, wm_ksL, wm_kJ, wm_ksJ, kg_t, kl_v, Option.bind_some, x1_t.1, x1_t.2.1, mm_k m169]
  · show F_X12_bank N (wm Mb I L') 540 = _
    unfold F_X12_bank
    simp only [wm_kR, wm_kt, wm_kn, wm_kin, wm_kL, wm_kI, wm_ksI, wm_ksL, wm_kJ, wm_ksJ, kg_t, kl_v, Option.bind_some, sr_k, sr_0, sr_1, sr_2, sr_3, sr_4, sr_7, sr_8, sr_9, sr_26, sr_27, sr_28, kl_0, kl_1, kl_2, kl_3, kl_4, kl_5, kl_6, kl_7, kl_8, kl_9, kl_10, kl_11, kl_12, kl_13, kx_l0, kx_l1, kx_l2, kx_l3, kx_l4, kx_l5, kx_l6, kx_l7, kx_l8, kx_l9, kx_l10, kx_l11, kx_l12, kx_l13, tw_fd, tw_row, hM.g.2.1]
theorem sm_wage (h : Rel I) : SameI (fun M => F_X11_wage N M 1) (fun M => F_X12_wage N M 540) I := by
  obtain ⟨nb, nt, hR, hM⟩ := h.2.2.1.row
  intro L
  refine ⟨I 44 2, ?_, fun L' => ⟨tw6 I 0, L', ?_, h.tw, LF.rf'⟩⟩
  · show F_X11_wage N (wm Mb I L) 1 = _
    unfold F_X11_wage
    simp only [wm_kR, wm_kt, wm_kn, wm_kin, wm_kL, wm_kI, wm_ksI, wm_ksL, wm_kJ, wm_ksJ, kg_t, kl_v, Option.bind_some, x1_t.1, x1_t.2.1, mm_k m169]
  · show F_X12_wage N (wm Mb I L') 540 = _
    unfold F_X12_wage
    simp only [wm_kR, wm_kt, wm_kn, wm_kin, wm_kL, wm_kI, wm_ksI, wm_ksL, wm_kJ, wm_ksJ, kg_t, kl_v, Option.bind_some, sr_k, sr_0, sr_1, sr_2, sr_3, sr_4, sr_7, sr_8, sr_9, sr_26, sr_27, sr_28, kl_0, kl_1, kl_2, kl_3, kl_4, kl_5, kl_6, kl_7, kl_8, kl_9, kl_10, kl_11, kl_12, kl_13, kx_l0, kx_l1, kx_l2, kx_l3, kx_l4, kx_l5, kx_l6, kx_l7, kx_l8, kx_l9, kx_l10, kx_l11, kx_l12, kx_l13, tw_fd, tw_row, hM.g.2.2.1]
theorem sm_basePrice (h : Rel I) : SameI (fun M => F_X11_basePrice N M 1) (fun M => F_X12_basePrice N M 540) I := by
  obtain ⟨nb, nt, hR, hM⟩ := h.2.2.1.row
  intro L
  refine ⟨I 44 3, ?_, fun L' => ⟨tw6 I 0, L', ?_, h.tw, LF.rf'⟩⟩
  · show F_X11_basePrice N (wm Mb I L) 1 = _
    unfold F_X11_basePrice
    simp only [wm_kR, wm_kt, wm_kn, wm_kin, wm_kL, wm_kI, wm_ksI, wm_ksL, wm_kJ, wm_ksJ, kg_t, kl_v, Option.bind_some, x1_t.1, x1_t.2.1, mm_k m169]
  · show F_X12_basePrice N (wm Mb I L') 540 = _
    unfold F_X12_basePrice
    simp only [wm_kR, wm_kt, wm_kn, wm_kin, wm_kL, wm_kI, wm_ksI, wm_ksL, wm_kJ, wm_ksJ, kg_t, kl_v, Option.bind_some, sr_k, sr_0, sr_1, sr_2, sr_3, sr_4, sr_7, sr_8, sr_9, sr_26, sr_27, sr_28, kl_0, kl_1, kl_2, kl_3, kl_4, kl_5, kl_6, kl_7, kl_8, kl_9, kl_10, kl_11, kl_12, kl_13, kx_l0, kx_l1, kx_l2, kx_l3, kx_l4, kx_l5, kx_l6, kx_l7, kx_l8, kx_l9, kx_l10, kx_l11, kx_l12, kx_l13, tw_fd, tw_row, hM.g.2.2.2.1]
theorem sm_retirementAge (h : Rel I) : SameI (fun M => F_X11_retirementAge N M 1) (fun M => F_X12_retirementAge N M 540) I := by
  obtain ⟨nb, nt, hR, hM⟩ := h.2.2.1.row
  intro L
  refine ⟨I 44 5, ?_, fun L' => ⟨tw6 I 0, L', ?_, h.tw, LF.rf'⟩⟩
  · show F_X11_retirementAge N (wm Mb I L) 1 = _
    unfold F_X11_retirementAge
    simp only [wm_kR, wm_kt, wm_kn, wm_kin, wm_kL, wm_kI, wm_ksI, wm_ksL, wm_kJ, wm_ksJ, kg_t, kl_v, Option.bind_some, x1_t.1, x1_t.2.1, mm_k m169]
  · show F_X12_retirementAge N (wm Mb I L') 540 = _
    unfold F_X12_retirementAge
    simp only [wm_kR, wm_kt, wm_kn, wm_kin, wm_kL, wm_kI, wm_ksI, wm_ksL, wm_kJ, wm_ksJ, kg_t, kl_v, Option.bind_some, sr_k, sr_0, sr_1, sr_2, sr_3, sr_4, sr_7, sr_8, sr_9, sr_26, sr_27, sr_28, kl_0, kl_1, kl_2, kl_3, kl_4, kl_5, kl_6, kl_7, kl_8, kl_9, kl_10, kl_11, kl_12, kl_13, kx_l0, kx_l1, kx_l2, kx_l3, kx_l4, kx_l5, kx_l6, kx_l7, kx_l8, kx_l9, kx_l10, kx_l11, kx_l12, kx_l13, tw_fd, tw_row, hM.g.2.2.2.2.2.1]
theorem sm_boardCount (h : Rel I) : SameI (fun M => F_X11_boardCount N M 1) (fun M => F_X12_boardCount N M 540) I := by
  obtain ⟨nb, nt, hR, hM⟩ := h.2.2.1.row
  intro L
  refine ⟨I 44 11, ?_, fun L' => ⟨tw6 I 0, L', ?_, h.tw, LF.rf'⟩⟩
  · show F_X11_boardCount N (wm Mb I L) 1 = _
    unfold F_X11_boardCount
    simp only [wm_kR, wm_kt, wm_kn, wm_kin, wm_kL, wm_kI, wm_ksI, wm_ksL, wm_kJ, wm_ksJ, kg_t, kl_v, Option.bind_some, x1_t.1, x1_t.2.1, mm_k m169]
  · show F_X12_boardCount N (wm Mb I L') 540 = _
    unfold F_X12_boardCount
    simp only [wm_kR, wm_kt, wm_kn, wm_kin, wm_kL, wm_kI, wm_ksI, wm_ksL, wm_kJ, wm_ksJ, kg_t, kl_v, Option.bind_some, sr_k, sr_0, sr_1, sr_2, sr_3, sr_4, sr_7, sr_8, sr_9, sr_26, sr_27, sr_28, kl_0, kl_1, kl_2, kl_3, kl_4, kl_5, kl_6, kl_7, kl_8, kl_9, kl_10, kl_11, kl_12, kl_13, kx_l0, kx_l1, kx_l2, kx_l3, kx_l4, kx_l5, kx_l6, kx_l7, kx_l8, kx_l9, kx_l10, kx_l11, kx_l12, kx_l13, tw_fd, tw_row, hM.g.2.2.2.2.2.2.2.2.2.2.2.1]
theorem sm_traderCount (h : Rel I) : SameI (fun M => F_X11_traderCount N M 1) (fun M => F_X12_traderCount N M 540) I := by
  obtain ⟨nb, nt, hR, hM⟩ := h.2.2.1.row
  intro L
  refine ⟨I 44 12, ?_, fun L' => ⟨tw6 I 0, L', ?_, h.tw, LF.rf'⟩⟩
  · show F_X11_traderCount N (wm Mb I L) 1 = _
    unfold F_X11_traderCount
    simp only [wm_kR, wm_kt, wm_kn, wm_kin, wm_kL, wm_kI, wm_ksI, wm_ksL, wm_kJ, wm_ksJ, kg_t, kl_v, Option.bind_some, x1_t.1, x1_t.2.1, mm_k m169]
  · show F_X12_traderCount N (wm Mb I L') 540 = _
    unfold F_X12_traderCount
    simp only [wm_kR, wm_kt, wm_kn, wm_kin, wm_kL, wm_kI, wm_ksI, wm_ksL, wm_kJ, wm_ksJ, kg_t, kl_v, Option.bind_some, sr_k, sr_0, sr_1, sr_2, sr_3, sr_4, sr_7, sr_8, sr_9, sr_26, sr_27, sr_28, kl_0, kl_1, kl_2, kl_3, kl_4, kl_5, kl_6, kl_7, kl_8, kl_9, kl_10, kl_11, kl_12, kl_13, kx_l0, kx_l1, kx_l2, kx_l3, kx_l4, kx_l5, kx_l6, kx_l7, kx_l8, kx_l9, kx_l10, kx_l11, kx_l12, kx_l13, tw_fd, tw_row, hM.g.2.2.2.2.2.2.2.2.2.2.2.2]
theorem sm_seatsSold (h : Rel I) : SameI (fun M => F_X11_seatsSold N M 1) (fun M => F_X12_seatsSold N M 540) I := by
  obtain ⟨nb, nt, hR, hM⟩ := h.2.2.1.row
  intro L
  refine ⟨I 44 8, ?_, fun L' => ⟨tw6 I 0, L', ?_, h.tw, LF.rf'⟩⟩
  · show F_X11_seatsSold N (wm Mb I L) 1 = _
    unfold F_X11_seatsSold
    simp only [wm_kR, wm_kt, wm_kn, wm_kin, wm_kL, wm_kI, wm_ksI, wm_ksL, wm_kJ, wm_ksJ, kg_t, kl_v, Option.bind_some, x1_t.1, x1_t.2.1, mm_k m169]
  · show F_X12_seatsSold N (wm Mb I L') 540 = _
    unfold F_X12_seatsSold
    simp only [wm_kR, wm_kt, wm_kn, wm_kin, wm_kL, wm_kI, wm_ksI, wm_ksL, wm_kJ, wm_ksJ, kg_t, kl_v, Option.bind_some, sr_k, sr_0, sr_1, sr_2, sr_3, sr_4, sr_7, sr_8, sr_9, sr_26, sr_27, sr_28, kl_0, kl_1, kl_2, kl_3, kl_4, kl_5, kl_6, kl_7, kl_8, kl_9, kl_10, kl_11, kl_12, kl_13, kx_l0, kx_l1, kx_l2, kx_l3, kx_l4, kx_l5, kx_l6, kx_l7, kx_l8, kx_l9, kx_l10, kx_l11, kx_l12, kx_l13, tw_fd, tw_row, hM.g.2.2.2.2.2.2.2.2.1]
theorem sm_weightSold (h : Rel I) : SameI (fun M => F_X11_weightSold N M 1) (fun M => F_X12_weightSold N M 540) I := by
  obtain ⟨nb, nt, hR, hM⟩ := h.2.2.1.row
  intro L
  refine ⟨I 44 9, ?_, fun L' => ⟨tw6 I 0, L', ?_, h.tw, LF.rf'⟩⟩
  · show F_X11_weightSold N (wm Mb I L) 1 = _
    unfold F_X11_weightSold
    simp only [wm_kR, wm_kt, wm_kn, wm_kin, wm_kL, wm_kI, wm_ksI, wm_ksL, wm_kJ, wm_ksJ, kg_t, kl_v, Option.bind_some, x1_t.1, x1_t.2.1, mm_k m169]
  · show F_X12_weightSold N (wm Mb I L') 540 = _
    unfold F_X12_weightSold
    simp only [wm_kR, wm_kt, wm_kn, wm_kin, wm_kL, wm_kI, wm_ksI, wm_ksL, wm_kJ, wm_ksJ, kg_t, kl_v, Option.bind_some, sr_k, sr_0, sr_1, sr_2, sr_3, sr_4, sr_7, sr_8, sr_9, sr_26, sr_27, sr_28, kl_0, kl_1, kl_2, kl_3, kl_4, kl_5, kl_6, kl_7, kl_8, kl_9, kl_10, kl_11, kl_12, kl_13, kx_l0, kx_l1, kx_l2, kx_l3, kx_l4, kx_l5, kx_l6, kx_l7, kx_l8, kx_l9, kx_l10, kx_l11, kx_l12, kx_l13, tw_fd, tw_row, hM.g.2.2.2.2.2.2.2.2.2.1]
theorem sm_fallCount (h : Rel I) : SameI (fun M => F_X11_fallCount N M 1) (fun M => F_X12_fallCount N M 540) I := by
  obtain ⟨nb, nt, hR, hM⟩ := h.2.2.1.row
  intro L
  refine ⟨I 44 10, ?_, fun L' => ⟨tw6 I 0, L', ?_, h.tw, LF.rf'⟩⟩
  · show F_X11_fallCount N (wm Mb I L) 1 = _
    unfold F_X11_fallCount
    simp only [wm_kR, wm_kt, wm_kn, wm_kin, wm_kL, wm_kI, wm_ksI, wm_ksL, wm_kJ, wm_ksJ, kg_t, kl_v, Option.bind_some, x1_t.1, x1_t.2.1, mm_k m169]
  · show F_X12_fallCount N (wm Mb I L') 540 = _
    unfold F_X12_fallCount
    simp only [wm_kR, wm_kt, wm_kn, wm_kin, wm_kL, wm_kI, wm_ksI, wm_ksL, wm_kJ, wm_ksJ, kg_t, kl_v, Option.bind_some, sr_k, sr_0, sr_1, sr_2, sr_3, sr_4, sr_7, sr_8, sr_9, sr_26, sr_27, sr_28, kl_0, kl_1, kl_2, kl_3, kl_4, kl_5, kl_6, kl_7, kl_8, kl_9, kl_10, kl_11, kl_12, kl_13, kx_l0, kx_l1, kx_l2, kx_l3, kx_l4, kx_l5, kx_l6, kx_l7, kx_l8, kx_l9, kx_l10, kx_l11, kx_l12, kx_l13, tw_fd, tw_row, hM.g.2.2.2.2.2.2.2.2.2.2.1]
theorem sm_errorCode (h : Rel I) : SameI (fun M => F_X11_errorCode N M 1) (fun M => F_X12_errorCode N M 540) I := by
  intro L
  refine ⟨I 6 6, ?_, fun L' => ⟨tw6 I 0, L', ?_, h.tw, LF.rf'⟩⟩
  · show F_X11_errorCode N (wm Mb I L) 1 = _
    unfold F_X11_errorCode
    simp only [wm_kR, wm_kt, wm_kn, wm_kin, wm_kL, wm_kI, wm_ksI, wm_ksL, wm_kJ, wm_ksJ, kg_t, kl_v, Option.bind_some, x1_t.1, x1_t.2.2.2.2.2.1, s6.1]
  · show F_X12_errorCode N (wm Mb I L') 540 = _
    have e : tw6 I 0 540 18 = I 6 6 := (tw_o (by decide)).trans h.2.1.1.symm
    unfold F_X12_errorCode
    simp only [wm_kR, wm_kt, wm_kn, wm_kin, wm_kL, wm_kI, wm_ksI, wm_ksL, wm_kJ, wm_ksJ, kg_t, kl_v, Option.bind_some, sr_k, sr_0, sr_1, sr_2, sr_3, sr_4, sr_7, sr_8, sr_9, sr_26, sr_27, sr_28, tw_fd, e]
theorem sm_errorPosition (h : Rel I) : SameI (fun M => F_X11_errorPosition N M 1) (fun M => F_X12_errorPosition N M 540) I := by
  intro L
  refine ⟨I 6 7, ?_, fun L' => ⟨tw6 I 0, L', ?_, h.tw, LF.rf'⟩⟩
  · show F_X11_errorPosition N (wm Mb I L) 1 = _
    unfold F_X11_errorPosition
    simp only [wm_kR, wm_kt, wm_kn, wm_kin, wm_kL, wm_kI, wm_ksI, wm_ksL, wm_kJ, wm_ksJ, kg_t, kl_v, Option.bind_some, x1_t.1, x1_t.2.2.2.2.2.1, s6.1]
  · show F_X12_errorPosition N (wm Mb I L') 540 = _
    have e : tw6 I 0 540 19 = I 6 7 := (tw_o (by decide)).trans h.2.1.2.symm
    unfold F_X12_errorPosition
    simp only [wm_kR, wm_kt, wm_kn, wm_kin, wm_kL, wm_kI, wm_ksI, wm_ksL, wm_kJ, wm_ksJ, kg_t, kl_v, Option.bind_some, sr_k, sr_0, sr_1, sr_2, sr_3, sr_4, sr_7, sr_8, sr_9, sr_26, sr_27, sr_28, tw_fd, e]
theorem sm_undoCount (h : Rel I) : SameI (fun M => F_X11_undoCount N M 1) (fun M => F_X12_undoCount N M 540) I := by
  obtain ⟨nx, u, h1, h2, h3, h4, h5, h6⟩ := h.2.2.2.2.1
  intro L
  refine ⟨nI u, ?_, fun L' => ⟨tw6 I 0, L', ?_, h.tw, LF.rf'⟩⟩
  · show F_X11_undoCount N (wm Mb I L) 1 = _
    have hs2 : kt Mb 126 3 = true := (kt_of (n := 3) 126 (by decide)).1
    unfold F_X11_undoCount
    simp only [wm_kR, wm_kt, wm_kn, wm_kin, wm_kL, wm_kI, wm_ksI, wm_ksL, wm_kJ, wm_ksJ, kg_t, kl_v, Option.bind_some, x1_t.1, x1_t.2.2.1, hs2, h4]
  · show F_X12_undoCount N (wm Mb I L') 540 = _
    have e : tw6 I 0 540 5 = nI u := (tw_o (by decide)).trans h5
    unfold F_X12_undoCount
    simp only [wm_kR, wm_kt, wm_kn, wm_kin, wm_kL, wm_kI, wm_ksI, wm_ksL, wm_kJ, wm_ksJ, kg_t, kl_v, Option.bind_some, sr_k, sr_0, sr_1, sr_2, sr_3, sr_4, sr_7, sr_8, sr_9, sr_26, sr_27, sr_28, tw_fd, e]
theorem sx_weightOf (h : Rel I) (x : Int32) : SameX [(1, 1)] (fun M => F_X11_weightOf N M 1 x) (fun M => F_X12_weightOf N M 540 x) I := by
  obtain ⟨nb, nt, hR, hM⟩ := h.2.2.1.row
  have h24 := hR.nt24
  intro L
  rcases num_cases x (show nt < 1000 by omega) with ⟨t, ht, rfl⟩ | hx
  · refine ⟨.inl (I 541 (89 + 7 * t + 1)), I, ?_, fun L' => ⟨I 541 (89 + 7 * t + 1), tw6 I 0, L', ?_, h.tw, LF.rf', Or.inl ⟨rfl, tw_6⟩⟩⟩
    · show F_X11_weightOf N (wm Mb I L) 1 (nI t) = _
      unfold F_X11_weightOf
      simp only [wm_kR, wm_kt, wm_kn, wm_kin, wm_kL, wm_kI, wm_ksI, wm_ksL, wm_kJ, wm_ksJ, kg_t, kl_v, Option.bind_some, x1_t.1, cx_exT_in hR hM ht, kbx, tt_k m169 (show t < 24 by omega), (hM.tt t ht).1]
    · show F_X12_weightOf N (wm Mb I L') 540 (nI t) = _
      have hh := rx_has1 (N := N) (I := tw6 I 0) (L := L') (r := I 541) (f := I 546) (show t < 24 by omega)
      rw [tw_rf] at hh
      unfold F_X12_weightOf F_X12_asked
      simp only [wm_kR, wm_kt, wm_kn, wm_kin, wm_kL, wm_kI, wm_ksI, wm_ksL, wm_kJ, wm_ksJ, kg_t, kl_v, Option.bind_some, sr_k, sr_0, sr_1, sr_2, sr_3, sr_4, sr_7, sr_8, sr_9, sr_26, sr_27, sr_28, tw_fd, rx_noT_in hR ht, if_true, hh]
  · refine ⟨.inr 1, I, ?_, fun L' => ⟨0, tw6 I 1, L', ?_, h.tw, LF.rf', Or.inr ⟨1, 1, rfl, by simp, tw_6⟩⟩⟩
    · show F_X11_weightOf N (wm Mb I L) 1 x = _
      unfold F_X11_weightOf
      simp only [wm_kR, wm_kt, wm_kn, wm_kin, wm_kL, wm_kI, wm_ksI, wm_ksL, wm_kJ, wm_ksJ, kg_t, kl_v, Option.bind_some, x1_t.1, cx_exT_out hR hM hx, kbx]
    · show F_X12_weightOf N (wm Mb I L') 540 x = _
      unfold F_X12_weightOf F_X12_asked
      simp only [wm_kR, wm_kt, wm_kn, wm_kin, wm_kL, wm_kI, wm_ksI, wm_ksL, wm_kJ, wm_ksJ, kg_t, kl_v, Option.bind_some, sr_k, sr_0, sr_1, sr_2, sr_3, sr_4, sr_7, sr_8, sr_9, sr_26, sr_27, sr_28, tw_fd, rx_noT_out hR hx, if_neg one0]
theorem sx_purseOf (h : Rel I) (x : Int32) : SameX [(1, 1)] (fun M => F_X11_purseOf N M 1 x) (fun M => F_X12_purseOf N M 540 x) I := by
  obtain ⟨nb, nt, hR, hM⟩ := h.2.2.1.row
  have h24 := hR.nt24
  intro L
  rcases num_cases x (show nt < 1000 by omega) with ⟨t, ht, rfl⟩ | hx
  · refine ⟨.inl (I 541 (89 + 7 * t + 2)), I, ?_, fun L' => ⟨I 541 (89 + 7 * t + 2), tw6 I 0, L', ?_, h.tw, LF.rf', Or.inl ⟨rfl, tw_6⟩⟩⟩
    · show F_X11_purseOf N (wm Mb I L) 1 (nI t) = _
      unfold F_X11_purseOf
      simp only [wm_kR, wm_kt, wm_kn, wm_kin, wm_kL, wm_kI, wm_ksI, wm_ksL, wm_kJ, wm_ksJ, kg_t, kl_v, Option.bind_some, x1_t.1, cx_exT_in hR hM ht, kbx, tt_k m169 (show t < 24 by omega), (hM.tt t ht).2.1]
    · show F_X12_purseOf N (wm Mb I L') 540 (nI t) = _
      have hh := rx_has2 (N := N) (I := tw6 I 0) (L := L') (r := I 541) (f := I 546) (show t < 24 by omega)
      rw [tw_rf] at hh
      unfold F_X12_purseOf F_X12_asked
      simp only [wm_kR, wm_kt, wm_kn, wm_kin, wm_kL, wm_kI, wm_ksI, wm_ksL, wm_kJ, wm_ksJ, kg_t, kl_v, Option.bind_some, sr_k, sr_0, sr_1, sr_2, sr_3, sr_4, sr_7, sr_8, sr_9, sr_26, sr_27, sr_28, tw_fd, rx_noT_in hR ht, if_true, hh]
  · refine ⟨.inr 1, I, ?_, fun L' => ⟨0, tw6 I 1, L', ?_, h.tw, LF.rf', Or.inr ⟨1, 1, rfl, by simp, tw_6⟩⟩⟩
    · show F_X11_purseOf N (wm Mb I L) 1 x = _
      unfold F_X11_purseOf
      simp only [wm_kR, wm_kt, wm_kn, wm_kin, wm_kL, wm_kI, wm_ksI, wm_ksL, wm_kJ, wm_ksJ, kg_t, kl_v, Option.bind_some, x1_t.1, cx_exT_out hR hM hx, kbx]
    · show F_X12_purseOf N (wm Mb I L') 540 x = _
      unfold F_X12_purseOf F_X12_asked
      simp only [wm_kR, wm_kt, wm_kn, wm_kin, wm_kL, wm_kI, wm_ksI, wm_ksL, wm_kJ, wm_ksJ, kg_t, kl_v, Option.bind_some, sr_k, sr_0, sr_1, sr_2, sr_3, sr_4, sr_7, sr_8, sr_9, sr_26, sr_27, sr_28, tw_fd, rx_noT_out hR hx, if_neg one0]
theorem sx_ageOf (h : Rel I) (x : Int32) : SameX [(1, 1)] (fun M => F_X11_ageOf N M 1 x) (fun M => F_X12_ageOf N M 540 x) I := by
  obtain ⟨nb, nt, hR, hM⟩ := h.2.2.1.row
  have h24 := hR.nt24
  intro L
  rcases num_cases x (show nt < 1000 by omega) with ⟨t, ht, rfl⟩ | hx
  · refine ⟨.inl (I 541 (89 + 7 * t + 3)), I, ?_, fun L' => ⟨I 541 (89 + 7 * t + 3), tw6 I 0, L', ?_, h.tw, LF.rf', Or.inl ⟨rfl, tw_6⟩⟩⟩
    · show F_X11_ageOf N (wm Mb I L) 1 (nI t) = _
      unfold F_X11_ageOf
      simp only [wm_kR, wm_kt, wm_kn, wm_kin, wm_kL, wm_kI, wm_ksI, wm_ksL, wm_kJ, wm_ksJ, kg_t, kl_v, Option.bind_some, x1_t.1, cx_exT_in hR hM ht, kbx, tt_k m169 (show t < 24 by omega), (hM.tt t ht).2.2.1]
    · show F_X12_ageOf N (wm Mb I L') 540 (nI t) = _
      have hh := rx_has3 (N := N) (I := tw6 I 0) (L := L') (r := I 541) (f := I 546) (show t < 24 by omega)
      rw [tw_rf] at hh
      unfold F_X12_ageOf F_X12_asked
      simp only [wm_kR, wm_kt, wm_kn, wm_kin, wm_kL, wm_kI, wm_ksI, wm_ksL, wm_kJ, wm_ksJ, kg_t, kl_v, Option.bind_some, sr_k, sr_0, sr_1, sr_2, sr_3, sr_4, sr_7, sr_8, sr_9, sr_26, sr_27, sr_28, tw_fd, rx_noT_in hR ht, if_true, hh]
  · refine ⟨.inr 1, I, ?_, fun L' => ⟨0, tw6 I 1, L', ?_, h.tw, LF.rf', Or.inr ⟨1, 1, rfl, by simp, tw_6⟩⟩⟩
    · show F_X11_ageOf N (wm Mb I L) 1 x = _
      unfold F_X11_ageOf
      simp only [wm_kR, wm_kt, wm_kn, wm_kin, wm_kL, wm_kI, wm_ksI, wm_ksL, wm_kJ, wm_ksJ, kg_t, kl_v, Option.bind_some, x1_t.1, cx_exT_out hR hM hx, kbx]
    · show F_X12_ageOf N (wm Mb I L') 540 x = _
      unfold F_X12_ageOf F_X12_asked
      simp only [wm_kR, wm_kt, wm_kn, wm_kin, wm_kL, wm_kI, wm_ksI, wm_ksL, wm_kJ, wm_ksJ, kg_t, kl_v, Option.bind_some, sr_k, sr_0, sr_1, sr_2, sr_3, sr_4, sr_7, sr_8, sr_9, sr_26, sr_27, sr_28, tw_fd, rx_noT_out hR hx, if_neg one0]
theorem sx_boardOf (h : Rel I) (x : Int32) : SameX [(1, 1)] (fun M => F_X11_boardOf N M 1 x) (fun M => F_X12_boardOf N M 540 x) I := by
  obtain ⟨nb, nt, hR, hM⟩ := h.2.2.1.row
  have h24 := hR.nt24
  intro L
  rcases num_cases x (show nt < 1000 by omega) with ⟨t, ht, rfl⟩ | hx
  · refine ⟨.inl (I 541 (89 + 7 * t + 5)), I, ?_, fun L' => ⟨I 541 (89 + 7 * t + 5), tw6 I 0, L', ?_, h.tw, LF.rf', Or.inl ⟨rfl, tw_6⟩⟩⟩
    · show F_X11_boardOf N (wm Mb I L) 1 (nI t) = _
      unfold F_X11_boardOf
      simp only [wm_kR, wm_kt, wm_kn, wm_kin, wm_kL, wm_kI, wm_ksI, wm_ksL, wm_kJ, wm_ksJ, kg_t, kl_v, Option.bind_some, x1_t.1, cx_exT_in hR hM ht, kbx, tt_k m169 (show t < 24 by omega), (hM.tt t ht).2.2.2.2.1]
    · show F_X12_boardOf N (wm Mb I L') 540 (nI t) = _
      have hh := rx_has5 (N := N) (I := tw6 I 0) (L := L') (r := I 541) (f := I 546) (show t < 24 by omega)
      rw [tw_rf] at hh
      unfold F_X12_boardOf F_X12_asked
      simp only [wm_kR, wm_kt, wm_kn, wm_kin, wm_kL, wm_kI, wm_ksI, wm_ksL, wm_kJ, wm_ksJ, kg_t, kl_v, Option.bind_some, sr_k, sr_0, sr_1, sr_2, sr_3, sr_4, sr_7, sr_8, sr_9, sr_26, sr_27, sr_28, tw_fd, rx_noT_in hR ht, if_true, hh]
  · refine ⟨.inr 1, I, ?_, fun L' => ⟨0, tw6 I 1, L', ?_, h.tw, LF.rf', Or.inr ⟨1, 1, rfl, by simp, tw_6⟩⟩⟩
    · show F_X11_boardOf N (wm Mb I L) 1 x = _
      unfold F_X11_boardOf
      simp only [wm_kR, wm_kt, wm_kn, wm_kin, wm_kL, wm_kI, wm_ksI, wm_ksL, wm_kJ, wm_ksJ, kg_t, kl_v, Option.bind_some, x1_t.1, cx_exT_out hR hM hx, kbx]
    · show F_X12_boardOf N (wm Mb I L') 540 x = _
      unfold F_X12_boardOf F_X12_asked
      simp only [wm_kR, wm_kt, wm_kn, wm_kin, wm_kL, wm_kI, wm_ksI, wm_ksL, wm_kJ, wm_ksJ, kg_t, kl_v, Option.bind_some, sr_k, sr_0, sr_1, sr_2, sr_3, sr_4, sr_7, sr_8, sr_9, sr_26, sr_27, sr_28, tw_fd, rx_noT_out hR hx, if_neg one0]
theorem sx_positionOf (h : Rel I) (x : Int32) : SameX [(1, 1)] (fun M => F_X11_positionOf N M 1 x) (fun M => F_X12_positionOf N M 540 x) I := by
  obtain ⟨nb, nt, hR, hM⟩ := h.2.2.1.row
  have h24 := hR.nt24
  intro L
  rcases num_cases x (show nt < 1000 by omega) with ⟨t, ht, rfl⟩ | hx
  · refine ⟨.inl (I 541 (89 + 7 * t + 6)), I, ?_, fun L' => ⟨I 541 (89 + 7 * t + 6), tw6 I 0, L', ?_, h.tw, LF.rf', Or.inl ⟨rfl, tw_6⟩⟩⟩
    · show F_X11_positionOf N (wm Mb I L) 1 (nI t) = _
      unfold F_X11_positionOf
      simp only [wm_kR, wm_kt, wm_kn, wm_kin, wm_kL, wm_kI, wm_ksI, wm_ksL, wm_kJ, wm_ksJ, kg_t, kl_v, Option.bind_some, x1_t.1, cx_exT_in hR hM ht, kbx, tt_k m169 (show t < 24 by omega), (hM.tt t ht).2.2.2.2.2]
    · show F_X12_positionOf N (wm Mb I L') 540 (nI t) = _
      have hh := rx_has6 (N := N) (I := tw6 I 0) (L := L') (r := I 541) (f := I 546) (show t < 24 by omega)
      rw [tw_rf] at hh
      unfold F_X12_positionOf F_X12_asked
      simp only [wm_kR, wm_kt, wm_kn, wm_kin, wm_kL, wm_kI, wm_ksI, wm_ksL, wm_kJ, wm_ksJ, kg_t, kl_v, Option.bind_some, sr_k, sr_0, sr_1, sr_2, sr_3, sr_4, sr_7, sr_8, sr_9, sr_26, sr_27, sr_28, tw_fd, rx_noT_in hR ht, if_true, hh]
  · refine ⟨.inr 1, I, ?_, fun L' => ⟨0, tw6 I 1, L', ?_, h.tw, LF.rf', Or.inr ⟨1, 1, rfl, by simp, tw_6⟩⟩⟩
    · show F_X11_positionOf N (wm Mb I L) 1 x = _
      unfold F_X11_positionOf
      simp only [wm_kR, wm_kt, wm_kn, wm_kin, wm_kL, wm_kI, wm_ksI, wm_ksL, wm_kJ, wm_ksJ, kg_t, kl_v, Option.bind_some, x1_t.1, cx_exT_out hR hM hx, kbx]
    · show F_X12_positionOf N (wm Mb I L') 540 x = _
      unfold F_X12_positionOf F_X12_asked
      simp only [wm_kR, wm_kt, wm_kn, wm_kin, wm_kL, wm_kI, wm_ksI, wm_ksL, wm_kJ, wm_ksJ, kg_t, kl_v, Option.bind_some, sr_k, sr_0, sr_1, sr_2, sr_3, sr_4, sr_7, sr_8, sr_9, sr_26, sr_27, sr_28, tw_fd, rx_noT_out hR hx, if_neg one0]
theorem sx_armLength (h : Rel I) (x : Int32) : SameX [(1, 1)] (fun M => F_X11_armLength N M 1 x) (fun M => F_X12_armLength N M 540 x) I := by
  obtain ⟨nb, nt, hR, hM⟩ := h.2.2.1.row
  have h5 := hR.nb5
  intro L
  rcases num_cases x (show nb < 1000 by omega) with ⟨b, hb, rfl⟩ | hx
  · refine ⟨.inl (I 541 (14 + 15 * b + 0)), I, ?_, fun L' => ⟨I 541 (14 + 15 * b + 0), tw6 I 0, L', ?_, h.tw, LF.rf', Or.inl ⟨rfl, tw_6⟩⟩⟩
    · show F_X11_armLength N (wm Mb I L) 1 (nI b) = _
      unfold F_X11_armLength
      simp only [wm_kR, wm_kt, wm_kn, wm_kin, wm_kL, wm_kI, wm_ksI, wm_ksL, wm_kJ, wm_ksJ, kg_t, kl_v, Option.bind_some, x1_t.1, cx_exB_in hR hM hb, kbx, bb_k m169 (show b < 5 by omega), (hM.bb b hb).1]
    · show F_X12_armLength N (wm Mb I L') 540 (nI b) = _
      have hh := rx_ofB0 (N := N) (I := tw6 I 0) (L := L') (r := I 541) (f := I 546) (show b < 5 by omega)
      rw [tw_rf] at hh
      unfold F_X12_armLength
      simp only [wm_kR, wm_kt, wm_kn, wm_kin, wm_kL, wm_kI, wm_ksI, wm_ksL, wm_kJ, wm_ksJ, kg_t, kl_v, Option.bind_some, sr_k, sr_0, sr_1, sr_2, sr_3, sr_4, sr_7, sr_8, sr_9, sr_26, sr_27, sr_28, tw_fd, rx_noB_in hR hb, if_true, hh]
  · refine ⟨.inr 1, I, ?_, fun L' => ⟨0, tw6 I 1, L', ?_, h.tw, LF.rf', Or.inr ⟨1, 1, rfl, by simp, tw_6⟩⟩⟩
    · show F_X11_armLength N (wm Mb I L) 1 x = _
      unfold F_X11_armLength
      simp only [wm_kR, wm_kt, wm_kn, wm_kin, wm_kL, wm_kI, wm_ksI, wm_ksL, wm_kJ, wm_ksJ, kg_t, kl_v, Option.bind_some, x1_t.1, cx_exB_out hR hM hx, kbx]
    · show F_X12_armLength N (wm Mb I L') 540 x = _
      unfold F_X12_armLength
      simp only [wm_kR, wm_kt, wm_kn, wm_kin, wm_kL, wm_kI, wm_ksI, wm_ksL, wm_kJ, wm_ksJ, kg_t, kl_v, Option.bind_some, sr_k, sr_0, sr_1, sr_2, sr_3, sr_4, sr_7, sr_8, sr_9, sr_26, sr_27, sr_28, tw_fd, rx_noB_out hR hx, if_neg one0]
theorem sx_stiffness (h : Rel I) (x : Int32) : SameX [(1, 1)] (fun M => F_X11_stiffness N M 1 x) (fun M => F_X12_stiffness N M 540 x) I := by
  obtain ⟨nb, nt, hR, hM⟩ := h.2.2.1.row
  have h5 := hR.nb5
  intro L
  rcases num_cases x (show nb < 1000 by omega) with ⟨b, hb, rfl⟩ | hx
  · refine ⟨.inl (I 541 (14 + 15 * b + 1)), I, ?_, fun L' => ⟨I 541 (14 + 15 * b + 1), tw6 I 0, L', ?_, h.tw, LF.rf', Or.inl ⟨rfl, tw_6⟩⟩⟩
    · show F_X11_stiffness N (wm Mb I L) 1 (nI b) = _
      unfold F_X11_stiffness
      simp only [wm_kR, wm_kt, wm_kn, wm_kin, wm_kL, wm_kI, wm_ksI, wm_ksL, wm_kJ, wm_ksJ, kg_t, kl_v, Option.bind_some, x1_t.1, cx_exB_in hR hM hb, kbx, bb_k m169 (show b < 5 by omega), (hM.bb b hb).2.1]
    · show F_X12_stiffness N (wm Mb I L') 540 (nI b) = _
      have hh := rx_ofB1 (N := N) (I := tw6 I 0) (L := L') (r := I 541) (f := I 546) (show b < 5 by omega)
      rw [tw_rf] at hh
      unfold F_X12_stiffness
      simp only [wm_kR, wm_kt, wm_kn, wm_kin, wm_kL, wm_kI, wm_ksI, wm_ksL, wm_kJ, wm_ksJ, kg_t, kl_v, Option.bind_some, sr_k, sr_0, sr_1, sr_2, sr_3, sr_4, sr_7, sr_8, sr_9, sr_26, sr_27, sr_28, tw_fd, rx_noB_in hR hb, if_true, hh]
  · refine ⟨.inr 1, I, ?_, fun L' => ⟨0, tw6 I 1, L', ?_, h.tw, LF.rf', Or.inr ⟨1, 1, rfl, by simp, tw_6⟩⟩⟩
    · show F_X11_stiffness N (wm Mb I L) 1 x = _
      unfold F_X11_stiffness
      simp only [wm_kR, wm_kt, wm_kn, wm_kin, wm_kL, wm_kI, wm_ksI, wm_ksL, wm_kJ, wm_ksJ, kg_t, kl_v, Option.bind_some, x1_t.1, cx_exB_out hR hM hx, kbx]
    · show F_X12_stiffness N (wm Mb I L') 540 x = _
      unfold F_X12_stiffness
      simp only [wm_kR, wm_kt, wm_kn, wm_kin, wm_kL, wm_kI, wm_ksI, wm_ksL, wm_kJ, wm_ksJ, kg_t, kl_v, Option.bind_some, sr_k, sr_0, sr_1, sr_2, sr_3, sr_4, sr_7, sr_8, sr_9, sr_26, sr_27, sr_28, tw_fd, rx_noB_out hR hx, if_neg one0]
theorem sx_torque (h : Rel I) (x : Int32) (hN : 100 < N) : SameX [(1, 1)] (fun M => F_X11_torque N M 1 x) (fun M => F_X12_torque N M 540 x) I := by
  obtain ⟨nb, nt, hR, hM⟩ := h.2.2.1.row
  have h5 := hR.nb5
  intro L
  rcases num_cases x (show nb < 1000 by omega) with ⟨b, hb, rfl⟩ | hx
  · refine ⟨.inl (tqr (I 541) nt b), I, ?_, fun L' => ⟨tqr (I 541) nt b, tw6 I 0, L', ?_, h.tw, LF.rf', Or.inl ⟨rfl, tw_6⟩⟩⟩
    · show F_X11_torque N (wm Mb I L) 1 (nI b) = _
      unfold F_X11_torque
      simp only [wm_kR, wm_kt, wm_kn, wm_kin, wm_kL, wm_kI, wm_ksI, wm_ksL, wm_kJ, wm_ksJ, kg_t, kl_v, Option.bind_some, x1_t.1, x1_t.2.1, mm_k m169, cx_exB_in hR hM hb, kbx, cx_tq m169 (show b < 5 by omega) hR hM hN]
    · show F_X12_torque N (wm Mb I L') 540 (nI b) = _
      have hh := rx_tqr (N := N) (I := tw6 I 0) (L := L') (f := I 546) hR hb hN
      rw [tw_rf] at hh
      unfold F_X12_torque
      simp only [wm_kR, wm_kt, wm_kn, wm_kin, wm_kL, wm_kI, wm_ksI, wm_ksL, wm_kJ, wm_ksJ, kg_t, kl_v, Option.bind_some, sr_k, sr_0, sr_1, sr_2, sr_3, sr_4, sr_7, sr_8, sr_9, sr_26, sr_27, sr_28, tw_fd, rx_noB_in hR hb, if_true, hh]
  · refine ⟨.inr 1, I, ?_, fun L' => ⟨0, tw6 I 1, L', ?_, h.tw, LF.rf', Or.inr ⟨1, 1, rfl, by simp, tw_6⟩⟩⟩
    · show F_X11_torque N (wm Mb I L) 1 x = _
      unfold F_X11_torque
      simp only [wm_kR, wm_kt, wm_kn, wm_kin, wm_kL, wm_kI, wm_ksI, wm_ksL, wm_kJ, wm_ksJ, kg_t, kl_v, Option.bind_some, x1_t.1, cx_exB_out hR hM hx, kbx]
    · show F_X12_torque N (wm Mb I L') 540 x = _
      unfold F_X12_torque
      simp only [wm_kR, wm_kt, wm_kn, wm_kin, wm_kL, wm_kI, wm_ksI, wm_ksL, wm_kJ, wm_ksJ, kg_t, kl_v, Option.bind_some, sr_k, sr_0, sr_1, sr_2, sr_3, sr_4, sr_7, sr_8, sr_9, sr_26, sr_27, sr_28, tw_fd, rx_noB_out hR hx, if_neg one0]
theorem sx_tilt (h : Rel I) (x : Int32) (hN : 100 < N) : SameX [(1, 1)] (fun M => F_X11_tilt N M 1 x) (fun M => F_X12_tilt N M 540 x) I := by
  obtain ⟨nb, nt, hR, hM⟩ := h.2.2.1.row
  have h5 := hR.nb5
  intro L
  rcases num_cases x (show nb < 1000 by omega) with ⟨b, hb, rfl⟩ | hx
  · refine ⟨.inl (tl (I 541) b (tqr (I 541) nt b)), I, ?_, fun L' => ⟨tl (I 541) b (tqr (I 541) nt b), tw6 I 0, L', ?_, h.tw, LF.rf', Or.inl ⟨rfl, tw_6⟩⟩⟩
    · show F_X11_tilt N (wm Mb I L) 1 (nI b) = _
      unfold F_X11_tilt
      simp only [wm_kR, wm_kt, wm_kn, wm_kin, wm_kL, wm_kI, wm_ksI, wm_ksL, wm_kJ, wm_ksJ, kg_t, kl_v, Option.bind_some, x1_t.1, x1_t.2.1, mm_k m169, cx_exB_in hR hM hb, kbx, cx_tq m169 (show b < 5 by omega) hR hM hN, bb_k m169 (show b < 5 by omega), cx_tl m169 hR hM hb]
    · show F_X12_tilt N (wm Mb I L') 540 (nI b) = _
      have hh := rx_tqr (N := N) (I := tw6 I 0) (L := L') (f := I 546) hR hb hN
      have h2 := rx_tilt (N := N) (I := tw6 I 0) (L := L') (f := I 546) hR hb (tqr (I 541) nt b)
      rw [tw_rf] at hh h2
      unfold F_X12_tilt
      simp only [wm_kR, wm_kt, wm_kn, wm_kin, wm_kL, wm_kI, wm_ksI, wm_ksL, wm_kJ, wm_ksJ, kg_t, kl_v, Option.bind_some, sr_k, sr_0, sr_1, sr_2, sr_3, sr_4, sr_7, sr_8, sr_9, sr_26, sr_27, sr_28, tw_fd, rx_noB_in hR hb, if_true, hh, h2]
  · refine ⟨.inr 1, I, ?_, fun L' => ⟨0, tw6 I 1, L', ?_, h.tw, LF.rf', Or.inr ⟨1, 1, rfl, by simp, tw_6⟩⟩⟩
    · show F_X11_tilt N (wm Mb I L) 1 x = _
      unfold F_X11_tilt
      simp only [wm_kR, wm_kt, wm_kn, wm_kin, wm_kL, wm_kI, wm_ksI, wm_ksL, wm_kJ, wm_ksJ, kg_t, kl_v, Option.bind_some, x1_t.1, cx_exB_out hR hM hx, kbx]
    · show F_X12_tilt N (wm Mb I L') 540 x = _
      unfold F_X12_tilt
      simp only [wm_kR, wm_kt, wm_kn, wm_kin, wm_kL, wm_kI, wm_ksI, wm_ksL, wm_kJ, wm_ksJ, kg_t, kl_v, Option.bind_some, sr_k, sr_0, sr_1, sr_2, sr_3, sr_4, sr_7, sr_8, sr_9, sr_26, sr_27, sr_28, tw_fd, rx_noB_out hR hx, if_neg one0]
theorem sx_isBalanced (h : Rel I) (x : Int32) (hN : 100 < N) : SameX [(1, 1)] (fun M => F_X11_isBalanced N M 1 x) (fun M => F_X12_isBalanced N M 540 x) I := by
  obtain ⟨nb, nt, hR, hM⟩ := h.2.2.1.row
  have h5 := hR.nb5
  intro L
  rcases num_cases x (show nb < 1000 by omega) with ⟨b, hb, rfl⟩ | hx
  · refine ⟨.inl (if tqr (I 541) nt b = 0 then 1 else 0), I, ?_, fun L' => ⟨(if tqr (I 541) nt b = 0 then 1 else 0), tw6 I 0, L', ?_, h.tw, LF.rf', Or.inl ⟨rfl, tw_6⟩⟩⟩
    · show F_X11_isBalanced N (wm Mb I L) 1 (nI b) = _
      unfold F_X11_isBalanced
      simp only [wm_kR, wm_kt, wm_kn, wm_kin, wm_kL, wm_kI, wm_ksI, wm_ksL, wm_kJ, wm_ksJ, kg_t, kl_v, Option.bind_some, x1_t.1, x1_t.2.1, mm_k m169, cx_exB_in hR hM hb, kbx, cx_tq m169 (show b < 5 by omega) hR hM hN]
      by_cases z : tqr (I 541) nt b = 0
      · simp only [z, if_true]
      · simp only [z, if_false]
    · show F_X12_isBalanced N (wm Mb I L') 540 (nI b) = _
      have hh := rx_tqr (N := N) (I := tw6 I 0) (L := L') (f := I 546) hR hb hN
      rw [tw_rf] at hh
      unfold F_X12_isBalanced
      simp only [wm_kR, wm_kt, wm_kn, wm_kin, wm_kL, wm_kI, wm_ksI, wm_ksL, wm_kJ, wm_ksJ, kg_t, kl_v, Option.bind_some, sr_k, sr_0, sr_1, sr_2, sr_3, sr_4, sr_7, sr_8, sr_9, sr_26, sr_27, sr_28, tw_fd, rx_noB_in hR hb, if_true, hh]
      by_cases z : tqr (I 541) nt b = 0
      · simp only [z, if_true]
      · simp only [z, if_false]
  · refine ⟨.inr 1, I, ?_, fun L' => ⟨0, tw6 I 1, L', ?_, h.tw, LF.rf', Or.inr ⟨1, 1, rfl, by simp, tw_6⟩⟩⟩
    · show F_X11_isBalanced N (wm Mb I L) 1 x = _
      unfold F_X11_isBalanced
      simp only [wm_kR, wm_kt, wm_kn, wm_kin, wm_kL, wm_kI, wm_ksI, wm_ksL, wm_kJ, wm_ksJ, kg_t, kl_v, Option.bind_some, x1_t.1, cx_exB_out hR hM hx, kbx]
    · show F_X12_isBalanced N (wm Mb I L') 540 x = _
      unfold F_X12_isBalanced
      simp only [wm_kR, wm_kt, wm_kn, wm_kin, wm_kL, wm_kI, wm_ksI, wm_ksL, wm_kJ, wm_ksJ, kg_t, kl_v, Option.bind_some, sr_k, sr_0, sr_1, sr_2, sr_3, sr_4, sr_7, sr_8, sr_9, sr_26, sr_27, sr_28, tw_fd, rx_noB_out hR hx, if_neg one0]
end
