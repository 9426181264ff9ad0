/-! more calls that look -/
section
variable {N : Nat} {I : kInts} {r s f : Nat → Int32} {nb nt : Nat}
theorem sx_isPresent (h : Rel I) (x : Int32) (hN : 100 < N) : SameX [(1, 1)] (fun M => F_X11_isPresent N M 1 x) (fun M => F_X12_isPresent N M 540 x) I := by
  obtain ⟨nb, nt, hR, hM⟩ := h.2.2.1.row
  have h5 := hR.nb5
  have h24 := hR.nt24
  intro L
  rcases num_cases x (show nt < 1000 by omega) with ⟨t, ht, rfl⟩ | hx
  · refine ⟨.inl (if I 541 (89 + 7 * t + 4) = 1 then 1 else 0), I, ?_, fun L' => ⟨if I 541 (89 + 7 * t + 4) = 1 then 1 else 0, tw6 I 0, L', ?_, h.tw, LF.rf', Or.inl ⟨rfl, tw_6⟩⟩⟩
    · show F_X11_isPresent N (wm Mb I L) 1 (nI t) = _
      have e := (hM.tt t ht).2.2.2.1
      have e2 := hM.nu.2.2 t (show t < 24 by omega)
      rw [e] at e2
      unfold F_X11_isPresent
      simp only [wm_kR, wm_kt, wm_kn, wm_kin, wm_kL, wm_kI, wm_ksI, wm_ksL, wm_kJ, wm_ksJ, kg_t, kl_v, Option.bind_some, x1_t.1, cx_exT_in hR hM ht, kbx, tt_k m169 (show t < 24 by omega), e]
      rcases e2 with z | z <;> rw [z] <;> rfl
    · show F_X12_isPresent N (wm Mb I L') 540 (nI t) = _
      have hh := rx_has4 (N := N) (I := tw6 I 0) (L := L') (r := I 541) (f := I 546) (show t < 24 by omega)
      rw [tw_rf] at hh
      unfold F_X12_isPresent
      simp only [wm_kR, wm_kt, wm_kn, wm_kin, wm_kL, wm_kI, wm_ksI, wm_ksL, wm_kJ, wm_ksJ, kg_t, kl_v, Option.bind_some, sr_k, sr_0, sr_1, sr_2, sr_3, sr_4, sr_7, sr_8, sr_9, sr_26, sr_27, sr_28, tw_fd, rx_noT_in hR ht, if_true, hh]
      by_cases z : I 541 (89 + 7 * t + 4) = 1
      · simp only [z, if_true]
      · simp only [z, if_false]
  · refine ⟨.inr 1, I, ?_, fun L' => ⟨0, tw6 I 1, L', ?_, h.tw, LF.rf', Or.inr ⟨1, 1, rfl, by simp, tw_6⟩⟩⟩
    · show F_X11_isPresent N (wm Mb I L) 1 x = _
      unfold F_X11_isPresent
      simp only [wm_kR, wm_kt, wm_kn, wm_kin, wm_kL, wm_kI, wm_ksI, wm_ksL, wm_kJ, wm_ksJ, kg_t, kl_v, Option.bind_some, x1_t.1, x1_t.2.1, cx_exT_out hR hM hx, kbx]
    · show F_X12_isPresent N (wm Mb I L') 540 x = _
      unfold F_X12_isPresent
      simp only [wm_kR, wm_kt, wm_kn, wm_kin, wm_kL, wm_kI, wm_ksI, wm_ksL, wm_kJ, wm_ksJ, kg_t, kl_v, Option.bind_some, sr_k, sr_0, sr_1, sr_2, sr_3, sr_4, sr_7, sr_8, sr_9, sr_26, sr_27, sr_28, tw_fd, rx_noT_out hR hx, if_neg one0]
theorem sx_incomeOf (h : Rel I) (x : Int32) (hN : 100 < N) : SameX [(1, 1)] (fun M => F_X11_incomeOf N M 1 x) (fun M => F_X12_incomeOf N M 540 x) I := by
  obtain ⟨nb, nt, hR, hM⟩ := h.2.2.1.row
  have h5 := hR.nb5
  have h24 := hR.nt24
  intro L
  rcases num_cases x (show nt < 1000 by omega) with ⟨t, ht, rfl⟩ | hx
  · refine ⟨.inl (if I 541 (89 + 7 * t + 5) = -1 then 0 else I 541 0 + oh (I 541) nt t), I, ?_, fun L' => ⟨if I 541 (89 + 7 * t + 5) = -1 then 0 else I 541 0 + oh (I 541) nt t, tw6 I 0, L', ?_, h.tw, LF.rf', Or.inl ⟨rfl, tw_6⟩⟩⟩
    · show F_X11_incomeOf N (wm Mb I L) 1 (nI t) = _
      unfold F_X11_incomeOf
      simp only [wm_kR, wm_kt, wm_kn, wm_kin, wm_kL, wm_kI, wm_ksI, wm_ksL, wm_kJ, wm_ksJ, kg_t, kl_v, Option.bind_some, x1_t.1, x1_t.2.1, mm_k m169, cx_exT_in hR hM ht, kbx, cx_inc m169 hR hM ht hN]
    · show F_X12_incomeOf N (wm Mb I L') 540 (nI t) = _
      have hse := rx_seated (N := N) (I := tw6 I 0) (L := L') (r := I 541) (f := I 546) (show t < 24 by omega)
      rw [tw_rf] at hse
      unfold F_X12_incomeOf
      simp only [wm_kR, wm_kt, wm_kn, wm_kin, wm_kL, wm_kI, wm_ksI, wm_ksL, wm_kJ, wm_ksJ, kg_t, kl_v, Option.bind_some, sr_k, sr_0, sr_1, sr_2, sr_3, sr_4, sr_7, sr_8, sr_9, sr_26, sr_27, sr_28, kl_0, kl_1, kl_2, kl_3, kl_4, kl_5, kl_6, kl_7, kl_8, kl_9, kl_10, kl_11, kl_12, kl_13, kx_l0, kx_l1, kx_l2, kx_l3, kx_l4, kx_l5, kx_l6, kx_l7, kx_l8, kx_l9, kx_l10, kx_l11, kx_l12, kx_l13, tw_fd, tw_row, rx_noT_in hR ht, if_true, hse]
      by_cases z : I 541 (89 + 7 * t + 5) = -1
      · simp only [z, if_true]
      · obtain ⟨b, q, hs⟩ := hR.seat ht z
        have hoh := rx_oh (N := N) (I := tw6 I 0) (L := L') (f := I 546) hR ht hs hN
        rw [tw_rf] at hoh
        simp only [z, if_false, if_neg one0, hoh, Option.bind_some]
  · refine ⟨.inr 1, I, ?_, fun L' => ⟨0, tw6 I 1, L', ?_, h.tw, LF.rf', Or.inr ⟨1, 1, rfl, by simp, tw_6⟩⟩⟩
    · show F_X11_incomeOf N (wm Mb I L) 1 x = _
      unfold F_X11_incomeOf
      simp only [wm_kR, wm_kt, wm_kn, wm_kin, wm_kL, wm_kI, wm_ksI, wm_ksL, wm_kJ, wm_ksJ, kg_t, kl_v, Option.bind_some, x1_t.1, x1_t.2.1, cx_exT_out hR hM hx, kbx]
    · show F_X12_incomeOf N (wm Mb I L') 540 x = _
      unfold F_X12_incomeOf
      simp only [wm_kR, wm_kt, wm_kn, wm_kin, wm_kL, wm_kI, wm_ksI, wm_ksL, wm_kJ, wm_ksJ, kg_t, kl_v, Option.bind_some, sr_k, sr_0, sr_1, sr_2, sr_3, sr_4, sr_7, sr_8, sr_9, sr_26, sr_27, sr_28, tw_fd, rx_noT_out hR hx, if_neg one0]
theorem sx_daysUntilRetirement (h : Rel I) (x : Int32) (hN : 100 < N) : SameX [(1, 1)] (fun M => F_X11_daysUntilRetirement N M 1 x) (fun M => F_X12_daysUntilRetirement N M 540 x) I := by
  obtain ⟨nb, nt, hR, hM⟩ := h.2.2.1.row
  have h5 := hR.nb5
  have h24 := hR.nt24
  intro L
  rcases num_cases x (show nt < 1000 by omega) with ⟨t, ht, rfl⟩ | hx
  · refine ⟨.inl (if I 541 (89 + 7 * t + 4) = 0 then 0 else (I 541 3 + 1) - I 541 (89 + 7 * t + 3)), I, ?_, fun L' => ⟨if I 541 (89 + 7 * t + 4) = 0 then 0 else (I 541 3 + 1) - I 541 (89 + 7 * t + 3), tw6 I 0, L', ?_, h.tw, LF.rf', Or.inl ⟨rfl, tw_6⟩⟩⟩
    · show F_X11_daysUntilRetirement N (wm Mb I L) 1 (nI t) = _
      unfold F_X11_daysUntilRetirement
      simp only [wm_kR, wm_kt, wm_kn, wm_kin, wm_kL, wm_kI, wm_ksI, wm_ksL, wm_kJ, wm_ksJ, kg_t, kl_v, Option.bind_some, x1_t.1, x1_t.2.1, mm_k m169, cx_exT_in hR hM ht, kbx, tt_k m169 (show t < 24 by omega), (hM.tt t ht).2.2.2.1, (hM.tt t ht).2.2.1, hM.ret]
      by_cases z : I 541 (89 + 7 * t + 4) = 0
      · simp only [z, if_true]
      · simp only [z, if_false]
        have : I 541 3 - I 541 (89 + 7 * t + 3) + 1 = I 541 3 + 1 - I 541 (89 + 7 * t + 3) := by grind
        rw [this]
    · show F_X12_daysUntilRetirement N (wm Mb I L') 540 (nI t) = _
      have hh := rx_has4 (N := N) (I := tw6 I 0) (L := L') (r := I 541) (f := I 546) (show t < 24 by omega)
      have h3 := rx_has3 (N := N) (I := tw6 I 0) (L := L') (r := I 541) (f := I 546) (show t < 24 by omega)
      rw [tw_rf] at hh h3
      unfold F_X12_daysUntilRetirement
      simp only [wm_kR, wm_kt, wm_kn, wm_kin, wm_kL, wm_kI, wm_ksI, wm_ksL, wm_kJ, wm_ksJ, kg_t, kl_v, Option.bind_some, sr_k, sr_0, sr_1, sr_2, sr_3, sr_4, sr_7, sr_8, sr_9, sr_26, sr_27, sr_28, kl_0, kl_1, kl_2, kl_3, kl_4, kl_5, kl_6, kl_7, kl_8, kl_9, kl_10, kl_11, kl_12, kl_13, kx_l0, kx_l1, kx_l2, kx_l3, kx_l4, kx_l5, kx_l6, kx_l7, kx_l8, kx_l9, kx_l10, kx_l11, kx_l12, kx_l13, tw_fd, tw_row, rx_noT_in hR ht, if_true, hh, h3]
      by_cases z : I 541 (89 + 7 * t + 4) = 0
      · simp only [z, if_true]
      · simp only [z, if_false]
  · refine ⟨.inr 1, I, ?_, fun L' => ⟨0, tw6 I 1, L', ?_, h.tw, LF.rf', Or.inr ⟨1, 1, rfl, by simp, tw_6⟩⟩⟩
    · show F_X11_daysUntilRetirement N (wm Mb I L) 1 x = _
      unfold F_X11_daysUntilRetirement
      simp only [wm_kR, wm_kt, wm_kn, wm_kin, wm_kL, wm_kI, wm_ksI, wm_ksL, wm_kJ, wm_ksJ, kg_t, kl_v, Option.bind_some, x1_t.1, x1_t.2.1, cx_exT_out hR hM hx, kbx]
    · show F_X12_daysUntilRetirement N (wm Mb I L') 540 x = _
      unfold F_X12_daysUntilRetirement
      simp only [wm_kR, wm_kt, wm_kn, wm_kin, wm_kL, wm_kI, wm_ksI, wm_ksL, wm_kJ, wm_ksJ, kg_t, kl_v, Option.bind_some, sr_k, sr_0, sr_1, sr_2, sr_3, sr_4, sr_7, sr_8, sr_9, sr_26, sr_27, sr_28, tw_fd, rx_noT_out hR hx, if_neg one0]
theorem sx_nameLetter (h : Rel I) (x y : Int32) (hN : 100 < N) : SameX [(1, 1)] (fun M => F_X11_nameLetter N M 1 x y) (fun M => F_X12_nameLetter N M 540 x y) I := by
  obtain ⟨nb, nt, hR, hM⟩ := h.2.2.1.row
  have h5 := hR.nb5
  have h24 := hR.nt24
  intro L
  rcases num_cases x (show nt < 1000 by omega) with ⟨t, ht, rfl⟩ | hx
  · obtain ⟨n, f, g1, g2, g3, g5⟩ := hM.n t ht
    refine ⟨.inl (if y < 0 ∨ nI n ≤ y then -1 else nI (96 + f (kx y))), I, ?_, fun L' => ⟨if y < 0 ∨ nI n ≤ y then -1 else nI (96 + f (kx y)), tw6 I 0, L', ?_, h.tw, LF.rf', Or.inl ⟨rfl, tw_6⟩⟩⟩
    · show F_X11_nameLetter N (wm Mb I L) 1 (nI t) y = _
      unfold F_X11_nameLetter
      simp only [wm_kR, wm_kt, wm_kn, wm_kin, wm_kL, wm_kI, wm_ksI, wm_ksL, wm_kJ, wm_ksJ, kg_t, kl_v, Option.bind_some, x1_t.1, cx_exT_in hR hM ht, kbx, tt_k m169 (show t < 24 by omega), g3, cx_letterOf _ g1.2 g2 y]
    · show F_X12_nameLetter N (wm Mb I L') 540 (nI t) y = _
      have hh := rx_has0 (N := N) (I := tw6 I 0) (L := L') (r := I 541) (f := I 546) (show t < 24 by omega)
      rw [tw_rf, g5] at hh
      unfold F_X12_nameLetter
      simp only [wm_kR, wm_kt, wm_kn, wm_kin, wm_kL, wm_kI, wm_ksI, wm_ksL, wm_kJ, wm_ksJ, kg_t, kl_v, Option.bind_some, sr_k, sr_0, sr_1, sr_2, sr_3, sr_4, sr_7, sr_8, sr_9, sr_26, sr_27, sr_28, tw_fd, rx_noT_in hR ht, if_true, hh, rx_letter _ g1.1 g1.2 g2 y hN]
  · refine ⟨.inr 1, I, ?_, fun L' => ⟨0, tw6 I 1, L', ?_, h.tw, LF.rf', Or.inr ⟨1, 1, rfl, by simp, tw_6⟩⟩⟩
    · show F_X11_nameLetter N (wm Mb I L) 1 x y = _
      unfold F_X11_nameLetter
      simp only [wm_kR, wm_kt, wm_kn, wm_kin, wm_kL, wm_kI, wm_ksI, wm_ksL, wm_kJ, wm_ksJ, kg_t, kl_v, Option.bind_some, x1_t.1, x1_t.2.1, cx_exT_out hR hM hx, kbx]
    · show F_X12_nameLetter N (wm Mb I L') 540 x y = _
      unfold F_X12_nameLetter
      simp only [wm_kR, wm_kt, wm_kn, wm_kin, wm_kL, wm_kI, wm_ksI, wm_ksL, wm_kJ, wm_ksJ, kg_t, kl_v, Option.bind_some, sr_k, sr_0, sr_1, sr_2, sr_3, sr_4, sr_7, sr_8, sr_9, sr_26, sr_27, sr_28, tw_fd, rx_noT_out hR hx, if_neg one0]
end
