/-! calls that look: events, seats, reasons, prices -/
section
variable {N : Nat} {I : kInts} {r s f : Nat → Int32} {nb nt : Nat}
theorem cx_hasEv {m : Nat} {L : kLngs} (hm : m ∈ mks) {e : Nat} (he : e ≤ 12) (h3 : I (ev m) 3 = nI e) (x : Int32) : F_X2_hasEvent N (wm Mb I L) (ev m) x = some (if x < 0 ∨ nI e ≤ x then 0 else 1) := by
  unfold F_X2_hasEvent
  rcases num_cases x (show e < 1000 by omega) with ⟨k, hk, rfl⟩ | hx
  · have h0 : ¬ (nI k < 0 ∨ nI e ≤ nI k) := by
      rw [nI_lt0 (show k < 2147483648 by omega), Int32.le_iff_lt_or_eq, nI_ltI (by omega) (by omega)]
      rintro (z | z | z)
      · exact z
      · omega
      · have := (nI_eq (by omega) (by omega)).mp z; omega
    have h12 : nI k < 12 := by rw [show (12 : Int32) = nI 12 from rfl, nI_ltI (by omega) (by omega)]; omega
    have hke : nI k < nI e := by rw [nI_ltI (by omega) (by omega)]; omega
    have hn0 : ¬ nI k < 0 := fun z => h0 (Or.inl z)
    rw [if_neg h0, if_neg hn0]
    simp only [wm_kR, wm_kt, wm_kn, wm_kin, wm_kL, wm_kI, wm_ksI, wm_ksL, wm_kJ, wm_ksJ, kg_t, kl_v, Option.bind_some, mm_ek hm, h3, if_pos hke, if_pos h12]
  · rw [if_pos hx]
    by_cases c : x < 0
    · rw [if_pos c]
    · rw [if_neg c]
      have : ¬ x < nI e := Int32.not_lt.mpr (hx.resolve_left c)
      simp only [wm_kR, wm_kt, wm_kn, wm_kin, wm_kL, wm_kI, wm_ksI, wm_ksL, wm_kJ, wm_ksJ, kg_t, kl_v, Option.bind_some, mm_ek hm, h3, if_neg this]
theorem sx_eventKind (h : Rel I) (x : Int32) : SameI (fun M => F_X11_eventKind N M 1 x) (fun M => F_X12_eventKind N M 540 x) I := by
  obtain ⟨nb, nt, hR, hM⟩ := h.2.2.1.row
  obtain ⟨h3, h4⟩ := hM.e
  obtain ⟨-, -, -, -, -, -, e, he, e13⟩ := hR.g
  intro L
  have hv := cx_hasEv (N := N) (L := L) m169 he (h3.trans e13) x
  rcases num_cases x (show e < 1000 by omega) with ⟨t, ht, rfl⟩ | hx
  · have h0 : ¬ (nI t < 0 ∨ nI e ≤ nI t) := by
      rw [nI_lt0 (show t < 2147483648 by omega), Int32.le_iff_lt_or_eq, nI_ltI (by omega) (by omega)]
      rintro (z | z | z)
      · exact z
      · omega
      · have := (nI_eq (by omega) (by omega)).mp z; omega
    rw [if_neg h0] at hv
    obtain ⟨x0, x1, x2⟩ := h4 e he e13 t ht
    refine ⟨I 541 (257 + 3 * t), ?_, fun L' => ⟨tw6 I 0, L', ?_, h.tw, LF.rf'⟩⟩
    · show F_X11_eventKind N (wm Mb I L) 1 (nI t) = _
      unfold F_X11_eventKind F_X2_kindAt
      have y0 := ee_r m169 (k := 0) (by decide)
      simp only [wm_kR, wm_kt, wm_kn, wm_kin, wm_kL, wm_kI, wm_ksI, wm_ksL, wm_kJ, wm_ksJ, kg_t, kl_v, Option.bind_some, x1_t.1, x1_t.2.1, mm_k m169, mm_e m169, mm_ek m169, hv, if_neg one0, y0, kin_e m169 (k := 0) (by decide) (show t < 12 by omega), kx_nI (show t < 2147483648 by omega), x0]
    · show F_X12_eventKind N (wm Mb I L') 540 (nI t) = _
      unfold F_X12_eventKind F_X12_ofEvent
      have em : (257 : Int32) + 3 * nI t + 0 = nI (257 + 3 * t) := by
        rw [show (257 : Int32) = nI 257 from rfl, show (3 : Int32) = nI 3 from rfl, show (0 : Int32) = nI 0 from rfl, pk_mul, nI_add, nI_add]
        first | rfl | (congr 1; omega)
      simp only [wm_kR, wm_kt, wm_kn, wm_kin, wm_kL, wm_kI, wm_ksI, wm_ksL, wm_kJ, wm_ksJ, kg_t, kl_v, Option.bind_some, sr_k, sr_0, sr_1, sr_2, sr_3, sr_4, sr_7, sr_8, sr_9, sr_26, sr_27, sr_28, kl_0, kl_1, kl_2, kl_3, kl_4, kl_5, kl_6, kl_7, kl_8, kl_9, kl_10, kl_11, kl_12, kl_13, kx_l0, kx_l1, kx_l2, kx_l3, kx_l4, kx_l5, kx_l6, kx_l7, kx_l8, kx_l9, kx_l10, kx_l11, kx_l12, kx_l13, tw_fd, tw_row, e13, in0 _ _ (show e < 1000 by omega), if_neg h0, if_neg one0, em, kin_s (show 257 + 3 * t < 293 by omega), kx_nI (show 257 + 3 * t < 2147483648 by omega)]
  · rw [if_pos hx] at hv
    refine ⟨-1, ?_, fun L' => ⟨tw6 I 0, L', ?_, h.tw, LF.rf'⟩⟩
    · show F_X11_eventKind N (wm Mb I L) 1 x = _
      unfold F_X11_eventKind F_X2_kindAt
      simp only [wm_kR, wm_kt, wm_kn, wm_kin, wm_kL, wm_kI, wm_ksI, wm_ksL, wm_kJ, wm_ksJ, kg_t, kl_v, Option.bind_some, x1_t.1, x1_t.2.1, mm_k m169, mm_e m169, mm_ek m169, hv, if_true]
    · show F_X12_eventKind N (wm Mb I L') 540 x = _
      unfold F_X12_eventKind F_X12_ofEvent
      simp only [wm_kR, wm_kt, wm_kn, wm_kin, wm_kL, wm_kI, wm_ksI, wm_ksL, wm_kJ, wm_ksJ, kg_t, kl_v, Option.bind_some, sr_k, sr_0, sr_1, sr_2, sr_3, sr_4, sr_7, sr_8, sr_9, sr_26, sr_27, sr_28, kl_0, kl_1, kl_2, kl_3, kl_4, kl_5, kl_6, kl_7, kl_8, kl_9, kl_10, kl_11, kl_12, kl_13, kx_l0, kx_l1, kx_l2, kx_l3, kx_l4, kx_l5, kx_l6, kx_l7, kx_l8, kx_l9, kx_l10, kx_l11, kx_l12, kx_l13, tw_fd, tw_row, e13, in0 _ _ (show e < 1000 by omega), if_pos hx, if_true]
theorem sx_eventTrader (h : Rel I) (x : Int32) : SameI (fun M => F_X11_eventTrader N M 1 x) (fun M => F_X12_eventTrader N M 540 x) I := by
  obtain ⟨nb, nt, hR, hM⟩ := h.2.2.1.row
  obtain ⟨h3, h4⟩ := hM.e
  obtain ⟨-, -, -, -, -, -, e, he, e13⟩ := hR.g
  intro L
  have hv := cx_hasEv (N := N) (L := L) m169 he (h3.trans e13) x
  rcases num_cases x (show e < 1000 by omega) with ⟨t, ht, rfl⟩ | hx
  · have h0 : ¬ (nI t < 0 ∨ nI e ≤ nI t) := by
      rw [nI_lt0 (show t < 2147483648 by omega), Int32.le_iff_lt_or_eq, nI_ltI (by omega) (by omega)]
      rintro (z | z | z)
      · exact z
      · omega
      · have := (nI_eq (by omega) (by omega)).mp z; omega
    rw [if_neg h0] at hv
    obtain ⟨x0, x1, x2⟩ := h4 e he e13 t ht
    refine ⟨I 541 (258 + 3 * t), ?_, fun L' => ⟨tw6 I 0, L', ?_, h.tw, LF.rf'⟩⟩
    · show F_X11_eventTrader N (wm Mb I L) 1 (nI t) = _
      unfold F_X11_eventTrader F_X2_traderAt
      have y0 := ee_r m169 (k := 1) (by decide)
      simp only [wm_kR, wm_kt, wm_kn, wm_kin, wm_kL, wm_kI, wm_ksI, wm_ksL, wm_kJ, wm_ksJ, kg_t, kl_v, Option.bind_some, x1_t.1, x1_t.2.1, mm_k m169, mm_e m169, mm_ek m169, hv, if_neg one0, y0, kin_e m169 (k := 1) (by decide) (show t < 12 by omega), kx_nI (show t < 2147483648 by omega), x1]
    · show F_X12_eventTrader N (wm Mb I L') 540 (nI t) = _
      unfold F_X12_eventTrader F_X12_ofEvent
      have em : (257 : Int32) + 3 * nI t + 1 = nI (258 + 3 * t) := by
        rw [show (257 : Int32) = nI 257 from rfl, show (3 : Int32) = nI 3 from rfl, show (1 : Int32) = nI 1 from rfl, pk_mul, nI_add, nI_add]
        first | rfl | (congr 1; omega)
      simp only [wm_kR, wm_kt, wm_kn, wm_kin, wm_kL, wm_kI, wm_ksI, wm_ksL, wm_kJ, wm_ksJ, kg_t, kl_v, Option.bind_some, sr_k, sr_0, sr_1, sr_2, sr_3, sr_4, sr_7, sr_8, sr_9, sr_26, sr_27, sr_28, kl_0, kl_1, kl_2, kl_3, kl_4, kl_5, kl_6, kl_7, kl_8, kl_9, kl_10, kl_11, kl_12, kl_13, kx_l0, kx_l1, kx_l2, kx_l3, kx_l4, kx_l5, kx_l6, kx_l7, kx_l8, kx_l9, kx_l10, kx_l11, kx_l12, kx_l13, tw_fd, tw_row, e13, in0 _ _ (show e < 1000 by omega), if_neg h0, if_neg one0, em, kin_s (show 258 + 3 * t < 293 by omega), kx_nI (show 258 + 3 * t < 2147483648 by omega)]
  · rw [if_pos hx] at hv
    refine ⟨-1, ?_, fun L' => ⟨tw6 I 0, L', ?_, h.tw, LF.rf'⟩⟩
    · show F_X11_eventTrader N (wm Mb I L) 1 x = _
      unfold F_X11_eventTrader F_X2_traderAt
      simp only [wm_kR, wm_kt, wm_kn, wm_kin, wm_kL, wm_kI, wm_ksI, wm_ksL, wm_kJ, wm_ksJ, kg_t, kl_v, Option.bind_some, x1_t.1, x1_t.2.1, mm_k m169, mm_e m169, mm_ek m169, hv, if_true]
    · show F_X12_eventTrader N (wm Mb I L') 540 x = _
      unfold F_X12_eventTrader F_X12_ofEvent
      simp only [wm_kR, wm_kt, wm_kn, wm_kin, wm_kL, wm_kI, wm_ksI, wm_ksL, wm_kJ, wm_ksJ, kg_t, kl_v, Option.bind_some, sr_k, sr_0, sr_1, sr_2, sr_3, sr_4, sr_7, sr_8, sr_9, sr_26, sr_27, sr_28, kl_0, kl_1, kl_2, kl_3, kl_4, kl_5, kl_6, kl_7, kl_8, kl_9, kl_10, kl_11, kl_12, kl_13, kx_l0, kx_l1, kx_l2, kx_l3, kx_l4, kx_l5, kx_l6, kx_l7, kx_l8, kx_l9, kx_l10, kx_l11, kx_l12, kx_l13, tw_fd, tw_row, e13, in0 _ _ (show e < 1000 by omega), if_pos hx, if_true]
theorem sx_eventDay (h : Rel I) (x : Int32) : SameI (fun M => F_X11_eventDay N M 1 x) (fun M => F_X12_eventDay N M 540 x) I := by
  obtain ⟨nb, nt, hR, hM⟩ := h.2.2.1.row
  obtain ⟨h3, h4⟩ := hM.e
  obtain ⟨-, -, -, -, -, -, e, he, e13⟩ := hR.g
  intro L
  have hv := cx_hasEv (N := N) (L := L) m169 he (h3.trans e13) x
  rcases num_cases x (show e < 1000 by omega) with ⟨t, ht, rfl⟩ | hx
  · have h0 : ¬ (nI t < 0 ∨ nI e ≤ nI t) := by
      rw [nI_lt0 (show t < 2147483648 by omega), Int32.le_iff_lt_or_eq, nI_ltI (by omega) (by omega)]
      rintro (z | z | z)
      · exact z
      · omega
      · have := (nI_eq (by omega) (by omega)).mp z; omega
    rw [if_neg h0] at hv
    obtain ⟨x0, x1, x2⟩ := h4 e he e13 t ht
    refine ⟨I 541 (259 + 3 * t), ?_, fun L' => ⟨tw6 I 0, L', ?_, h.tw, LF.rf'⟩⟩
    · show F_X11_eventDay N (wm Mb I L) 1 (nI t) = _
      unfold F_X11_eventDay F_X2_dayAt
      have y0 := ee_r m169 (k := 2) (by decide)
      simp only [wm_kR, wm_kt, wm_kn, wm_kin, wm_kL, wm_kI, wm_ksI, wm_ksL, wm_kJ, wm_ksJ, kg_t, kl_v, Option.bind_some, x1_t.1, x1_t.2.1, mm_k m169, mm_e m169, mm_ek m169, hv, if_neg one0, y0, kin_e m169 (k := 2) (by decide) (show t < 12 by omega), kx_nI (show t < 2147483648 by omega), x2]
    · show F_X12_eventDay N (wm Mb I L') 540 (nI t) = _
      unfold F_X12_eventDay F_X12_ofEvent
      have em : (257 : Int32) + 3 * nI t + 2 = nI (259 + 3 * t) := by
        rw [show (257 : Int32) = nI 257 from rfl, show (3 : Int32) = nI 3 from rfl, show (2 : Int32) = nI 2 from rfl, pk_mul, nI_add, nI_add]
        first | rfl | (congr 1; omega)
      simp only [wm_kR, wm_kt, wm_kn, wm_kin, wm_kL, wm_kI, wm_ksI, wm_ksL, wm_kJ, wm_ksJ, kg_t, kl_v, Option.bind_some, sr_k, sr_0, sr_1, sr_2, sr_3, sr_4, sr_7, sr_8, sr_9, sr_26, sr_27, sr_28, kl_0, kl_1, kl_2, kl_3, kl_4, kl_5, kl_6, kl_7, kl_8, kl_9, kl_10, kl_11, kl_12, kl_13, kx_l0, kx_l1, kx_l2, kx_l3, kx_l4, kx_l5, kx_l6, kx_l7, kx_l8, kx_l9, kx_l10, kx_l11, kx_l12, kx_l13, tw_fd, tw_row, e13, in0 _ _ (show e < 1000 by omega), if_neg h0, if_neg one0, em, kin_s (show 259 + 3 * t < 293 by omega), kx_nI (show 259 + 3 * t < 2147483648 by omega)]
  · rw [if_pos hx] at hv
    refine ⟨-1, ?_, fun L' => ⟨tw6 I 0, L', ?_, h.tw, LF.rf'⟩⟩
    · show F_X11_eventDay N (wm Mb I L) 1 x = _
      unfold F_X11_eventDay F_X2_dayAt
      simp only [wm_kR, wm_kt, wm_kn, wm_kin, wm_kL, wm_kI, wm_ksI, wm_ksL, wm_kJ, wm_ksJ, kg_t, kl_v, Option.bind_some, x1_t.1, x1_t.2.1, mm_k m169, mm_e m169, mm_ek m169, hv, if_true]
    · show F_X12_eventDay N (wm Mb I L') 540 x = _
      unfold F_X12_eventDay F_X12_ofEvent
      simp only [wm_kR, wm_kt, wm_kn, wm_kin, wm_kL, wm_kI, wm_ksI, wm_ksL, wm_kJ, wm_ksJ, kg_t, kl_v, Option.bind_some, sr_k, sr_0, sr_1, sr_2, sr_3, sr_4, sr_7, sr_8, sr_9, sr_26, sr_27, sr_28, kl_0, kl_1, kl_2, kl_3, kl_4, kl_5, kl_6, kl_7, kl_8, kl_9, kl_10, kl_11, kl_12, kl_13, kx_l0, kx_l1, kx_l2, kx_l3, kx_l4, kx_l5, kx_l6, kx_l7, kx_l8, kx_l9, kx_l10, kx_l11, kx_l12, kx_l13, tw_fd, tw_row, e13, in0 _ _ (show e < 1000 by omega), if_pos hx, if_true]
theorem sx_seatOwner (h : Rel I) (x p : Int32) (hN : 100 < N) : SameX [(1, 1)] (fun M => F_X11_seatOwner N M 1 x p) (fun M => F_X12_seatOwner N M 540 x p) I := by
  obtain ⟨nb, nt, hR, hM⟩ := h.2.2.1.row
  have h5 := hR.nb5
  have h24 := hR.nt24
  intro L
  rcases num_cases x (show nb < 1000 by omega) with ⟨b, hb, rfl⟩ | hx
  · obtain ⟨a, s', l, ha, -, -, ra, -⟩ := hR.b b hb
    by_cases hp : p ≠ 0 ∧ ¬ p < -nI a ∧ ¬ nI a < p
    · obtain ⟨q, p1, p2, p3, rfl⟩ := pos_of (show a ≤ 6 by omega) hp.1 hp.2.1 hp.2.2
      refine ⟨.inl (I 541 (si b q) - 1), I, ?_, fun L' => ⟨I 541 (si b q) - 1, tw6 I 0, L', ?_, h.tw, LF.rf', Or.inl ⟨rfl, tw_6⟩⟩⟩
      · show F_X11_seatOwner N (wm Mb I L) 1 (nI b) (pz q) = _
        unfold F_X11_seatOwner
        simp only [wm_kR, wm_kt, wm_kn, wm_kin, wm_kL, wm_kI, wm_ksI, wm_ksL, wm_kJ, wm_ksJ, kg_t, kl_v, Option.bind_some, x1_t.1, x1_t.2.1, mm_k m169, cx_bs_in hR hM hb ra (show a ≤ 6 by omega) p1 p2 p3, kbx, bb_k m169 (show b < 5 by omega), cx_own m169 (show b < 5 by omega) (show q < 13 by omega), (hM.bb b hb).2.2.2.1 q (show q < 13 by omega) p3]
      · show F_X12_seatOwner N (wm Mb I L') 540 (nI b) (pz q) = _
        have hh := rx_onS (N := N) (I := tw6 I 0) (L := L') (r := I 541) (f := I 546) (show b < 5 by omega) (show q < 13 by omega) p3
        rw [tw_rf] at hh
        unfold F_X12_seatOwner
        simp only [wm_kR, wm_kt, wm_kn, wm_kin, wm_kL, wm_kI, wm_ksI, wm_ksL, wm_kJ, wm_ksJ, kg_t, kl_v, Option.bind_some, sr_k, sr_0, sr_1, sr_2, sr_3, sr_4, sr_7, sr_8, sr_9, sr_26, sr_27, sr_28, tw_fd, rx_noS_in hR hb ra (show a ≤ 6 by omega) p1 p2 p3, if_true, hh]
    · refine ⟨.inr 1, I, ?_, fun L' => ⟨0, tw6 I 1, L', ?_, h.tw, LF.rf', Or.inr ⟨1, 1, rfl, by simp, tw_6⟩⟩⟩
      · show F_X11_seatOwner N (wm Mb I L) 1 (nI b) p = _
        unfold F_X11_seatOwner
        simp only [wm_kR, wm_kt, wm_kn, wm_kin, wm_kL, wm_kI, wm_ksI, wm_ksL, wm_kJ, wm_ksJ, kg_t, kl_v, Option.bind_some, x1_t.1, cx_bs_outS hR hM hb ra hp, kbx]
      · show F_X12_seatOwner N (wm Mb I L') 540 (nI b) p = _
        unfold F_X12_seatOwner
        simp only [wm_kR, wm_kt, wm_kn, wm_kin, wm_kL, wm_kI, wm_ksI, wm_ksL, wm_kJ, wm_ksJ, kg_t, kl_v, Option.bind_some, sr_k, sr_0, sr_1, sr_2, sr_3, sr_4, sr_7, sr_8, sr_9, sr_26, sr_27, sr_28, tw_fd, rx_noS_outS hR hb ra hp, if_neg one0]
  · refine ⟨.inr 1, I, ?_, fun L' => ⟨0, tw6 I 1, L', ?_, h.tw, LF.rf', Or.inr ⟨1, 1, rfl, by simp, tw_6⟩⟩⟩
    · show F_X11_seatOwner N (wm Mb I L) 1 x p = _
      unfold F_X11_seatOwner
      simp only [wm_kR, wm_kt, wm_kn, wm_kin, wm_kL, wm_kI, wm_ksI, wm_ksL, wm_kJ, wm_ksJ, kg_t, kl_v, Option.bind_some, x1_t.1, cx_bs_outB hR hM hx, kbx]
    · show F_X12_seatOwner N (wm Mb I L') 540 x p = _
      unfold F_X12_seatOwner
      simp only [wm_kR, wm_kt, wm_kn, wm_kin, wm_kL, wm_kI, wm_ksI, wm_ksL, wm_kJ, wm_ksJ, kg_t, kl_v, Option.bind_some, sr_k, sr_0, sr_1, sr_2, sr_3, sr_4, sr_7, sr_8, sr_9, sr_26, sr_27, sr_28, tw_fd, rx_noS_outB hR hx, if_neg one0]
theorem sx_seatHeight (h : Rel I) (x p : Int32) (hN : 100 < N) : SameX [(1, 1)] (fun M => F_X11_seatHeight N M 1 x p) (fun M => F_X12_seatHeight N M 540 x p) I := by
  obtain ⟨nb, nt, hR, hM⟩ := h.2.2.1.row
  have h5 := hR.nb5
  have h24 := hR.nt24
  intro L
  rcases num_cases x (show nb < 1000 by omega) with ⟨b, hb, rfl⟩ | hx
  · obtain ⟨a, s', l, ha, -, -, ra, -⟩ := hR.b b hb
    by_cases hp : p ≠ 0 ∧ ¬ p < -nI a ∧ ¬ nI a < p
    · obtain ⟨q, p1, p2, p3, rfl⟩ := pos_of (show a ≤ 6 by omega) hp.1 hp.2.1 hp.2.2
      refine ⟨.inl (ht (I 541) nt b (pz q)), I, ?_, fun L' => ⟨ht (I 541) nt b (pz q), tw6 I 0, L', ?_, h.tw, LF.rf', Or.inl ⟨rfl, tw_6⟩⟩⟩
      · show F_X11_seatHeight N (wm Mb I L) 1 (nI b) (pz q) = _
        unfold F_X11_seatHeight
        simp only [wm_kR, wm_kt, wm_kn, wm_kin, wm_kL, wm_kI, wm_ksI, wm_ksL, wm_kJ, wm_ksJ, kg_t, kl_v, Option.bind_some, x1_t.1, x1_t.2.1, mm_k m169, cx_bs_in hR hM hb ra (show a ≤ 6 by omega) p1 p2 p3, kbx, bb_k m169 (show b < 5 by omega), cx_ho m169 hR hM hb (pz q) hN]
      · show F_X12_seatHeight N (wm Mb I L') 540 (nI b) (pz q) = _
        have hh := rx_ht (N := N) (I := tw6 I 0) (L := L') (f := I 546) hR hb (pz q) hN
        rw [tw_rf] at hh
        unfold F_X12_seatHeight
        simp only [wm_kR, wm_kt, wm_kn, wm_kin, wm_kL, wm_kI, wm_ksI, wm_ksL, wm_kJ, wm_ksJ, kg_t, kl_v, Option.bind_some, sr_k, sr_0, sr_1, sr_2, sr_3, sr_4, sr_7, sr_8, sr_9, sr_26, sr_27, sr_28, tw_fd, rx_noS_in hR hb ra (show a ≤ 6 by omega) p1 p2 p3, if_true, hh]
    · refine ⟨.inr 1, I, ?_, fun L' => ⟨0, tw6 I 1, L', ?_, h.tw, LF.rf', Or.inr ⟨1, 1, rfl, by simp, tw_6⟩⟩⟩
      · show F_X11_seatHeight N (wm Mb I L) 1 (nI b) p = _
        unfold F_X11_seatHeight
        simp only [wm_kR, wm_kt, wm_kn, wm_kin, wm_kL, wm_kI, wm_ksI, wm_ksL, wm_kJ, wm_ksJ, kg_t, kl_v, Option.bind_some, x1_t.1, cx_bs_outS hR hM hb ra hp, kbx]
      · show F_X12_seatHeight N (wm Mb I L') 540 (nI b) p = _
        unfold F_X12_seatHeight
        simp only [wm_kR, wm_kt, wm_kn, wm_kin, wm_kL, wm_kI, wm_ksI, wm_ksL, wm_kJ, wm_ksJ, kg_t, kl_v, Option.bind_some, sr_k, sr_0, sr_1, sr_2, sr_3, sr_4, sr_7, sr_8, sr_9, sr_26, sr_27, sr_28, tw_fd, rx_noS_outS hR hb ra hp, if_neg one0]
  · refine ⟨.inr 1, I, ?_, fun L' => ⟨0, tw6 I 1, L', ?_, h.tw, LF.rf', Or.inr ⟨1, 1, rfl, by simp, tw_6⟩⟩⟩
    · show F_X11_seatHeight N (wm Mb I L) 1 x p = _
      unfold F_X11_seatHeight
      simp only [wm_kR, wm_kt, wm_kn, wm_kin, wm_kL, wm_kI, wm_ksI, wm_ksL, wm_kJ, wm_ksJ, kg_t, kl_v, Option.bind_some, x1_t.1, cx_bs_outB hR hM hx, kbx]
    · show F_X12_seatHeight N (wm Mb I L') 540 x p = _
      unfold F_X12_seatHeight
      simp only [wm_kR, wm_kt, wm_kn, wm_kin, wm_kL, wm_kI, wm_ksI, wm_ksL, wm_kJ, wm_ksJ, kg_t, kl_v, Option.bind_some, sr_k, sr_0, sr_1, sr_2, sr_3, sr_4, sr_7, sr_8, sr_9, sr_26, sr_27, sr_28, tw_fd, rx_noS_outB hR hx, if_neg one0]
theorem sx_seatPrice (h : Rel I) (x p : Int32) (hN : 100 < N) : SameX [(1, 1)] (fun M => F_X11_seatPrice N M 1 x p) (fun M => F_X12_seatPrice N M 540 x p) I := by
  obtain ⟨nb, nt, hR, hM⟩ := h.2.2.1.row
  have h5 := hR.nb5
  have h24 := hR.nt24
  intro L
  rcases num_cases x (show nb < 1000 by omega) with ⟨b, hb, rfl⟩ | hx
  · obtain ⟨a, s', l, ha, -, -, ra, -⟩ := hR.b b hb
    by_cases hp : p ≠ 0 ∧ ¬ p < -nI a ∧ ¬ nI a < p
    · obtain ⟨q, p1, p2, p3, rfl⟩ := pos_of (show a ≤ 6 by omega) hp.1 hp.2.1 hp.2.2
      refine ⟨.inl (prS (I 541) nt b (pz q)), I, ?_, fun L' => ⟨prS (I 541) nt b (pz q), tw6 I 0, L', ?_, h.tw, LF.rf', Or.inl ⟨rfl, tw_6⟩⟩⟩
      · show F_X11_seatPrice N (wm Mb I L) 1 (nI b) (pz q) = _
        unfold F_X11_seatPrice
        simp only [wm_kR, wm_kt, wm_kn, wm_kin, wm_kL, wm_kI, wm_ksI, wm_ksL, wm_kJ, wm_ksJ, kg_t, kl_v, Option.bind_some, x1_t.1, x1_t.2.1, mm_k m169, cx_bs_in hR hM hb ra (show a ≤ 6 by omega) p1 p2 p3, kbx, bb_k m169 (show b < 5 by omega), cx_pr m169 hR hM hb (pz q) hN]
      · show F_X12_seatPrice N (wm Mb I L') 540 (nI b) (pz q) = _
        have hh := rx_price (N := N) (I := tw6 I 0) (L := L') (f := I 546) hR hb (pz q) hN
        rw [tw_rf] at hh
        unfold F_X12_seatPrice
        simp only [wm_kR, wm_kt, wm_kn, wm_kin, wm_kL, wm_kI, wm_ksI, wm_ksL, wm_kJ, wm_ksJ, kg_t, kl_v, Option.bind_some, sr_k, sr_0, sr_1, sr_2, sr_3, sr_4, sr_7, sr_8, sr_9, sr_26, sr_27, sr_28, tw_fd, rx_noS_in hR hb ra (show a ≤ 6 by omega) p1 p2 p3, if_true, hh]
    · refine ⟨.inr 1, I, ?_, fun L' => ⟨0, tw6 I 1, L', ?_, h.tw, LF.rf', Or.inr ⟨1, 1, rfl, by simp, tw_6⟩⟩⟩
      · show F_X11_seatPrice N (wm Mb I L) 1 (nI b) p = _
        unfold F_X11_seatPrice
        simp only [wm_kR, wm_kt, wm_kn, wm_kin, wm_kL, wm_kI, wm_ksI, wm_ksL, wm_kJ, wm_ksJ, kg_t, kl_v, Option.bind_some, x1_t.1, cx_bs_outS hR hM hb ra hp, kbx]
      · show F_X12_seatPrice N (wm Mb I L') 540 (nI b) p = _
        unfold F_X12_seatPrice
        simp only [wm_kR, wm_kt, wm_kn, wm_kin, wm_kL, wm_kI, wm_ksI, wm_ksL, wm_kJ, wm_ksJ, kg_t, kl_v, Option.bind_some, sr_k, sr_0, sr_1, sr_2, sr_3, sr_4, sr_7, sr_8, sr_9, sr_26, sr_27, sr_28, tw_fd, rx_noS_outS hR hb ra hp, if_neg one0]
  · refine ⟨.inr 1, I, ?_, fun L' => ⟨0, tw6 I 1, L', ?_, h.tw, LF.rf', Or.inr ⟨1, 1, rfl, by simp, tw_6⟩⟩⟩
    · show F_X11_seatPrice N (wm Mb I L) 1 x p = _
      unfold F_X11_seatPrice
      simp only [wm_kR, wm_kt, wm_kn, wm_kin, wm_kL, wm_kI, wm_ksI, wm_ksL, wm_kJ, wm_ksJ, kg_t, kl_v, Option.bind_some, x1_t.1, cx_bs_outB hR hM hx, kbx]
    · show F_X12_seatPrice N (wm Mb I L') 540 x p = _
      unfold F_X12_seatPrice
      simp only [wm_kR, wm_kt, wm_kn, wm_kin, wm_kL, wm_kI, wm_ksI, wm_ksL, wm_kJ, wm_ksJ, kg_t, kl_v, Option.bind_some, sr_k, sr_0, sr_1, sr_2, sr_3, sr_4, sr_7, sr_8, sr_9, sr_26, sr_27, sr_28, tw_fd, rx_noS_outB hR hx, if_neg one0]
end
