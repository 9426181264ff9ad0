/-! undo, save, restore, truncate, outputByte -/
section
variable {N : Nat} {I K : kInts} {L : kLngs} {r s f : Nat → Int32} {nb nt : Nat}
theorem s1061 : kt Mb 456 18 = true ∧ kn Mb 456 = 2 := kt_of 456 (by decide)
theorem sh_sl {k : Nat} (h : k < 2) : kR Mb 456 k = 458 + 41 * k := by
  have : k = 0 ∨ k = 1 := by omega
  rcases this with rfl | rfl <;> rfl
theorem in_01 (M : kMem) (x : Int32) : F_X12_in N M x.toInt64 0 1 = some (if x < 0 ∨ 1 < x then 0 else 1) := by
  have h := in1 (N := N) M x 0 1
  rw [show (0 : Int32).toInt64 = 0 from rfl, show (1 : Int32).toInt64 = 1 from rfl] at h
  exact h
theorem sl_cases (x : Int32) : (∃ i, i < 2 ∧ x = nI i ∧ ¬ (x < 0 ∨ 1 < x) ∧ ¬ x < 0 ∧ x < nI 2) ∨ ((x < 0 ∨ 1 < x) ∧ (x < 0 ∨ ¬ x < nI 2)) := by
  rcases num_cases x (n := 2) (by decide) with ⟨i, hi, rfl⟩ | hx
  · left
    have : i = 0 ∨ i = 1 := by omega
    rcases this with rfl | rfl
    · exact ⟨0, by decide, rfl, by decide, by decide, by decide⟩
    · exact ⟨1, by decide, rfl, by decide, by decide, by decide⟩
  · right
    have h1 : (1 : Int32) < nI 2 := by decide
    refine ⟨?_, ?_⟩
    · rcases hx with z | z
      · exact Or.inl z
      · right; grind
    · rcases hx with z | z
      · exact Or.inl z
      · right; exact Int32.not_lt.mpr z
theorem cx_slot_in {i : Nat} {x : Int32} (hi : i < 2) (hx : x = nI i) (h0 : ¬ x < 0) (h2 : x < nI 2) : F_X11_existingSlot N (wm Mb I L) 1 x = some (.inl (458 + 41 * i), wm Mb I L) := by
  unfold F_X11_existingSlot
  rw [if_neg h0]
  simp only [wm_kR, wm_kt, wm_kn, wm_kin, wm_kL, wm_kI, wm_ksI, wm_ksL, wm_kJ, wm_ksJ, kg_t, kl_v, Option.bind_some, x1_t.1, x1_t.2.2.2.2.2.2.2.2.1, s1061.1, s1061.2, ofNnI, if_pos h2]
  rw [hx]
  simp only [kin_nI s1061.1 s1061.2 hi (by decide), kx_nI (show i < 2147483648 by omega), sh_sl hi, kg_t]
theorem cx_slot_out {x : Int32} (h : x < 0 ∨ ¬ x < nI 2) : F_X11_existingSlot N (wm Mb I L) 1 x = some (.inr 1, wm Mb I L) := by
  unfold F_X11_existingSlot
  by_cases c : x < 0
  · rw [if_pos c]
  · rw [if_neg c]
    simp only [wm_kR, wm_kt, wm_kn, wm_kin, wm_kL, wm_kI, wm_ksI, wm_ksL, wm_kJ, wm_ksJ, kg_t, kl_v, Option.bind_some, x1_t.1, x1_t.2.2.2.2.2.2.2.2.1, s1061.1, s1061.2, ofNnI, if_neg (h.resolve_left c)]
theorem rx_noL_in {x : Int32} (h : ¬ (x < 0 ∨ 1 < x)) : F_X12_noSlot N (wm Mb (tw6 I 0) L) 540 x = some (0, wm Mb (tw6 I 0) L) := by
  have hb2 : ((0 : Int32) == 0 || (0 : Int32) == 1) = true := rfl
  unfold F_X12_noSlot
  simp only [wm_kR, wm_kt, wm_kn, wm_kin, wm_kL, wm_kI, wm_ksI, wm_ksL, wm_kJ, wm_ksJ, kg_t, kl_v, Option.bind_some, sr_k, sr_0, sr_1, sr_2, sr_3, sr_4, sr_7, sr_8, sr_9, sr_26, sr_27, sr_28, in_01, if_neg h, if_neg one0, rx_stopF, hb2]
theorem rx_noL_out {x : Int32} (h : x < 0 ∨ 1 < x) : F_X12_noSlot N (wm Mb (tw6 I 0) L) 540 x = some (1, wm Mb (tw6 I 1) L) := by
  have hb2 : ((1 : Int32) == 0 || (1 : Int32) == 1) = true := rfl
  unfold F_X12_noSlot
  simp only [wm_kR, wm_kt, wm_kn, wm_kin, wm_kL, wm_kI, wm_ksI, wm_ksL, wm_kJ, wm_ksJ, kg_t, kl_v, Option.bind_some, sr_k, sr_0, sr_1, sr_2, sr_3, sr_4, sr_7, sr_8, sr_9, sr_26, sr_27, sr_28, in_01, if_pos h, if_true, rx_stopT one0 one0, hb2]
theorem sx_save (h : Rel I) (x : Int32) (hN : 5000 < N) : SameX [(1, 1)] (fun M => F_X11_save N M 1 x) (fun M => F_X12_save N M 540 x) I := by
  obtain ⟨nb, nt, hR, hM⟩ := h.2.2.1.row
  have h5 := hR.nb5
  have h24 := hR.nt24
  intro L
  rcases sl_cases x with ⟨i, hi, hx, g1, g2, g3⟩ | ⟨hx, hx2⟩
  · have hm := sl_mem hi
    obtain ⟨I1, a1, a2, a3, a4⟩ := cx_copy (N := N) (I := I) (L := L) hm m169 (by unfold ap; omega) (by omega) (h.2.2.2.1 _ hm) (h.2.2.2.1 _ m169)
    let I2 := up I1 457 i 1
    have e1 : ∀ a j, a < 457 ∨ 540 ≤ a → I2 a j = I a j := fun a j y => (up_ne (by omega)).trans (a4 a j (by omega))
    have kb : ((1 : Int32) == 0 || (1 : Int32) == 1) = true := rfl
    refine ⟨.inl (I 541 6), I2, ?_, fun L' => ?_⟩
    · show F_X11_save N (wm Mb I L) 1 x = _
      have ed : up I1 457 i 1 44 0 = I 541 6 := (e1 44 0 (by omega)).trans hM.day
      unfold F_X11_save
      simp only [wm_kR, wm_kt, wm_kn, wm_kin, wm_kL, wm_kI, wm_ksI, wm_ksL, wm_kJ, wm_ksJ, kg_t, kl_v, Option.bind_some, x1_t.1, x1_t.2.1, x1_t.2.2.2.2.2.2.2.2.2, cx_slot_in hi hx g2 g3, kbx, mm_k hm, mm_k m169, a1]
      rw [hx]
      simp only [kin_nI sh62.1 sh62.2 hi (by decide), kx_nI (show i < 2147483648 by omega), kb, Bool.and_self, kg_t, ed]
      rfl
    · have c := rx_copies (N := N) (I := tw6 I2 0) (L := L') (a := 541) (c := 544) (p := 0) (q := 293 * i) s42 s45 (by omega) (by omega) (by omega) (by omega) (by omega) (by omega)
      rw [show nI 0 = 0 from rfl] at c
      have em : (293 : Int32) * nI i = nI (293 * i) := by rw [show (293 : Int32) = nI 293 from rfl, pk_mul]
      let K := up (cpy (tw6 I2 0) 541 0 544 (293 * i) 293) 545 i 1
      have kk : ∀ a j, a ≠ 544 → a ≠ 545 → ¬ (a = 540 ∧ j = 6) → K a j = I2 a j := fun a j y1 y2 y3 => (up_ne (by omega)).trans ((cpy_out (by omega)).trans (tw_o (by omega)))
      have ki : ∀ a j, a < 457 ∨ 540 ≤ a → a ≠ 544 → a ≠ 545 → ¬ (a = 540 ∧ j = 6) → K a j = I a j := fun a j y0 y1 y2 y3 => (kk a j y1 y2 y3).trans (e1 a j y0)
      have k6 : K 540 6 = 0 := (up_ne (by omega)).trans ((cpy_out (by omega)).trans tw_6)
      obtain ⟨hT, hE, hMM, hNu, hH, hSl, hOu, hNm⟩ := h
      refine ⟨I 541 6, K, L', ?_, ⟨hT.kp (fun x j y => ki x j (by omega) (by omega) (by omega) (by omega)), ⟨by rw [ki 6 6 (by omega) (by omega) (by omega) (by omega), ki 540 18 (by omega) (by omega) (by omega) (by omega)]; exact hE.1, by rw [ki 6 7 (by omega) (by omega) (by omega) (by omega), ki 540 19 (by omega) (by omega) (by omega) (by omega)]; exact hE.2⟩, hMM.kp (fun x j y1 y2 => ki x j (by omega) (by omega) (by omega) (by omega)) (fun k hk => ki _ _ (by omega) (by omega) (by omega) (by omega)), fun m hmm => ?_, hH.kp (fun x j y => ki x j (by omega) (by omega) (by omega) (by omega)), ?_, hOu.kp (fun x j y => ki x j (by omega) (by omega) (by omega) (by omega)), hNm.kp (fun x j y => ki x j (by omega) (by omega) (by omega) (by omega))⟩, LF.rf', Or.inl ⟨rfl, k6⟩⟩
      · show F_X12_save N (wm Mb I2 L') 540 x = _
        have ed : up (cpy (tw6 I2 0) 541 0 544 (293 * i) 293) 545 i 1 541 6 = I 541 6 := ki 541 6 (by omega) (by omega) (by omega) (by omega)
        unfold F_X12_save
        simp only [wm_kR, wm_kt, wm_kn, wm_kin, wm_kL, wm_kI, wm_ksI, wm_ksL, wm_kJ, wm_ksJ, kg_t, kl_v, Option.bind_some, sr_k, sr_0, sr_1, sr_2, sr_3, sr_4, sr_7, sr_8, sr_9, sr_26, sr_27, sr_28, tw_fd, rx_noL_in g1, if_true]
        rw [hx, em]
        simp only [c, Option.bind_some, wm_kR, wm_kt, wm_kn, wm_kin, wm_kL, wm_kI, wm_ksI, wm_ksL, wm_kJ, wm_ksJ, kg_t, kl_v, Option.bind_some, sr_k, sr_0, sr_1, sr_2, sr_3, sr_4, sr_7, sr_8, sr_9, sr_26, sr_27, sr_28, kl_0, kl_1, kl_2, kl_3, kl_4, kl_5, kl_6, kl_7, kl_8, kl_9, kl_10, kl_11, kl_12, kl_13, kx_l0, kx_l1, kx_l2, kx_l3, kx_l4, kx_l5, kx_l6, kx_l7, kx_l8, kx_l9, kx_l10, kx_l11, kx_l12, kx_l13, kin_0k hi, kx_nI (show i < 2147483648 by omega), kb, Bool.and_self, ed]
        rfl
      · by_cases z : m = 458 + 41 * i
        · rw [z]
          exact a3.kp (fun x j y1 y2 => (kk x j (by omega) (by omega) (by omega)).trans (up_ne (by omega)))
        · refine (hNu m hmm).kp (fun x j y1 y2 => ?_)
          rw [kk x j (by have := mks_sep hmm; omega) (by have := mks_sep hmm; omega) (by have := mks_sep hmm; omega)]
          refine (up_ne (by have := mks_sep hmm; omega)).trans (a4 x j ?_)
          have h3 : m + 41 ≤ 456 ∨ m = 458 ∨ m = 499 := by
            clear z y1 y2
            revert hmm
            simp only [mks, List.mem_cons, List.not_mem_nil, or_false]
            omega
          omega
      · intro k hk
        by_cases z : k = i
        · subst z
          right
          have e2 : ∀ j, j < 293 → rw' K 544 (293 * k) j = I 541 j := by
            intro j hj
            show up (cpy (tw6 I2 0) 541 0 544 (293 * k) 293) 545 k 1 544 (293 * k + j) = _
            rw [up_ne (by omega), cpy_in (by omega), show 0 + (293 * k + j - 293 * k) = j by omega, tw_o (by omega)]
            exact e1 _ _ (by omega)
          exact ⟨⟨(kk _ _ (by omega) (by omega) (by omega)).trans up_eq, up_eq⟩, nb, nt, hR.eqr e2, ((a2 _ nb nt h5 h24 hM).cI h5 h24 (fun x j y1 y2 => (kk x j (by omega) (by omega) (by omega)).trans (up_ne (by omega)))).eqr h5 h24 e2⟩
        · have e3 : ∀ x j, 458 + 41 * k ≤ x → x < 458 + 41 * k + 41 → K x j = I x j := fun x j y1 y2 => (kk x j (by omega) (by omega) (by omega)).trans ((up_ne (by omega)).trans (a4 x j (by omega)))
          have e4 : ∀ j, j < 293 → K 544 (293 * k + j) = I 544 (293 * k + j) := fun j hj => (up_ne (by omega)).trans ((cpy_out (by omega)).trans ((tw_o (by omega)).trans (e1 _ _ (by omega))))
          have e5 : K 457 k = I 457 k := (kk _ _ (by omega) (by omega) (by omega)).trans ((up_ne (by omega)).trans (a4 _ _ (by omega)))
          have e6 : K 545 k = I 545 k := (up_ne (by omega)).trans ((cpy_out (by omega)).trans ((tw_o (by omega)).trans (e1 _ _ (by omega))))
          refine (hSl k hk).imp (fun ⟨y1, y2⟩ => ⟨e5.trans y1, e6.trans y2⟩) (fun ⟨⟨y1, y2⟩, y3⟩ => ⟨⟨e5.trans y1, e6.trans y2⟩, y3.kp e3 e4⟩)
  · refine ⟨.inr 1, I, ?_, fun L' => ⟨0, tw6 I 1, L', ?_, h.tw, LF.rf', Or.inr ⟨1, 1, rfl, by simp, tw_6⟩⟩⟩
    · show F_X11_save N (wm Mb I L) 1 x = _
      unfold F_X11_save
      simp only [wm_kR, wm_kt, wm_kn, wm_kin, wm_kL, wm_kI, wm_ksI, wm_ksL, wm_kJ, wm_ksJ, kg_t, kl_v, Option.bind_some, x1_t.1, cx_slot_out hx2, kbx]
    · show F_X12_save N (wm Mb I L') 540 x = _
      unfold F_X12_save
      simp only [wm_kR, wm_kt, wm_kn, wm_kin, wm_kL, wm_kI, wm_ksI, wm_ksL, wm_kJ, wm_ksJ, kg_t, kl_v, Option.bind_some, sr_k, sr_0, sr_1, sr_2, sr_3, sr_4, sr_7, sr_8, sr_9, sr_26, sr_27, sr_28, tw_fd, rx_noL_out hx, if_neg one0]
end
