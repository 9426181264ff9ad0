/-! restore and undo -/
section
variable {N : Nat} {I K : kInts} {L : kLngs} {r s f : Nat → Int32} {nb nt : Nat}
theorem Rel.back (h : Rel I) (k1 : ∀ a j, a < 44 ∨ 85 ≤ a ∧ a ≠ 126 ∧ a ≠ 541 ∧ a ≠ 540 → K a j = I a j) (k2 : ∀ j, j ≠ 5 → j ≠ 6 → K 540 j = I 540 j) (kR : RI (K 541) nb nt) (kM : RM K 44 (K 541) nb nt) (kH : RelH K) : Rel K := by
  obtain ⟨hT, hE, hMM, hNu, hH, hSl, hOu, hNm⟩ := h
  have kk : ∀ a j, a < 44 ∨ 85 ≤ a ∧ a ≠ 126 ∧ a ≠ 541 ∧ ¬ (a = 540 ∧ (j = 5 ∨ j = 6)) → K a j = I a j := by
    intro a j y
    by_cases z : a = 540
    · rw [z]; exact k2 j (by omega) (by omega)
    · exact k1 a j (by omega)
  refine ⟨hT.kp (fun x j y => kk x j (by omega)), ⟨by rw [kk 6 6 (by omega), kk 540 18 (by omega)]; exact hE.1, by rw [kk 6 7 (by omega), kk 540 19 (by omega)]; exact hE.2⟩, RelM.of kR kM, fun m hm => ?_, kH, hSl.kp (fun x j y => kk x j (by omega)), hOu.kp (fun x j y => kk x j (by omega)), hNm.kp (fun x j y => kk x j (by omega))⟩
  by_cases z : m = 44
  · rw [z]; exact kM.nu
  · refine (hNu m hm).kp (fun x j y1 y2 => kk x j ?_)
    have h1 := mks_sep hm
    by_cases w : m = 85
    · omega
    · have := mks_far hm z w
      omega
theorem sx_restore (h : Rel I) (x : Int32) (hN : 5000 < N) : SameX [(1, 1), (3, 2)] (fun M => F_X11_restore N M 1 x) (fun M => F_X12_restore N M 540 x) I := by
  intro L
  rcases sl_cases x with ⟨i, hi, hx, g1, g2, g3⟩ | ⟨hx, hx2⟩
  · have hm := sl_mem hi
    rcases h.2.2.2.2.2.1 i hi with ⟨f1, f2⟩ | ⟨⟨f1, f2⟩, nb, nt, w1, w2⟩
    · refine ⟨.inr 3, I, ?_, fun L' => ⟨0, tw6 I 2, L', ?_, h.tw, LF.rf', Or.inr ⟨3, 2, rfl, by simp, tw_6⟩⟩⟩
      · show F_X11_restore N (wm Mb I L) 1 x = _
        unfold F_X11_restore
        simp only [wm_kR, wm_kt, wm_kn, wm_kin, wm_kL, wm_kI, wm_ksI, wm_ksL, wm_kJ, wm_ksJ, kg_t, kl_v, Option.bind_some, x1_t.1, x1_t.2.2.2.2.2.2.2.2.2, cx_slot_in hi hx g2 g3, kbx]
        rw [hx]
        simp only [kin_nI sh62.1 sh62.2 hi (by decide), kx_nI (show i < 2147483648 by omega), kg_t, f1, if_true]
      · show F_X12_restore N (wm Mb I L') 540 x = _
        have e : tw6 I 0 545 i = 0 := (tw_o (by omega)).trans f2
        unfold F_X12_restore
        simp only [wm_kR, wm_kt, wm_kn, wm_kin, wm_kL, wm_kI, wm_ksI, wm_ksL, wm_kJ, wm_ksJ, kg_t, kl_v, Option.bind_some, sr_k, sr_0, sr_1, sr_2, sr_3, sr_4, sr_7, sr_8, sr_9, sr_26, sr_27, sr_28, tw_fd, rx_noL_in g1, if_true]
        rw [hx]
        unfold F_X12_restore_28
        simp only [kin_0k hi, kx_nI (show i < 2147483648 by omega), kg_t, e, if_true, wm_kR, wm_kt, wm_kn, wm_kin, wm_kL, wm_kI, wm_ksI, wm_ksL, wm_kJ, wm_ksJ, kg_t, kl_v, Option.bind_some, sr_k, sr_0, sr_1, sr_2, sr_3, sr_4, sr_7, sr_8, sr_9, sr_26, sr_27, sr_28, rx_stopT two0 one0, if_neg one0]
    · have h5 := w1.nb5
      have h24 := w1.nt24
      obtain ⟨I1, a1, a2, a3, a4⟩ := cx_copy (N := N) (I := I) (L := L) m169 hm (by unfold ap; omega) (by omega) (h.2.2.2.1 _ m169) (h.2.2.2.1 _ hm)
      let I2 := up I1 126 2 0
      have m2 := a2 _ nb nt h5 h24 w2
      have e1 : ∀ a j, a < 44 ∨ 85 ≤ a → ¬ (a = 126 ∧ j = 2) → I2 a j = I a j := fun a j y z => (up_ne (by omega)).trans (a4 a j (by omega))
      refine ⟨.inl (I 544 (293 * i + 6)), I2, ?_, fun L' => ?_⟩
      · show F_X11_restore N (wm Mb I L) 1 x = _
        have hf : F_X3_forget N (wm Mb I1 L) 126 = some (wm Mb I2 L) := by
          unfold F_X3_forget
          simp only [wm_kR, wm_kt, wm_kn, wm_kin, wm_kL, wm_kI, wm_ksI, wm_ksL, wm_kJ, wm_ksJ, kg_t, kl_v, Option.bind_some, s47h.1]
          rfl
        have ed : I2 44 0 = I 544 (293 * i + 6) := (up_ne (by omega)).trans m2.day
        unfold F_X11_restore
        simp only [wm_kR, wm_kt, wm_kn, wm_kin, wm_kL, wm_kI, wm_ksI, wm_ksL, wm_kJ, wm_ksJ, kg_t, kl_v, Option.bind_some, x1_t.1, x1_t.2.1, x1_t.2.2.1, x1_t.2.2.2.2.2.2.2.2.2, cx_slot_in hi hx g2 g3, kbx]
        rw [hx]
        simp only [kin_nI sh62.1 sh62.2 hi (by decide), kx_nI (show i < 2147483648 by omega), kg_t, f1, if_neg one0, wm_kR, wm_kt, wm_kn, wm_kin, wm_kL, wm_kI, wm_ksI, wm_ksL, wm_kJ, wm_ksJ, kg_t, kl_v, Option.bind_some, x1_t.1, x1_t.2.1, x1_t.2.2.1, mm_k m169, a1, s47h.1, hf, ed]
      · have c := rx_copies (N := N) (I := tw6 I2 0) (L := L') (a := 544) (c := 541) (p := 293 * i) (q := 0) s45 s42 (by omega) (by omega) (by omega) (by omega) (by omega) (by omega)
        rw [show nI 0 = 0 from rfl] at c
        have em : (293 : Int32) * nI i = nI (293 * i) := by rw [show (293 : Int32) = nI 293 from rfl, pk_mul]
        let K := up (cpy (tw6 I2 0) 544 (293 * i) 541 0 293) 540 5 0
        have kk : ∀ a j, a ≠ 541 → ¬ (a = 540 ∧ (j = 5 ∨ j = 6)) → K a j = I2 a j := fun a j y1 y2 => (up_ne (by omega)).trans ((cpy_out (by omega)).trans (tw_o (by omega)))
        have krow : ∀ k, k < 293 → K 541 k = rw' I 544 (293 * i) k := by
          intro k hk
          show up (cpy (tw6 I2 0) 544 (293 * i) 541 0 293) 540 5 0 541 k = I 544 (293 * i + k)
          rw [up_ne (by omega), cpy_in (by omega), show 293 * i + (k - 0) = 293 * i + k by omega, tw_o (by omega)]
          exact e1 _ _ (by omega) (by omega)
        have k6 : K 540 6 = 0 := (up_ne (by omega)).trans ((cpy_out (by omega)).trans tw_6)
        refine ⟨I 544 (293 * i + 6), K, L', ?_, ?_, LF.rf', Or.inl ⟨rfl, k6⟩⟩
        · show F_X12_restore N (wm Mb I2 L') 540 x = _
          have e : tw6 I2 0 545 i = 1 := (tw_o (by omega)).trans ((e1 _ _ (by omega) (by omega)).trans f2)
          have ed : up (cpy (tw6 I2 0) 544 (293 * i) 541 0 293) 540 5 0 541 6 = I 544 (293 * i + 6) := krow 6 (by omega)
          unfold F_X12_restore
          simp only [wm_kR, wm_kt, wm_kn, wm_kin, wm_kL, wm_kI, wm_ksI, wm_ksL, wm_kJ, wm_ksJ, kg_t, kl_v, Option.bind_some, sr_k, sr_0, sr_1, sr_2, sr_3, sr_4, sr_7, sr_8, sr_9, sr_26, sr_27, sr_28, tw_fd, rx_noL_in g1, if_true]
          rw [hx]
          unfold F_X12_restore_28
          simp only [kin_0k hi, kx_nI (show i < 2147483648 by omega), kg_t, e, if_neg one0, wm_kR, wm_kt, wm_kn, wm_kin, wm_kL, wm_kI, wm_ksI, wm_ksL, wm_kJ, wm_ksJ, kg_t, kl_v, Option.bind_some, sr_k, sr_0, sr_1, sr_2, sr_3, sr_4, sr_7, sr_8, sr_9, sr_26, sr_27, sr_28, kl_0, kl_1, kl_2, kl_3, kl_4, kl_5, kl_6, kl_7, kl_8, kl_9, kl_10, kl_11, kl_12, kl_13, kx_l0, kx_l1, kx_l2, kx_l3, kx_l4, kx_l5, kx_l6, kx_l7, kx_l8, kx_l9, kx_l10, kx_l11, kx_l12, kx_l13, rx_stopF, if_true, em, c, ed]
          rfl
        · obtain ⟨nx, u, o1, o2, o3, o4, o5, o6⟩ := h.2.2.2.2.1
          refine h.back (nb := nb) (nt := nt) (fun a j y => (kk a j (by omega) (by omega)).trans (e1 a j (by omega) (by omega))) (fun j y1 y2 => (kk _ j (by omega) (by omega)).trans (e1 _ j (by omega) (by omega))) (w1.eqr krow) ((m2.cI h5 h24 (fun a j y1 y2 => (kk a j (by omega) (by omega)).trans (up_ne (by omega)))).eqr h5 h24 krow) ⟨nx, 0, o1, by omega, ?_, ?_, up_eq, fun k hk => absurd hk (Nat.not_lt_zero _)⟩
          · exact (kk _ _ (by omega) (by omega)).trans ((e1 _ _ (by omega) (by omega)).trans o3)
          · exact (kk _ _ (by omega) (by omega)).trans up_eq
  · refine ⟨.inr 1, I, ?_, fun L' => ⟨0, tw6 I 1, L', ?_, h.tw, LF.rf', Or.inr ⟨1, 1, rfl, by simp, tw_6⟩⟩⟩
    · show F_X11_restore N (wm Mb I L) 1 x = _
      unfold F_X11_restore
      simp only [wm_kR, wm_kt, wm_kn, wm_kin, wm_kL, wm_kI, wm_ksI, wm_ksL, wm_kJ, wm_ksJ, kg_t, kl_v, Option.bind_some, x1_t.1, cx_slot_out hx2, kbx]
    · show F_X12_restore N (wm Mb I L') 540 x = _
      unfold F_X12_restore
      simp only [wm_kR, wm_kt, wm_kn, wm_kin, wm_kL, wm_kI, wm_ksI, wm_ksL, wm_kJ, wm_ksJ, kg_t, kl_v, Option.bind_some, sr_k, sr_0, sr_1, sr_2, sr_3, sr_4, sr_7, sr_8, sr_9, sr_26, sr_27, sr_28, tw_fd, rx_noL_out hx, if_neg one0]
theorem sx_undo (h : Rel I) (hN : 5000 < N) : SameX [(3, 1)] (fun M => F_X11_undo N M 1) (fun M => F_X12_undo N M 540) I := by
  intro L
  obtain ⟨nx, u, o1, o2, o3, o4, o5, o6⟩ := h.2.2.2.2.1
  by_cases z : u = 0
  · subst z
    refine ⟨.inr 3, I, ?_, fun L' => ⟨0, tw6 I 1, L', ?_, h.tw, LF.rf', Or.inr ⟨3, 1, rfl, by simp, tw_6⟩⟩⟩
    · show F_X11_undo N (wm Mb I L) 1 = _
      have e : (I 126 2 = 0) = True := eq_true o4
      unfold F_X11_undo
      simp only [wm_kR, wm_kt, wm_kn, wm_kin, wm_kL, wm_kI, wm_ksI, wm_ksL, wm_kJ, wm_ksJ, kg_t, kl_v, Option.bind_some, x1_t.1, x1_t.2.2.1, s47h.1, e, if_true]
    · show F_X12_undo N (wm Mb I L') 540 = _
      have e : (tw6 I 0 540 5 = 0) = True := eq_true ((tw_o (by omega)).trans o5)
      unfold F_X12_undo F_X12_undo_18
      simp only [wm_kR, wm_kt, wm_kn, wm_kin, wm_kL, wm_kI, wm_ksI, wm_ksL, wm_kJ, wm_ksJ, kg_t, kl_v, Option.bind_some, sr_k, sr_0, sr_1, sr_2, sr_3, sr_4, sr_7, sr_8, sr_9, sr_26, sr_27, sr_28, tw_fd, e, if_true, rx_stopT one0 one0, if_neg one0]
  · obtain ⟨v, rfl⟩ : ∃ v, u = v + 1 := ⟨u - 1, by omega⟩
    obtain ⟨nb, nt, w1, w2⟩ := o6 v (by omega)
    have h5 := w1.nb5
    have h24 := w1.nt24
    have hid : hs (nx + 8 - (v + 1) + v) = hs ((nx + 7) % 8) := hs_mod (by omega)
    rw [hid] at w2
    have hm := hs_mem ((nx + 7) % 8)
    have hle := hs_le ((nx + 7) % 8)
    have hlt : (nx + 7) % 8 < 8 := Nat.mod_lt _ (by decide)
    have ev : nI (v + 1) - 1 = nI v := by
      show nI (v + 1) - nI 1 = nI v
      rw [pk_sub (by omega)]
      rfl
    let I0 := up (up I 126 1 (nI ((nx + 7) % 8))) 126 2 (nI v)
    have e0 : ∀ a j, ¬ (a = 126 ∧ (j = 1 ∨ j = 2)) → I0 a j = I a j := fun a j y => (up_ne (by omega)).trans (up_ne (by omega))
    have hu : ¬ nI (v + 1) = 0 := nI_ne0 (by omega) (by omega)
    obtain ⟨I1, a1, a2, a3, a4⟩ := cx_copy (N := N) (I := I0) (L := L) m169 hm (by unfold ap; omega) (by omega) ((h.2.2.2.1 _ m169).kp (fun x j y1 y2 => e0 x j (by omega))) ((h.2.2.2.1 _ hm).kp (fun x j y1 y2 => e0 x j (by omega)))
    have m2 := a2 _ nb nt h5 h24 (w2.cI h5 h24 (fun x j y1 y2 => e0 x j (by omega)))
    have e1 : ∀ a j, a < 44 ∨ 85 ≤ a → ¬ (a = 126 ∧ (j = 1 ∨ j = 2)) → I1 a j = I a j := fun a j y z => (a4 a j (by omega)).trans (e0 a j z)
    have ec : I1 126 2 = nI v := (a4 _ _ (by omega)).trans up_eq
    have en : I1 126 1 = nI ((nx + 7) % 8) := (a4 _ _ (by omega)).trans ((up_ne (by omega)).trans up_eq)
    refine ⟨.inl (nI v), I1, ?_, fun L' => ?_⟩
    · show F_X11_undo N (wm Mb I L) 1 = _
      have h80 : (!((8 : Int32) == 0)) = true := rfl
      have hR : kR Mb 127 ((nx + 7) % 8) = hs ((nx + 7) % 8) := (sh_h hlt).trans (hs_of hlt).symm
      have e3 : ∀ y, up I 126 1 y 126 2 = nI (v + 1) := fun y => (up_ne (by omega)).trans o4
      have e4 : up (up I 126 1 (nI ((nx + 7) % 8))) 126 2 (nI v) 126 1 = nI ((nx + 7) % 8) := (up_ne (by omega)).trans up_eq
      have a1' : F_X4_copyFrom N (wm Mb (up (up I 126 1 (nI ((nx + 7) % 8))) 126 2 (nI v)) L) 44 (hs ((nx + 7) % 8)) = _ := a1
      unfold F_X11_undo F_X3_takeBack
      simp only [wm_kR, wm_kt, wm_kn, wm_kin, wm_kL, wm_kI, wm_ksI, wm_ksL, wm_kJ, wm_ksJ, kg_t, kl_v, Option.bind_some, x1_t.1, x1_t.2.1, x1_t.2.2.1, s47h.1, s47h.2, o4, hu, if_false, o3, h80, mb8 o1, e3, ev, e4, kin_nI s348.1 s348.2 hlt (by decide), kx_nI (show (nx + 7) % 8 < 2147483648 by omega), hR, mm_k m169, a1', ec]
    · have c := rx_copies (N := N) (I := up (tw6 I1 0) 540 5 (nI v)) (L := L') (a := 543) (c := 541) (p := 293 * v) (q := 0) s44 s42 (by omega) (by omega) (by omega) (by omega) (by omega) (by omega)
      rw [show nI 0 = 0 from rfl] at c
      have em : (293 : Int32) * nI v = nI (293 * v) := by rw [show (293 : Int32) = nI 293 from rfl, pk_mul]
      let K := cpy (up (tw6 I1 0) 540 5 (nI v)) 543 (293 * v) 541 0 293
      have kk : ∀ a j, a ≠ 541 → ¬ (a = 540 ∧ (j = 5 ∨ j = 6)) → K a j = I1 a j := fun a j y1 y2 => (cpy_out (by omega)).trans ((up_ne (by omega)).trans (tw_o (by omega)))
      have krow : ∀ k, k < 293 → K 541 k = rw' I 543 (293 * v) k := by
        intro k hk
        show cpy (up (tw6 I1 0) 540 5 (nI v)) 543 (293 * v) 541 0 293 541 k = I 543 (293 * v + k)
        rw [cpy_in (by omega), show 293 * v + (k - 0) = 293 * v + k by omega, up_ne (by omega), tw_o (by omega)]
        exact e1 _ _ (by omega) (by omega)
      have k6 : K 540 6 = 0 := (cpy_out (by omega)).trans ((up_ne (by omega)).trans tw_6)
      have k5 : K 540 5 = nI v := (cpy_out (by omega)).trans up_eq
      refine ⟨nI v, K, L', ?_, ?_, LF.rf', Or.inl ⟨rfl, k6⟩⟩
      · show F_X12_undo N (wm Mb I1 L') 540 = _
        have e5 : tw6 I1 0 540 5 = nI (v + 1) := (tw_o (by omega)).trans ((e1 _ _ (by omega) (by omega)).trans o5)
        have e6 : up (tw6 I1 0) 540 5 (nI v) 540 5 = nI v := up_eq
        have k5' : cpy (up (tw6 I1 0) 540 5 (nI v)) 543 (293 * v) 541 0 293 540 5 = nI v := k5
        unfold F_X12_undo F_X12_undo_18
        simp only [wm_kR, wm_kt, wm_kn, wm_kin, wm_kL, wm_kI, wm_ksI, wm_ksL, wm_kJ, wm_ksJ, kg_t, kl_v, Option.bind_some, sr_k, sr_0, sr_1, sr_2, sr_3, sr_4, sr_7, sr_8, sr_9, sr_26, sr_27, sr_28, tw_fd, e5, hu, if_false, rx_stopF, if_true, ev, e6, em, c, k5']
        rfl
      · refine h.back (nb := nb) (nt := nt) (fun a j y => (kk a j (by omega) (by omega)).trans (e1 a j (by omega) (by omega))) (fun j y1 y2 => (kk _ j (by omega) (by omega)).trans (e1 _ j (by omega) (by omega))) (w1.eqr krow) ((m2.cI h5 h24 (fun a j y1 y2 => kk a j (by omega) (by omega))).eqr h5 h24 krow) ⟨(nx + 7) % 8, v, hlt, by omega, (kk _ _ (by omega) (by omega)).trans en, (kk _ _ (by omega) (by omega)).trans ec, k5, fun k hk => ?_⟩
        have hid2 : hs ((nx + 7) % 8 + 8 - v + k) = hs (nx + 8 - (v + 1) + k) := hs_mod (by omega)
        rw [hid2]
        have hl2 := hs_le (nx + 8 - (v + 1) + k)
        exact (o6 k (by omega)).kp (fun x j y1 y2 => (kk x j (by omega) (by omega)).trans (e1 x j (by omega) (by omega))) (fun j hj => (kk _ _ (by omega) (by omega)).trans (e1 _ _ (by omega) (by omega)))
end
