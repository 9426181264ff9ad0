/-! writeBoard: both answer alike -/
section
variable {N : Nat} {I K : kInts} {L : kLngs} {r s f : Nat → Int32} {nb nt m : Nat} {p : oT}
theorem Rel.out (h : Rel I) (k1 : ∀ a j, ¬ (a = 4 ∧ j = 1) → a ≠ 5 → a ≠ 551 → ¬ (a = 540 ∧ (j = 6 ∨ j = 29)) → K a j = I a j) (hO : RelO K) : Rel K := by
  obtain ⟨hT, hE, hMM, hNu, hH, hSl, -, hNm⟩ := h
  exact ⟨hT.kp (fun x j y => k1 x j (by omega) (by omega) (by omega) (by omega)), ⟨by rw [k1 6 6 (by omega) (by omega) (by omega) (by omega), k1 540 18 (by omega) (by omega) (by omega) (by omega)]; exact hE.1, by rw [k1 6 7 (by omega) (by omega) (by omega) (by omega), k1 540 19 (by omega) (by omega) (by omega) (by omega)]; exact hE.2⟩, hMM.kp (fun x j y1 y2 => k1 x j (by omega) (by omega) (by omega) (by omega)) (fun k hk => k1 _ _ (by omega) (by omega) (by omega) (by omega)), fun m hm => (hNu m hm).kp (fun x j y1 y2 => k1 x j (by have := mks_ge hm; omega) (by have := mks_ge hm; omega) (by have := mks_sep hm; omega) (by have := mks_sep hm; omega)), hH.kp (fun x j y => k1 x j (by omega) (by omega) (by omega) (by omega)), hSl.kp (fun x j y => k1 x j (by omega) (by omega) (by omega) (by omega)), hO, hNm.kp (fun x j y => k1 x j (by omega) (by omega) (by omega) (by omega))⟩
theorem sx_writeBoard (h : Rel I) (x : Int32) (hN : 100 < N) : SameX [(1, 1)] (fun M => F_X11_writeBoard N M 1 x) (fun M => F_X12_writeBoard N M 540 x) I := by
  obtain ⟨nb, nt, hR, hM⟩ := h.2.2.1.row
  have h5 := hR.nb5
  have h24 := hR.nt24
  intro L
  rcases num_cases x (show nb < 1000 by omega) with ⟨b, hb, rfl⟩ | hx
  · obtain ⟨a, s', l, ha, -, -, ra, -⟩ := hR.b b hb
    have hM0 : RM (up I 4 1 0) 44 (I 541) nb nt := hM.cI h5 h24 (fun x j y1 y2 => up_ne (by omega))
    obtain ⟨I1, p, a1, a2, a3, a4, a5⟩ := lk_write (N := N) (L := L) hR hN hb ra (by omega) (2 * a + 1) (6 - a) N (up I 4 1 0) (0, fun _ => 0) (by omega) (by omega) (by omega) hM0 ⟨up_eq, fun j hj => absurd hj (Nat.not_lt_zero _)⟩ (by show 0 + 7 * (2 * a + 1) ≤ 200; omega)
    rw [← pz_na (show a ≤ 6 by omega)] at a1
    refine ⟨.inl (nI p.1), I1, ?_, fun L' => ?_⟩
    · show F_X11_writeBoard N (wm Mb I L) 1 (nI b) = _
      have ea : up I 4 1 0 (bd 44 b) 1 = nI a := (hM0.bb b hb).1.trans ra
      unfold F_X11_writeBoard
      simp only [wm_kR, wm_kt, wm_kn, wm_kin, wm_kL, wm_kI, wm_ksI, wm_ksL, wm_kJ, wm_ksJ, kg_t, kl_v, Option.bind_some, x1_t.1, x1_t.2.2.2.2.1, cx_exB_in hR hM hb, kbx, s4.1, bb_k m169 (show b < 5 by omega), ea]
      exact a1
    · have eI : ∀ x j, ¬ (x = 4 ∧ j = 1) → x ≠ 5 → I1 x j = I x j := fun x j y1 y2 => (a4 x j y1 y2).trans (up_ne (by omega))
      have er : I1 541 = I 541 := funext fun j => eI _ _ (by omega) (by omega)
      have hr : up (tw6 I1 0) 540 29 0 541 = I 541 := funext fun j => (up_ne (by omega)).trans ((tw_o (by omega)).trans (eI _ _ (by omega) (by omega)))
      obtain ⟨J, b1, b2, b3⟩ := a5 (up (tw6 I1 0) 540 29 0) L' N (by omega) hr ⟨up_eq, fun j hj => absurd hj (Nat.not_lt_zero _)⟩
      rw [← pz_na (show a ≤ 6 by omega)] at b1
      have kj : ∀ x j, x ≠ 551 → ¬ (x = 540 ∧ (j = 6 ∨ j = 29)) → J x j = I1 x j := fun x j y1 y2 => (b3 x j (by omega) y1).trans ((up_ne (by omega)).trans (tw_o (by omega)))
      refine ⟨nI p.1, J, L', ?_, h.out (fun x j y1 y2 y3 y4 => (kj x j y3 y4).trans (eI x j y1 y2)) ⟨p.1, a3, (kj _ _ (by omega) (by omega)).trans a2.1, b2.1, fun j hj => by rw [kj 5 j (by omega) (by omega), a2.2 j hj, b2.2 j hj]⟩, LF.rf', Or.inl ⟨rfl, (b3 _ _ (by omega) (by omega)).trans ((up_ne (by omega)).trans tw_6)⟩⟩
      show F_X12_writeBoard N (wm Mb I1 L') 540 (nI b) = _
      have hob := rx_ofB0 (N := N) (I := up (tw6 I1 0) 540 29 0) (L := L') (r := up (tw6 I1 0) 540 29 0 541) (f := up (tw6 I1 0) 540 29 0 546) (show b < 5 by omega)
      rw [rf_self, hr, ra] at hob
      unfold F_X12_writeBoard
      simp only [wm_kR, wm_kt, wm_kn, wm_kin, wm_kL, wm_kI, wm_ksI, wm_ksL, wm_kJ, wm_ksJ, kg_t, kl_v, Option.bind_some, sr_k, sr_0, sr_1, sr_2, sr_3, sr_4, sr_7, sr_8, sr_9, sr_26, sr_27, sr_28, tw_fd, rx_noB_in (I := I1) (nb := nb) (nt := nt) (by rw [er]; exact hR) hb, if_true, hob]
      exact b1
  · refine ⟨.inr 1, I, ?_, fun L' => ⟨0, tw6 I 1, L', ?_, h.tw, LF.rf', Or.inr ⟨1, 1, rfl, by simp, tw_6⟩⟩⟩
    · show F_X11_writeBoard N (wm Mb I L) 1 x = _
      unfold F_X11_writeBoard
      simp only [wm_kR, wm_kt, wm_kn, wm_kin, wm_kL, wm_kI, wm_ksI, wm_ksL, wm_kJ, wm_ksJ, kg_t, kl_v, Option.bind_some, x1_t.1, cx_exB_out hR hM hx, kbx]
    · show F_X12_writeBoard N (wm Mb I L') 540 x = _
      unfold F_X12_writeBoard
      simp only [wm_kR, wm_kt, wm_kn, wm_kin, wm_kL, wm_kI, wm_ksI, wm_ksL, wm_kJ, wm_ksJ, kg_t, kl_v, Option.bind_some, sr_k, sr_0, sr_1, sr_2, sr_3, sr_4, sr_7, sr_8, sr_9, sr_26, sr_27, sr_28, tw_fd, rx_noB_out hR hx, if_neg one0]
end
