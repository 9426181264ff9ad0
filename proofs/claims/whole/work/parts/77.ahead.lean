/-! looking ahead: bankAfter, purseAfter -/
section
variable {N : Nat} {I K : kInts} {L : kLngs} {r s f : Nat → Int32} {nb nt : Nat}
/-- only the draft, what the reference set aside and who fell have changed -/
theorem Rel.drf (h : Rel I) (k1 : ∀ a j, a < 85 ∨ 126 ≤ a ∧ a ≠ 541 ∧ a ≠ 542 ∧ a ≠ 546 ∧ ¬ (a = 540 ∧ j = 6) → K a j = I a j) (k2 : ∀ k, k < 293 → K 541 k = I 541 k) (k3 : Nu K 85) : Rel K := by
  obtain ⟨hT, hE, hMM, hNu, hH, hSl, hOu, hNm⟩ := h
  refine ⟨hT.kp (fun x j y => k1 x j (by omega)), ⟨by rw [k1 6 6 (by omega), k1 540 18 (by omega)]; exact hE.1, by rw [k1 6 7 (by omega), k1 540 19 (by omega)]; exact hE.2⟩, hMM.kp (fun x j y1 y2 => k1 x j (by omega)) (fun k hk => by rw [Nat.zero_add]; exact k2 k hk), fun m hm => ?_, hH.kp (fun x j y => k1 x j (by omega)), hSl.kp (fun x j y => k1 x j (by omega)), hOu.kp (fun x j y => k1 x j (by omega)), hNm.kp (fun x j y => k1 x j (by omega))⟩
  by_cases z : m = 85
  · rw [z]; exact k3
  · refine (hNu m hm).kp (fun x j y1 y2 => k1 x j ?_)
    have h1 := mks_sep hm
    by_cases w : m = 44
    · omega
    · have := mks_far hm w z
      omega
/-- the reference looks ahead at place p of the row -/
theorem rx_behind (hR : RI (I 541) nb nt) {D p : Nat} (hD : D ≤ 100) (hp : p < 293) (hN : 1000 < N) : ∃ K, F_X12_behind N (wm Mb I L) 540 (nI p) (nI D) = some (dyN nb nt D (I 541) p, wm Mb K L) ∧ (∀ a j, a ≠ 541 → a ≠ 542 → a ≠ 546 → K a j = I a j) ∧ ∀ k, k < 293 → K 541 k = I 541 k := by
  have c := rx_copies (N := N) (I := I) (L := L) (a := 541) (c := 542) (p := 0) (q := 0) s42 s43 (by decide) (by decide) (by decide) (by decide) (by decide) hN
  rw [show nI 0 = 0 from rfl] at c
  let J := cpy I 541 0 542 0 293
  have j1 : J 541 = I 541 := funext fun j => cpy_out (Or.inl (by decide))
  have d := rx_days (N := N) (I := J) (L := L) (f := J 546) (by omega) hR hD
  have hJ : rf J (I 541) (J 546) = J := by have z := @rf_self J; rw [j1] at z; exact z
  rw [hJ] at d
  let J2 := rf J (dyN nb nt D (I 541)) (dyNF nb nt D (I 541) (J 546))
  have c2 := rx_copies (N := N) (I := J2) (L := L) (a := 542) (c := 541) (p := 0) (q := 0) s43 s42 (by decide) (by decide) (by decide) (by decide) (by decide) hN
  rw [show nI 0 = 0 from rfl] at c2
  refine ⟨cpy J2 542 0 541 0 293, ?_, fun a j y1 y2 y3 => (cpy_out (Or.inl y1)).trans ((rf_o j y1 y3).trans (cpy_out (Or.inl y2))), fun k hk => ?_⟩
  · have d' : F_X12_days1 N (wm Mb (cpy I 541 0 542 0 293) L) 540 (nI D) = some (dyN nb nt D (I 541) 12 - I 541 12, wm Mb J2 L) := d
    have ev : J2 541 p = dyN nb nt D (I 541) p := rf_s p
    unfold F_X12_behind
    simp only [wm_kR, wm_kt, wm_kn, wm_kin, wm_kL, wm_kI, wm_ksI, wm_ksL, wm_kJ, wm_ksJ, kg_t, kl_v, Option.bind_some, sr_k, sr_0, sr_1, sr_2, sr_3, sr_4, sr_7, sr_8, sr_9, sr_26, sr_27, sr_28, c, d', kin_s hp, kx_nI (show p < 2147483648 by omega), ev, c2]
  · rw [cpy_in (by omega), show 0 + (k - 0) = k by omega]
    show rf J (dyN nb nt D (I 541)) (dyNF nb nt D (I 541) (J 546)) 542 k = _
    rw [rf_o k (by decide) (by decide)]
    show cpy I 541 0 542 0 293 542 k = _
    rw [cpy_in (by omega), show 0 + (k - 0) = k by omega]
/-- the class runs its draft ahead -/
theorem cx_ahead (h : Rel I) (hR : RI (I 541) nb nt) (hM : RM I 44 (I 541) nb nt) {D : Nat} (hD : D ≤ 100) (hN : 1000 < N) : ∃ I1 I2, F_X4_copyFrom N (wm Mb I L) 85 44 = some (wm Mb I1 L) ∧ F_X4_passDays N (wm Mb I1 L) 85 (nI D) = some (dyN nb nt D (I 541) 12 - I 541 12, wm Mb I2 L) ∧ RM I2 85 (dyN nb nt D (I 541)) nb nt ∧ ∀ a j, a < 85 ∨ 126 ≤ a → I2 a j = I a j := by
  have m258 : (85 : Nat) ∈ mks := by decide
  obtain ⟨I1, a1, a2, a3, a4⟩ := cx_copy (N := N) (I := I) (L := L) m258 m169 (by unfold ap; omega) (by omega) (h.2.2.2.1 _ m258) (h.2.2.2.1 _ m169)
  obtain ⟨I2, b1, b2, b3⟩ := cx_days (N := N) (L := L) m258 (by omega) hR (a2 _ nb nt hR.nb5 hR.nt24 hM) hD
  exact ⟨I1, I2, a1, b1, b2, fun a j y => (b3 a j (by omega)).trans (a4 a j (by omega))⟩
theorem in100 (M : kMem) (x : Int32) : F_X12_in N M x.toInt64 0 100 = some (if x < 0 ∨ 100 < x then 0 else 1) := by
  have h := in1 (N := N) M x 0 100
  rw [show (0 : Int32).toInt64 = 0 from rfl, show (100 : Int32).toInt64 = 100 from rfl] at h
  exact h
theorem sx_bankAfter (h : Rel I) (x : Int32) (hN : 5000 < N) : SameX [(2, 1)] (fun M => F_X11_bankAfter N M 1 x) (fun M => F_X12_bankAfter N M 540 x) I := by
  obtain ⟨nb, nt, hR, hM⟩ := h.2.2.1.row
  intro L
  by_cases hx : x < 0 ∨ 100 < x
  · refine ⟨.inr 2, I, ?_, fun L' => ⟨0, tw6 I 1, L', ?_, h.tw, LF.rf', Or.inr ⟨2, 1, rfl, by simp, tw_6⟩⟩⟩
    · show F_X11_bankAfter N (wm Mb I L) 1 x = _
      unfold F_X11_bankAfter
      simp only [cx_range, if_pos hx, kbx]
    · show F_X12_bankAfter N (wm Mb I L') 540 x = _
      unfold F_X12_bankAfter F_X12_bankAfter_23
      simp only [wm_kR, wm_kt, wm_kn, wm_kin, wm_kL, wm_kI, wm_ksI, wm_ksL, wm_kJ, wm_ksJ, kg_t, kl_v, Option.bind_some, sr_k, sr_0, sr_1, sr_2, sr_3, sr_4, sr_7, sr_8, sr_9, sr_26, sr_27, sr_28, tw_fd, in100, if_pos hx, if_true, rx_stopT one0 one0, if_neg one0]
  · obtain ⟨D, hD, rfl⟩ := num_big x (n := 100) (by decide) hx
    have m258 : (85 : Nat) ∈ mks := by decide
    obtain ⟨I1, I2, a1, a2, a3, a4⟩ := cx_ahead (N := N) (L := L) h hR hM hD (by omega)
    refine ⟨.inl (dyN nb nt D (I 541) 5), I2, ?_, fun L' => ?_⟩
    · show F_X11_bankAfter N (wm Mb I L) 1 (nI D) = _
      unfold F_X11_bankAfter
      simp only [cx_range, if_neg hx, kbx, wm_kR, wm_kt, wm_kn, wm_kin, wm_kL, wm_kI, wm_ksI, wm_ksL, wm_kJ, wm_ksJ, kg_t, kl_v, Option.bind_some, x1_t.1, x1_t.2.1, x1_t.2.2.2.2.2.2.2.1, mm_k m258, a1, a2, a3.bank]
    · have hr : tw6 I2 0 541 = I 541 := funext fun j => (tw_o (by omega)).trans (a4 _ _ (by omega))
      obtain ⟨K, b1, b2, b3⟩ := rx_behind (N := N) (I := tw6 I2 0) (L := L') (nb := nb) (nt := nt) (by rw [hr]; exact hR) hD (show 5 < 293 by decide) (by omega)
      rw [hr, show nI 5 = 5 from rfl] at b1
      rw [hr] at b3
      refine ⟨_, K, L', ?_, h.drf (fun a j y => (b2 a j (by omega) (by omega) (by omega)).trans ((tw_o (by omega)).trans (a4 a j (by omega)))) b3 (a3.nu.kp (fun a j y1 y2 => (b2 a j (by omega) (by omega) (by omega)).trans (tw_o (by omega)))), LF.rf', Or.inl ⟨rfl, (b2 _ _ (by omega) (by omega) (by omega)).trans tw_6⟩⟩
      show F_X12_bankAfter N (wm Mb I2 L') 540 (nI D) = _
      unfold F_X12_bankAfter F_X12_bankAfter_23
      simp only [wm_kR, wm_kt, wm_kn, wm_kin, wm_kL, wm_kI, wm_ksI, wm_ksL, wm_kJ, wm_ksJ, kg_t, kl_v, Option.bind_some, sr_k, sr_0, sr_1, sr_2, sr_3, sr_4, sr_7, sr_8, sr_9, sr_26, sr_27, sr_28, tw_fd, in100, if_neg hx, if_neg one0, rx_stopF, if_true, b1]
theorem sx_purseAfter (h : Rel I) (x y : Int32) (hN : 5000 < N) : SameX [(1, 1), (2, 2)] (fun M => F_X11_purseAfter N M 1 x y) (fun M => F_X12_purseAfter N M 540 x y) I := by
  obtain ⟨nb, nt, hR, hM⟩ := h.2.2.1.row
  have h24 := hR.nt24
  intro L
  rcases num_cases x (show nt < 1000 by omega) with ⟨t, ht, rfl⟩ | hx
  · have k1 := tt_k m169 (show t < 24 by omega)
    have en : I (tr 44 t) 0 = nI t := hM.nu.2.1 t (by omega)
    by_cases hy : y < 0 ∨ 100 < y
    · refine ⟨.inr 2, I, ?_, fun L' => ⟨0, tw6 I 2, L', ?_, h.tw, LF.rf', Or.inr ⟨2, 2, rfl, by simp, tw_6⟩⟩⟩
      · show F_X11_purseAfter N (wm Mb I L) 1 (nI t) y = _
        unfold F_X11_purseAfter
        simp only [wm_kR, wm_kt, wm_kn, wm_kin, wm_kL, wm_kI, wm_ksI, wm_ksL, wm_kJ, wm_ksJ, kg_t, kl_v, Option.bind_some, x1_t.1, cx_exT_in hR hM ht, kbx, k1, cx_range, if_pos hy]
      · show F_X12_purseAfter N (wm Mb I L') 540 (nI t) y = _
        unfold F_X12_purseAfter F_X12_purseAfter_31
        simp only [wm_kR, wm_kt, wm_kn, wm_kin, wm_kL, wm_kI, wm_ksI, wm_ksL, wm_kJ, wm_ksJ, kg_t, kl_v, Option.bind_some, sr_k, sr_0, sr_1, sr_2, sr_3, sr_4, sr_7, sr_8, sr_9, sr_26, sr_27, sr_28, tw_fd, rx_noT_in hR ht, if_true, in100, if_pos hy, rx_stopT two0 one0, if_neg one0]
    · obtain ⟨D, hD, rfl⟩ := num_big y (n := 100) (by decide) hy
      have m258 : (85 : Nat) ∈ mks := by decide
      obtain ⟨I1, I2, a1, a2, a3, a4⟩ := cx_ahead (N := N) (L := L) h hR hM hD (by omega)
      refine ⟨.inl (dyN nb nt D (I 541) (89 + 7 * t + 2)), I2, ?_, fun L' => ?_⟩
      · show F_X11_purseAfter N (wm Mb I L) 1 (nI t) (nI D) = _
        unfold F_X11_purseAfter
        simp only [wm_kR, wm_kt, wm_kn, wm_kin, wm_kL, wm_kI, wm_ksI, wm_ksL, wm_kJ, wm_ksJ, kg_t, kl_v, Option.bind_some, x1_t.1, x1_t.2.1, x1_t.2.2.2.2.2.2.2.1, cx_exT_in hR hM ht, kbx, k1, en, cx_range, if_neg hy, mm_k m258, a1, a2, cx_tn_in m258 (RI_dyN D _ hR) a3 ht, tr_ne0, if_false, tt_k m258 (show t < 24 by omega), (a3.tt t ht).2.1]
      · have hr : tw6 I2 0 541 = I 541 := funext fun j => (tw_o (by omega)).trans (a4 _ _ (by omega))
        have hr2 : I2 541 = I 541 := funext fun j => a4 _ _ (by omega)
        obtain ⟨K, b1, b2, b3⟩ := rx_behind (N := N) (I := tw6 I2 0) (L := L') (nb := nb) (nt := nt) (by rw [hr]; exact hR) hD (show 89 + 7 * t + 2 < 293 by omega) (by omega)
        rw [hr] at b1 b3
        refine ⟨_, K, L', ?_, h.drf (fun a j y => (b2 a j (by omega) (by omega) (by omega)).trans ((tw_o (by omega)).trans (a4 a j (by omega)))) b3 (a3.nu.kp (fun a j y1 y2 => (b2 a j (by omega) (by omega) (by omega)).trans (tw_o (by omega)))), LF.rf', Or.inl ⟨rfl, (b2 _ _ (by omega) (by omega) (by omega)).trans tw_6⟩⟩
        show F_X12_purseAfter N (wm Mb I2 L') 540 (nI t) (nI D) = _
        unfold F_X12_purseAfter F_X12_purseAfter_31
        simp only [wm_kR, wm_kt, wm_kn, wm_kin, wm_kL, wm_kI, wm_ksI, wm_ksL, wm_kJ, wm_ksJ, kg_t, kl_v, Option.bind_some, sr_k, sr_0, sr_1, sr_2, sr_3, sr_4, sr_7, sr_8, sr_9, sr_26, sr_27, sr_28, tw_fd, rx_noT_in (I := I2) (nb := nb) (by rw [hr2]; exact hR) ht, if_true, in100, if_neg hy, if_neg one0, rx_stopF, rx_atT2, b1]
  · refine ⟨.inr 1, I, ?_, fun L' => ⟨0, tw6 I 1, L', ?_, h.tw, LF.rf', Or.inr ⟨1, 1, rfl, by simp, tw_6⟩⟩⟩
    · show F_X11_purseAfter N (wm Mb I L) 1 x y = _
      unfold F_X11_purseAfter
      simp only [wm_kR, wm_kt, wm_kn, wm_kin, wm_kL, wm_kI, wm_ksI, wm_ksL, wm_kJ, wm_ksJ, kg_t, kl_v, Option.bind_some, x1_t.1, cx_exT_out hR hM hx, kbx]
    · show F_X12_purseAfter N (wm Mb I L') 540 x y = _
      unfold F_X12_purseAfter
      simp only [wm_kR, wm_kt, wm_kn, wm_kin, wm_kL, wm_kI, wm_ksI, wm_ksL, wm_kJ, wm_ksJ, kg_t, kl_v, Option.bind_some, sr_k, sr_0, sr_1, sr_2, sr_3, sr_4, sr_7, sr_8, sr_9, sr_26, sr_27, sr_28, tw_fd, rx_noT_out hR hx, if_neg one0]
end
