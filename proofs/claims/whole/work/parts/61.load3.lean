/-! load: both answer alike -/
section
variable {N : Nat} {I : kInts} {L : kLngs} {n c : Nat} {T : Nat → Nat} {r s f : Nat → Int32} {nb nt : Nat}
theorem RI.eq9 (h : RI r nb nt) (e : eqR s r) : RI s nb nt := by
  have h1 : RI (setr s 9 (r 9)) nb nt := h.eqr (fun k hk => by
    by_cases z : k = 9
    · rw [z, setr_eq]
    · rw [setr_ne z]; exact e k hk z)
  have h2 := RI_10 h1 (k := 9) (by omega) (s 9)
  rwa [setr_setr, setr_same rfl] at h2
theorem tot_eq (h24 : nt ≤ 24) (e : eqR s r) : tot s nt = tot r nt := by
  unfold tot
  rw [e 5 (by decide) (by decide), sumN_congr (f := pu r) (fun i hi => by unfold pu; rw [e _ (by omega) (by omega)])]
theorem kin_0k {b : Nat} (hb : b < 2) : kin Mb 545 14 (nI b) = true := kin_nI s46.1 s46.2 hb (by decide)
theorem lk_load (h : Rel I) (hN : 1000 < N) : Same0 (fun M => F_X11_load N M 1) (fun M => F_X12_load N M 540) I := by
  intro L
  obtain ⟨I1, n, T, σ, r, nb, nt, a1, ⟨hO, h10, hb⟩, a2, a3, a4, a5, a6, a7, a8, a9, a10⟩ := cx_load (L := L) h hN
  obtain ⟨hT, hE, hM, hNu, hH, hSl, hOu, hNm⟩ := h
  refine ⟨_, I1, a1, fun L' => ?_⟩
  have k1 : ∀ a j, a = 4 ∨ a = 5 ∨ 10 ≤ a ∧ a < 44 ∨ a = 126 ∧ j = 1 ∨ 127 ≤ a ∧ a ≠ 457 → I1 a j = I a j := a9
  obtain ⟨J1, b1, b2, b3, b4⟩ := rx_takes (N := N) (I := up I1 540 6 0) (L := L') (n := n) (T := T) ((up_ne (Or.inr (by decide))).trans ((k1 _ _ (by omega)).trans h10)) (fun k hk => (up_ne (Or.inl (by decide))).trans ((k1 _ _ (by omega)).trans (hb k hk))) hO.1 hN
  have c1 := rx_copies (N := N) (I := J1) (L := L') (a := 541) (c := 542) (p := 0) (q := 0) s42 s43 (by decide) (by decide) (by decide) (by decide) (by decide) hN
  obtain ⟨J3, d1, d2, d3⟩ := rx_zero (N := N) (I := cpy J1 541 0 542 0 293) (L := L') hN
  have e3 : ∀ a j, a ≠ 541 → a ≠ 542 → J3 a j = J1 a j := fun a j y1 y2 => (d3 a j y1).trans (cpy_out (Or.inl y2))
  obtain ⟨J4, L4, f1, f2, f3, f4⟩ := rx_starts (N := N) (I := J3) (L := L') hO ⟨(e3 _ _ (by decide) (by decide)).trans b2.1, fun k hk => (e3 _ _ (by decide) (by decide)).trans (b2.2 k hk)⟩ hN
  obtain ⟨J5, L5, g1, ⟨g2, g3⟩, g4, g5⟩ := a10 J4 L4 f2 (fun k hk => by rw [SG_s f3]; exact d2 k hk)
  have ht := rx_tells N J5 L5
  -- what has not changed
  have kp : ∀ a j, a ≠ 541 → a ≠ 542 → a ≠ 548 → ¬ (a = 540 ∧ (j = 6 ∨ 10 ≤ j ∧ j ≤ 19)) → J5 a j = I1 a j := by
    intro a j y1 y2 y3 y4
    rw [g4 a j (by omega) y1, f3 a j (by omega), e3 a j y1 y2, b4 a j y3 (by omega), up_ne (by omega)]
  have kr : ∀ k, k < 293 → J5 542 k = I 541 k := by
    intro k hk
    rw [g4 _ _ (by omega) (by omega), f3 _ _ (by omega), d3 _ _ (by decide), cpy_in (by omega)]
    rw [show 0 + (k - 0) = k by omega, b4 _ _ (by decide) (by omega), up_ne (by omega)]
    exact k1 _ _ (by omega)
  have k10 : J5 540 10 = 0 := by
    rw [g4 _ _ (by omega) (by omega), f3 _ _ (by omega), e3 _ _ (by omega) (by omega), b3]
  have lf : LF L' L5 := f4.trans g5
  have body : F_X12_load N (wm Mb I1 L') 540 = ldT N (wm Mb J3 L') 540 := by
    have c1' : F_X12_copies N (wm Mb J1 L') 541 0 542 0 = _ := c1
    unfold F_X12_load
    simp only [wm_kR, wm_kt, wm_kn, wm_kin, wm_kL, wm_kI, wm_ksI, wm_ksL, wm_kJ, wm_ksJ, kg_t, kl_v, Option.bind_some, sr_k, sr_0, sr_1, sr_2, sr_3, sr_4, sr_7, sr_8, sr_9, sr_26, sr_27, sr_28, b1, c1', d1]
  by_cases hok : okS σ = true
  · obtain ⟨hRI, hRM, h9⟩ := a3 hok
    obtain ⟨w1, w2, w3⟩ := a5 hok
    have hrow := g3 hok
    have h5 := hRI.nb5
    have h24 := hRI.nt24
    have z16 : J5 540 16 = 0 := by
      cases σ with
      | inl j => exact RS_ok g2
      | inr x => cases hok
    have er : I1 6 6 = 0 ∧ I1 6 7 = -1 := by
      cases σ with
      | inl j => exact a2
      | inr x => cases hok
    let J6 := up (up J5 540 18 0) 540 19 (-1)
    have hJ6 : J6 541 = J5 541 := funext fun k => (up_ne (Or.inl (by decide))).trans (up_ne (Or.inl (by decide)))
    have hR6 : RI (J6 541) nb nt := by rw [hJ6]; exact hRI.eq9 hrow
    have hall := rx_all (N := N) (I := J6) (L := L5) (f := J6 546) hR6 hN
    rw [rf_self, hJ6, tot_eq h24 hrow] at hall
    let J7 := up (up (up (up J6 541 9 (nI (tot r nt))) 540 5 0) 545 0 0) 545 1 0
    have kp7 : ∀ a j, a ≠ 541 → a ≠ 542 → a ≠ 548 → a ≠ 545 → ¬ (a = 540 ∧ (j = 5 ∨ j = 6 ∨ 10 ≤ j ∧ j ≤ 19)) → J7 a j = I1 a j := by
      intro a j y1 y2 y3 y4 y5
      show up (up (up (up (up (up J5 540 18 0) 540 19 (-1)) 541 9 (nI (tot r nt))) 540 5 0) 545 0 0) 545 1 0 a j = _
      rw [up_ne (by omega), up_ne (by omega), up_ne (by omega), up_ne (by omega), up_ne (by omega), up_ne (by omega)]
      exact kp a j y1 y2 y3 (by omega)
    have row7 : ∀ k, k < 293 → J7 541 k = r k := by
      intro k hk
      show up (up (up (up (up (up J5 540 18 0) 540 19 (-1)) 541 9 (nI (tot r nt))) 540 5 0) 545 0 0) 545 1 0 541 k = _
      rw [up_ne (by omega), up_ne (by omega), up_ne (by omega)]
      by_cases z : k = 9
      · rw [z, up_eq, h9]
      · rw [up_ne (by omega), up_ne (by omega), up_ne (by omega)]
        exact hrow k hk z
    have v7 : J7 540 10 = 0 ∧ J7 540 18 = 0 ∧ J7 540 19 = -1 ∧ J7 540 5 = 0 ∧ J7 545 0 = 0 ∧ J7 545 1 = 0 := by
      refine ⟨?_, ?_, ?_, ?_, ?_, up_eq⟩
      · show up (up (up (up (up (up J5 540 18 0) 540 19 (-1)) 541 9 (nI (tot r nt))) 540 5 0) 545 0 0) 545 1 0 540 10 = _
        rw [up_ne (by omega), up_ne (by omega), up_ne (by omega), up_ne (by omega), up_ne (by omega), up_ne (by omega)]
        exact k10
      · show up (up (up (up (up (up J5 540 18 0) 540 19 (-1)) 541 9 (nI (tot r nt))) 540 5 0) 545 0 0) 545 1 0 540 18 = _
        rw [up_ne (by omega), up_ne (by omega), up_ne (by omega), up_ne (by omega), up_ne (by omega), up_eq]
      · show up (up (up (up (up (up J5 540 18 0) 540 19 (-1)) 541 9 (nI (tot r nt))) 540 5 0) 545 0 0) 545 1 0 540 19 = _
        rw [up_ne (by omega), up_ne (by omega), up_ne (by omega), up_ne (by omega), up_eq]
      · show up (up (up (up (up (up J5 540 18 0) 540 19 (-1)) 541 9 (nI (tot r nt))) 540 5 0) 545 0 0) 545 1 0 540 5 = _
        rw [up_ne (by omega), up_ne (by omega), up_eq]
      · exact (up_ne (by omega)).trans up_eq
    refine ⟨J7, L5, ?_, ⟨?_, ?_, ?_, ?_, ?_, ?_, ?_, ?_⟩, lf⟩
    · show F_X12_load N (wm Mb I1 L') 540 = _
      rw [body]
      unfold ldT
      have hb2 : ((0 : Int32) == 0 || (0 : Int32) == 1) = true := rfl
      have x0 : kx 0 = 0 := by decide
      have x1 : kx 1 = 1 := by decide
      have q0 : kin Mb 545 14 0 = true := by rw [show (0 : Int32) = nI 0 from rfl]; exact kin_0k (by decide)
      have q1 : kin Mb 545 14 1 = true := by rw [show (1 : Int32) = nI 1 from rfl]; exact kin_0k (by decide)
      have z16' : J6 540 16 = 0 := (up_ne (by omega)).trans ((up_ne (by omega)).trans z16)
      rw [z16, if_pos rfl] at ht
      simp only [wm_kR, wm_kt, wm_kn, wm_kin, wm_kL, wm_kI, wm_ksI, wm_ksL, wm_kJ, wm_ksJ, kg_t, kl_v, Option.bind_some, sr_k, sr_0, sr_1, sr_2, sr_3, sr_4, sr_7, sr_8, sr_9, sr_26, sr_27, sr_28, kl_0, kl_1, kl_2, kl_3, kl_4, kl_5, kl_6, kl_7, kl_8, kl_9, kl_10, kl_11, kl_12, kl_13, kx_l0, kx_l1, kx_l2, kx_l3, kx_l4, kx_l5, kx_l6, kx_l7, kx_l8, kx_l9, kx_l10, kx_l11, kx_l12, kx_l13, f1, g1, ht]
      simp only [show up (up J5 540 18 0) 540 19 (-1) = J6 from rfl, z16', if_true, hall, Option.bind_some, q0, q1, hb2, Bool.and_self, x0, x1, wm_kR, wm_kt, wm_kn, wm_kin, wm_kL, wm_kI, wm_ksI, wm_ksL, wm_kJ, wm_ksJ, kg_t, kl_v, Option.bind_some, sr_k, sr_0, sr_1, sr_2, sr_3, sr_4, sr_7, sr_8, sr_9, sr_26, sr_27, sr_28, kl_0, kl_1, kl_2, kl_3, kl_4, kl_5, kl_6, kl_7, kl_8, kl_9, kl_10, kl_11, kl_12, kl_13, kx_l0, kx_l1, kx_l2, kx_l3, kx_l4, kx_l5, kx_l6, kx_l7, kx_l8, kx_l9, kx_l10, kx_l11, kx_l12, kx_l13]
      rw [er.1]
    · exact ⟨0, fun _ => 1, ⟨by omega, fun _ => ⟨Nat.le_refl 1, show 1 ≤ 255 by decide⟩⟩, ⟨(kp7 2 1 (by omega) (by omega) (by omega) (by omega) (by omega)).trans a4, fun k hk => absurd hk (Nat.not_lt_zero _)⟩, v7.1, fun k hk => absurd hk (Nat.not_lt_zero _)⟩
    · exact ⟨by rw [kp7 6 6 (by omega) (by omega) (by omega) (by omega) (by omega), er.1, v7.2.1], by rw [kp7 6 7 (by omega) (by omega) (by omega) (by omega) (by omega), er.2, v7.2.2.1]⟩
    · exact RelM.of (hRI.eqr row7) ((hRM.cI h5 h24 (fun a j y1 y2 => kp7 a j (by omega) (by omega) (by omega) (by omega) (by omega))).eqr h5 h24 row7)
    · exact fun m hm => (a8 m hm).kp (fun x j y1 y2 => kp7 x j (by have := mks_sep hm; omega) (by have := mks_sep hm; omega) (by have := mks_sep hm; omega) (by have := mks_sep hm; omega) (by have := mks_sep hm; omega))
    · obtain ⟨nx, u, o1, o2, o3, o4, o5, o6⟩ := hH
      exact ⟨nx, 0, o1, by omega, (kp7 126 1 (by omega) (by omega) (by omega) (by omega) (by omega)).trans ((k1 _ _ (by omega)).trans o3), (kp7 126 2 (by omega) (by omega) (by omega) (by omega) (by omega)).trans w1, v7.2.2.2.1, fun k hk => absurd hk (Nat.not_lt_zero _)⟩
    · intro i hi
      left
      have : i = 0 ∨ i = 1 := by omega
      rcases this with rfl | rfl
      · exact ⟨(kp7 457 0 (by omega) (by omega) (by omega) (by omega) (by omega)).trans w2, v7.2.2.2.2.1⟩
      · exact ⟨(kp7 457 1 (by omega) (by omega) (by omega) (by omega) (by omega)).trans w3, v7.2.2.2.2.2⟩
    · exact hOu.kp (fun x j y => (kp7 x j (by omega) (by omega) (by omega) (by omega) (by omega)).trans (k1 x j (by omega)))
    · trivial
  · have hokf : okS σ = false := by simpa using hok
    have k2 := a6 hokf
    obtain ⟨x, hx⟩ : ∃ x, σ = .inr x := by
      cases σ with
      | inl j => exact absurd rfl hok
      | inr x => exact ⟨x, rfl⟩
    subst hx
    have z16 := RS_err g2
    obtain ⟨er1, er2, er3⟩ := a2
    obtain ⟨gr1, gr2, gr3⟩ := g2.2
    let J6 := up (up J5 540 18 (J5 540 16)) 540 19 (J5 540 17)
    let J7 := cpy J6 542 0 541 0 293
    have kp7 : ∀ a j, a ≠ 541 → a ≠ 542 → a ≠ 548 → ¬ (a = 540 ∧ (j = 6 ∨ 10 ≤ j ∧ j ≤ 19)) → J7 a j = I1 a j := by
      intro a j y1 y2 y3 y5
      refine (cpy_out (Or.inl y1)).trans ?_
      show up (up J5 540 18 (J5 540 16)) 540 19 (J5 540 17) a j = _
      rw [up_ne (by omega), up_ne (by omega)]
      exact kp a j y1 y2 y3 y5
    have row7 : ∀ k, k < 293 → J7 541 k = I 541 k := by
      intro k hk
      refine (cpy_in (by omega)).trans ?_
      show up (up J5 540 18 (J5 540 16)) 540 19 (J5 540 17) 542 (0 + (k - 0)) = _
      rw [show 0 + (k - 0) = k by omega, up_ne (by omega), up_ne (by omega)]
      exact kr k hk
    have v7 : J7 540 10 = 0 ∧ J7 540 18 = J5 540 16 ∧ J7 540 19 = J5 540 17 ∧ J7 540 16 = J5 540 16 := by
      refine ⟨(cpy_out (Or.inl (by decide))).trans ?_, (cpy_out (Or.inl (by decide))).trans ?_, (cpy_out (Or.inl (by decide))).trans up_eq, (cpy_out (Or.inl (by decide))).trans ?_⟩
      · exact (up_ne (by omega)).trans ((up_ne (by omega)).trans k10)
      · exact (up_ne (by omega)).trans up_eq
      · exact (up_ne (by omega)).trans (up_ne (by omega))
    have all : ∀ a j, a = 4 ∨ a = 5 ∨ 10 ≤ a ∧ a < 85 ∨ 126 ≤ a ∧ a ≠ 541 ∧ a ≠ 542 ∧ a ≠ 548 ∧ ¬ (a = 540 ∧ (j = 6 ∨ 10 ≤ j ∧ j ≤ 19)) → J7 a j = I a j := by
      intro a j y
      rw [kp7 a j (by omega) (by omega) (by omega) (by omega)]
      by_cases z : 44 ≤ a
      · exact k2 a j z (by omega)
      · exact k1 a j (by omega)
    refine ⟨J7, L5, ?_, ⟨?_, ?_, ?_, ?_, hH.kp (fun x j y => all x j (by omega)), hSl.kp (fun x j y => all x j (by omega)), hOu.kp (fun x j y => all x j (by omega)), ?_⟩, lf⟩
    · show F_X12_load N (wm Mb I1 L') 540 = _
      rw [body]
      unfold ldT
      have z16' : J6 540 16 = J5 540 16 := (up_ne (by omega)).trans (up_ne (by omega))
      rw [if_neg z16] at ht
      have c2 := rx_copies (N := N) (I := J6) (L := L5) (a := 542) (c := 541) (p := 0) (q := 0) s43 s42 (by decide) (by decide) (by decide) (by decide) (by decide) hN
      have c2' : F_X12_copies N (wm Mb J6 L5) 542 0 541 0 = some (wm Mb J7 L5) := c2
      simp only [wm_kR, wm_kt, wm_kn, wm_kin, wm_kL, wm_kI, wm_ksI, wm_ksL, wm_kJ, wm_ksJ, kg_t, kl_v, Option.bind_some, sr_k, sr_0, sr_1, sr_2, sr_3, sr_4, sr_7, sr_8, sr_9, sr_26, sr_27, sr_28, f1, g1, ht]
      simp only [show up (up J5 540 18 (J5 540 16)) 540 19 (J5 540 17) = J6 from rfl, z16', z16, if_false, c2', wm_kR, wm_kt, wm_kn, wm_kin, wm_kL, wm_kI, wm_ksI, wm_ksL, wm_kJ, wm_ksJ, kg_t, kl_v, Option.bind_some, sr_k, sr_0, sr_1, sr_2, sr_3, sr_4, sr_7, sr_8, sr_9, sr_26, sr_27, sr_28]
      rw [v7.2.2.2, gr1, er1]
    · exact ⟨0, fun _ => 1, ⟨by omega, fun _ => ⟨Nat.le_refl 1, show 1 ≤ 255 by decide⟩⟩, ⟨(kp7 2 1 (by omega) (by omega) (by omega) (by omega)).trans a4, fun k hk => absurd hk (Nat.not_lt_zero _)⟩, v7.1, fun k hk => absurd hk (Nat.not_lt_zero _)⟩
    · exact ⟨by rw [kp7 6 6 (by omega) (by omega) (by omega) (by omega), er1, v7.2.1, gr1], by rw [kp7 6 7 (by omega) (by omega) (by omega) (by omega), er3, v7.2.2.1, gr3]⟩
    · obtain ⟨nb, nt, y1, y2⟩ := hM.row
      exact RelM.of (y1.eqr row7) ((y2.cI y1.nb5 y1.nt24 (fun a j z1 z2 => all a j (by omega))).eqr y1.nb5 y1.nt24 row7)
    · exact fun m hm => (a8 m hm).kp (fun x j y1 y2 => kp7 x j (by have := mks_sep hm; omega) (by have := mks_sep hm; omega) (by have := mks_sep hm; omega) (by have := mks_sep hm; omega))
    · trivial
end
