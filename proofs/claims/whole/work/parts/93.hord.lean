/-! the reference: an order, a bracket -/
section
variable {N : Nat} {I I' : kInts} {L L' : kLngs} {n c i j k d q nb nt : Nat} {T : Nat → Nat} {σ : sg}
theorem nI_lt2 {a : Nat} (h : a < 2147483648) : (nI a < 2) = (a < 2) := nI_ltP (b := 2) h (by decide)
theorem nI_lt30 {a : Nat} (h : a < 2147483648) : (nI a < 30) = (a < 30) := nI_ltP (b := 30) h (by decide)
theorem RS_o (h : RS I L n T σ) (e : OG I I') (e2 : ∀ x, 12 ≤ x → x ≤ 17 → I' 540 x = I 540 x) : RS I' L n T σ := h.sg (fun a x ha => by
  by_cases z : a = 540 ∧ 12 ≤ x
  · rw [z.1]; exact e2 x z.2 (by omega)
  · exact e a x (by omega) (by omega) (by omega)) rfl
/-- a repeat, behind its word -/
theorem rx_again (h : RS I L n T (.inl j)) (h24 : I 540 24 = nI d) (hd : d ≤ 2) (hN : 1000 < N) : ∃ I' L', F_X12_againOrder N (wm Mb I L) 540 = some (wm Mb I' L') ∧ RS I' L' n T (wlk n T (lsT n T 8 ++ [cBr n T d]) (.inl j)) ∧ OG I I' ∧ LF L L' ∧ (∀ x, x ≠ 24 → 18 ≤ x → I' 540 x = I 540 x) ∧ (okS (wlk n T (lsT n T 8 ++ [cBr n T d]) (.inl j)) = true → I' 540 24 = nI (d + 1) ∧ I' 549 d = nI (tS n T (j + 2)) ∧ I' 550 d = nI (nuv n T j) ∧ ∀ x, x < d → I' 549 x = I 549 x ∧ I' 550 x = I 550 x) := by
  obtain ⟨I1, L1, a1, a2, a3, a4⟩ := rx_reads (N := N) h (lo := 1) (hh := 21) (x2 := 20) (by decide) (by decide) (by decide) hN
  rw [show nI 1 = 1 from rfl] at a1
  have ew : wlk n T (lsT n T 8 ++ [cBr n T d]) (.inl j) = stp n T (stp n T (.inl j) (cN n T 1 21)) (cBr n T d) := rfl
  rw [ew]
  have p24 : I1 540 24 = nI d := (SG_21 a3 (by decide)).trans h24
  have hb := rx_isG (N := N) a2 (ch := 40) (by omega)
  rw [show nI 40 = 40 from rfl] at hb
  by_cases o1 : cN n T 1 21 j = 0
  · rw [stp_0 o1] at a2 hb ⊢
    rw [rdV_0 o1] at a1
    by_cases g : isG n T 40 (j + 1) = true
    · have hb1 : F_X12_isSign N (wm Mb I1 L1) 540 40 = some 1 := by rw [hb]; exact congrArg some (if_pos g)
      by_cases hd2 : d < 2
      · have ec : cBr n T d (j + 1) = 0 := by unfold cBr; rw [if_pos g, if_pos hd2]
        rw [stp_0 ec]
        obtain ⟨I2, L2, b1, b2, b3, b4⟩ := rx_goes (N := N) a2 hN
        have b2' : RS I2 L2 n T (.inl (j + 1 + 1)) := b2
        have q24 : I2 540 24 = nI d := (SG_21 b3 (by decide)).trans p24
        have q13 : I2 540 13 = nI (tS n T (j + 2)) := b2'.2.1.2.1
        have es : nI (d + 1) - 1 = nI d := pk_sub (a := d + 1) (b := 1) (by omega)
        let I3 := up I2 540 24 (nI (d + 1))
        have r24 : I3 540 24 = nI (d + 1) := up_eq
        have r13 : I3 540 13 = nI (tS n T (j + 2)) := (up_ne (by omega)).trans q13
        let I4 := up I3 549 d (nI (tS n T (j + 2)))
        have t24 : I4 540 24 = nI (d + 1) := (up_ne (by omega)).trans r24
        refine ⟨up I4 550 d (nI (nuv n T j)), L2, ?_, ?_, ?_, a4.trans b4, fun x x1 x2 => ?_, fun _ => ⟨(up_ne (by omega)).trans t24, (up_ne (by omega)).trans up_eq, up_eq, fun x hx => ⟨?_, ?_⟩⟩⟩
        · unfold F_X12_againOrder F_X12_againOrder_37 F_X12_againOrder_42
          simp (disch := omega) only [wm_kR, wm_kt, wm_kn, wm_kin, wm_kL, wm_kI, wm_ksI, wm_ksL, wm_kJ, wm_ksJ, kg_t, kl_v, Option.bind_some, sr_k, sr_0, sr_1, sr_2, sr_3, sr_4, sr_7, sr_8, sr_9, sr_26, sr_27, sr_28, a1, hb1, rx_mustT, if_neg one0, p24, nI_lt2, if_pos hd2, b1, RS_ok b2', if_true, q24, nI_1]
          rw [show up I2 540 24 (nI (d + 1)) = I3 from rfl]
          simp (disch := omega) only [r24, es, r13, kin_nI s50r.1 s50r.2 (show d < 4 by omega) (by decide), kx_nI, wm_kR, wm_kt, wm_kn, wm_kin, wm_kL, wm_kI, wm_ksI, wm_ksL, wm_kJ, wm_ksJ, kg_t, kl_v, Option.bind_some, sr_k, sr_0, sr_1, sr_2, sr_3, sr_4, sr_7, sr_8, sr_9, sr_26, sr_27, sr_28]
          rw [show up I3 549 d (nI (tS n T (j + 2))) = I4 from rfl]
          simp (disch := omega) only [t24, es, kin_nI s51r.1 s51r.2 (show d < 4 by omega) (by decide), kx_nI, wm_kR, wm_kt, wm_kn, wm_kin, wm_kL, wm_kI, wm_ksI, wm_ksL, wm_kJ, wm_ksJ, kg_t, kl_v, Option.bind_some, sr_k, sr_0, sr_1, sr_2, sr_3, sr_4, sr_7, sr_8, sr_9, sr_26, sr_27, sr_28]
        · exact b2'.sg (fun a x y => (up_ne (by omega)).trans ((up_ne (by omega)).trans (up_ne (by omega)))) rfl
        · exact ((((SG_og a3).trans (SG_og b3)).u (by omega)).o (Or.inl rfl)).o (Or.inr rfl)
        · exact (up_ne (by omega)).trans ((up_ne (by omega)).trans ((up_ne (by omega)).trans ((SG_21 b3 x2).trans (SG_21 a3 x2))))
        · exact (up_ne (by omega)).trans ((up_ne (by omega)).trans ((up_ne (by omega)).trans ((b3 _ _ (by omega)).trans (a3 _ _ (by omega)))))
        · exact (up_ne (by omega)).trans ((up_ne (by omega)).trans ((up_ne (by omega)).trans ((b3 _ _ (by omega)).trans (a3 _ _ (by omega)))))
      · have ec : cBr n T d (j + 1) = 5 := by unfold cBr; rw [if_pos g, if_neg hd2]
        rw [stp_e (by rw [ec]; decide), ec]
        obtain ⟨I2, b1, b2, b3⟩ := rx_mustF (N := N) a2 (e := 5) (by decide)
        rw [show nI 5 = 5 from rfl] at b1
        refine ⟨I2, L1, ?_, b2, (SG_og a3).trans (SG_og b3), a4, fun x x1 x2 => (SG_21 b3 x2).trans (SG_21 a3 x2), fun z => by cases z⟩
        unfold F_X12_againOrder F_X12_againOrder_42
        simp (disch := omega) only [wm_kR, wm_kt, wm_kn, wm_kin, wm_kL, wm_kI, wm_ksI, wm_ksL, wm_kJ, wm_ksJ, kg_t, kl_v, Option.bind_some, sr_k, sr_0, sr_1, sr_2, sr_3, sr_4, sr_7, sr_8, sr_9, sr_26, sr_27, sr_28, a1, hb1, rx_mustT, if_neg one0, p24, nI_lt2, if_neg hd2, b1, re_goes (RS_err b2), if_neg (RS_err b2)]
    · have hb1 : F_X12_isSign N (wm Mb I1 L1) 540 40 = some 0 := by rw [hb]; exact congrArg some (if_neg g)
      have ec : cBr n T d (j + 1) = 1 := by unfold cBr; rw [if_neg g]
      rw [stp_e (by rw [ec]; decide), ec]
      obtain ⟨I2, b1, b2, b3⟩ := rx_mustF (N := N) a2 (e := 1) (by decide)
      rw [show nI 1 = 1 from rfl] at b1
      refine ⟨I2, L1, ?_, b2, (SG_og a3).trans (SG_og b3), a4, fun x x1 x2 => (SG_21 b3 x2).trans (SG_21 a3 x2), fun z => by cases z⟩
      unfold F_X12_againOrder F_X12_againOrder_37 F_X12_againOrder_42
      simp (disch := omega) only [wm_kR, wm_kt, wm_kn, wm_kin, wm_kL, wm_kI, wm_ksI, wm_ksL, wm_kJ, wm_ksJ, kg_t, kl_v, Option.bind_some, sr_k, sr_0, sr_1, sr_2, sr_3, sr_4, sr_7, sr_8, sr_9, sr_26, sr_27, sr_28, a1, hb1, b1, re_sgn (RS_err b2), if_true, rx_ers b2, re_goes (RS_err b2), if_neg (RS_err b2)]
  · rw [stp_e o1] at a2 ⊢
    refine ⟨I1, L1, ?_, a2, SG_og a3, a4, fun x x1 x2 => SG_21 a3 x2, fun z => by cases z⟩
    unfold F_X12_againOrder F_X12_againOrder_37 F_X12_againOrder_42
    simp (disch := omega) only [wm_kR, wm_kt, wm_kn, wm_kin, wm_kL, wm_kI, wm_ksI, wm_ksL, wm_kJ, wm_ksJ, kg_t, kl_v, Option.bind_some, sr_k, sr_0, sr_1, sr_2, sr_3, sr_4, sr_7, sr_8, sr_9, sr_26, sr_27, sr_28, a1, re_sgn (RS_err a2), if_true, rx_ers a2, re_goes (RS_err a2), if_neg (RS_err a2)]
theorem rx_45r (h : RS I L n T (.inl j)) (hk : kdW n T j = 8) (h24 : I 540 24 = nI d) (hd : d ≤ 2) (hN : 1000 < N) : ∃ I' L', F_X12_order_45 N (wm Mb I L) 540 = some (wm Mb I' L') ∧ RS I' L' n T (wlk n T (lsT n T 8 ++ [cBr n T d]) (.inl (j + 1))) ∧ OG I I' ∧ LF L L' ∧ (∀ x, x ≠ 24 → 18 ≤ x → I' 540 x = I 540 x) ∧ (okS (wlk n T (lsT n T 8 ++ [cBr n T d]) (.inl (j + 1))) = true → I' 540 24 = nI (d + 1) ∧ I' 549 d = nI (tS n T (j + 3)) ∧ I' 550 d = nI (nuv n T (j + 1)) ∧ ∀ x, x < d → I' 549 x = I 549 x ∧ I' 550 x = I 550 x) := by
  have hk0 : ¬ kdW n T j = 0 := by omega
  obtain ⟨I1, L1, a1, a2, a3, a4⟩ := rx_goes (N := N) h hN
  have hw := h.2.1.2.2.2.2 (kdW_tk hk0)
  rw [kcd_w hk0, hk, show lN (kcd 8) = 609752116 from rfl] at hw
  obtain ⟨I2, L2, b1, b2, b3, b4, b5, b6⟩ := rx_again a2 ((SG_21 a3 (by decide)).trans h24) hd hN
  refine ⟨I2, L2, ?_, b2, (SG_og a3).trans b3, a4.trans b4, fun x x1 x2 => (b5 x x1 x2).trans (SG_21 a3 x2), fun ok => ?_⟩
  · unfold F_X12_order_45
    simp only [wm_kR, wm_kt, wm_kn, wm_kin, wm_kL, wm_kI, wm_ksI, wm_ksL, wm_kJ, wm_ksJ, kg_t, kl_v, Option.bind_some, sr_k, sr_0, sr_1, sr_2, sr_3, sr_4, sr_7, sr_8, sr_9, sr_26, sr_27, sr_28, RS_ok h, if_true, hw, a1, show lg_cmp 609752116 609752116 = 0 by decide, b1]
  · obtain ⟨e1, e2, e3, e4⟩ := b6 ok
    exact ⟨e1, e2, e3, fun x hx => ⟨(e4 x hx).1.trans (a3 _ _ (by omega)), (e4 x hx).2.trans (a3 _ _ (by omega))⟩⟩
theorem kcd_ne (h1 : 1 ≤ q) (h7 : q ≤ 7) : ¬ lg_cmp (lN (kcd q)) 609752116 = 0 := by
  have : ∀ q, q ≤ 7 → 1 ≤ q → ¬ lg_cmp (lN (kcd q)) 609752116 = 0 := by decide
  exact this q h7 h1
/-- an order that isn't a repeat, while reading only -/
theorem rx_45p (h : RS I L n T (.inl j)) (hR : RI (I 541) nb nt) (hk : ¬ kdW n T j = 0) (hk8 : ¬ kdW n T j = 8) (p : I 540 21 = 0) (hN : 1000 < N) : ∃ I' L', F_X12_order_45 N (wm Mb I L) 540 = some (wm Mb I' L') ∧ RS I' L' n T (wlk n T (lsT n T (kdW n T j) ++ [cG n T 59]) (.inl (j + 1))) ∧ SG I I' ∧ LF L L' := by
  have h8 := @kdW_8 n j T
  obtain ⟨I1, L1, a1, a2, a3, a4⟩ := rx_goes (N := N) h hN
  have hw := h.2.1.2.2.2.2 (kdW_tk hk)
  rw [kcd_w hk] at hw
  obtain ⟨I2, L2, b1, b2, b3, b4, -⟩ := rx_does (N := N) (q := kdW n T j) (nb := nb) (nt := nt) a2 (by rw [SG_s a3]; exact hR) (by omega) hN
  obtain ⟨I3, L3, d1, d2, d3, d4⟩ := rx_sgn (N := N) b1 (ch := 59) (by omega) hN
  rw [show nI 59 = 59 from rfl] at d1
  refine ⟨I3, L3, ?_, ?_, (a3.trans b2).trans d3, (a4.trans b3).trans d4⟩
  · unfold F_X12_order_45
    simp only [wm_kR, wm_kt, wm_kn, wm_kin, wm_kL, wm_kI, wm_ksI, wm_ksL, wm_kJ, wm_ksJ, kg_t, kl_v, Option.bind_some, sr_k, sr_0, sr_1, sr_2, sr_3, sr_4, sr_7, sr_8, sr_9, sr_26, sr_27, sr_28, RS_ok h, if_true, hw, a1, if_neg (kcd_ne (show 1 ≤ kdW n T j by omega) (show kdW n T j ≤ 7 by omega)), b4 (Or.inl ((SG_21 a3 (by decide)).trans p)), d1]
  · rw [wlk_app]
    exact d2
/-- an order that isn't a repeat, while doing -/
theorem rx_45a (h : RS I L n T (.inl j)) (hR : RI (I 541) nb nt) (hk8 : ¬ kdW n T j = 8) (hh : hdO n T d j) (p : ¬ I 540 21 = 0) (p2 : I 540 22 = 0) (hN : 1000 < N) : ∃ I' L', RS I' L' n T (wlk n T (lsT n T (kdW n T j)) (.inl (j + 1))) ∧ SG I I' ∧ LF L L' ∧ F_X12_order_45 N (wm Mb I L) 540 = (actQ N n T (I 541) nt (kdW n T j) (j + 1) (wm Mb I' L')).bind fun M5 => kg (kt M5 540 12) <| (F_X12_sign N M5 540 59).bind fun M6 => some M6 := by
  have h8 := @kdW_8 n j T
  have hk := hh.1
  obtain ⟨I1, L1, a1, a2, a3, a4⟩ := rx_goes (N := N) h hN
  have hw := h.2.1.2.2.2.2 (kdW_tk hk)
  rw [kcd_w hk] at hw
  have e1 : I1 541 = I 541 := SG_s a3
  obtain ⟨I2, L2, b1, b2, b3, -, b5⟩ := rx_does (N := N) (q := kdW n T j) (nb := nb) (nt := nt) a2 (by rw [e1]; exact hR) (by omega) hN
  refine ⟨I2, L2, b1, a3.trans b2, a4.trans b3, ?_⟩
  have b6 := b5 (by rw [SG_21 a3 (by decide)]; exact p) ((SG_21 a3 (by decide)).trans p2) (okS_app hh.2)
  rw [e1] at b6
  unfold F_X12_order_45
  simp only [wm_kR, wm_kt, wm_kn, wm_kin, wm_kL, wm_kI, wm_ksI, wm_ksL, wm_kJ, wm_ksJ, kg_t, kl_v, Option.bind_some, sr_k, sr_0, sr_1, sr_2, sr_3, sr_4, sr_7, sr_8, sr_9, sr_26, sr_27, sr_28, RS_ok h, if_true, hw, a1, if_neg (kcd_ne (show 1 ≤ kdW n T j by omega) (show kdW n T j ≤ 7 by omega)), b6]
end
