/-! the traders of the setup, both sides in step -/
section
variable {N : Nat} {I : kInts} {L : kLngs} {n c : Nat} {T : Nat → Nat} {σ : sg} {r s : Nat → Int32} {nb nt : Nat}
theorem unS_le : ∀ (k : Nat), unS r k ≤ k
  | 0 => Nat.le_refl _
  | k + 1 => by
    have := unS_le k
    unfold unS at this ⊢
    show sumN _ k + (if r (89 + 7 * k + 5) = -1 then 1 else 0) ≤ k + 1
    split <;> omega
theorem re_name (N : Nat) (I : kInts) (L : kLngs) : ∃ b : Int32, F_X12_isNameHere N (wm Mb I L) 540 = some b := by
  unfold F_X12_isNameHere
  simp only [wm_kR, wm_kt, wm_kn, wm_kin, wm_kL, wm_kI, wm_ksI, wm_ksL, wm_kJ, wm_ksJ, kg_t, kl_v, Option.bind_some, sr_k, sr_0, sr_1, sr_2, sr_3, sr_4, sr_7, sr_8, sr_9, sr_26, sr_27, sr_28]
  by_cases c1 : I 540 14 = 1
  · by_cases c2 : 6 < I 540 12 - I 540 13
    · exact ⟨0, by simp only [c1, c2, if_true]⟩
    · exact ⟨1, by simp only [c1, c2, if_true, if_false]⟩
  · exact ⟨0, by simp only [c1, if_false]⟩
theorem re_trader (h : ¬ I 540 16 = 0) : F_X12_traderText N (wm Mb I L) 540 = some (wm Mb I L) := by
  obtain ⟨b, hb⟩ := re_name N I L
  unfold F_X12_traderText F_X12_traderText_23
  simp only [wm_kR, wm_kt, wm_kn, wm_kin, wm_kL, wm_kI, wm_ksI, wm_ksL, wm_kJ, wm_ksJ, kg_t, kl_v, Option.bind_some, sr_k, sr_0, sr_1, sr_2, sr_3, sr_4, sr_7, sr_8, sr_9, sr_26, sr_27, sr_28, kl_0, kl_1, kl_2, kl_3, kl_4, kl_5, kl_6, kl_7, kl_8, kl_9, kl_10, kl_11, kl_12, kl_13, kx_l0, kx_l1, kx_l2, kx_l3, kx_l4, kx_l5, kx_l6, kx_l7, kx_l8, kx_l9, kx_l10, kx_l11, kx_l12, kx_l13, hb, re_must h, re_named h, re_goes h, re_reads h, rx_lesser, re_good h, if_true]
theorem DS.eq {I' : kInts} {σ' : sg} (h : DS I n T c σ r nb nt) (h1 : CS I' n T c σ') (h2 : okS σ' = true → okS σ = true) (e : CF I I') : DS I' n T c σ' r nb nt := by
  obtain ⟨a1, a2, ⟨a3, a4⟩, a5⟩ := h
  exact ⟨h1, a2.cf a3 a4 e, ⟨a3, a4⟩, fun z => a5 (h2 z)⟩
/-- where the traders end and the seats begin -/
theorem lk_after (hN : 1000 < N) (hD : DS I n T c σ r nb nt) : ∃ I' σ' r', F_X7_read_94 N N (wm Mb I L) 6 85 0 = some (wm Mb I' L) ∧ DS I' n T c σ' r' nb nt ∧ EF I I' ∧ ∀ (J : kInts) (LJ : kLngs), RD J LJ n T σ r → ∃ J' LJ', F_X12_setup_200 N N (wm Mb J LJ) 540 = some (wm Mb J' LJ') ∧ RD J' LJ' n T σ' r' ∧ RFr J J' ∧ LF LJ LJ' := by
  obtain ⟨I', σ', r', a1, a2, a3, a4⟩ := lk_seats (L := L) hN 25 0 N I σ r (by omega) (by omega) (fun _ => by
    have := unS_le (r := r) nt
    have := hD.2.2.1.2
    omega) hD
  exact ⟨I', σ', r', a1, a2, a3, fun J LJ hJ => a4 J LJ N (by omega) hJ⟩
theorem lk_traders (hN : 1000 < N) : ∀ (k i z : Nat) (I : kInts) (σ : sg) (r : Nat → Int32) (nt : Nat), i + k = 24 → k < z → (okS σ = true → i = nt) → DS I n T c σ r nb nt → ∃ I' σ' r' nt', F_X7_read_52 N z (wm Mb I L) 6 85 (nI i) = some (wm Mb I' L) ∧ DS I' n T c σ' r' nb nt' ∧ EF I I' ∧ ∀ (J : kInts) (LJ : kLngs) (w : Nat), k + 1 < w → RD J LJ n T σ r → ∃ J' LJ', F_X12_setup_151 N w (wm Mb J LJ) 540 = some (wm Mb J' LJ') ∧ RD J' LJ' n T σ' r' ∧ RFr J J' ∧ LF LJ LJ'
  | k, i, 0, _, _, _, _, _, h, _, _ => absurd h (Nat.not_lt_zero _)
  | 0, i, z + 1, I, σ, r, nt, e, _, hu, hD => by
    have hi : i = 24 := by omega
    subst hi
    have hw := cx_atWord (N := N) (L := L) kw_trader hD.1 hN
    unfold F_X7_read_52
    rw [if_neg (show ¬ nI 24 < 24 by decide)]
    by_cases cq : qs σ (isW n T 690000050) = true
    · cases σ with
      | inr x => cases cq
      | inl j =>
        obtain ⟨I1, a1, a2, a3⟩ := cx_refuse (N := N) (L := L) hD.1 (e := 5) (by decide)
        rw [show nI 5 = 5 from rfl] at a1
        have a2' : CS I1 n T c (erS n T j 5) := a2
        have hD1 := hD.eq a2' (fun z => by cases z) a3
        obtain ⟨I2, σ2, r2, b1, b2, b3, b4⟩ := lk_after (L := L) hN hD1
        refine ⟨I2, σ2, r2, nt, ?_, b2, a3.d.trans b3, ?_⟩
        · simp only [wm_kR, wm_kt, wm_kn, wm_kin, wm_kL, wm_kI, wm_ksI, wm_ksL, wm_kJ, wm_ksJ, kg_t, kl_v, Option.bind_some, s6.1, hw, cq, if_true, if_neg one0, a1]
          exact b1
        · intro J LJ w hw2 hJ
          obtain ⟨w, rfl⟩ : ∃ v, w = v + 2 := ⟨w - 2, by omega⟩
          have w2 := rx_isW (N := N) hJ.1 (w := 690000050) (by decide)
          rw [show lN 690000050 = 690000050 from rfl] at w2
          obtain ⟨J1, d1, d2, d3⟩ := rx_mustF (N := N) hJ.1 (e := 5) (by decide)
          rw [show nI 5 = 5 from rfl] at d1
          have hz := RS_err d2
          obtain ⟨J3, L3, g1, g2, g3, g4⟩ := b4 J1 LJ ⟨d2, fun z => by cases z⟩
          refine ⟨J3, L3, ?_, g2, (SG_r d3).trans g3, g4⟩
          have hrow : J 541 8 = nI 24 := by
            have h1 := hu rfl
            rw [hJ.2 rfl 8 (by decide) (by decide), (hD.2.2.2 rfl).1.r8, ← h1]
          unfold F_X12_setup_151
          simp only [wm_kR, wm_kt, wm_kn, wm_kin, wm_kL, wm_kI, wm_ksI, wm_ksL, wm_kJ, wm_ksJ, kg_t, kl_v, Option.bind_some, sr_k, sr_0, sr_1, sr_2, sr_3, sr_4, sr_7, sr_8, sr_9, sr_26, sr_27, sr_28, kl_0, kl_1, kl_2, kl_3, kl_4, kl_5, kl_6, kl_7, kl_8, kl_9, kl_10, kl_11, kl_12, kl_13, kx_l0, kx_l1, kx_l2, kx_l3, kx_l4, kx_l5, kx_l6, kx_l7, kx_l8, kx_l9, kx_l10, kx_l11, kx_l12, kx_l13, w2, cq, if_true, if_neg one0, hrow, if_neg (show ¬ nI 24 < 24 by decide)]
          unfold F_X12_setup_179 F_X12_setup_151
          simp only [wm_kR, wm_kt, wm_kn, wm_kin, wm_kL, wm_kI, wm_ksI, wm_ksL, wm_kJ, wm_ksJ, kg_t, kl_v, Option.bind_some, sr_k, sr_0, sr_1, sr_2, sr_3, sr_4, sr_7, sr_8, sr_9, sr_26, sr_27, sr_28, d1, re_goes hz, re_trader hz, re_sign hz, re_word hz, if_true]
          exact g1
    · obtain ⟨I2, σ2, r2, b1, b2, b3, b4⟩ := lk_after (L := L) hN hD
      refine ⟨I2, σ2, r2, nt, ?_, b2, b3, ?_⟩
      · simp only [wm_kR, wm_kt, wm_kn, wm_kin, wm_kL, wm_kI, wm_ksI, wm_ksL, wm_kJ, wm_ksJ, kg_t, kl_v, Option.bind_some, s6.1, hw, cq, if_true, if_false, Bool.false_eq_true]
        exact b1
      · intro J LJ w hw2 hJ
        obtain ⟨w, rfl⟩ : ∃ v, w = v + 1 := ⟨w - 1, by omega⟩
        have w2 := rx_isW (N := N) hJ.1 (w := 690000050) (by decide)
        rw [show lN 690000050 = 690000050 from rfl] at w2
        obtain ⟨J3, L3, g1, g2, g3, g4⟩ := b4 J LJ hJ
        refine ⟨J3, L3, ?_, g2, g3, g4⟩
        unfold F_X12_setup_151
        simp only [wm_kR, wm_kt, wm_kn, wm_kin, wm_kL, wm_kI, wm_ksI, wm_ksL, wm_kJ, wm_ksJ, kg_t, kl_v, Option.bind_some, sr_k, sr_0, sr_1, sr_2, sr_3, sr_4, sr_7, sr_8, sr_9, sr_26, sr_27, sr_28, w2, cq, if_true, if_false, Bool.false_eq_true]
        exact g1
  | k + 1, i, z + 1, I, σ, r, nt, e, hz, hu, hD => by
    have hi : (nI i < 24) = True := by
      rw [show (24 : Int32) = nI 24 from rfl, nI_ltP (by omega) (by omega)]
      exact eq_true (by omega)
    have hw := cx_atWord (N := N) (L := L) kw_trader hD.1 hN
    unfold F_X7_read_52
    simp only [hi, if_true]
    by_cases cq : qs σ (isW n T 690000050) = true
    · cases σ with
      | inr x => cases cq
      | inl j =>
        have hj : isW n T 690000050 j = true := cq
        have hk := isW_4 hj
        obtain ⟨h1, h2, h3, h4⟩ := hD
        obtain ⟨hR, h9, hp⟩ := h4 rfl
        have hint := hu rfl
        have hn : nt < 24 := by omega
        obtain ⟨I1, a1, a2, a3, a5⟩ := cx_readTrader (N := N) (L := L) h1 hk hR h2 hn hN
        have hok := fun (y : okS (tr4 n T r nt (j + 1)) = true) => ok_tr4 y
        obtain ⟨r1, nt1, hr1, hD1, hnt1⟩ : ∃ r1 nt1, (okS (tr4 n T r nt (j + 1)) = true → r1 = trR n T r nt (j + 1)) ∧ DS I1 n T c (tr4 n T r nt (j + 1)) r1 nb nt1 ∧ (okS (tr4 n T r nt (j + 1)) = true → nt1 = nt + 1) := by
          by_cases y : okS (tr4 n T r nt (j + 1)) = true
          · rw [if_pos y] at a3
            obtain ⟨o1, o2, o3, o4, o5, o6⟩ := hok y
            have p1 := cN_in o2
            have p2 := cN_in o3
            refine ⟨_, nt + 1, fun _ => rfl, ⟨a2, a3, ⟨h3.1, hn⟩, fun _ => ⟨?_, ?_, fun t ht => ?_⟩⟩, fun _ => rfl⟩
            · exact RI_jn hR hn ⟨p1.1, by omega⟩ (by omega) hR.c.2.2
            · have := hR.c.2.2
              unfold trR
              rw [tot_jn (by omega), jnR_9, h9, nI_add]
            · unfold trR
              by_cases e : t = nt
              · rw [e]; exact jnR_t.2.2.2.2.1
              · rw [jnR_ne (by omega) (by omega) (by omega)]; exact hp t (by omega)
          · rw [if_neg y] at a3
            exact ⟨r, nt, fun z => absurd z y, ⟨a2, a3, h3, fun z => absurd z y⟩, fun z => absurd z y⟩
        obtain ⟨I2, σ2, r2, nt2, b1, b2, b3, b4⟩ := lk_traders hN k (i + 1) z I1 _ r1 nt1 (by omega) (by omega) (fun y => by rw [hnt1 y, hint]) hD1
        refine ⟨I2, σ2, r2, nt2, ?_, b2, a5.trans b3, ?_⟩
        · simp only [wm_kR, wm_kt, wm_kn, wm_kin, wm_kL, wm_kI, wm_ksI, wm_ksL, wm_kJ, wm_ksJ, kg_t, kl_v, Option.bind_some, s6.1, hw, cq, if_true, if_neg one0, a1, nI_1]
          exact b1
        · intro J LJ w hw2 hJ
          obtain ⟨w, rfl⟩ : ∃ v, w = v + 1 := ⟨w - 1, by omega⟩
          have w2 := rx_isW (N := N) hJ.1 (w := 690000050) (by decide)
          rw [show lN 690000050 = 690000050 from rfl] at w2
          obtain ⟨J1, L1, d1, d2, d3, d4⟩ := rx_goes (N := N) hJ.1 hN
          have he := hJ.2 rfl
          obtain ⟨J2, L2, f1, f2, f3, f4, f5⟩ := rx_traderText (N := N) d2 (by rw [SG_s d3]; exact he) hR hn hN
          obtain ⟨J3, L3, g1, g2, g3, g4⟩ := b4 J2 L2 w (by omega) ⟨f2, fun y => by rw [hr1 y]; exact f3 y⟩
          refine ⟨J3, L3, ?_, g2, ((SG_r d3).trans f4).trans g3, (d4.trans f5).trans g4⟩
          have hrow : J 541 8 = nI i := by rw [he 8 (by decide) (by decide), hR.r8, ← hint]
          unfold F_X12_setup_151
          simp only [wm_kR, wm_kt, wm_kn, wm_kin, wm_kL, wm_kI, wm_ksI, wm_ksL, wm_kJ, wm_ksJ, kg_t, kl_v, Option.bind_some, sr_k, sr_0, sr_1, sr_2, sr_3, sr_4, sr_7, sr_8, sr_9, sr_26, sr_27, sr_28, kl_0, kl_1, kl_2, kl_3, kl_4, kl_5, kl_6, kl_7, kl_8, kl_9, kl_10, kl_11, kl_12, kl_13, kx_l0, kx_l1, kx_l2, kx_l3, kx_l4, kx_l5, kx_l6, kx_l7, kx_l8, kx_l9, kx_l10, kx_l11, kx_l12, kx_l13, w2, cq, if_true, if_neg one0, hrow, hi]
          unfold F_X12_setup_179
          simp only [wm_kR, wm_kt, wm_kn, wm_kin, wm_kL, wm_kI, wm_ksI, wm_ksL, wm_kJ, wm_ksJ, kg_t, kl_v, Option.bind_some, sr_k, sr_0, sr_1, sr_2, sr_3, sr_4, sr_7, sr_8, sr_9, sr_26, sr_27, sr_28, rx_mustT, d1]
          cases hx : F_X12_traderText N (wm Mb J1 L1) 540 with
          | none => rw [hx] at f1; cases f1
          | some M1 =>
            rw [hx] at f1
            simp only [Option.bind_some] at f1 ⊢
            rw [sgn_kt f1, kg_t, f1]
            simp only [Option.bind_some]
            exact g1
    · obtain ⟨I2, σ2, r2, b1, b2, b3, b4⟩ := lk_after (L := L) hN hD
      refine ⟨I2, σ2, r2, nt, ?_, b2, b3, ?_⟩
      · simp only [wm_kR, wm_kt, wm_kn, wm_kin, wm_kL, wm_kI, wm_ksI, wm_ksL, wm_kJ, wm_ksJ, kg_t, kl_v, Option.bind_some, s6.1, hw, cq, if_true, if_false, Bool.false_eq_true]
        exact b1
      · intro J LJ w hw2 hJ
        obtain ⟨w, rfl⟩ : ∃ v, w = v + 1 := ⟨w - 1, by omega⟩
        have w2 := rx_isW (N := N) hJ.1 (w := 690000050) (by decide)
        rw [show lN 690000050 = 690000050 from rfl] at w2
        obtain ⟨J3, L3, g1, g2, g3, g4⟩ := b4 J LJ hJ
        refine ⟨J3, L3, ?_, g2, g3, g4⟩
        unfold F_X12_setup_151
        simp only [wm_kR, wm_kt, wm_kn, wm_kin, wm_kL, wm_kI, wm_ksI, wm_ksL, wm_kJ, wm_ksJ, kg_t, kl_v, Option.bind_some, sr_k, sr_0, sr_1, sr_2, sr_3, sr_4, sr_7, sr_8, sr_9, sr_26, sr_27, sr_28, w2, cq, if_true, if_false, Bool.false_eq_true]
        exact g1
end
