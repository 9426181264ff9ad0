/-! the boards of the setup, both sides in step -/
section
variable {N : Nat} {I : kInts} {L : kLngs} {n c : Nat} {T : Nat → Nat} {σ : sg} {r s : Nat → Int32} {nb nt : Nat}
theorem cx_readBoard {j : Nat} (hS : CS I n T c (.inl j)) (hk : tK n T j = 1) (hR : RI r nb nt) (hM : RM I 85 r nb nt) (hn : nb < 5) (hZ : ZS r nb) (hN : 1000 < N) : ∃ I', F_X7_readBoard N (wm Mb I L) 6 85 = some (wm Mb I' L) ∧ CS I' n T c (bo4 n T (j + 1)) ∧ (if okS (bo4 n T (j + 1)) = true then RM I' 85 (boX n T r nb (j + 1)) (nb + 1) nt else RM I' 85 r nb nt) ∧ EF I I' := by
  have hm : (85 : Nat) ∈ mks := by decide
  have h5 := hR.nb5
  have h24 := hR.nt24
  obtain ⟨I0, z1, z2, z3⟩ := cx_anyWord (N := N) (L := L) hS
  rw [stp_0 (by simp [hk])] at z2
  obtain ⟨I1, a1, a2, a3⟩ := cx_number (N := N) (L := L) z2 (lo := 1) (hh := 7) (x2 := 6) (by decide) (by decide) (by decide) hN
  obtain ⟨I2, b1, b2, b3⟩ := cx_number (N := N) (L := L) a2 (lo := 1) (hh := 100) (x2 := 99) (by decide) (by decide) (by decide) hN
  obtain ⟨I3, d1, d2, d3⟩ := cx_number (N := N) (L := L) b2 (lo := 0) (hh := 1000) (x2 := 999) (by decide) (by decide) (by decide) hN
  obtain ⟨I4, f1, f2, f3⟩ := cx_sg (N := N) (L := L) d2 (ch := 59) (by decide)
  have hcf : CF I I4 := (((z3.trans a3).trans b3).trans d3).trans f3
  have M4 : RM I4 85 r nb nt := hM.cf h5 h24 hcf
  rw [show nI 1 = 1 from rfl] at a1 b1
  rw [show nI 0 = 0 from rfl] at d1
  rw [show nI 59 = 59 from rfl] at f1
  have hS4 : CS I4 n T c (bo4 n T (j + 1)) := f2
  unfold F_X7_readBoard
  simp only [wm_kR, wm_kt, wm_kn, wm_kin, wm_kL, wm_kI, wm_ksI, wm_ksL, wm_kJ, wm_ksJ, kg_t, kl_v, Option.bind_some, s6.1, z1, a1, b1, d1, f1, cx_failed]
  by_cases hok : okS (bo4 n T (j + 1)) = true
  · obtain ⟨o1, o2, o3, ⟨o4, o5, o6⟩, o7⟩ := ok_bo4 hok
    rw [o7] at hS4
    have v1 : nuV n T 1 7 (.inl (j + 1)) = nI (nuv n T (j + 1)) := nuV_0 o1
    have v2 : nuV n T 1 100 (stp n T (.inl (j + 1)) (cN n T 1 7)) = nI (nuv n T (j + 1 + 1)) := by
      show nuV n T 1 100 (bo1 n T (j + 1)) = _
      rw [o4, nuV_0 o2]
    have v3 : nuV n T 0 1000 (stp n T (stp n T (.inl (j + 1)) (cN n T 1 7)) (cN n T 1 100)) = nI (nuv n T (j + 1 + 2)) := by
      show nuV n T 0 1000 (bo2 n T (j + 1)) = _
      rw [o5, nuV_0 o3]
    obtain ⟨I5, g1, g2, g3⟩ := cx_addBoard (N := N) (L := L) (a1 := nI (nuv n T (j + 1))) (a2 := nI (nuv n T (j + 1 + 1))) (a3 := nI (nuv n T (j + 1 + 2))) hm M4 hn h24 hR.r7 (fun q hq h6 => hZ _ (by have := @si_ge nb q; omega) (by have := @si_le nb q hq; omega)) (by omega)
    refine ⟨I5, ?_, ?_, ?_, hcf.e.trans g3.e⟩
    · simp only [hS4.ok, if_true, mm_k hm, kg_t, v1, v2, v3, g1, Option.bind_some]
    · rw [o7]; exact hS4.fm g3
    · rw [if_pos hok]; exact g2
  · have hz : ¬ I4 6 6 = 0 := by
      cases hs : bo4 n T (j + 1) with
      | inl j => rw [hs] at hok; exact absurd rfl hok
      | inr x => rw [hs] at hS4; exact CS.err hS4
    refine ⟨I4, ?_, hS4, ?_, hcf.e⟩
    · simp only [hz, if_false, if_neg one0]
    · rw [if_neg hok]; exact M4
theorem re_board (h : ¬ I 540 16 = 0) : F_X12_boardText N (wm Mb I L) 540 = some (wm Mb I L) := by
  unfold F_X12_boardText
  simp only [wm_kR, wm_kt, wm_kn, wm_kin, wm_kL, wm_kI, wm_ksI, wm_ksL, wm_kJ, wm_ksJ, kg_t, kl_v, Option.bind_some, sr_k, sr_0, sr_1, sr_2, sr_3, sr_4, sr_7, sr_8, sr_9, sr_26, sr_27, sr_28, re_reads h, re_good h, if_true]
theorem rx_boardText {i : Nat} (h : RS I L n T (.inl i)) (he : eqR (I 541) r) (hR : RI r nb nt) (hn : nb < 5) (hN : 1000 < N) : ∃ I' L', (F_X12_boardText N (wm Mb I L) 540).bind (fun M => F_X12_sign N M 540 59) = some (wm Mb I' L') ∧ RS I' L' n T (bo4 n T i) ∧ (okS (bo4 n T i) = true → eqR (I' 541) (boX n T r nb i)) ∧ RFr I I' ∧ LF L L' := by
  obtain ⟨I3, L3, c1, c2, c3, c4⟩ := rx_reads (N := N) h (lo := 1) (hh := 7) (x2 := 6) (by decide) (by decide) (by decide) hN
  obtain ⟨I4, L4, d1, d2, d3, d4⟩ := rx_reads (N := N) c2 (lo := 1) (hh := 100) (x2 := 99) (by decide) (by decide) (by decide) hN
  obtain ⟨I5, L5, f1, f2, f3, f4⟩ := rx_reads (N := N) d2 (lo := 0) (hh := 1000) (x2 := 999) (by decide) (by decide) (by decide) hN
  have sg5 := (c3.trans d3).trans f3
  have lf5 := (c4.trans d4).trans f4
  have f2' : RS I5 L5 n T (bo3 n T i) := f2
  rw [show nI 1 = 1 from rfl] at c1 d1
  rw [show nI 0 = 0 from rfl] at f1
  unfold F_X12_boardText
  simp only [wm_kR, wm_kt, wm_kn, wm_kin, wm_kL, wm_kI, wm_ksI, wm_ksL, wm_kJ, wm_ksJ, kg_t, kl_v, Option.bind_some, sr_k, sr_0, sr_1, sr_2, sr_3, sr_4, sr_7, sr_8, sr_9, sr_26, sr_27, sr_28, c1, d1, f1]
  by_cases hok3 : okS (bo3 n T i) = true
  · obtain ⟨j2, g1, g2, g3⟩ := ok_stp (σ := bo2 n T i) (f := cN n T 0 1000) hok3
    have ht3 : bo3 n T i = .inl (j2 + 1) := g3
    rw [ht3] at f2'
    have hrow : eqR (I5 541) r := by rw [SG_s sg5]; exact he
    have hap := rx_builds (N := N) (I := I5) (L := L5) (r := I5 541) (f := I5 546) (a1 := rdV n T 1 7 (.inl i)) (a2 := rdV n T 1 100 (bo1 n T i)) (a3 := rdV n T 0 1000 (bo2 n T i)) hn ((hrow 7 (by decide) (by decide)).trans hR.r7)
    rw [rf_self] at hap
    have f5 := RS_rf f2' (boR (I5 541) nb (rdV n T 1 7 (.inl i)) (rdV n T 1 100 (bo1 n T i)) (rdV n T 0 1000 (bo2 n T i))) (I5 546)
    obtain ⟨I6, L6, k1, k2, k3, k4⟩ := rx_sgn (N := N) f5 (ch := 59) (by decide) hN
    rw [show nI 59 = 59 from rfl] at k1
    unfold bo1 bo2 at hap k1
    unfold bo1 at hap k1
    simp only [rx_good (RS_ok f2'), if_neg one0, hap, Option.bind_some, k1]
    refine ⟨I6, L6, rfl, ?_, fun hok => ?_, ?_, lf5.trans k4⟩
    · unfold bo4
      rw [ht3]
      exact k2
    · obtain ⟨o1, o2, o3, ⟨o4, o5, o6⟩, o7⟩ := ok_bo4 hok
      rw [SG_s k3]
      show eqR (boR (I5 541) nb (rdV n T 1 7 (.inl i)) (rdV n T 1 100 (bo1 n T i)) (rdV n T 0 1000 (bo2 n T i))) _
      rw [o4, o5, rdV_0 o1, rdV_0 o2, rdV_0 o3]
      exact eqR_bo hrow
    · exact (RFr_rf (SG_r sg5) _).trans (SG_r k3)
  · have hs : ∃ x, bo3 n T i = .inr x := by
      cases hz : bo3 n T i with
      | inl j => rw [hz] at hok3; exact absurd rfl hok3
      | inr x => exact ⟨x, rfl⟩
    obtain ⟨x, hx⟩ := hs
    rw [hx] at f2'
    have hz := RS_err f2'
    have ht4 : bo4 n T i = .inr x := by unfold bo4; rw [hx]; rfl
    simp only [re_good hz, if_true, Option.bind_some, re_sign hz]
    rw [ht4]
    exact ⟨I5, L5, rfl, f2', (fun z => by cases z), SG_r sg5, lf5⟩
/-- where the boards end and the traders begin -/
theorem lk_after2 (hN : 1000 < N) (hD : DS I n T c σ r nb 0) : ∃ I' σ' r' nt', F_X7_read_52 N N (wm Mb I L) 6 85 0 = some (wm Mb I' L) ∧ DS I' n T c σ' r' nb nt' ∧ EF I I' ∧ ∀ (J : kInts) (LJ : kLngs), RD J LJ n T σ r → ∃ J' LJ', F_X12_setup_151 N N (wm Mb J LJ) 540 = some (wm Mb J' LJ') ∧ RD J' LJ' n T σ' r' ∧ RFr J J' ∧ LF LJ LJ' := by
  obtain ⟨I', σ', r', nt', a1, a2, a3, a4⟩ := lk_traders (L := L) hN 24 0 N I σ r 0 (by omega) (by omega) (fun _ => rfl) hD
  exact ⟨I', σ', r', nt', a1, a2, a3, fun J LJ hJ => a4 J LJ N (by omega) hJ⟩
theorem lk_boards (hN : 1000 < N) (k : Nat) : ∀ (i z : Nat) (I : kInts) (σ : sg) (r : Nat → Int32) (nb : Nat), i + k = 5 → k < z → (okS σ = true → i = nb ∧ ZS r nb) → DS I n T c σ r nb 0 → ∃ I' σ' r' nb' nt', F_X7_read_11 N z (wm Mb I L) 6 85 (nI i) = some (wm Mb I' L) ∧ DS I' n T c σ' r' nb' nt' ∧ EF I I' ∧ ∀ (J : kInts) (LJ : kLngs) (w : Nat), k + 1 < w → RD J LJ n T σ r → ∃ J' LJ', F_X12_setup_103 N w (wm Mb J LJ) 540 = some (wm Mb J' LJ') ∧ RD J' LJ' n T σ' r' ∧ RFr J J' ∧ LF LJ LJ' := by
  induction k with
  | zero =>
    intro i z I σ r nb e hz hu hD
    obtain ⟨z, rfl⟩ : ∃ v, z = v + 1 := ⟨z - 1, by omega⟩
    have hi : i = 5 := by omega
    subst hi
    have hw := cx_atWord (N := N) (L := L) kw_board hD.1 hN
    unfold F_X7_read_11
    rw [if_neg (show ¬ nI 5 < 5 by decide)]
    by_cases cq : qs σ (isW n T 2590276) = true
    · cases σ with
      | inr x => cases cq
      | inl j =>
        obtain ⟨I1, a1, a2, a3⟩ := cx_refuse (N := N) (L := L) hD.1 (e := 5) (by decide)
        rw [show nI 5 = 5 from rfl] at a1
        have a2' : CS I1 n T c (erS n T j 5) := a2
        have hD1 := hD.eq a2' (fun z => by cases z) a3
        obtain ⟨I2, σ2, r2, nt2, b1, b2, b3, b4⟩ := lk_after2 (L := L) hN hD1
        refine ⟨I2, σ2, r2, nb, nt2, ?_, b2, a3.d.trans b3, ?_⟩
        · simp only [wm_kR, wm_kt, wm_kn, wm_kin, wm_kL, wm_kI, wm_ksI, wm_ksL, wm_kJ, wm_ksJ, kg_t, kl_v, Option.bind_some, s6.1, hw, cq, if_true, if_neg one0, a1]
          exact b1
        · intro J LJ w hw2 hJ
          obtain ⟨w, rfl⟩ : ∃ v, w = v + 2 := ⟨w - 2, by omega⟩
          have w2 := rx_isW (N := N) hJ.1 (w := 2590276) (by decide)
          rw [show lN 2590276 = 2590276 from rfl] at w2
          obtain ⟨J1, d1, d2, d3⟩ := rx_mustF (N := N) hJ.1 (e := 5) (by decide)
          rw [show nI 5 = 5 from rfl] at d1
          have hz := RS_err d2
          obtain ⟨J3, L3, g1, g2, g3, g4⟩ := b4 J1 LJ ⟨d2, fun z => by cases z⟩
          refine ⟨J3, L3, ?_, g2, (SG_r d3).trans g3, g4⟩
          have hrow : J 541 7 = nI 5 := by
            have h1 := (hu rfl).1
            rw [hJ.2 rfl 7 (by decide) (by decide), (hD.2.2.2 rfl).1.r7, ← h1]
          unfold F_X12_setup_103
          simp only [wm_kR, wm_kt, wm_kn, wm_kin, wm_kL, wm_kI, wm_ksI, wm_ksL, wm_kJ, wm_ksJ, kg_t, kl_v, Option.bind_some, sr_k, sr_0, sr_1, sr_2, sr_3, sr_4, sr_7, sr_8, sr_9, sr_26, sr_27, sr_28, kl_0, kl_1, kl_2, kl_3, kl_4, kl_5, kl_6, kl_7, kl_8, kl_9, kl_10, kl_11, kl_12, kl_13, kx_l0, kx_l1, kx_l2, kx_l3, kx_l4, kx_l5, kx_l6, kx_l7, kx_l8, kx_l9, kx_l10, kx_l11, kx_l12, kx_l13, w2, cq, if_true, if_neg one0, hrow, if_neg (show ¬ nI 5 < 5 by decide)]
          unfold F_X12_setup_130 F_X12_setup_103
          simp only [wm_kR, wm_kt, wm_kn, wm_kin, wm_kL, wm_kI, wm_ksI, wm_ksL, wm_kJ, wm_ksJ, kg_t, kl_v, Option.bind_some, sr_k, sr_0, sr_1, sr_2, sr_3, sr_4, sr_7, sr_8, sr_9, sr_26, sr_27, sr_28, d1, re_goes hz, re_board hz, re_sign hz, re_word hz, if_true]
          exact g1
    · obtain ⟨I2, σ2, r2, nt2, b1, b2, b3, b4⟩ := lk_after2 (L := L) hN hD
      refine ⟨I2, σ2, r2, nb, nt2, ?_, b2, b3, ?_⟩
      · simp only [wm_kR, wm_kt, wm_kn, wm_kin, wm_kL, wm_kI, wm_ksI, wm_ksL, wm_kJ, wm_ksJ, kg_t, kl_v, Option.bind_some, s6.1, hw, cq, if_true, if_false, Bool.false_eq_true]
        exact b1
      · intro J LJ w hw2 hJ
        obtain ⟨w, rfl⟩ : ∃ v, w = v + 1 := ⟨w - 1, by omega⟩
        have w2 := rx_isW (N := N) hJ.1 (w := 2590276) (by decide)
        rw [show lN 2590276 = 2590276 from rfl] at w2
        obtain ⟨J3, L3, g1, g2, g3, g4⟩ := b4 J LJ hJ
        refine ⟨J3, L3, ?_, g2, g3, g4⟩
        unfold F_X12_setup_103
        simp only [wm_kR, wm_kt, wm_kn, wm_kin, wm_kL, wm_kI, wm_ksI, wm_ksL, wm_kJ, wm_ksJ, kg_t, kl_v, Option.bind_some, sr_k, sr_0, sr_1, sr_2, sr_3, sr_4, sr_7, sr_8, sr_9, sr_26, sr_27, sr_28, w2, cq, if_true, if_false, Bool.false_eq_true]
        exact g1
  | succ k ih =>
    intro i z I σ r nb e hz hu hD
    obtain ⟨z, rfl⟩ : ∃ v, z = v + 1 := ⟨z - 1, by omega⟩
    have hi : (nI i < 5) = True := by
      rw [show (5 : Int32) = nI 5 from rfl, nI_ltP (by omega) (by omega)]
      exact eq_true (by omega)
    have hw := cx_atWord (N := N) (L := L) kw_board hD.1 hN
    unfold F_X7_read_11
    simp only [hi, if_true]
    by_cases cq : qs σ (isW n T 2590276) = true
    · cases σ with
      | inr x => cases cq
      | inl j =>
        have hj : isW n T 2590276 j = true := cq
        have hk := isW_4 hj
        obtain ⟨h1, h2, h3, h4⟩ := hD
        obtain ⟨hR, h9, hp⟩ := h4 rfl
        obtain ⟨hint, hZ⟩ := hu rfl
        have hn : nb < 5 := by omega
        obtain ⟨I1, a1, a2, a3, a5⟩ := cx_readBoard (N := N) (L := L) h1 hk hR h2 hn hZ hN
        have hok := fun (y : okS (bo4 n T (j + 1)) = true) => ok_bo4 y
        obtain ⟨r1, nb1, hr1, hD1, hnt1⟩ : ∃ r1 nb1, (okS (bo4 n T (j + 1)) = true → r1 = boX n T r nb (j + 1)) ∧ DS I1 n T c (bo4 n T (j + 1)) r1 nb1 0 ∧ (okS (bo4 n T (j + 1)) = true → nb1 = nb + 1 ∧ ZS r1 nb1) := by
          by_cases y : okS (bo4 n T (j + 1)) = true
          · rw [if_pos y] at a3
            obtain ⟨o1, o2, o3, o4, o5⟩ := hok y
            have p1 := cN_in o1
            have p2 := cN_in o2
            have p3 := cN_in o3
            refine ⟨_, nb + 1, fun _ => rfl, ⟨a2, a3, ⟨hn, h3.2⟩, fun _ => ⟨?_, ?_, fun t ht => absurd ht (Nat.not_lt_zero _)⟩⟩, fun _ => ⟨rfl, ZS_bo hZ⟩⟩
            · exact RI_bo hR hn hZ ⟨p1.1, by omega⟩ ⟨p2.1, by omega⟩ (by omega)
            · unfold boX
              rw [boR_ne (by omega) (by omega), h9]
              have s0 : ∀ f : Nat → Nat, sumN f 0 = 0 := fun _ => rfl
              unfold tot
              rw [boR_ne (by omega) (by omega), s0, s0]
          · rw [if_neg y] at a3
            exact ⟨r, nb, fun z => absurd z y, ⟨a2, a3, h3, fun z => absurd z y⟩, fun z => absurd z y⟩
        obtain ⟨I2, σ2, r2, nb2, nt2, b1, b2, b3, b4⟩ := ih (i + 1) z I1 _ r1 nb1 (by omega) (by omega) (fun y => by
          obtain ⟨y1, y2⟩ := hnt1 y
          exact ⟨by rw [y1, hint], y2⟩) hD1
        refine ⟨I2, σ2, r2, nb2, nt2, ?_, b2, a5.d.trans b3, ?_⟩
        · simp only [wm_kR, wm_kt, wm_kn, wm_kin, wm_kL, wm_kI, wm_ksI, wm_ksL, wm_kJ, wm_ksJ, kg_t, kl_v, Option.bind_some, s6.1, hw, cq, if_true, if_neg one0, a1, nI_1]
          exact b1
        · intro J LJ w hw2 hJ
          obtain ⟨w, rfl⟩ : ∃ v, w = v + 1 := ⟨w - 1, by omega⟩
          have w2 := rx_isW (N := N) hJ.1 (w := 2590276) (by decide)
          rw [show lN 2590276 = 2590276 from rfl] at w2
          obtain ⟨J1, L1, d1, d2, d3, d4⟩ := rx_goes (N := N) hJ.1 hN
          have he := hJ.2 rfl
          obtain ⟨J2, L2, f1, f2, f3, f4, f5⟩ := rx_boardText (N := N) d2 (by rw [SG_s d3]; exact he) hR hn hN
          obtain ⟨J3, L3, g1, g2, g3, g4⟩ := b4 J2 L2 w (by omega) ⟨f2, fun y => by rw [hr1 y]; exact f3 y⟩
          refine ⟨J3, L3, ?_, g2, ((SG_r d3).trans f4).trans g3, (d4.trans f5).trans g4⟩
          have hrow : J 541 7 = nI i := by rw [he 7 (by decide) (by decide), hR.r7, ← hint]
          unfold F_X12_setup_103
          simp only [wm_kR, wm_kt, wm_kn, wm_kin, wm_kL, wm_kI, wm_ksI, wm_ksL, wm_kJ, wm_ksJ, kg_t, kl_v, Option.bind_some, sr_k, sr_0, sr_1, sr_2, sr_3, sr_4, sr_7, sr_8, sr_9, sr_26, sr_27, sr_28, kl_0, kl_1, kl_2, kl_3, kl_4, kl_5, kl_6, kl_7, kl_8, kl_9, kl_10, kl_11, kl_12, kl_13, kx_l0, kx_l1, kx_l2, kx_l3, kx_l4, kx_l5, kx_l6, kx_l7, kx_l8, kx_l9, kx_l10, kx_l11, kx_l12, kx_l13, w2, cq, if_true, if_neg one0, hrow, hi]
          unfold F_X12_setup_130
          simp only [wm_kR, wm_kt, wm_kn, wm_kin, wm_kL, wm_kI, wm_ksI, wm_ksL, wm_kJ, wm_ksJ, kg_t, kl_v, Option.bind_some, sr_k, sr_0, sr_1, sr_2, sr_3, sr_4, sr_7, sr_8, sr_9, sr_26, sr_27, sr_28, rx_mustT, d1]
          cases hx : F_X12_boardText N (wm Mb J1 L1) 540 with
          | none => rw [hx] at f1; cases f1
          | some M1 =>
            rw [hx] at f1
            simp only [Option.bind_some] at f1 ⊢
            rw [sgn_kt f1, kg_t, f1]
            simp only [Option.bind_some]
            exact g1
    · obtain ⟨I2, σ2, r2, nt2, b1, b2, b3, b4⟩ := lk_after2 (L := L) hN hD
      refine ⟨I2, σ2, r2, nb, nt2, ?_, b2, b3, ?_⟩
      · simp only [wm_kR, wm_kt, wm_kn, wm_kin, wm_kL, wm_kI, wm_ksI, wm_ksL, wm_kJ, wm_ksJ, kg_t, kl_v, Option.bind_some, s6.1, hw, cq, if_true, if_false, Bool.false_eq_true]
        exact b1
      · intro J LJ w hw2 hJ
        obtain ⟨w, rfl⟩ : ∃ v, w = v + 1 := ⟨w - 1, by omega⟩
        have w2 := rx_isW (N := N) hJ.1 (w := 2590276) (by decide)
        rw [show lN 2590276 = 2590276 from rfl] at w2
        obtain ⟨J3, L3, g1, g2, g3, g4⟩ := b4 J LJ hJ
        refine ⟨J3, L3, ?_, g2, g3, g4⟩
        unfold F_X12_setup_103
        simp only [wm_kR, wm_kt, wm_kn, wm_kin, wm_kL, wm_kI, wm_ksI, wm_ksL, wm_kJ, wm_ksJ, kg_t, kl_v, Option.bind_some, sr_k, sr_0, sr_1, sr_2, sr_3, sr_4, sr_7, sr_8, sr_9, sr_26, sr_27, sr_28, w2, cq, if_true, if_false, Bool.false_eq_true]
        exact g1
end
