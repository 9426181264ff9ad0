/-! the first pass: the loops of both -/
section
variable {N : Nat} {I I' J : kInts} {L L' : kLngs} {n c i j k d q nb nt : Nat} {T : Nat → Nat} {σ : sg}
theorem cx_atEnd (h : CS I n T c (.inl j)) : F_X9_atEnd N (wm Mb I L) 6 = some (if tK n T j = 4 then 1 else 0) := by
  have h1 := cx_at (N := N) (L := L) h 4 (by decide)
  rw [show nI 4 = 4 from rfl] at h1
  have h2 := @cx_failed N I L
  rw [if_pos h.ok] at h2
  unfold F_X9_atEnd
  by_cases z : tK n T j = 4
  · have e : qs (.inl j) (fun j => decide (tK n T j = 4)) = true := by unfold qs; simp [z]
    rw [if_pos e] at h1
    simp only [wm_kR, wm_kt, wm_kn, wm_kin, wm_kL, wm_kI, wm_ksI, wm_ksL, wm_kJ, wm_ksJ, kg_t, kl_v, Option.bind_some, s6.1, h1, h2, if_true, if_neg one0, z]
  · have e : ¬ qs (.inl j) (fun j => decide (tK n T j = 4)) = true := by unfold qs; simp [z]
    rw [if_neg e] at h1
    simp only [wm_kR, wm_kt, wm_kn, wm_kin, wm_kL, wm_kI, wm_ksI, wm_ksL, wm_kJ, wm_ksJ, kg_t, kl_v, Option.bind_some, s6.1, h1, h2, if_true, if_neg z]
theorem ce_atEnd (h : ¬ I 6 6 = 0) : F_X9_atEnd N (wm Mb I L) 6 = some 1 := by
  have h2 := @cx_failed N I L
  rw [if_neg h] at h2
  unfold F_X9_atEnd
  simp only [wm_kR, wm_kt, wm_kn, wm_kin, wm_kL, wm_kI, wm_ksI, wm_ksL, wm_kJ, wm_ksJ, kg_t, kl_v, Option.bind_some, s6.1, h2, if_neg one0]
theorem ce_66 (h : ¬ I 6 6 = 0) : F_X6_read_66 N (wm Mb I L) 10 6 = F_X6_read_78 N (wm Mb I L) 10 6 := by
  unfold F_X6_read_66
  simp only [wm_kR, wm_kt, wm_kn, wm_kin, wm_kL, wm_kI, wm_ksI, wm_ksL, wm_kJ, wm_ksJ, kg_t, kl_v, Option.bind_some, sh13.1, s6.1, ce_refuse h]
  split <;> rfl
theorem ce_17 (h : ¬ I 6 6 = 0) {z : Nat} (x : Int32) : F_X6_read_17 N (z + 1) (wm Mb I L) 10 6 x = F_X6_read_78 N (wm Mb I L) 10 6 := by
  unfold F_X6_read_17
  simp only [wm_kR, wm_kt, wm_kn, wm_kin, wm_kL, wm_kI, wm_ksI, wm_ksL, wm_kJ, wm_ksJ, kg_t, kl_v, Option.bind_some, s6.1, ce_atEnd h, if_neg one0, ce_66 h]
  split <;> rfl
theorem re_29 (h : ¬ J 540 16 = 0) {z : Nat} : F_X12_goesThrough_29 N (z + 1) (wm Mb J L) 540 = some (wm Mb J L) := by
  unfold F_X12_goesThrough_29 F_X12_goesThrough_73
  simp only [wm_kR, wm_kt, wm_kn, wm_kin, wm_kL, wm_kI, wm_ksI, wm_ksL, wm_kJ, wm_ksJ, kg_t, kl_v, Option.bind_some, sr_k, sr_0, sr_1, sr_2, sr_3, sr_4, sr_7, sr_8, sr_9, sr_26, sr_27, sr_28, if_neg h, re_must h]
  split
  · split <;> rfl
  · rfl
theorem nxT_gt : j < nxT n T j := by unfold nxT; omega
theorem lk_sread (hN : 1000 < N) : ∀ (m i j z k d : Nat) (I : kInts), c - j ≤ m → i ≤ j → 801 < z + i → PSc I n T c k d (.inl j) → ∃ I' σ' k', F_X6_read_17 N z (wm Mb I L) 10 6 (nI i) = F_X6_read_78 N (wm Mb I' L) 10 6 ∧ CS I' n T c σ' ∧ SC I I' ∧ ((k' ≤ 30 ∧ I' 10 1 = nI k') ∧ I' 10 5 = 0 ∧ ∀ i, i < 30 → nm2 I' i) ∧ (okS σ' = true → ∃ z F, Sq I' n T z 0 0 0 k' c F ∧ σ' = .inl c) ∧ ∀ J LJ w, c + 2 < w + j → RPs J LJ n T k d (.inl j) → RI (J 541) nb nt → ∃ J' LJ', F_X12_goesThrough_29 N w (wm Mb J LJ) 540 = some (wm Mb J' LJ') ∧ RS J' LJ' n T σ' ∧ OG J J' ∧ LF LJ LJ' := by
  intro m
  induction m with
  | zero =>
    intro i j z k d I hm hij hz hP
    obtain ⟨hS, ⟨hk, hd⟩, ⟨h1, h3, h5⟩, hn, hst⟩ := id hP
    have hjc : j ≤ c := hS.2.2.1
    have hc := hS.1.2.2.2.1
    have hTA := hS.1.2.2
    have e : j = c := by omega
    subst e
    have h4 : tK n T j = 4 := hTA.2.2.1
    obtain ⟨z, rfl⟩ : ∃ y, z = y + 1 := ⟨z - 1, by omega⟩
    have hae := cx_atEnd (N := N) (L := L) hS
    rw [if_pos h4] at hae
    have c1 : F_X6_read_17 N (z + 1) (wm Mb I L) 10 6 (nI i) = F_X6_read_66 N (wm Mb I L) 10 6 := by
      unfold F_X6_read_17
      simp only [wm_kR, wm_kt, wm_kn, wm_kin, wm_kL, wm_kI, wm_ksI, wm_ksL, wm_kJ, wm_ksJ, kg_t, kl_v, Option.bind_some, s6.1, hae, if_neg one0]
      split <;> rfl
    have ref : ∀ J LJ w, j + 2 < w + j → RPs J LJ n T k d (.inl j) → F_X12_goesThrough_29 N w (wm Mb J LJ) 540 = F_X12_must N (wm Mb J LJ) 540 (if d = 0 then 1 else 0) 1 := by
      intro J LJ w hw hP
      obtain ⟨w, rfl⟩ : ∃ y, w = y + 1 := ⟨w - 1, by omega⟩
      obtain ⟨g1, ⟨g21, g22⟩, g3⟩ := hP
      obtain ⟨g23, g24⟩ := g3 rfl
      have g14 : J 540 14 = 0 := by rw [g1.2.1.2.2.1, rK_0.mpr h4]; rfl
      have bs : ∀ x : Option kMem, (x.bind fun M => some M) = x := fun x => by cases x <;> rfl
      unfold F_X12_goesThrough_29 F_X12_goesThrough_73
      by_cases z : d = 0
      · have q24 : J 540 24 = 0 := by rw [g24, z]; rfl
        simp only [wm_kR, wm_kt, wm_kn, wm_kin, wm_kL, wm_kI, wm_ksI, wm_ksL, wm_kJ, wm_ksJ, kg_t, kl_v, Option.bind_some, sr_k, sr_0, sr_1, sr_2, sr_3, sr_4, sr_7, sr_8, sr_9, sr_26, sr_27, sr_28, RS_ok g1, g22, g14, q24, if_true, bs, if_pos z]
      · have q24 : ¬ J 540 24 = 0 := by rw [g24]; exact nI_ne0 (by omega) (by omega)
        simp only [wm_kR, wm_kt, wm_kn, wm_kin, wm_kL, wm_kI, wm_ksI, wm_ksL, wm_kJ, wm_ksJ, kg_t, kl_v, Option.bind_some, sr_k, sr_0, sr_1, sr_2, sr_3, sr_4, sr_7, sr_8, sr_9, sr_26, sr_27, sr_28, RS_ok g1, g22, g14, if_neg q24, if_true, bs, if_neg z]
    by_cases c0 : d = 0
    · refine ⟨I, .inl j, k, ?_, hS, SC.rf', ⟨⟨hk, h1⟩, h5, hn⟩, fun _ => ?_, fun J LJ w hw hP hR => ⟨J, LJ, ?_, hP.1, OG.rf', LF.rf'⟩⟩
      · rw [c1]
        have e0 : ¬ (0 : Int32) < I 10 3 := by rw [h3, c0]; decide
        unfold F_X6_read_66
        simp only [wm_kR, wm_kt, wm_kn, wm_kin, wm_kL, wm_kI, wm_ksI, wm_ksL, wm_kJ, wm_ksJ, kg_t, kl_v, Option.bind_some, sh13.1, e0, if_false]
      · have := hst j rfl
        rw [c0] at this
        obtain ⟨z, F, h⟩ := this
        exact ⟨z, F, h, rfl⟩
      · rw [ref J LJ w hw hP, if_pos c0, rx_mustT]
    · obtain ⟨I1, a1, a2, a3⟩ := cx_refuse (N := N) (L := L) hS (e := 1) (by decide)
      rw [show nI 1 = 1 from rfl] at a1
      refine ⟨I1, .inr (1, tS n T j), k, ?_, a2, CF_sc a3, ⟨⟨hk, (a3 _ _ (by omega)).trans h1⟩, (a3 _ _ (by omega)).trans h5, fun i hi => (hn i hi).cf a3⟩, (fun z => by cases z), fun J LJ w hw hP hR => ?_⟩
      · rw [c1]
        have e0 : (0 : Int32) < I 10 3 := by rw [h3]; exact nI_lt (a := 0) (by omega) (by omega)
        unfold F_X6_read_66
        simp only [wm_kR, wm_kt, wm_kn, wm_kin, wm_kL, wm_kI, wm_ksI, wm_ksL, wm_kJ, wm_ksJ, kg_t, kl_v, Option.bind_some, sh13.1, e0, if_true, s6.1, a1]
      · obtain ⟨J1, b1, b2, b3⟩ := rx_mustF (N := N) hP.1 (e := 1) (by decide)
        rw [show nI 1 = 1 from rfl] at b1
        exact ⟨J1, LJ, by rw [ref J LJ w hw hP, if_neg c0, b1], b2, SG_og b3, LF.rf'⟩
  | succ m ih =>
    intro i j z k d I hm hij hz hP
    obtain ⟨hS, ⟨hk, hd⟩, ⟨h1, h3, h5⟩, hn, hst⟩ := id hP
    have hjc : j ≤ c := hS.2.2.1
    have hc := hS.1.2.2.2.1
    have hTA := hS.1.2.2
    by_cases hjm : c - j ≤ m
    · exact ih i j z k d I hjm hij hz hP
    have hjlt : j < c := by omega
    have h4 : ¬ tK n T j = 4 := hTA.2.2.2.1 j hjlt
    obtain ⟨z, rfl⟩ : ∃ y, z = y + 1 := ⟨z - 1, by omega⟩
    have hae := cx_atEnd (N := N) (L := L) hS
    rw [if_neg h4] at hae
    have hi8 : nI i < 800 := nI_lt (b := 800) (by omega) (by omega)
    -- an item behind which σ1 is where both stand
    have step : ∀ (I1 : kInts) (σ1 : sg) (k1 d1 : Nat), F_X6_read_17 N (z + 1) (wm Mb I L) 10 6 (nI i) = F_X6_read_17 N z (wm Mb I1 L) 10 6 (nI (i + 1)) → PSc I1 n T c k1 d1 σ1 → SC I I1 → (∀ j1, σ1 = .inl j1 → j < j1) →
        (∀ J LJ w, RPs J LJ n T k d (.inl j) → RI (J 541) nb nt → ∃ J' LJ', F_X12_goesThrough_29 N (w + 1) (wm Mb J LJ) 540 = F_X12_goesThrough_29 N w (wm Mb J' LJ') 540 ∧ RPs J' LJ' n T k1 d1 σ1 ∧ OG J J' ∧ LF LJ LJ') →
        ∃ I' σ' k', F_X6_read_17 N (z + 1) (wm Mb I L) 10 6 (nI i) = F_X6_read_78 N (wm Mb I' L) 10 6 ∧ CS I' n T c σ' ∧ SC I I' ∧ ((k' ≤ 30 ∧ I' 10 1 = nI k') ∧ I' 10 5 = 0 ∧ ∀ i, i < 30 → nm2 I' i) ∧ (okS σ' = true → ∃ z F, Sq I' n T z 0 0 0 k' c F ∧ σ' = .inl c) ∧ ∀ J LJ w, c + 2 < w + j → RPs J LJ n T k d (.inl j) → RI (J 541) nb nt → ∃ J' LJ', F_X12_goesThrough_29 N w (wm Mb J LJ) 540 = some (wm Mb J' LJ') ∧ RS J' LJ' n T σ' ∧ OG J J' ∧ LF LJ LJ' := by
      intro I1 σ1 k1 d1 e1 P1 f1 g1 r1
      cases σ1 with
      | inl j1 =>
        have hj1 := g1 j1 rfl
        obtain ⟨I2, σ2, k2, a1, a2, a3, a4, a5, a6⟩ := ih (i + 1) j1 z k1 d1 I1 (by omega) (by omega) (by omega) P1
        refine ⟨I2, σ2, k2, e1.trans a1, a2, f1.trans a3, a4, a5, fun J LJ w hw hP hR => ?_⟩
        obtain ⟨w, rfl⟩ : ∃ y, w = y + 1 := ⟨w - 1, by omega⟩
        obtain ⟨J1, L1, b1, b2, b3, b4⟩ := r1 J LJ w hP hR
        obtain ⟨J2, L2, d1, d2, d3, d4⟩ := a6 J1 L1 w (by omega) b2 (by rw [b3.s]; exact hR)
        exact ⟨J2, L2, b1.trans d1, d2, b3.trans d3, b4.trans d4⟩
      | inr x =>
        have er := P1.1.err
        obtain ⟨z', rfl⟩ : ∃ y, z = y + 1 := ⟨z - 1, by omega⟩
        refine ⟨I1, .inr x, k1, e1.trans (ce_17 er _), P1.1, f1, ⟨⟨P1.2.1.1, P1.2.2.1.1⟩, P1.2.2.1.2.2, P1.2.2.2.1⟩, (fun y => by cases y), fun J LJ w hw hP hR => ?_⟩
        obtain ⟨w, rfl⟩ : ∃ y, w = y + 2 := ⟨w - 2, by omega⟩
        obtain ⟨J1, L1, b1, b2, b3, b4⟩ := r1 J LJ (w + 1) hP hR
        exact ⟨J1, L1, b1.trans (re_29 (RS_err b2.1)), b2.1, b3, b4⟩
    have g14 : ∀ J LJ, RPs J LJ n T k d (.inl j) → ¬ J 540 14 = 0 := by
      intro J LJ hP
      rw [hP.1.2.1.2.2.1]
      have := mt (rK_0 (n := n) (T := T) (j := j)).mp h4
      have := @rK_le n T j
      exact nI_ne0 (by omega) (by omega)
    by_cases hcl : 0 < d ∧ isG n T 41 j = true
    · obtain ⟨hd0, hg⟩ := hcl
      obtain ⟨d, rfl⟩ : ∃ y, d = y + 1 := ⟨d - 1, by omega⟩
      obtain ⟨I1, a1, a2, a3⟩ := cx_close (N := N) (L := L) hP hg
      refine step I1 _ k d ?_ a2 a3 ?_ ?_
      · have hs := cx_sign (N := N) (L := L) hS (ch := 41) (by decide)
        rw [show nI 41 = 41 from rfl, if_pos (by exact hg)] at hs
        have e0 : (0 : Int32) < I 10 3 := by rw [h3]; exact nI_lt (a := 0) (by omega) (by omega)
        rw [F_X6_read_17]
        simp only [wm_kR, wm_kt, wm_kn, wm_kin, wm_kL, wm_kI, wm_ksI, wm_ksL, wm_kJ, wm_ksJ, kg_t, kl_v, Option.bind_some, s6.1, sh13.1, hae, if_pos hi8, if_true, if_pos e0, hs, if_neg one0, a1, nI_1]
      · intro j1 hj1
        unfold stp at hj1
        dsimp only at hj1
        split at hj1
        · cases hj1; omega
        · cases hj1
      · intro J LJ w hP hR
        obtain ⟨J1, L1, b1, b2, b3, b4⟩ := rx_clo0 (N := N) hP (by omega) hN
        refine ⟨J1, L1, ?_, b2, b3, b4⟩
        have hg2 := rx_isG (N := N) hP.1 (ch := 41) (by omega)
        rw [show nI 41 = 41 from rfl, if_pos (by exact hg)] at hg2
        rw [F_X12_goesThrough_29]
        simp only [wm_kR, wm_kt, wm_kn, wm_kin, wm_kL, wm_kI, wm_ksI, wm_ksL, wm_kJ, wm_ksJ, kg_t, kl_v, Option.bind_some, sr_k, sr_0, sr_1, sr_2, sr_3, sr_4, sr_7, sr_8, sr_9, sr_26, sr_27, sr_28, RS_ok hP.1, hP.2.1.2, if_true, if_neg (g14 J LJ hP), hg2, if_neg one0, b1]
    · have hs := cx_sign (N := N) (L := L) hS (ch := 41) (by decide)
      rw [show nI 41 = 41 from rfl] at hs
      obtain ⟨I1, k1, d1, a1, a2, a3, a4⟩ := cx_cmd (N := N) (L := L) hP hN
      have eq1 : F_X6_read_17 N (z + 1) (wm Mb I L) 10 6 (nI i) = F_X6_read_17 N z (wm Mb I1 L) 10 6 (nI (i + 1)) := by
        rw [F_X6_read_17]
        by_cases hd0 : 0 < d
        · have hg : ¬ isG n T 41 j = true := fun y => hcl ⟨hd0, y⟩
          rw [if_neg (by exact hg)] at hs
          have e0 : (0 : Int32) < I 10 3 := by rw [h3]; exact nI_lt (a := 0) (by omega) (by omega)
          simp only [wm_kR, wm_kt, wm_kn, wm_kin, wm_kL, wm_kI, wm_ksI, wm_ksL, wm_kJ, wm_ksJ, kg_t, kl_v, Option.bind_some, s6.1, sh13.1, hae, if_pos hi8, if_true, if_pos e0, hs, a1, nI_1]
        · have e0 : ¬ (0 : Int32) < I 10 3 := by rw [h3, show d = 0 by omega]; decide
          simp only [wm_kR, wm_kt, wm_kn, wm_kin, wm_kL, wm_kI, wm_ksI, wm_ksL, wm_kJ, wm_ksJ, kg_t, kl_v, Option.bind_some, s6.1, sh13.1, hae, if_pos hi8, if_true, if_neg e0, a1, nI_1]
      have gt : ∀ j1, ordS n T k d j = .inl j1 → j < j1 := by
        intro j1 hj1
        have hk30 : k < 30 := by
          by_cases y : k < 30
          · exact y
          · exfalso
            unfold ordS at hj1
            by_cases c0 : kdW n T j = 0
            · rw [if_pos c0] at hj1; cases hj1
            · rw [if_neg c0, if_pos (by omega)] at hj1; cases hj1
        obtain ⟨-, e2⟩ := ordS_hd hk30 (by rw [hj1]; rfl)
        rw [e2] at hj1
        cases hj1
        exact nxT_gt
      refine step I1 _ k1 d1 eq1 a2 a3 gt ?_
      intro J LJ w hP' hR
      have hk1 : okS (ordS n T k d j) = true → k1 = k + 1 ∧ d1 = if kdW n T j = 8 then d + 1 else d := a4
      -- the reference: an order, or a bracket that nothing opened
      by_cases hg : isG n T 41 j = true
      · have hd0 : d = 0 := by
          by_cases y : 0 < d
          · exact absurd ⟨y, hg⟩ hcl
          · omega
        have hk0 : kdW n T j = 0 := by
          by_cases y : kdW n T j = 0
          · exact y
          · have t1 := kdW_tk y
            unfold isG at hg
            rw [Bool.and_eq_true] at hg
            have t3 := of_decide_eq_true hg.1
            omega
        have eo : ordS n T k d j = erS n T j 1 := if_pos hk0
        have g24 : J 540 24 = 0 := by rw [(hP'.2.2 rfl).2, hd0]; rfl
        have hg2 := rx_isG (N := N) hP'.1 (ch := 41) (by omega)
        rw [show nI 41 = 41 from rfl, if_pos (by exact hg)] at hg2
        obtain ⟨J1, b1, b2, b3⟩ := rx_mustF (N := N) hP'.1 (e := 1) (by decide)
        rw [show nI 1 = 1 from rfl] at b1
        refine ⟨J1, LJ, ?_, ?_, SG_og b3, LF.rf'⟩
        · rw [F_X12_goesThrough_29]
          unfold F_X12_closes F_X12_closes_13
          simp only [wm_kR, wm_kt, wm_kn, wm_kin, wm_kL, wm_kI, wm_ksI, wm_ksL, wm_kJ, wm_ksJ, kg_t, kl_v, Option.bind_some, sr_k, sr_0, sr_1, sr_2, sr_3, sr_4, sr_7, sr_8, sr_9, sr_26, sr_27, sr_28, RS_ok hP'.1, hP'.2.1.2, if_true, if_neg (g14 J LJ hP'), hg2, if_neg one0, g24, if_neg (show ¬ (0 : Int32) < 0 by decide), b1, if_neg (RS_err b2)]
        · rw [eo]
          exact ⟨b2, ⟨(SG_21 b3 (by decide)).trans hP'.2.1.1, (SG_21 b3 (by decide)).trans hP'.2.1.2⟩, (fun y => by cases y)⟩
      · obtain ⟨J1, L1, b1, b2, b3, b4⟩ := rx_ord0 (N := N) hP' hk hd hR hN
        have hg2 := rx_isG (N := N) hP'.1 (ch := 41) (by omega)
        rw [show nI 41 = 41 from rfl, if_neg (by exact hg)] at hg2
        refine ⟨J1, L1, ?_, ⟨b2.1, b2.2.1, fun ok => ?_⟩, b3, b4⟩
        · rw [F_X12_goesThrough_29]
          simp only [wm_kR, wm_kt, wm_kn, wm_kin, wm_kL, wm_kI, wm_ksI, wm_ksL, wm_kJ, wm_ksJ, kg_t, kl_v, Option.bind_some, sr_k, sr_0, sr_1, sr_2, sr_3, sr_4, sr_7, sr_8, sr_9, sr_26, sr_27, sr_28, RS_ok hP'.1, hP'.2.1.2, if_true, if_neg (g14 J LJ hP'), hg2, b1]
        · obtain ⟨y1, y2⟩ := a4 ok
          rw [y1, y2]
          exact b2.2.2 ok
end
