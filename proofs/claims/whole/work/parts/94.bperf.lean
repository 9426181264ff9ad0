/-! one command, done by both -/
/-- both do the command of kind q whose words begin at token j as o says: o none: it can't be done -/
def EFF (N n : Nat) (T : Nat → Nat) (r : Nat → Int32) (nb nt q j : Nat) (o : Option ((Nat → Int32) × Nat)) : Prop :=
  (∀ p, o = some p → RI p.1 nb p.2) ∧
  (∀ (I : kInts) (L : kLngs) (k : Nat), k < 30 → RM I 44 r nb nt → I (14 + k) 0 = nI q → ARG I n T k q j → (o = none → F_X1_performOn N (wm Mb I L) (14 + k) 44 = some (0, wm Mb I L)) ∧ ∀ p, o = some p → ∃ I', F_X1_performOn N (wm Mb I L) (14 + k) 44 = some (1, wm Mb I' L) ∧ RM I' 44 p.1 nb p.2 ∧ FR 44 I I') ∧
  (∀ (J : kInts) (L : kLngs), J 541 = r → (o = none → actQ N n T r nt q j (wm Mb J L) = F_X12_came N (wm Mb J L) 540 0) ∧ ∀ p, o = some p → ∃ f', actQ N n T r nt q j (wm Mb J L) = F_X12_came N (wm Mb (rf J p.1 f') L) 540 1)
section
variable {N : Nat} {I I' J : kInts} {L L' : kLngs} {n c i j k d q nb nt : Nat} {T : Nat → Nat} {r : Nat → Int32}
theorem hb01 : ((1 : Int32) == 0 || (1 : Int32) == 1) = true ∧ ((0 : Int32) == 0 || (0 : Int32) == 1) = true := ⟨rfl, rfl⟩
theorem bnd_id (x : Option kMem) : (x.bind fun M => some M) = x := by cases x <;> rfl
theorem nmd_c (hR : RI r nb nt) (hM : RM I 44 r nb nt) {u : Int64} {v : Int32} (hq : nmV u v) (hN : 100 < N) : F_X4_traderNamed N (wm Mb I L) 44 u = some (cOf 44 (fnd r nt v)) := cx_named m169 hq.z hR.nt24 hR.r8 hM.tc hM.n hN
theorem cOf_none : cOf 44 none = 0 := rfl
theorem cOf_some (t : Nat) : cOf 44 (some t) = tr 44 t := rfl
theorem rOf_some (t : Nat) : rOf (some t) = nI t := rfl
theorem nI_n1 {t : Nat} (h : t < 1000) : ¬ nI t = -1 := nI_ne1 (by omega)
theorem j_rf (h : J 541 = r) : rf J r (J 546) = J := by rw [← h]; exact rf_self
theorem eff_1 (hR : RI r nb nt) (ok : okS (wlk n T (lsT n T 1) (.inl j)) = true) (hN : 1000 < N) : ∃ o, EFF N n T r nb nt 1 j o := by
  have h5 := hR.nb5
  have h24 := hR.nt24
  obtain ⟨o1, ok2, -⟩ := wlk_ok (f := cMn n T) (l := [cN n T 1 100, cN n T 0 10000]) ok
  obtain ⟨o2, ok3, -⟩ := wlk_ok (f := cN n T 1 100) (l := [cN n T 0 10000]) ok2
  obtain ⟨o3, -, -⟩ := wlk_ok (f := cN n T 0 10000) (l := []) ok3
  have w1 := cN_in o2
  have w2 : 0 ≤ nuv n T (j + 2) ∧ nuv n T (j + 2) < 10000 := cN_in o3
  have m169' : (44 : Nat) ∈ mks := m169
  have eTn : kn Mb (kR Mb 44 14) = 24 := mm_tn m169
  have nt24' : (nI nt < Int32.ofNat 24) = (nt < 24) := nI_ltP (b := 24) (by omega) (by decide)
  have nt24r : (nI nt < 24) = (nt < 24) := nI_ltP (b := 24) (by omega) (by decide)
  by_cases h1 : nt < 24
  · cases e : fnd r nt (nmc n T j) with
    | none =>
      refine ⟨some (jnR r nt (nmc n T j) (nI (nuv n T (j + 1))) (nI (nuv n T (j + 2))) 0, nt + 1), fun p hp => by cases hp; exact RI_jn hR h1 ⟨by omega, by omega⟩ (by omega) hR.c.2.2, fun I L k hk hM h0 hA => ⟨(fun z => by cases z), fun p hp => ?_⟩, fun J L hJ => ⟨(fun z => by cases z), fun p hp => ?_⟩⟩
      · cases hp
        have hn := hA.1 (by omega)
        obtain ⟨a1, a2⟩ := hA.2.2.1 rfl
        obtain ⟨I', b1, b2, b3⟩ := cx_admit (N := N) (L := L) (w := nI (nuv n T (j + 1))) (p := nI (nuv n T (j + 2))) (ag := 0) m169 hM h5 h1 hR.r8 hn
        have g1 := nmd_c (N := N) (L := L) hR hM hn (by omega)
        refine ⟨I', ?_, b2, b3⟩
        unfold F_X1_performOn F_X1_joinOn F_X4_canAdmit
        simp only [wm_kR, wm_kt, wm_kn, wm_kin, wm_kL, wm_kI, wm_ksI, wm_ksL, wm_kJ, wm_ksJ, kg_t, kl_v, Option.bind_some, sh_c hk, h0, show nI 1 = 1 from rfl, if_true, mm_k m169, mm_ts m169, eTn, hM.tc, hR.r8, nt24', if_pos h1, lgc0, hn.ne, if_false, g1, e, cOf_none, if_neg one0, a1, a2, b1, hb01.1]
      · cases hp
        refine ⟨J 546, ?_⟩
        have g2 := rx_nmd2 (N := N) (I := J) (L := L) (r := r) hR hJ hN (nmc n T j)
        have g3 := rx_joins (N := N) (I := J) (L := L) (f := J 546) (cc := nmc n T j) (w := nI (nuv n T (j + 1))) (p := nI (nuv n T (j + 2))) h1 hR.r8
        rw [j_rf hJ] at g3
        have e8 : J 541 8 = nI nt := by rw [hJ]; exact hR.r8
        unfold actQ aJoin F_X12_joinText_55
        simp only [if_true, wm_kR, wm_kt, wm_kn, wm_kin, wm_kL, wm_kI, wm_ksI, wm_ksL, wm_kJ, wm_ksJ, kg_t, kl_v, Option.bind_some, sr_k, sr_0, sr_1, sr_2, sr_3, sr_4, sr_7, sr_8, sr_9, sr_26, sr_27, sr_28, kl_0, kl_1, kl_2, kl_3, kl_4, kl_5, kl_6, kl_7, kl_8, kl_9, kl_10, kl_11, kl_12, kl_13, kx_l0, kx_l1, kx_l2, kx_l3, kx_l4, kx_l5, kx_l6, kx_l7, kx_l8, kx_l9, kx_l10, kx_l11, kx_l12, kx_l13, e8, nt24r, if_pos h1, g2, e, rOf_none, if_neg one0, g3, bnd_id]
    | some t =>
      refine ⟨none, (fun p hp => by cases hp), fun I L k hk hM h0 hA => ⟨fun _ => ?_, (fun p hp => by cases hp)⟩, fun J L hJ => ⟨fun _ => ?_, (fun p hp => by cases hp)⟩⟩
      · have g1 := nmd_c (N := N) (L := L) hR hM (hA.1 (by omega)) (by omega)
        unfold F_X1_performOn F_X1_joinOn F_X4_canAdmit
        simp only [wm_kR, wm_kt, wm_kn, wm_kin, wm_kL, wm_kI, wm_ksI, wm_ksL, wm_kJ, wm_ksJ, kg_t, kl_v, Option.bind_some, sh_c hk, h0, show nI 1 = 1 from rfl, if_true, lgc0, (hA.1 (by omega)).ne, mm_k m169, mm_ts m169, eTn, hM.tc, hR.r8, nt24', if_pos h1, g1, e, cOf_some, tr_ne0, if_false, hb01.2]
      · have g2 := rx_nmd2 (N := N) (I := J) (L := L) (r := r) hR hJ hN (nmc n T j)
        have e8 : J 541 8 = nI nt := by rw [hJ]; exact hR.r8
        have ht := fnd_lt e
        unfold actQ aJoin F_X12_joinText_54 F_X12_joinText_55
        simp only [if_true, wm_kR, wm_kt, wm_kn, wm_kin, wm_kL, wm_kI, wm_ksI, wm_ksL, wm_kJ, wm_ksJ, kg_t, kl_v, Option.bind_some, sr_k, sr_0, sr_1, sr_2, sr_3, sr_4, sr_7, sr_8, sr_9, sr_26, sr_27, sr_28, kl_0, kl_1, kl_2, kl_3, kl_4, kl_5, kl_6, kl_7, kl_8, kl_9, kl_10, kl_11, kl_12, kl_13, kx_l0, kx_l1, kx_l2, kx_l3, kx_l4, kx_l5, kx_l6, kx_l7, kx_l8, kx_l9, kx_l10, kx_l11, kx_l12, kx_l13, e8, nt24r, if_pos h1, g2, e, rOf_some, if_neg (nI_n1 (show t < 1000 by omega)), bnd_id]
  · refine ⟨none, (fun p hp => by cases hp), fun I L k hk hM h0 hA => ⟨fun _ => ?_, (fun p hp => by cases hp)⟩, fun J L hJ => ⟨fun _ => ?_, (fun p hp => by cases hp)⟩⟩
    · unfold F_X1_performOn F_X1_joinOn F_X4_canAdmit
      simp only [wm_kR, wm_kt, wm_kn, wm_kin, wm_kL, wm_kI, wm_ksI, wm_ksL, wm_kJ, wm_ksJ, kg_t, kl_v, Option.bind_some, sh_c hk, h0, show nI 1 = 1 from rfl, if_true, lgc0, (hA.1 (by omega)).ne, if_false, mm_k m169, mm_ts m169, eTn, hM.tc, hR.r8, nt24', if_neg h1, hb01.2]
    · have e8 : J 541 8 = nI nt := by rw [hJ]; exact hR.r8
      unfold actQ aJoin F_X12_joinText_54 F_X12_joinText_55
      simp only [if_true, wm_kR, wm_kt, wm_kn, wm_kin, wm_kL, wm_kI, wm_ksI, wm_ksL, wm_kJ, wm_ksJ, kg_t, kl_v, Option.bind_some, sr_k, sr_0, sr_1, sr_2, sr_3, sr_4, sr_7, sr_8, sr_9, sr_26, sr_27, sr_28, kl_0, kl_1, kl_2, kl_3, kl_4, kl_5, kl_6, kl_7, kl_8, kl_9, kl_10, kl_11, kl_12, kl_13, kx_l0, kx_l1, kx_l2, kx_l3, kx_l4, kx_l5, kx_l6, kx_l7, kx_l8, kx_l9, kx_l10, kx_l11, kx_l12, kx_l13, e8, nt24r, if_neg h1, bnd_id]
theorem rx_isP2 (hJ : J 541 = r) (hR : RI r nb nt) {b a : Nat} (hb : b < nb) (ha : r (14 + 15 * b + 0) = nI a) (p : Int32) : F_X12_isPosition N (wm Mb J L) 540 (nI b) p = some (if p ≠ 0 ∧ ¬ p < -nI a ∧ ¬ nI a < p then 1 else 0) := by
  have h5 := hR.nb5
  have hob := rx_ofB0 (N := N) (I := J) (L := L) (r := r) (f := J 546) (show b < 5 by omega)
  rw [j_rf hJ, ha] at hob
  unfold F_X12_isPosition
  by_cases c0 : p = 0
  · simp only [c0, if_true, ne_eq, not_true, false_and, if_false]
  · simp only [c0, if_false, wm_kR, wm_kt, wm_kn, wm_kin, wm_kL, wm_kI, wm_ksI, wm_ksL, wm_kJ, wm_ksJ, kg_t, kl_v, Option.bind_some, sr_k, sr_0, sr_1, sr_2, sr_3, sr_4, sr_7, sr_8, sr_9, sr_26, sr_27, sr_28, hob, in_ok, ne_eq, not_false_eq_true, true_and]
    by_cases c1 : p < -nI a
    · simp only [c1, if_true, not_true, false_and, if_false]
    · by_cases c2 : nI a < p
      · simp only [c1, c2, if_true, if_false, not_true, and_false]
      · simp only [c1, c2, if_false, if_neg one0, not_false_eq_true, and_self, if_true]
theorem eff_2 (hR : RI r nb nt) (ok : okS (wlk n T (lsT n T 2) (.inl j)) = true) (hN : 1000 < N) : ∃ o, EFF N n T r nb nt 2 j o := by
  have h5 := hR.nb5
  have h24 := hR.nt24
  obtain ⟨o1, ok2, -⟩ := wlk_ok (f := cMn n T) (l := [cN n T 0 5, sdC n T, cN n T 1 7]) ok
  obtain ⟨o2, ok3, -⟩ := wlk_ok (f := cN n T 0 5) (l := [sdC n T, cN n T 1 7]) ok2
  have w1 := cN_in o2
  have hc1 : ∀ (I : kInts) (L : kLngs) (k : Nat), k < 30 → RM I 44 r nb nt → I (14 + k) 0 = nI 2 → ARG I n T k 2 j → F_X1_performOn N (wm Mb I L) (14 + k) 44 = (F_X1_buyOn N (wm Mb I L) (14 + k) 44 (cOf 44 (fnd r nt (nmc n T j)))).bind fun r3 => kg (r3.1 == 0 || r3.1 == 1) <| some (r3.1, r3.2) := by
    intro I L k hk hM h0 hA
    have g1 := nmd_c (N := N) (L := L) hR hM (hA.1 (by omega)) (by omega)
    unfold F_X1_performOn
    simp only [wm_kR, wm_kt, wm_kn, wm_kin, wm_kL, wm_kI, wm_ksI, wm_ksL, wm_kJ, wm_ksJ, kg_t, kl_v, Option.bind_some, sh_c hk, h0, show nI 2 = 2 from rfl, show ¬ ((2 : Int32) = 1) by decide, if_true, if_false, mm_k m169, g1]
  have hr1 : actQ N n T r nt 2 j = fun M => aBuy N M (rOf (fnd r nt (nmc n T j))) (nI (nuv n T (j + 1))) (sdV n T (.inl (j + 2)) * nI (nuv n T (j + 3))) := rfl
  generalize ep : sdV n T (.inl (j + 2)) * nI (nuv n T (j + 3)) = p at hr1
  cases e : fnd r nt (nmc n T j) with
  | none =>
    refine ⟨none, (fun p hp => by cases hp), fun I L k hk hM h0 hA => ⟨fun _ => ?_, (fun p hp => by cases hp)⟩, fun J L hJ => ⟨fun _ => ?_, (fun p hp => by cases hp)⟩⟩
    · rw [hc1 I L k hk hM h0 hA, e, cOf_none]
      obtain ⟨a1, a2⟩ := hA.2.2.2.1 rfl
      have hbn : ∃ v, F_X4_boardNumbered N (wm Mb I L) 44 (nI (nuv n T (j + 1))) = some v := by
        by_cases y : nuv n T (j + 1) < nb
        · exact ⟨_, cx_bn_in m169 hR hM y⟩
        · exact ⟨_, cx_bn_out m169 hR hM (Or.inr (by
            rw [Int32.le_iff_lt_or_eq]
            by_cases z : nb < nuv n T (j + 1)
            · exact Or.inl (nI_lt z (by omega))
            · exact Or.inr (by rw [show nuv n T (j + 1) = nb by omega])))⟩
      obtain ⟨v, hv⟩ := hbn
      unfold F_X1_buyOn
      simp only [wm_kR, wm_kt, wm_kn, wm_kin, wm_kL, wm_kI, wm_ksI, wm_ksL, wm_kJ, wm_ksJ, kg_t, kl_v, Option.bind_some, sh_c hk, mm_k m169, a1, hv, if_true, hb01.2]
    · rw [hr1, e, rOf_none]
      show aBuy N (wm Mb J L) (-1) _ _ = _
      unfold aBuy F_X12_buyText_75 F_X12_buyText_76
      simp only [if_true, wm_kR, wm_kt, wm_kn, wm_kin, wm_kL, wm_kI, wm_ksI, wm_ksL, wm_kJ, wm_ksJ, kg_t, kl_v, Option.bind_some, sr_k, sr_0, sr_1, sr_2, sr_3, sr_4, sr_7, sr_8, sr_9, sr_26, sr_27, sr_28, bnd_id]
  | some t =>
    have ht := fnd_lt e
    by_cases hb : nuv n T (j + 1) < nb
    · obtain ⟨a, s', l, ha, -, -, ra, -⟩ := hR.b _ hb
      have hbn : ∀ I L, RM I 44 r nb nt → F_X4_boardNumbered N (wm Mb I L) 44 (nI (nuv n T (j + 1))) = some (bd 44 (nuv n T (j + 1))) := fun I L hM => cx_bn_in m169 hR hM hb
      have hhs : ∀ I L, RM I 44 r nb nt → F_X0_hasSeat N (wm Mb I L) (bd 44 (nuv n T (j + 1))) p = some (if p ≠ 0 ∧ ¬ p < -nI a ∧ ¬ nI a < p then 1 else 0) := fun I L hM => cx_hasSeat m169 (by omega) ((hM.bb _ hb).1.trans ra) p
      have hbk := bb_k m169 (show nuv n T (j + 1) < 5 by omega)
      have bne : ¬ bd 44 (nuv n T (j + 1)) = 0 := by unfold bd; omega
      have r7 : ∀ J : kInts, J 541 = r → J 541 7 = nI nb := fun J hJ => by rw [hJ]; exact hR.r7
      have vlt : (nI (nuv n T (j + 1)) < nI nb) = True := eq_true (nI_lt hb (by omega))
      by_cases hp : p ≠ 0 ∧ ¬ p < -nI a ∧ ¬ nI a < p
      · obtain ⟨q, p1, p2, p3, hpq⟩ := pos_of (show a ≤ 6 by omega) hp.1 hp.2.1 hp.2.2
        by_cases e1 : aSeat r nt t (nuv n T (j + 1)) q = 0
        · refine ⟨some (buR r nt t (nuv n T (j + 1)) q, nt), fun x hx => by cases hx; exact RI_bu hR ht hb ra (show a ≤ 6 by omega) p1 p2 p3 e1, fun I L k hk hM h0 hA => ⟨(fun z => by cases z), fun x hx => ?_⟩, fun J L hJ => ⟨(fun z => by cases z), fun x hx => ?_⟩⟩
          · cases hx
            rw [hc1 I L k hk hM h0 hA, e, cOf_some]
            obtain ⟨a1, a2⟩ := hA.2.2.2.1 rfl
            rw [ep] at a2
            have g1 := cx_aSeat (N := N) (L := L) m169 hR hM ht hb ra (show a ≤ 6 by omega) p1 p2 p3 (by omega)
            obtain ⟨I', b1, b2, b3⟩ := cx_sells (N := N) (L := L) m169 (by omega) hR hM ht hb (show q < 13 by omega) p3 e1
            rw [← hpq] at g1 b1
            refine ⟨I', ?_, b2, b3⟩
            unfold F_X1_buyOn
            simp only [wm_kR, wm_kt, wm_kn, wm_kin, wm_kL, wm_kI, wm_ksI, wm_ksL, wm_kJ, wm_ksJ, kg_t, kl_v, Option.bind_some, sh_c hk, mm_k m169, a1, a2, hbn I L hM, hhs I L hM, if_pos hp, tr_ne0, bne, hbk, if_false, if_neg one0, g1, e1, if_true, b1, hb01.1]
          · cases hx
            refine ⟨J 546, ?_⟩
            have g2 := rx_aSeat (N := N) (I := J) (L := L) (f := J 546) hR ht hb (show q < 13 by omega) p3 (by omega)
            have g3 := rx_buys (N := N) (I := J) (L := L) (f := J 546) (by omega) hR ht hb (show q < 13 by omega) p3 e1
            rw [j_rf hJ, ← hpq] at g2 g3
            rw [hr1, e, rOf_some]
            show aBuy N (wm Mb J L) _ _ _ = _
            unfold aBuy F_X12_buyText_76
            simp only [if_neg (nI_n1 (show t < 1000 by omega)), wm_kR, wm_kt, wm_kn, wm_kin, wm_kL, wm_kI, wm_ksI, wm_ksL, wm_kJ, wm_ksJ, kg_t, kl_v, Option.bind_some, sr_k, sr_0, sr_1, sr_2, sr_3, sr_4, sr_7, sr_8, sr_9, sr_26, sr_27, sr_28, kl_0, kl_1, kl_2, kl_3, kl_4, kl_5, kl_6, kl_7, kl_8, kl_9, kl_10, kl_11, kl_12, kl_13, kx_l0, kx_l1, kx_l2, kx_l3, kx_l4, kx_l5, kx_l6, kx_l7, kx_l8, kx_l9, kx_l10, kx_l11, kx_l12, kx_l13, r7 J hJ, vlt, if_true, rx_isP2 hJ hR hb ra, if_pos hp, if_neg one0, g2, e1, g3, bnd_id]
        · refine ⟨none, (fun p hp => by cases hp), fun I L k hk hM h0 hA => ⟨fun _ => ?_, (fun p hp => by cases hp)⟩, fun J L hJ => ⟨fun _ => ?_, (fun p hp => by cases hp)⟩⟩
          · rw [hc1 I L k hk hM h0 hA, e, cOf_some]
            obtain ⟨a1, a2⟩ := hA.2.2.2.1 rfl
            rw [ep] at a2
            have g1 := cx_aSeat (N := N) (L := L) m169 hR hM ht hb ra (show a ≤ 6 by omega) p1 p2 p3 (by omega)
            rw [← hpq] at g1
            unfold F_X1_buyOn
            simp only [wm_kR, wm_kt, wm_kn, wm_kin, wm_kL, wm_kI, wm_ksI, wm_ksL, wm_kJ, wm_ksJ, kg_t, kl_v, Option.bind_some, sh_c hk, mm_k m169, a1, a2, hbn I L hM, hhs I L hM, if_pos hp, tr_ne0, bne, hbk, if_false, if_neg one0, g1, e1, hb01.2]
          · have g2 := rx_aSeat (N := N) (I := J) (L := L) (f := J 546) hR ht hb (show q < 13 by omega) p3 (by omega)
            rw [j_rf hJ, ← hpq] at g2
            rw [hr1, e, rOf_some]
            show aBuy N (wm Mb J L) _ _ _ = _
            unfold aBuy F_X12_buyText_75 F_X12_buyText_76
            simp only [if_neg (nI_n1 (show t < 1000 by omega)), wm_kR, wm_kt, wm_kn, wm_kin, wm_kL, wm_kI, wm_ksI, wm_ksL, wm_kJ, wm_ksJ, kg_t, kl_v, Option.bind_some, sr_k, sr_0, sr_1, sr_2, sr_3, sr_4, sr_7, sr_8, sr_9, sr_26, sr_27, sr_28, kl_0, kl_1, kl_2, kl_3, kl_4, kl_5, kl_6, kl_7, kl_8, kl_9, kl_10, kl_11, kl_12, kl_13, kx_l0, kx_l1, kx_l2, kx_l3, kx_l4, kx_l5, kx_l6, kx_l7, kx_l8, kx_l9, kx_l10, kx_l11, kx_l12, kx_l13, r7 J hJ, vlt, if_true, rx_isP2 hJ hR hb ra, if_pos hp, if_neg one0, g2, e1, if_false, bnd_id]
      · refine ⟨none, (fun p hp => by cases hp), fun I L k hk hM h0 hA => ⟨fun _ => ?_, (fun p hp => by cases hp)⟩, fun J L hJ => ⟨fun _ => ?_, (fun p hp => by cases hp)⟩⟩
        · rw [hc1 I L k hk hM h0 hA, e, cOf_some]
          obtain ⟨a1, a2⟩ := hA.2.2.2.1 rfl
          rw [ep] at a2
          unfold F_X1_buyOn
          simp only [wm_kR, wm_kt, wm_kn, wm_kin, wm_kL, wm_kI, wm_ksI, wm_ksL, wm_kJ, wm_ksJ, kg_t, kl_v, Option.bind_some, sh_c hk, mm_k m169, a1, a2, hbn I L hM, hhs I L hM, if_neg hp, tr_ne0, bne, hbk, if_false, if_true, hb01.2]
        · rw [hr1, e, rOf_some]
          show aBuy N (wm Mb J L) _ _ _ = _
          unfold aBuy F_X12_buyText_75 F_X12_buyText_76
          simp only [if_neg (nI_n1 (show t < 1000 by omega)), wm_kR, wm_kt, wm_kn, wm_kin, wm_kL, wm_kI, wm_ksI, wm_ksL, wm_kJ, wm_ksJ, kg_t, kl_v, Option.bind_some, sr_k, sr_0, sr_1, sr_2, sr_3, sr_4, sr_7, sr_8, sr_9, sr_26, sr_27, sr_28, kl_0, kl_1, kl_2, kl_3, kl_4, kl_5, kl_6, kl_7, kl_8, kl_9, kl_10, kl_11, kl_12, kl_13, kx_l0, kx_l1, kx_l2, kx_l3, kx_l4, kx_l5, kx_l6, kx_l7, kx_l8, kx_l9, kx_l10, kx_l11, kx_l12, kx_l13, r7 J hJ, vlt, if_true, rx_isP2 hJ hR hb ra, if_neg hp, bnd_id]
    · have hle : nI nb ≤ nI (nuv n T (j + 1)) := by
        rw [Int32.le_iff_lt_or_eq]
        by_cases z : nb < nuv n T (j + 1)
        · exact Or.inl (nI_lt z (by omega))
        · exact Or.inr (by rw [show nuv n T (j + 1) = nb by omega])
      have vlt : (nI (nuv n T (j + 1)) < nI nb) = False := eq_false (by rw [nI_ltI (by omega) (by omega)]; exact hb)
      refine ⟨none, (fun p hp => by cases hp), fun I L k hk hM h0 hA => ⟨fun _ => ?_, (fun p hp => by cases hp)⟩, fun J L hJ => ⟨fun _ => ?_, (fun p hp => by cases hp)⟩⟩
      · rw [hc1 I L k hk hM h0 hA, e, cOf_some]
        obtain ⟨a1, a2⟩ := hA.2.2.2.1 rfl
        unfold F_X1_buyOn
        simp only [wm_kR, wm_kt, wm_kn, wm_kin, wm_kL, wm_kI, wm_ksI, wm_ksL, wm_kJ, wm_ksJ, kg_t, kl_v, Option.bind_some, sh_c hk, mm_k m169, a1, cx_bn_out m169 hR hM (Or.inr hle), tr_ne0, if_false, if_true, hb01.2]
      · have r7 : J 541 7 = nI nb := by rw [hJ]; exact hR.r7
        rw [hr1, e, rOf_some]
        show aBuy N (wm Mb J L) _ _ _ = _
        unfold aBuy F_X12_buyText_75 F_X12_buyText_76
        simp only [if_neg (nI_n1 (show t < 1000 by omega)), wm_kR, wm_kt, wm_kn, wm_kin, wm_kL, wm_kI, wm_ksI, wm_ksL, wm_kJ, wm_ksJ, kg_t, kl_v, Option.bind_some, sr_k, sr_0, sr_1, sr_2, sr_3, sr_4, sr_7, sr_8, sr_9, sr_26, sr_27, sr_28, kl_0, kl_1, kl_2, kl_3, kl_4, kl_5, kl_6, kl_7, kl_8, kl_9, kl_10, kl_11, kl_12, kl_13, kx_l0, kx_l1, kx_l2, kx_l3, kx_l4, kx_l5, kx_l6, kx_l7, kx_l8, kx_l9, kx_l10, kx_l11, kx_l12, kx_l13, r7, vlt, if_false, if_true, bnd_id]
end
