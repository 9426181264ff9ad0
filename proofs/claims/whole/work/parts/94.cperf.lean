/-! one command, done by both: leave, sell, swap, wage, days -/
section
variable {N : Nat} {I I' J : kInts} {L L' : kLngs} {n c i j k d q nb nt : Nat} {T : Nat → Nat} {r : Nat → Int32}
theorem eff_3 (hR : RI r nb nt) (hN : 1000 < N) : ∃ o, EFF N n T r nb nt 3 j o := by
  have h24 := hR.nt24
  have hr1 : actQ N n T r nt 3 j = fun M => aLeave N M (rOf (fnd r nt (nmc n T j))) := rfl
  have hc1 : ∀ (I : kInts) (L : kLngs) (k : Nat), k < 30 → RM I 44 r nb nt → I (14 + k) 0 = nI 3 → ARG I n T k 3 j → F_X1_performOn N (wm Mb I L) (14 + k) 44 = (F_X1_leaveOn N (wm Mb I L) 44 (cOf 44 (fnd r nt (nmc n T j)))).bind fun r3 => kg (r3.1 == 0 || r3.1 == 1) <| some (r3.1, r3.2) := by
    intro I L k hk hM h0 hA
    have g1 := nmd_c (N := N) (L := L) hR hM (hA.1 (by omega)) (by omega)
    unfold F_X1_performOn
    simp only [wm_kR, wm_kt, wm_kn, wm_kin, wm_kL, wm_kI, wm_ksI, wm_ksL, wm_kJ, wm_ksJ, kg_t, kl_v, Option.bind_some, sh_c hk, h0, show nI 3 = 3 from rfl, show ¬ ((3 : Int32) = 1) by decide, show ¬ ((3 : Int32) = 2) by decide, if_true, if_false, mm_k m169, g1]
  cases e : fnd r nt (nmc n T j) with
  | none =>
    refine ⟨none, (fun p hp => by cases hp), fun I L k hk hM h0 hA => ⟨fun _ => ?_, (fun p hp => by cases hp)⟩, fun J L hJ => ⟨fun _ => ?_, (fun p hp => by cases hp)⟩⟩
    · rw [hc1 I L k hk hM h0 hA, e, cOf_none]
      unfold F_X1_leaveOn
      simp only [wm_kR, wm_kt, wm_kn, wm_kin, wm_kL, wm_kI, wm_ksI, wm_ksL, wm_kJ, wm_ksJ, kg_t, kl_v, Option.bind_some, if_true, hb01.2]
    · rw [hr1, e, rOf_none]
      show aLeave N (wm Mb J L) (-1) = _
      unfold aLeave F_X12_leaveText_33 F_X12_leaveText_34
      simp only [if_true, wm_kR, wm_kt, wm_kn, wm_kin, wm_kL, wm_kI, wm_ksI, wm_ksL, wm_kJ, wm_ksJ, kg_t, kl_v, Option.bind_some, sr_k, sr_0, sr_1, sr_2, sr_3, sr_4, sr_7, sr_8, sr_9, sr_26, sr_27, sr_28, bnd_id]
  | some t =>
    have ht := fnd_lt e
    have g0 : ∀ I L, RM I 44 r nb nt → _ := fun I L hM => cx_seated (N := N) (L := L) m169 h24 hM ht
    have g2 : ∀ (J : kInts) L, J 541 = r → F_X12_isSeated N (wm Mb J L) 540 (nI t) = some (if r (89 + 7 * t + 5) = -1 then 0 else 1) := fun J L hJ => by
      have := rx_seated (N := N) (I := J) (L := L) (r := r) (f := J 546) (show t < 24 by omega)
      rw [j_rf hJ] at this
      exact this
    by_cases hu : r (89 + 7 * t + 5) = -1
    · refine ⟨none, (fun p hp => by cases hp), fun I L k hk hM h0 hA => ⟨fun _ => ?_, (fun p hp => by cases hp)⟩, fun J L hJ => ⟨fun _ => ?_, (fun p hp => by cases hp)⟩⟩
      · rw [hc1 I L k hk hM h0 hA, e, cOf_some]
        unfold F_X1_leaveOn
        simp only [wm_kR, wm_kt, wm_kn, wm_kin, wm_kL, wm_kI, wm_ksI, wm_ksL, wm_kJ, wm_ksJ, kg_t, kl_v, Option.bind_some, tr_ne0, tt_k m169 (show t < 24 by omega), g0 I L hM, if_pos hu, if_false, if_true, hb01.2]
      · rw [hr1, e, rOf_some]
        show aLeave N (wm Mb J L) _ = _
        unfold aLeave F_X12_leaveText_33 F_X12_leaveText_34
        simp only [if_neg (nI_n1 (show t < 1000 by omega)), wm_kR, wm_kt, wm_kn, wm_kin, wm_kL, wm_kI, wm_ksI, wm_ksL, wm_kJ, wm_ksJ, kg_t, kl_v, Option.bind_some, sr_k, sr_0, sr_1, sr_2, sr_3, sr_4, sr_7, sr_8, sr_9, sr_26, sr_27, sr_28, g2 J L hJ, if_pos hu, if_true, bnd_id]
    · refine ⟨some (riS r t, nt), fun x hx => by cases hx; exact RI_riS hR ht, fun I L k hk hM h0 hA => ⟨(fun z => by cases z), fun x hx => ?_⟩, fun J L hJ => ⟨(fun z => by cases z), fun x hx => ?_⟩⟩
      · cases hx
        rw [hc1 I L k hk hM h0 hA, e, cOf_some]
        obtain ⟨I', b1, b2, b3⟩ := cx_unseat (N := N) (L := L) m169 hR hM ht
        refine ⟨I', ?_, b2, b3⟩
        unfold F_X1_leaveOn
        simp only [wm_kR, wm_kt, wm_kn, wm_kin, wm_kL, wm_kI, wm_ksI, wm_ksL, wm_kJ, wm_ksJ, kg_t, kl_v, Option.bind_some, tr_ne0, tt_k m169 (show t < 24 by omega), g0 I L hM, if_neg hu, if_false, if_neg one0, mm_k m169, b1, hb01.1]
      · cases hx
        refine ⟨J 546, ?_⟩
        have g3 := rx_leaves (N := N) (I := J) (L := L) (f := J 546) hR ht
        rw [j_rf hJ] at g3
        rw [hr1, e, rOf_some]
        show aLeave N (wm Mb J L) _ = _
        unfold aLeave F_X12_leaveText_34
        simp only [if_neg (nI_n1 (show t < 1000 by omega)), wm_kR, wm_kt, wm_kn, wm_kin, wm_kL, wm_kI, wm_ksI, wm_ksL, wm_kJ, wm_ksJ, kg_t, kl_v, Option.bind_some, sr_k, sr_0, sr_1, sr_2, sr_3, sr_4, sr_7, sr_8, sr_9, sr_26, sr_27, sr_28, g2 J L hJ, if_neg hu, if_neg one0, g3, bnd_id]
theorem fnd_nm {v : Int32} {t : Nat} (h : fnd r nt v = some t) : r (89 + 7 * t + 0) = v := (fndL_lt h).2
theorem cOt_ne (h : cOt n T (j + 1) = 0) : nmc n T j ≠ nmc n T (j + 1) := by
  unfold cOt at h
  intro e
  by_cases c : isM n T (j + 1) = true
  · rw [if_pos c, Nat.add_sub_cancel, if_pos e.symm] at h; cases h
  · rw [if_neg c] at h; cases h
theorem eff_4 (hR : RI r nb nt) (ok : okS (wlk n T (lsT n T 4) (.inl j)) = true) (hN : 1000 < N) : ∃ o, EFF N n T r nb nt 4 j o := by
  have h24 := hR.nt24
  obtain ⟨o1, ok2, -⟩ := wlk_ok (f := cMn n T) (l := [cOt n T, cN n T 1 51]) ok
  obtain ⟨o2, ok3, -⟩ := wlk_ok (f := cOt n T) (l := [cN n T 1 51]) ok2
  obtain ⟨o3, -, -⟩ := wlk_ok (f := cN n T 1 51) (l := []) ok3
  have w3 : 1 ≤ nuv n T (j + 2) ∧ nuv n T (j + 2) < 51 := cN_in o3
  have hne := cOt_ne o2
  have hr1 : actQ N n T r nt 4 j = fun M => aPair N M 1 (rOf (fnd r nt (nmc n T j))) (rOf (fnd r nt (nmc n T (j + 1)))) (nI (nuv n T (j + 2))) := rfl
  have hc1 : ∀ (I : kInts) (L : kLngs) (k : Nat), k < 30 → RM I 44 r nb nt → I (14 + k) 0 = nI 4 → ARG I n T k 4 j → F_X1_performOn N (wm Mb I L) (14 + k) 44 = (F_X1_sellOn N (wm Mb I L) (14 + k) 44 (cOf 44 (fnd r nt (nmc n T j))) (cOf 44 (fnd r nt (nmc n T (j + 1))))).bind fun r3 => kg (r3.1 == 0 || r3.1 == 1) <| some (r3.1, r3.2) := by
    intro I L k hk hM h0 hA
    have g1 := nmd_c (N := N) (L := L) hR hM (hA.1 (by omega)) (by omega)
    have g2 := nmd_c (N := N) (L := L) hR hM (hA.2.1 (by omega)) (by omega)
    unfold F_X1_performOn
    simp only [wm_kR, wm_kt, wm_kn, wm_kin, wm_kL, wm_kI, wm_ksI, wm_ksL, wm_kJ, wm_ksJ, kg_t, kl_v, Option.bind_some, sh_c hk, h0, show nI 4 = 4 from rfl, show ¬ ((4 : Int32) = 1) by decide, show ¬ ((4 : Int32) = 2) by decide, show ¬ ((4 : Int32) = 3) by decide, if_true, if_false, mm_k m169, g1, g2]
  have fin : (fnd r nt (nmc n T j) = none ∨ fnd r nt (nmc n T (j + 1)) = none) → EFF N n T r nb nt 4 j none := by
    intro y
    refine ⟨(fun p hp => by cases hp), fun I L k hk hM h0 hA => ⟨fun _ => ?_, (fun p hp => by cases hp)⟩, fun J L hJ => ⟨fun _ => ?_, (fun p hp => by cases hp)⟩⟩
    · rw [hc1 I L k hk hM h0 hA]
      unfold F_X1_sellOn
      rcases y with y | y
      · rw [y, cOf_none]
        simp only [if_true, wm_kR, wm_kt, wm_kn, wm_kin, wm_kL, wm_kI, wm_ksI, wm_ksL, wm_kJ, wm_ksJ, kg_t, kl_v, Option.bind_some, hb01.2]
      · rw [y, cOf_none]
        simp only [if_true, wm_kR, wm_kt, wm_kn, wm_kin, wm_kL, wm_kI, wm_ksI, wm_ksL, wm_kJ, wm_ksJ, kg_t, kl_v, Option.bind_some]
        split <;> simp only [wm_kR, wm_kt, wm_kn, wm_kin, wm_kL, wm_kI, wm_ksI, wm_ksL, wm_kJ, wm_ksJ, kg_t, kl_v, Option.bind_some, hb01.2]
    · rw [hr1]
      show aPair N (wm Mb J L) _ _ _ _ = _
      unfold aPair F_X12_pairText_88 F_X12_pairText_89
      rcases y with y | y
      · rw [y, rOf_none]
        simp only [if_true, wm_kR, wm_kt, wm_kn, wm_kin, wm_kL, wm_kI, wm_ksI, wm_ksL, wm_kJ, wm_ksJ, kg_t, kl_v, Option.bind_some, sr_k, sr_0, sr_1, sr_2, sr_3, sr_4, sr_7, sr_8, sr_9, sr_26, sr_27, sr_28, bnd_id]
      · rw [y, rOf_none]
        simp only [if_true, wm_kR, wm_kt, wm_kn, wm_kin, wm_kL, wm_kI, wm_ksI, wm_ksL, wm_kJ, wm_ksJ, kg_t, kl_v, Option.bind_some, sr_k, sr_0, sr_1, sr_2, sr_3, sr_4, sr_7, sr_8, sr_9, sr_26, sr_27, sr_28, bnd_id]
        split <;> rfl
  cases e : fnd r nt (nmc n T j) with
  | none => exact ⟨none, fin (Or.inl e)⟩
  | some s =>
    cases e2 : fnd r nt (nmc n T (j + 1)) with
    | none => exact ⟨none, fin (Or.inr e2)⟩
    | some t =>
      have hs := fnd_lt e
      have ht := fnd_lt e2
      have hst : s ≠ t := by
        intro z
        apply hne
        rw [← fnd_nm e, ← fnd_nm e2, z]
      have g2 : ∀ (J : kInts) L, J 541 = r → F_X12_againstSale N (wm Mb J L) 540 (nI s) (nI t) (nI (nuv n T (j + 2))) = some (aSale r nt s t (nI (nuv n T (j + 2)))) := fun J L hJ => by
        have := rx_aSale (N := N) (I := J) (L := L) (f := J 546) hR hs ht (nI (nuv n T (j + 2))) (by omega)
        rw [j_rf hJ] at this
        exact this
      by_cases e1 : aSale r nt s t (nI (nuv n T (j + 2))) = 0
      · refine ⟨some (seR r nt s t (nI (nuv n T (j + 2))), nt), fun x hx => by cases hx; exact RI_se hR hs ht hst w3.1 (by omega) e1, fun I L k hk hM h0 hA => ⟨(fun z => by cases z), fun x hx => ?_⟩, fun J L hJ => ⟨(fun z => by cases z), fun x hx => ?_⟩⟩
        · cases hx
          rw [hc1 I L k hk hM h0 hA, e, e2, cOf_some, cOf_some]
          have a1 := hA.2.2.2.2.1 rfl
          have g1 := cx_aSale (N := N) (L := L) m169 hR hM hs ht (nI (nuv n T (j + 2))) (by omega)
          obtain ⟨I', b1, b2, b3⟩ := cx_moveW (N := N) (L := L) m169 (by omega) hR hM hs ht hst e1
          refine ⟨I', ?_, b2, b3⟩
          unfold F_X1_sellOn
          simp only [wm_kR, wm_kt, wm_kn, wm_kin, wm_kL, wm_kI, wm_ksI, wm_ksL, wm_kJ, wm_ksJ, kg_t, kl_v, Option.bind_some, tr_ne0, if_false, sh_c hk, mm_k m169, a1, g1, e1, if_true, b1, hb01.1]
        · cases hx
          refine ⟨J 546, ?_⟩
          have g3 := rx_sells (N := N) (I := J) (L := L) (f := J 546) (by omega) hR hs ht hst e1
          rw [j_rf hJ] at g3
          rw [hr1, e, e2, rOf_some, rOf_some]
          show aPair N (wm Mb J L) _ _ _ _ = _
          unfold aPair F_X12_pairText_81 F_X12_pairText_89
          simp only [if_neg (nI_n1 (show s < 1000 by omega)), if_neg (nI_n1 (show t < 1000 by omega)), if_neg one0, wm_kR, wm_kt, wm_kn, wm_kin, wm_kL, wm_kI, wm_ksI, wm_ksL, wm_kJ, wm_ksJ, kg_t, kl_v, Option.bind_some, sr_k, sr_0, sr_1, sr_2, sr_3, sr_4, sr_7, sr_8, sr_9, sr_26, sr_27, sr_28, g2 J L hJ, e1, if_true, g3, bnd_id]
      · refine ⟨none, (fun p hp => by cases hp), fun I L k hk hM h0 hA => ⟨fun _ => ?_, (fun p hp => by cases hp)⟩, fun J L hJ => ⟨fun _ => ?_, (fun p hp => by cases hp)⟩⟩
        · rw [hc1 I L k hk hM h0 hA, e, e2, cOf_some, cOf_some]
          have a1 := hA.2.2.2.2.1 rfl
          have g1 := cx_aSale (N := N) (L := L) m169 hR hM hs ht (nI (nuv n T (j + 2))) (by omega)
          unfold F_X1_sellOn
          simp only [wm_kR, wm_kt, wm_kn, wm_kin, wm_kL, wm_kI, wm_ksI, wm_ksL, wm_kJ, wm_ksJ, kg_t, kl_v, Option.bind_some, tr_ne0, if_false, sh_c hk, mm_k m169, a1, g1, e1, hb01.2]
        · rw [hr1, e, e2, rOf_some, rOf_some]
          show aPair N (wm Mb J L) _ _ _ _ = _
          unfold aPair F_X12_pairText_81 F_X12_pairText_88 F_X12_pairText_89
          simp only [if_neg (nI_n1 (show s < 1000 by omega)), if_neg (nI_n1 (show t < 1000 by omega)), if_neg one0, wm_kR, wm_kt, wm_kn, wm_kin, wm_kL, wm_kI, wm_ksI, wm_ksL, wm_kJ, wm_ksJ, kg_t, kl_v, Option.bind_some, sr_k, sr_0, sr_1, sr_2, sr_3, sr_4, sr_7, sr_8, sr_9, sr_26, sr_27, sr_28, g2 J L hJ, e1, if_true, if_false, bnd_id]
theorem eff_5 (hR : RI r nb nt) (ok : okS (wlk n T (lsT n T 5) (.inl j)) = true) (hN : 1000 < N) : ∃ o, EFF N n T r nb nt 5 j o := by
  have h24 := hR.nt24
  obtain ⟨o1, ok2, -⟩ := wlk_ok (f := cMn n T) (l := [cOt n T]) ok
  obtain ⟨o2, -, -⟩ := wlk_ok (f := cOt n T) (l := []) ok2
  have hne := cOt_ne o2
  have hr1 : actQ N n T r nt 5 j = fun M => aPair N M 0 (rOf (fnd r nt (nmc n T j))) (rOf (fnd r nt (nmc n T (j + 1)))) 0 := rfl
  have hc1 : ∀ (I : kInts) (L : kLngs) (k : Nat), k < 30 → RM I 44 r nb nt → I (14 + k) 0 = nI 5 → ARG I n T k 5 j → F_X1_performOn N (wm Mb I L) (14 + k) 44 = (F_X1_swapOn N (wm Mb I L) 44 (cOf 44 (fnd r nt (nmc n T j))) (cOf 44 (fnd r nt (nmc n T (j + 1))))).bind fun r3 => kg (r3.1 == 0 || r3.1 == 1) <| some (r3.1, r3.2) := by
    intro I L k hk hM h0 hA
    have g1 := nmd_c (N := N) (L := L) hR hM (hA.1 (by omega)) (by omega)
    have g2 := nmd_c (N := N) (L := L) hR hM (hA.2.1 (by omega)) (by omega)
    unfold F_X1_performOn
    simp only [wm_kR, wm_kt, wm_kn, wm_kin, wm_kL, wm_kI, wm_ksI, wm_ksL, wm_kJ, wm_ksJ, kg_t, kl_v, Option.bind_some, sh_c hk, h0, show nI 5 = 5 from rfl, show ¬ ((5 : Int32) = 1) by decide, show ¬ ((5 : Int32) = 2) by decide, show ¬ ((5 : Int32) = 3) by decide, show ¬ ((5 : Int32) = 4) by decide, if_true, if_false, mm_k m169, g1, g2]
  have fin : (fnd r nt (nmc n T j) = none ∨ fnd r nt (nmc n T (j + 1)) = none) → EFF N n T r nb nt 5 j none := by
    intro y
    refine ⟨(fun p hp => by cases hp), fun I L k hk hM h0 hA => ⟨fun _ => ?_, (fun p hp => by cases hp)⟩, fun J L hJ => ⟨fun _ => ?_, (fun p hp => by cases hp)⟩⟩
    · rw [hc1 I L k hk hM h0 hA]
      unfold F_X1_swapOn
      rcases y with y | y
      · rw [y, cOf_none]
        simp only [if_true, wm_kR, wm_kt, wm_kn, wm_kin, wm_kL, wm_kI, wm_ksI, wm_ksL, wm_kJ, wm_ksJ, kg_t, kl_v, Option.bind_some, hb01.2]
      · rw [y, cOf_none]
        simp only [if_true, wm_kR, wm_kt, wm_kn, wm_kin, wm_kL, wm_kI, wm_ksI, wm_ksL, wm_kJ, wm_ksJ, kg_t, kl_v, Option.bind_some]
        split <;> simp only [wm_kR, wm_kt, wm_kn, wm_kin, wm_kL, wm_kI, wm_ksI, wm_ksL, wm_kJ, wm_ksJ, kg_t, kl_v, Option.bind_some, hb01.2]
    · rw [hr1]
      show aPair N (wm Mb J L) _ _ _ _ = _
      unfold aPair F_X12_pairText_88 F_X12_pairText_89
      rcases y with y | y
      · rw [y, rOf_none]
        simp only [if_true, wm_kR, wm_kt, wm_kn, wm_kin, wm_kL, wm_kI, wm_ksI, wm_ksL, wm_kJ, wm_ksJ, kg_t, kl_v, Option.bind_some, sr_k, sr_0, sr_1, sr_2, sr_3, sr_4, sr_7, sr_8, sr_9, sr_26, sr_27, sr_28, bnd_id]
      · rw [y, rOf_none]
        simp only [if_true, wm_kR, wm_kt, wm_kn, wm_kin, wm_kL, wm_kI, wm_ksI, wm_ksL, wm_kJ, wm_ksJ, kg_t, kl_v, Option.bind_some, sr_k, sr_0, sr_1, sr_2, sr_3, sr_4, sr_7, sr_8, sr_9, sr_26, sr_27, sr_28, bnd_id]
        split <;> rfl
  cases e : fnd r nt (nmc n T j) with
  | none => exact ⟨none, fin (Or.inl e)⟩
  | some s =>
    cases e2 : fnd r nt (nmc n T (j + 1)) with
    | none => exact ⟨none, fin (Or.inr e2)⟩
    | some t =>
      have hs := fnd_lt e
      have ht := fnd_lt e2
      have hst : s ≠ t := by
        intro z
        apply hne
        rw [← fnd_nm e, ← fnd_nm e2, z]
      have g2 : ∀ (J : kInts) L, J 541 = r → F_X12_againstSwap N (wm Mb J L) 540 (nI s) (nI t) = some (aSwap r nt s t) := fun J L hJ => by
        have := rx_aSwap (N := N) (I := J) (L := L) (f := J 546) hR hs ht (by omega)
        rw [j_rf hJ] at this
        exact this
      by_cases e1 : aSwap r nt s t = 0
      · obtain ⟨v1, v2, v3⟩ := aSwap_0 e1
        obtain ⟨b, q, st1⟩ := hR.seat hs v1
        obtain ⟨b2, q2, st2⟩ := hR.seat ht v2
        refine ⟨some (swR r nt s t b q b2 q2, nt), fun x hx => by cases hx; exact RI_sw hR hs ht hst st1 st2, fun I L k hk hM h0 hA => ⟨(fun z => by cases z), fun x hx => ?_⟩, fun J L hJ => ⟨(fun z => by cases z), fun x hx => ?_⟩⟩
        · cases hx
          rw [hc1 I L k hk hM h0 hA, e, e2, cOf_some, cOf_some]
          have g1 := cx_aSwap (N := N) (L := L) m169 hR hM hs ht (by omega)
          obtain ⟨I', d1, d2, d3⟩ := cx_exch (N := N) (L := L) m169 (by omega) hR hM hs ht hst st1 st2 v3
          refine ⟨I', ?_, d2, d3⟩
          unfold F_X1_swapOn
          simp only [wm_kR, wm_kt, wm_kn, wm_kin, wm_kL, wm_kI, wm_ksI, wm_ksL, wm_kJ, wm_ksJ, kg_t, kl_v, Option.bind_some, tr_ne0, if_false, mm_k m169, g1, e1, if_true, d1, hb01.1]
        · cases hx
          refine ⟨J 546, ?_⟩
          have g3 := rx_swaps (N := N) (I := J) (L := L) (f := J 546) (by omega) hR hs ht hst st1 st2
          rw [j_rf hJ] at g3
          rw [hr1, e, e2, rOf_some, rOf_some]
          show aPair N (wm Mb J L) _ _ _ _ = _
          unfold aPair F_X12_pairText_81 F_X12_pairText_89
          simp only [if_neg (nI_n1 (show s < 1000 by omega)), if_neg (nI_n1 (show t < 1000 by omega)), if_neg one0, wm_kR, wm_kt, wm_kn, wm_kin, wm_kL, wm_kI, wm_ksI, wm_ksL, wm_kJ, wm_ksJ, kg_t, kl_v, Option.bind_some, sr_k, sr_0, sr_1, sr_2, sr_3, sr_4, sr_7, sr_8, sr_9, sr_26, sr_27, sr_28, g2 J L hJ, e1, if_true, g3, bnd_id]
      · refine ⟨none, (fun p hp => by cases hp), fun I L k hk hM h0 hA => ⟨fun _ => ?_, (fun p hp => by cases hp)⟩, fun J L hJ => ⟨fun _ => ?_, (fun p hp => by cases hp)⟩⟩
        · rw [hc1 I L k hk hM h0 hA, e, e2, cOf_some, cOf_some]
          have g1 := cx_aSwap (N := N) (L := L) m169 hR hM hs ht (by omega)
          unfold F_X1_swapOn
          simp only [wm_kR, wm_kt, wm_kn, wm_kin, wm_kL, wm_kI, wm_ksI, wm_ksL, wm_kJ, wm_ksJ, kg_t, kl_v, Option.bind_some, tr_ne0, if_false, mm_k m169, g1, e1, hb01.2]
        · rw [hr1, e, e2, rOf_some, rOf_some]
          show aPair N (wm Mb J L) _ _ _ _ = _
          unfold aPair F_X12_pairText_81 F_X12_pairText_88 F_X12_pairText_89
          simp only [if_neg (nI_n1 (show s < 1000 by omega)), if_neg (nI_n1 (show t < 1000 by omega)), if_true, wm_kR, wm_kt, wm_kn, wm_kin, wm_kL, wm_kI, wm_ksI, wm_ksL, wm_kJ, wm_ksJ, kg_t, kl_v, Option.bind_some, sr_k, sr_0, sr_1, sr_2, sr_3, sr_4, sr_7, sr_8, sr_9, sr_26, sr_27, sr_28, g2 J L hJ, e1, if_false, bnd_id]
theorem eff_6 (hR : RI r nb nt) (ok : okS (wlk n T (lsT n T 6) (.inl j)) = true) (hN : 1000 < N) : ∃ o, EFF N n T r nb nt 6 j o := by
  have h5 := hR.nb5
  have h24 := hR.nt24
  obtain ⟨o1, -, -⟩ := wlk_ok (f := cN n T 0 21) (l := []) ok
  have w1 := cN_in o1
  have hr1 : ∀ M, actQ N n T r nt 6 j M = aWhole N M 1 (nI (nuv n T j)) := fun _ => rfl
  refine ⟨some (setr r 0 (nI (nuv n T j)), nt), fun x hx => by cases hx; exact RI_wage hR (by omega), fun I L k hk hM h0 hA => ⟨(fun z => by cases z), fun x hx => ?_⟩, fun J L hJ => ⟨(fun z => by cases z), fun x hx => ?_⟩⟩
  · cases hx
    have a1 := hA.2.2.2.2.2 (by omega)
    refine ⟨up I 44 2 (nI (nuv n T j)), ?_, RM_g2 hM h5 h24 _, FR.rfl'.up (by omega) (by omega)⟩
    unfold F_X1_performOn
    simp only [wm_kR, wm_kt, wm_kn, wm_kin, wm_kL, wm_kI, wm_ksI, wm_ksL, wm_kJ, wm_ksJ, kg_t, kl_v, Option.bind_some, sh_c hk, h0, show nI 6 = 6 from rfl, show ¬ ((6 : Int32) = 1) by decide, show ¬ ((6 : Int32) = 2) by decide, show ¬ ((6 : Int32) = 3) by decide, show ¬ ((6 : Int32) = 4) by decide, show ¬ ((6 : Int32) = 5) by decide, if_true, if_false, mm_k m169, a1]
  · cases hx
    refine ⟨J 546, ?_⟩
    have e : up J 541 0 (nI (nuv n T j)) = rf J (setr r 0 (nI (nuv n T j))) (J 546) := by
      have z := @rf_us J r (J 546) 0 (nI (nuv n T j))
      rw [j_rf hJ] at z
      exact z
    rw [hr1]
    unfold aWhole F_X12_wholeText_48 F_X12_wholeText_53 F_X12_setsWage
    simp only [if_neg one0, wm_kR, wm_kt, wm_kn, wm_kin, wm_kL, wm_kI, wm_ksI, wm_ksL, wm_kJ, wm_ksJ, kg_t, kl_v, Option.bind_some, sr_k, sr_0, sr_1, sr_2, sr_3, sr_4, sr_7, sr_8, sr_9, sr_26, sr_27, sr_28, kl_0, kl_1, kl_2, kl_3, kl_4, kl_5, kl_6, kl_7, kl_8, kl_9, kl_10, kl_11, kl_12, kl_13, kx_l0, kx_l1, kx_l2, kx_l3, kx_l4, kx_l5, kx_l6, kx_l7, kx_l8, kx_l9, kx_l10, kx_l11, kx_l12, kx_l13, e, bnd_id]
theorem eff_7 (hR : RI r nb nt) (ok : okS (wlk n T (lsT n T 7) (.inl j)) = true) (hN : 1000 < N) : ∃ o, EFF N n T r nb nt 7 j o := by
  have h5 := hR.nb5
  have h24 := hR.nt24
  obtain ⟨o1, -, -⟩ := wlk_ok (f := cN n T 1 31) (l := []) ok
  have w1 := cN_in o1
  have hr1 : ∀ M, actQ N n T r nt 7 j M = aWhole N M 0 (nI (nuv n T j)) := fun _ => rfl
  by_cases e1 : 9999 < r 6 + nI (nuv n T j)
  · refine ⟨none, (fun p hp => by cases hp), fun I L k hk hM h0 hA => ⟨fun _ => ?_, (fun p hp => by cases hp)⟩, fun J L hJ => ⟨fun _ => ?_, (fun p hp => by cases hp)⟩⟩
    · have a1 := hA.2.2.2.2.2 (by omega)
      unfold F_X1_performOn F_X4_allowsDays
      simp only [wm_kR, wm_kt, wm_kn, wm_kin, wm_kL, wm_kI, wm_ksI, wm_ksL, wm_kJ, wm_ksJ, kg_t, kl_v, Option.bind_some, sh_c hk, h0, show nI 7 = 7 from rfl, show ¬ ((7 : Int32) = 1) by decide, show ¬ ((7 : Int32) = 2) by decide, show ¬ ((7 : Int32) = 3) by decide, show ¬ ((7 : Int32) = 4) by decide, show ¬ ((7 : Int32) = 5) by decide, show ¬ ((7 : Int32) = 6) by decide, if_true, if_false, mm_k m169, a1, hM.day, e1]
    · have e6 : J 541 6 = r 6 := by rw [hJ]
      rw [hr1]
      unfold aWhole F_X12_wholeText_53
      simp only [if_true, wm_kR, wm_kt, wm_kn, wm_kin, wm_kL, wm_kI, wm_ksI, wm_ksL, wm_kJ, wm_ksJ, kg_t, kl_v, Option.bind_some, sr_k, sr_0, sr_1, sr_2, sr_3, sr_4, sr_7, sr_8, sr_9, sr_26, sr_27, sr_28, kl_0, kl_1, kl_2, kl_3, kl_4, kl_5, kl_6, kl_7, kl_8, kl_9, kl_10, kl_11, kl_12, kl_13, kx_l0, kx_l1, kx_l2, kx_l3, kx_l4, kx_l5, kx_l6, kx_l7, kx_l8, kx_l9, kx_l10, kx_l11, kx_l12, kx_l13, e6, e1, bnd_id]
  · refine ⟨some (dyN nb nt (nuv n T j) r, nt), fun x hx => by cases hx; exact RI_dyN _ _ hR, fun I L k hk hM h0 hA => ⟨(fun z => by cases z), fun x hx => ?_⟩, fun J L hJ => ⟨(fun z => by cases z), fun x hx => ?_⟩⟩
    · cases hx
      have a1 := hA.2.2.2.2.2 (by omega)
      obtain ⟨I', b1, b2, b3⟩ := cx_days (N := N) (L := L) m169 (by omega) hR hM (show nuv n T j ≤ 100 by omega)
      refine ⟨I', ?_, b2, b3⟩
      unfold F_X1_performOn F_X4_allowsDays
      simp only [wm_kR, wm_kt, wm_kn, wm_kin, wm_kL, wm_kI, wm_ksI, wm_ksL, wm_kJ, wm_ksJ, kg_t, kl_v, Option.bind_some, sh_c hk, h0, show nI 7 = 7 from rfl, show ¬ ((7 : Int32) = 1) by decide, show ¬ ((7 : Int32) = 2) by decide, show ¬ ((7 : Int32) = 3) by decide, show ¬ ((7 : Int32) = 4) by decide, show ¬ ((7 : Int32) = 5) by decide, show ¬ ((7 : Int32) = 6) by decide, if_true, if_false, mm_k m169, a1, hM.day, e1, if_neg one0, b1]
    · cases hx
      refine ⟨dyNF nb nt (nuv n T j) r (J 546), ?_⟩
      have g3 := rx_days (N := N) (I := J) (L := L) (f := J 546) (by omega) hR (show nuv n T j ≤ 100 by omega)
      rw [j_rf hJ] at g3
      have e6 : J 541 6 = r 6 := by rw [hJ]
      rw [hr1]
      unfold aWhole F_X12_wholeText_48 F_X12_wholeText_53
      simp only [if_true, wm_kR, wm_kt, wm_kn, wm_kin, wm_kL, wm_kI, wm_ksI, wm_ksL, wm_kJ, wm_ksJ, kg_t, kl_v, Option.bind_some, sr_k, sr_0, sr_1, sr_2, sr_3, sr_4, sr_7, sr_8, sr_9, sr_26, sr_27, sr_28, kl_0, kl_1, kl_2, kl_3, kl_4, kl_5, kl_6, kl_7, kl_8, kl_9, kl_10, kl_11, kl_12, kl_13, kx_l0, kx_l1, kx_l2, kx_l3, kx_l4, kx_l5, kx_l6, kx_l7, kx_l8, kx_l9, kx_l10, kx_l11, kx_l12, kx_l13, e6, e1, if_false, if_neg one0, g3, bnd_id]
theorem eff (hR : RI r nb nt) (hq : 1 ≤ q ∧ q ≤ 7) (ok : okS (wlk n T (lsT n T q) (.inl j)) = true) (hN : 1000 < N) : ∃ o, EFF N n T r nb nt q j o := by
  have : q = 1 ∨ q = 2 ∨ q = 3 ∨ q = 4 ∨ q = 5 ∨ q = 6 ∨ q = 7 := by omega
  rcases this with rfl | rfl | rfl | rfl | rfl | rfl | rfl
  · exact eff_1 hR ok hN
  · exact eff_2 hR ok hN
  · exact eff_3 hR hN
  · exact eff_4 hR ok hN
  · exact eff_5 hR ok hN
  · exact eff_6 hR ok hN
  · exact eff_7 hR ok hN
end
