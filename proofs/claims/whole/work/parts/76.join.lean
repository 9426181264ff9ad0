/-! a change that empties the text; join -/
section
variable {N : Nat} {I K : kInts} {L : kLngs} {r s f : Nat → Int32} {nb nt nb' nt' : Nat}
theorem do_change2 (h : Rel I) (hN : 5000 < N) (hR : RI (I 541) nb nt) (hM : RM I 44 (I 541) nb nt) : ∃ I1, F_X3_record N (wm Mb I L) 126 44 = some (wm Mb I1 L) ∧ RM I1 44 (I 541) nb nt ∧ (∀ a j, a < 126 ∨ 456 ≤ a → I1 a j = I a j) ∧ ∀ I2, (∀ a j, a < 44 ∨ 85 ≤ a → ¬ (a = 2 ∧ j = 1) → I2 a j = I1 a j) → I2 541 = I 541 ∧ I2 546 = I 546 ∧ ∀ L', ∃ J, F_X12_keepsPast N (wm Mb (tw6 I2 0) L') 540 = some (wm Mb J L') ∧ J = rf J (I 541) (I 546) ∧ J 2 1 = I2 2 1 ∧ ∀ K nb' nt', (∀ a j, a ≠ 541 → a ≠ 546 → ¬ (a = 540 ∧ j = 10) → K a j = J a j) → RI (K 541) nb' nt' → RM I2 44 (K 541) nb' nt' → RelT K → Rel K ∧ K 540 6 = 0 := by
  obtain ⟨nx, u, h1, h2, h3, h4, h5, h6⟩ := h.2.2.2.2.1
  have hle := hs_le nx
  obtain ⟨I1, a1, a2, a3, a4, a5, a6⟩ := cx_record (N := N) (L := L) h1 h2 h3 h4 h.2.2.2.1 (by omega)
  have e1 : ∀ a j, a < 126 ∨ 456 ≤ a → I1 a j = I a j := fun a j y => a6 a j (by omega) (by omega)
  refine ⟨I1, a1, hM.cI hR.nb5 hR.nt24 (fun a j y1 y2 => e1 a j (by omega)), e1, fun I2 hF => ?_⟩
  have e2 : ∀ a j, a < 44 ∨ 85 ≤ a → ¬ (a = 2 ∧ j = 1) → I2 a j = I1 a j := hF
  have er : I2 541 = I 541 := funext fun j => (e2 _ _ (by omega) (by omega)).trans (e1 _ _ (by omega))
  have ef : I2 546 = I 546 := funext fun j => (e2 _ _ (by omega) (by omega)).trans (e1 _ _ (by omega))
  refine ⟨er, ef, fun L' => ?_⟩
  obtain ⟨J, b1, b2, b3, b4, b5, b6⟩ := rx_keeps (N := N) (I := tw6 I2 0) (L := L') h2 ((tw_o (by omega)).trans ((e2 _ _ (by omega) (by omega)).trans ((e1 _ _ (by omega)).trans h5))) hN
  have er' : ∀ j, tw6 I2 0 541 j = I 541 j := fun j => by rw [tw_o (by omega), er]
  have ep : ∀ j, tw6 I2 0 543 j = I 543 j := fun j => by rw [tw_o (by omega), e2 _ _ (by omega) (by omega), e1 _ _ (by omega)]
  have j1 : J 541 = I 541 := funext fun j => (b6 _ _ (by omega) (by omega)).trans (er' j)
  have j2 : J 546 = I 546 := funext fun j => by rw [b6 _ _ (by omega) (by omega), tw_o (by omega), ef]
  refine ⟨J, b1, ?_, (b6 _ _ (by omega) (by omega)).trans (tw_o (by omega)), fun K nb' nt' kj y1 y2 yT => ⟨?_, ?_⟩⟩
  · have := @rf_self J
    rw [j1, j2] at this
    exact this.symm
  · have kk : ∀ a j, a ≠ 541 → a ≠ 546 → a ≠ 543 → ¬ (a = 540 ∧ (j = 5 ∨ j = 6 ∨ j = 10)) → a < 44 ∨ 85 ≤ a → ¬ (a = 2 ∧ j = 1) → K a j = I1 a j := fun a j z1 z2 z3 z4 z5 z6 => by
      rw [kj a j z1 z2 (by omega), b6 a j z3 (by omega), tw_o (by omega), e2 a j z5 z6]
    have km : ∀ a j, a < 540 → K a j = I2 a j := fun a j z => by
      rw [kj a j (by omega) (by omega) (by omega), b6 a j (by omega) (by omega), tw_o (by omega)]
    refine h.chg (nb := nb) (nt := nt) (nb' := nb') (nt' := nt') h1 h2 h6 ((kk _ _ (by omega) (by omega) (by omega) (by omega) (by omega) (by omega)).trans a4) ((kk _ _ (by omega) (by omega) (by omega) (by omega) (by omega) (by omega)).trans a5) ((kj _ _ (by omega) (by omega) (by omega)).trans b2) (fun a j z1 z2 z3 => (kk a j (by omega) (by omega) (by omega) (by omega) (by omega) (by omega)).trans (a6 a j (by omega) z3)) ((a2 (I 541) nb nt hR.nb5 hR.nt24 hM).cI hR.nb5 hR.nt24 (fun a j z1 z2 => kk a j (by omega) (by omega) (by omega) (by omega) (by omega) (by omega))) hR (fun k hk => by rw [kj _ _ (by omega) (by omega) (by omega), b3 k hk, er']) (fun z j hj => by rw [kj _ _ (by omega) (by omega) (by omega), b4 z j hj, ep]) (fun z j hj => by rw [kj _ _ (by omega) (by omega) (by omega), b5 z j hj, ep]) (fun a j z => ?_) yT y1 ?_
    · rw [kk a j (by omega) (by omega) (by omega) (by omega) (by omega) (by omega)]
      exact e1 a j (by omega)
    · exact y2.cI y1.nb5 y1.nt24 (fun a j z1 z2 => km a j (by omega))
  · rw [kj _ _ (by omega) (by omega) (by omega), b6 _ _ (by omega) (by omega)]
    exact tw_6
theorem in_a (M : kMem) (x : Int32) : F_X12_in N M x.toInt64 1 99 = some (if x < 1 ∨ 99 < x then 0 else 1) := by
  have h := in1 (N := N) M x 1 99
  rw [show (1 : Int32).toInt64 = 1 from rfl, show (99 : Int32).toInt64 = 99 from rfl] at h
  exact h
theorem in_b (M : kMem) (x : Int32) : F_X12_in N M x.toInt64 0 9999 = some (if x < 0 ∨ 9999 < x then 0 else 1) := by
  have h := in1 (N := N) M x 0 9999
  rw [show (0 : Int32).toInt64 = 0 from rfl, show (9999 : Int32).toInt64 = 9999 from rfl] at h
  exact h
theorem num_big (x : Int32) {n : Nat} (hn : n < 100000) (h : ¬ (x < 0 ∨ nI n < x)) : ∃ t, t ≤ n ∧ x = nI t := by
  have h0 : ¬ x < 0 := fun z => h (Or.inl z)
  have h2 : x = nI (kx x) := nn_of h0
  refine ⟨kx x, ?_, h2⟩
  have h3 : ¬ nI n < x := fun z => h (Or.inr z)
  rw [h2, nI_ltI (by omega) nn_lt] at h3
  omega
theorem lt01 {x : Int32} (h : x < 0) : x < 1 := by
  have h1 : (0 : Int32) < 1 := by decide
  grind
theorem sx_join (h : Rel I) (x y : Int32) (hN : 5000 < N) : SameX [(2, 1), (3, 2)] (fun M => F_X11_join N M 1 x y) (fun M => F_X12_join N M 540 x y) I := by
  intro L
  by_cases hx : x < 1 ∨ 99 < x
  · refine ⟨.inr 2, I, ?_, fun L' => ⟨0, tw6 I 1, L', ?_, h.tw, LF.rf', Or.inr ⟨2, 1, rfl, by simp, tw_6⟩⟩⟩
    · show F_X11_join N (wm Mb I L) 1 x y = _
      unfold F_X11_join
      simp only [cx_range, if_pos hx, kbx]
    · show F_X12_join N (wm Mb I L') 540 x y = _
      unfold F_X12_join F_X12_join_30 F_X12_join_35
      simp only [wm_kR, wm_kt, wm_kn, wm_kin, wm_kL, wm_kI, wm_ksI, wm_ksL, wm_kJ, wm_ksJ, kg_t, kl_v, Option.bind_some, sr_k, sr_0, sr_1, sr_2, sr_3, sr_4, sr_7, sr_8, sr_9, sr_26, sr_27, sr_28, tw_fd, in_a, if_pos hx, if_true, rx_stopT one0 one0, if_neg one0]
  by_cases hy : y < 0 ∨ 9999 < y
  · refine ⟨.inr 2, I, ?_, fun L' => ⟨0, tw6 I 1, L', ?_, h.tw, LF.rf', Or.inr ⟨2, 1, rfl, by simp, tw_6⟩⟩⟩
    · show F_X11_join N (wm Mb I L) 1 x y = _
      unfold F_X11_join
      simp only [cx_range, if_neg hx, if_pos hy, kbx]
    · show F_X12_join N (wm Mb I L') 540 x y = _
      unfold F_X12_join F_X12_join_30 F_X12_join_35
      simp only [wm_kR, wm_kt, wm_kn, wm_kin, wm_kL, wm_kI, wm_ksI, wm_ksL, wm_kJ, wm_ksJ, kg_t, kl_v, Option.bind_some, sr_k, sr_0, sr_1, sr_2, sr_3, sr_4, sr_7, sr_8, sr_9, sr_26, sr_27, sr_28, tw_fd, in_a, if_neg hx, if_neg one0, in_b, if_pos hy, if_true, rx_stopT one0 one0]
  obtain ⟨n, T, v, ⟨hO, h21, h10, hb⟩, a1, a4⟩ := cx_whole (L := L) h (show 1000 < N by omega)
  obtain ⟨nb, nt, hR, hM⟩ := h.2.2.1.row
  have h5 := hR.nb5
  have h24 := hR.nt24
  have hN2 : 100 < N := by omega
  have hw : ∀ I2, (∀ a j, a = 540 ∧ j = 10 ∨ a = 547 → I2 a j = I a j) → ∀ L', F_X12_wholeName N (wm Mb (tw6 I2 0) L') 540 = some (wnv n T) := fun I2 e L' => rx_whole hO ((tw_o (by omega)).trans ((e _ _ (by omega)).trans h10)) (fun k hk => (tw_o (by omega)).trans ((e _ _ (by omega)).trans (hb k hk))) (by omega)
  have ht : ∀ I2, I2 541 = I 541 → ∀ L', F_X12_traderNamed N (wm Mb (tw6 I2 0) L') 540 (wnv n T) = some (rOf (fnd (I 541) nt (wnv n T))) := fun I2 e L' => by
    have := rx_named (N := N) (I := tw6 I2 0) (L := L') (r := I2 541) (f := I2 546) h24 (by rw [e]; exact hR.r8) (wnv n T) hN2
    rw [tw_rf, e] at this
    exact this
  have e24 : (nI nt = 24) = (nt = 24) := propext (nI_eq (a := nt) (b := 24) (by omega) (by omega))
  have l24 : (nI nt < 24) = (nt < 24) := by rw [show (24 : Int32) = nI 24 from rfl, nI_ltP (by omega) (by omega)]
  have hnm := cx_named (N := N) (L := L) m169 a4 h24 hR.r8 hM.tc hM.n hN2
  have v0 : (v = 0) = (wnv n T = 0) := a4.eq nmZ_0
  -- refused: there is no such name to take
  have no : (nt = 24 ∨ wnv n T = 0 ∨ ¬ fnd (I 541) nt (wnv n T) = none) → F_X11_join N (wm Mb I L) 1 x y = some (.inr 3, wm Mb I L) := by
    intro hc
    unfold F_X11_join F_X4_canAdmit
    simp only [cx_range, if_neg hx, if_neg hy, kbx, wm_kR, wm_kt, wm_kn, wm_kin, wm_kL, wm_kI, wm_ksI, wm_ksL, wm_kJ, wm_ksJ, kg_t, kl_v, Option.bind_some, x1_t.1, x1_t.2.1, x1_t.2.2.2.1, s2.1, h21, a1, mm_k m169, lgc0, v0]
    by_cases c0 : wnv n T = 0
    · simp only [c0, if_true, Option.bind_some]
    · simp only [c0, if_false, wm_kR, wm_kt, wm_kn, wm_kin, wm_kL, wm_kI, wm_ksI, wm_ksL, wm_kJ, wm_ksJ, kg_t, kl_v, Option.bind_some, mm_ts m169, mm_tn m169, ofNnI, hM.tc, hR.r8]
      rw [show nI 24 = 24 from rfl]
      simp only [l24]
      by_cases c1 : nt < 24
      · simp only [c1, if_true, hnm, Option.bind_some]
        cases hf : fnd (I 541) nt (wnv n T) with
        | none =>
          rcases hc with z | z | z
          · omega
          · exact absurd z c0
          · exact absurd hf z
        | some t => simp only [cOf, tr_ne0, if_false, if_true, Option.bind_some]
      · simp only [c1, if_false, if_true, Option.bind_some]
  have ref0 : (nt = 24 ∨ wnv n T = 0 ∨ ¬ fnd (I 541) nt (wnv n T) = none) → ∀ L', F_X12_join N (wm Mb I L') 540 x y = some (0, wm Mb (tw6 I 2) L') := by
    intro hc L'
    have e8 : tw6 I 0 541 8 = nI nt := (tw_row 8).trans hR.r8
    unfold F_X12_join F_X12_join_35 F_X12_join_75 F_X12_join_80
    simp only [wm_kR, wm_kt, wm_kn, wm_kin, wm_kL, wm_kI, wm_ksI, wm_ksL, wm_kJ, wm_ksJ, kg_t, kl_v, Option.bind_some, sr_k, sr_0, sr_1, sr_2, sr_3, sr_4, sr_7, sr_8, sr_9, sr_26, sr_27, sr_28, kl_0, kl_1, kl_2, kl_3, kl_4, kl_5, kl_6, kl_7, kl_8, kl_9, kl_10, kl_11, kl_12, kl_13, kx_l0, kx_l1, kx_l2, kx_l3, kx_l4, kx_l5, kx_l6, kx_l7, kx_l8, kx_l9, kx_l10, kx_l11, kx_l12, kx_l13, tw_fd, in_a, if_neg hx, if_neg one0, in_b, if_neg hy, rx_stopF, if_true, hw I (fun _ _ _ => rfl), e8, e24]
    by_cases c1 : nt = 24
    · simp only [c1, if_true, rx_stopT two0 one0, if_neg one0, Option.bind_some]
    · by_cases c2 : wnv n T = 0
      · simp only [c1, c2, if_true, if_false, rx_stopT two0 one0, if_neg one0, Option.bind_some]
      · have c3 : ¬ fnd (I 541) nt (wnv n T) = none := by
          rcases hc with z | z | z
          · exact absurd z c1
          · exact absurd z c2
          · exact z
        simp only [c1, c2, if_false, ht I rfl]
        cases hf : fnd (I 541) nt (wnv n T) with
        | none => exact absurd hf c3
        | some t =>
          have ht2 := fnd_lt hf
          have hne : ¬ nI t = -1 := nI_ne1 (by omega)
          simp only [rOf, hne, if_false, Option.bind_some, rx_stopT two0 one0, if_neg one0]
  by_cases hok : nt < 24 ∧ ¬ wnv n T = 0 ∧ fnd (I 541) nt (wnv n T) = none
  · obtain ⟨o1, o2, o3⟩ := hok
    have b3 : nmV v (wnv n T) := a4.v o2
    · obtain ⟨w, hw99, ex⟩ := num_big x (n := 99) (by decide) (fun z => hx (z.imp lt01 id))
      have hw1 : 1 ≤ w := by
        by_cases z : w = 0
        · subst z
          exact absurd (Or.inl (by rw [ex]; decide)) hx
        · omega
      obtain ⟨p, hp, ey⟩ := num_big y (n := 9999) (by decide) hy
      obtain ⟨I2, c1, c2, c3, c4⟩ := do_change2 (L := L) h hN hR hM
      obtain ⟨I4, e1, e2, e3⟩ := cx_admit (N := N) (I := up I2 2 1 0) (L := L) (w := x) (p := y) (ag := 0) m169 (c2.cI h5 h24 (fun a j z1 z2 => up_ne (by omega))) h5 o1 hR.r8 b3
      have f4 : ∀ a j, a < 44 ∨ 85 ≤ a → I4 a j = up I2 2 1 0 a j := fun a j z => e3 a j (by omega)
      obtain ⟨d1, d2, d3⟩ := c4 I4 (fun a j z1 z2 => (f4 a j z1).trans (up_ne (by omega)))
      have g21 : I4 2 1 = 0 := (f4 _ _ (by omega)).trans up_eq
      refine ⟨.inl (nI nt), I4, ?_, fun L' => ?_⟩
      · show F_X11_join N (wm Mb I L) 1 x y = _
        have hnm' := hnm
        rw [o3] at hnm'
        have v0' : (v = 0) = False := by rw [v0]; exact eq_false o2
        have l24' : (nI nt < nI 24) = (nt < 24) := l24
        unfold F_X11_join F_X4_canAdmit
        simp only [cx_range, if_neg hx, if_neg hy, kbx, wm_kR, wm_kt, wm_kn, wm_kin, wm_kL, wm_kI, wm_ksI, wm_ksL, wm_kJ, wm_ksJ, kg_t, kl_v, Option.bind_some, x1_t.1, x1_t.2.1, x1_t.2.2.1, x1_t.2.2.2.1, s2.1, h21, a1, lgc0, v0', if_false, if_neg one0, mm_k m169, mm_ts m169, mm_tn m169, ofNnI, hM.tc, hR.r8, l24', if_pos o1, hnm', cOf, if_true, s47h.1, c1, e1]
      · obtain ⟨J, j1, j2, j3, j4⟩ := d3 L'
        have hJ1 : J 541 = I 541 := by rw [j2]; exact funext fun j => rf_s j
        have hJ2 : J 546 = I 546 := by rw [j2]; exact funext fun j => rf_f j
        have hJ : rf (up J 540 10 0) (I 541) (I 546) = up J 540 10 0 := by
          have z := @rf_self (up J 540 10 0)
          have z1 : up J 540 10 0 541 = I 541 := by rw [← hJ1]; exact funext fun j => up_ne (by omega)
          have z2 : up J 540 10 0 546 = I 546 := by rw [← hJ2]; exact funext fun j => up_ne (by omega)
          rw [z1, z2] at z
          exact z
        have ej := rx_joins (N := N) (I := up J 540 10 0) (L := L') (r := I 541) (f := I 546) (cc := wnv n T) (w := x) (p := y) o1 hR.r8
        rw [hJ] at ej
        let K := rf (up J 540 10 0) (jnR (I 541) nt (wnv n T) x y 0) (I 546)
        have kR : K 541 = jnR (I 541) nt (wnv n T) x y 0 := funext fun j => rf_s j
        have kk : ∀ a j, a ≠ 541 → a ≠ 546 → ¬ (a = 540 ∧ j = 10) → K a j = J a j := fun a j z1 z2 z3 => (rf_o j z1 z2).trans (up_ne (by omega))
        obtain ⟨r1, r2⟩ := j4 K nb (nt + 1) kk (by rw [kR, ex, ey]; exact RI_jn hR o1 ⟨hw1, hw99⟩ (by omega) hR.c.2.2) (by rw [kR]; exact e2) ⟨0, fun _ => 1, ⟨by omega, fun _ => ⟨Nat.le_refl 1, show 1 ≤ 255 by decide⟩⟩, ⟨(kk _ _ (by omega) (by omega) (by omega)).trans (j3.trans g21), fun k hk => absurd hk (Nat.not_lt_zero _)⟩, (rf_o _ (by omega) (by omega)).trans up_eq, fun k hk => absurd hk (Nat.not_lt_zero _)⟩
        refine ⟨nI nt, K, L', ?_, r1, LF.rf', Or.inl ⟨rfl, r2⟩⟩
        show F_X12_join N (wm Mb I4 L') 540 x y = _
        have e8 : tw6 I4 0 541 8 = nI nt := by rw [tw_row, d1]; exact hR.r8
        have n24 : ¬ nt = 24 := by omega
        have hw4 := hw I4 (fun a j z => (f4 a j (by omega)).trans ((up_ne (by omega)).trans (c3 a j (by omega)))) L'
        have ht4 := ht I4 d1 L'
        rw [o3] at ht4
        unfold F_X12_join F_X12_join_35 F_X12_join_80
        simp only [wm_kR, wm_kt, wm_kn, wm_kin, wm_kL, wm_kI, wm_ksI, wm_ksL, wm_kJ, wm_ksJ, kg_t, kl_v, Option.bind_some, sr_k, sr_0, sr_1, sr_2, sr_3, sr_4, sr_7, sr_8, sr_9, sr_26, sr_27, sr_28, kl_0, kl_1, kl_2, kl_3, kl_4, kl_5, kl_6, kl_7, kl_8, kl_9, kl_10, kl_11, kl_12, kl_13, kx_l0, kx_l1, kx_l2, kx_l3, kx_l4, kx_l5, kx_l6, kx_l7, kx_l8, kx_l9, kx_l10, kx_l11, kx_l12, kx_l13, tw_fd, in_a, if_neg hx, if_neg one0, in_b, if_neg hy, rx_stopF, if_true, hw4, e8, e24, n24, if_false, o2, ht4, rOf, j1, ej]
        rfl
  · have hc : nt = 24 ∨ wnv n T = 0 ∨ ¬ fnd (I 541) nt (wnv n T) = none := by
      by_cases z1 : nt = 24
      · exact Or.inl z1
      · by_cases z2 : wnv n T = 0
        · exact Or.inr (Or.inl z2)
        · exact Or.inr (Or.inr (fun z3 => hok ⟨by omega, z2, z3⟩))
    exact ⟨.inr 3, I, no hc, fun L' => ⟨0, tw6 I 2, L', ref0 hc L', h.tw, LF.rf', Or.inr ⟨3, 2, rfl, by simp, tw_6⟩⟩⟩
end
