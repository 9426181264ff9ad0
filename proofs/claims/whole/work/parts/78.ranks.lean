/-! richestAt -/
def rkf (r : Nat → Int32) (t j : Nat) : Int32 := if r (89 + 7 * j + 4) = 0 then 0 else if r (89 + 7 * t + 2) < r (89 + 7 * j + 2) ∨ r (89 + 7 * j + 2) = r (89 + 7 * t + 2) ∧ j < t then 1 else 0
def rkA (r : Nat → Int32) (t : Nat) : Nat → Nat → Int32 → Int32
  | 0, _, x => x
  | k + 1, i, x => rkA r t k (i + 1) (x + rkf r t i)
def fdA (r : Nat → Int32) (nt : Nat) (x : Int32) : Nat → Nat → Int32
  | 0, _ => -1
  | k + 1, i => if r (89 + 7 * i + 4) = 0 then fdA r nt x k (i + 1) else if rkA r i nt 0 0 = x then nI i else fdA r nt x k (i + 1)
section
variable {N : Nat} {I : kInts} {L : kLngs} {r s f : Nat → Int32} {nb nt m : Nat}
theorem add0 (x : Int32) : x + 0 = x := by grind
theorem cx_rankL (hm : m ∈ mks) (hR : RI r nb nt) (hM : RM I m r nb nt) {t : Nat} (ht : t < nt) (k : Nat) : ∀ (i w : Nat) (x : Int32), i + k = nt → k < w → F_X4_rankOf_4 N (wm Mb I L) w m (tr m t) x (nI i) = some (rkA r t k i x) := by
  have h24 := hR.nt24
  have kt' := tt_k hm (show t < 24 by omega)
  obtain ⟨t2, t3, t4, t5, t6, t7⟩ := hM.tt t ht
  have t0 := hM.nu.2.1 t (show t < 24 by omega)
  induction k with
  | zero =>
    intro i w x e hw
    obtain ⟨w, rfl⟩ : ∃ v, w = v + 1 := ⟨w - 1, by omega⟩
    unfold F_X4_rankOf_4
    simp (disch := omega) only [wm_kR, wm_kt, wm_kn, wm_kin, wm_kL, wm_kI, wm_ksI, wm_ksL, wm_kJ, wm_ksJ, kg_t, kl_v, Option.bind_some, mm_k hm, hM.tc, hR.r8, nI_ltP]
    rw [if_neg (by omega)]
    rfl
  | succ k ih =>
    intro i w x e hw
    obtain ⟨w, rfl⟩ : ∃ v, w = v + 1 := ⟨w - 1, by omega⟩
    have hi : i < 24 := by omega
    have h1 := ih (i + 1) w (x + rkf r t i) (by omega) (by omega)
    obtain ⟨i2, i3, i4, i5, i6, i7⟩ := hM.tt i (by omega)
    unfold F_X4_rankOf_4
    simp (disch := omega) only [wm_kR, wm_kt, wm_kn, wm_kin, wm_kL, wm_kI, wm_ksI, wm_ksL, wm_kJ, wm_ksJ, kg_t, kl_v, Option.bind_some, mm_k hm, hM.tc, hR.r8, nI_ltP, kin_t hm hi, kx_nI, tt_r hm hi, tt_k hm hi, kt', i3, t3, t0]
    rw [if_pos (by omega)]
    have hyes : (r (89 + 7 * t + 2) < r (89 + 7 * i + 2) ∨ r (89 + 7 * i + 2) = r (89 + 7 * t + 2) ∧ i < t) → F_X4_rankOf_52 N (wm Mb I L) (fun a0 a1 x2 x3 => F_X4_rankOf_4 N (wm Mb I L) w a0 a1 x2 x3) m (tr m t) x (nI i) (tr m i) = some (rkA r t (k + 1) i x) := by
      intro hc
      unfold F_X4_rankOf_52
      simp only [wm_kR, wm_kt, wm_kn, wm_kin, wm_kL, wm_kI, wm_ksI, wm_ksL, wm_kJ, wm_ksJ, kg_t, kl_v, Option.bind_some, tt_k hm hi, i5, nI_1]
      by_cases c : r (89 + 7 * i + 4) = 0
      · have e1 : rkf r t i = 0 := by unfold rkf; rw [if_pos c]
        rw [e1, add0] at h1
        simp only [c, if_true, h1]
        show _ = some (rkA r t k (i + 1) (x + rkf r t i))
        rw [e1, add0]
      · have e1 : rkf r t i = 1 := by unfold rkf; rw [if_neg c, if_pos hc]
        rw [e1] at h1
        simp only [c, if_false, if_neg one0, h1]
        show _ = some (rkA r t k (i + 1) (x + rkf r t i))
        rw [e1]
    have hno : ¬ (r (89 + 7 * t + 2) < r (89 + 7 * i + 2) ∨ r (89 + 7 * i + 2) = r (89 + 7 * t + 2) ∧ i < t) → F_X4_rankOf_56 N (wm Mb I L) (fun a0 a1 x2 x3 => F_X4_rankOf_4 N (wm Mb I L) w a0 a1 x2 x3) m (tr m t) x (nI i) (tr m i) = some (rkA r t (k + 1) i x) := by
      intro hc
      have e1 : rkf r t i = 0 := by unfold rkf; rw [if_neg hc]; split <;> rfl
      rw [e1, add0] at h1
      unfold F_X4_rankOf_56
      simp only [wm_kR, wm_kt, wm_kn, wm_kin, wm_kL, wm_kI, wm_ksI, wm_ksL, wm_kJ, wm_ksJ, kg_t, kl_v, Option.bind_some, tt_k hm hi, i5, nI_1, if_true, h1]
      show _ = some (rkA r t k (i + 1) (x + rkf r t i))
      rw [e1, add0]
      split <;> rfl
    by_cases c1 : r (89 + 7 * t + 2) < r (89 + 7 * i + 2)
    · rw [if_pos c1]
      exact hyes (Or.inl c1)
    · rw [if_neg c1]
      by_cases c2 : r (89 + 7 * i + 2) = r (89 + 7 * t + 2)
      · rw [if_pos c2]
        by_cases c3 : i < t
        · rw [if_pos c3]
          exact hyes (Or.inr ⟨c2, c3⟩)
        · rw [if_neg c3]
          exact hno (fun z => z.elim c1 (fun y => c3 y.2))
      · rw [if_neg c2]
        exact hno (fun z => z.elim c1 (fun y => c2 y.1))
theorem cx_fdL (hm : m ∈ mks) (hR : RI r nb nt) (hM : RM I m r nb nt) (x : Int32) (hN : 100 < N) (k : Nat) : ∀ (i w : Nat), i + k = nt → k < w → F_X4_traderWithRank_2 N (wm Mb I L) w m x (nI i) = some (fdA r nt x k i) := by
  have h24 := hR.nt24
  induction k with
  | zero =>
    intro i w e hw
    obtain ⟨w, rfl⟩ : ∃ v, w = v + 1 := ⟨w - 1, by omega⟩
    unfold F_X4_traderWithRank_2
    simp (disch := omega) only [wm_kR, wm_kt, wm_kn, wm_kin, wm_kL, wm_kI, wm_ksI, wm_ksL, wm_kJ, wm_ksJ, kg_t, kl_v, Option.bind_some, mm_k hm, hM.tc, hR.r8, nI_ltP]
    rw [if_neg (by omega)]
    rfl
  | succ k ih =>
    intro i w e hw
    obtain ⟨w, rfl⟩ : ∃ v, w = v + 1 := ⟨w - 1, by omega⟩
    have hi : i < 24 := by omega
    have h1 := ih (i + 1) w (by omega) (by omega)
    obtain ⟨i2, i3, i4, i5, i6, i7⟩ := hM.tt i (by omega)
    have hr := cx_rankL (N := N) (L := L) hm hR hM (show i < nt by omega) nt 0 N 0 (by omega) (by omega)
    rw [show nI 0 = 0 from rfl] at hr
    unfold F_X4_traderWithRank_2 F_X4_rankOf fdA
    simp (disch := omega) only [wm_kR, wm_kt, wm_kn, wm_kin, wm_kL, wm_kI, wm_ksI, wm_ksL, wm_kJ, wm_ksJ, kg_t, kl_v, Option.bind_some, mm_k hm, hM.tc, hR.r8, nI_ltP, kin_t hm hi, kx_nI, tt_r hm hi, tt_k hm hi, i5, nI_1, hr]
    rw [if_pos (by omega), h1]
    by_cases c : r (89 + 7 * i + 4) = 0
    · rw [if_pos c, if_pos c]
    · rw [if_neg c, if_neg c]
      split <;> rfl
theorem rx_richer {L : kLngs} {t j : Nat} (ht : t < 24) (hj : j < 24) : F_X12_isRicher N (wm Mb (rf I r f) L) 540 (nI j) (nI t) = some (if r (89 + 7 * t + 2) < r (89 + 7 * j + 2) ∨ r (89 + 7 * j + 2) = r (89 + 7 * t + 2) ∧ j < t then 1 else 0) := by
  unfold F_X12_isRicher
  simp (disch := omega) only [wm_kR, wm_kt, wm_kn, wm_kin, wm_kL, wm_kI, wm_ksI, wm_ksL, wm_kJ, wm_ksJ, kg_t, kl_v, Option.bind_some, sr_k, sr_0, sr_1, sr_2, sr_3, sr_4, sr_7, sr_8, sr_9, sr_26, sr_27, sr_28, rx_has2 ht, rx_has2 hj, nI_ltP]
  by_cases c1 : r (89 + 7 * t + 2) < r (89 + 7 * j + 2)
  · rw [if_pos c1, if_pos (Or.inl c1)]
  · rw [if_neg c1]
    by_cases c2 : r (89 + 7 * j + 2) = r (89 + 7 * t + 2)
    · rw [if_pos c2]
      by_cases c3 : j < t
      · rw [if_pos c3, if_pos (Or.inr ⟨c2, c3⟩)]
      · rw [if_neg c3, if_neg (fun z => z.elim c1 (fun y => c3 y.2))]
    · rw [if_neg c2, if_neg (fun z => z.elim c1 (fun y => c2 y.1))]
theorem flag0 (M : kMem) : F_X12_flag N M 0 = some 0 := rfl
theorem flag1 (M : kMem) : F_X12_flag N M 1 = some 1 := by unfold F_X12_flag; rw [if_neg one0]
theorem rx_rankL (hR : RI r nb nt) {t : Nat} (ht : t < nt) (k : Nat) : ∀ (i w : Nat) (x : Int32), i + k = nt → k < w → F_X12_richerThan_4 N (wm Mb (rf I r f) L) w 540 (nI t) x (nI i) = some (rkA r t k i x) := by
  have h24 := hR.nt24
  induction k with
  | zero =>
    intro i w x e hw
    obtain ⟨w, rfl⟩ : ∃ v, w = v + 1 := ⟨w - 1, by omega⟩
    unfold F_X12_richerThan_4
    simp (disch := omega) only [wm_kR, wm_kt, wm_kn, wm_kin, wm_kL, wm_kI, wm_ksI, wm_ksL, wm_kJ, wm_ksJ, kg_t, kl_v, Option.bind_some, sr_k, sr_0, sr_1, sr_2, sr_3, sr_4, sr_7, sr_8, sr_9, sr_26, sr_27, sr_28, kl_0, kl_1, kl_2, kl_3, kl_4, kl_5, kl_6, kl_7, kl_8, kl_9, kl_10, kl_11, kl_12, kl_13, kx_l0, kx_l1, kx_l2, kx_l3, kx_l4, kx_l5, kx_l6, kx_l7, kx_l8, kx_l9, kx_l10, kx_l11, kx_l12, kx_l13, rf_s, hR.r8, nI_ltP]
    rw [if_neg (by omega)]
    rfl
  | succ k ih =>
    intro i w x e hw
    obtain ⟨w, rfl⟩ : ∃ v, w = v + 1 := ⟨w - 1, by omega⟩
    have hi : i < 24 := by omega
    have h1 := ih (i + 1) w (x + rkf r t i) (by omega) (by omega)
    have hpr := (hR.t i (by omega)).2
    unfold F_X12_richerThan_4
    simp (disch := omega) only [wm_kR, wm_kt, wm_kn, wm_kin, wm_kL, wm_kI, wm_ksI, wm_ksL, wm_kJ, wm_ksJ, kg_t, kl_v, Option.bind_some, sr_k, sr_0, sr_1, sr_2, sr_3, sr_4, sr_7, sr_8, sr_9, sr_26, sr_27, sr_28, kl_0, kl_1, kl_2, kl_3, kl_4, kl_5, kl_6, kl_7, kl_8, kl_9, kl_10, kl_11, kl_12, kl_13, kx_l0, kx_l1, kx_l2, kx_l3, kx_l4, kx_l5, kx_l6, kx_l7, kx_l8, kx_l9, kx_l10, kx_l11, kx_l12, kx_l13, rf_s, hR.r8, nI_ltP, nI_eqI, rx_has4 hi, rx_richer (show t < 24 by omega) hi, flag0, flag1, nI_1]
    rw [if_pos (by omega)]
    show _ = some (rkA r t k (i + 1) (x + rkf r t i))
    by_cases c0 : i = t
    · have e1 : rkf r t i = 0 := by
        unfold rkf
        rw [c0]
        split
        · rfl
        · rw [if_neg]
          rintro (z | z)
          · exact absurd z (by grind)
          · omega
      rw [e1] at h1 ⊢
      simp only [c0, if_true]
      rw [c0] at h1
      exact h1
    · simp only [c0, if_false]
      rcases hpr with c | ⟨c, -⟩
      · have cz : ¬ r (89 + 7 * i + 4) = 0 := by rw [c]; exact one0
        by_cases hc : r (89 + 7 * t + 2) < r (89 + 7 * i + 2) ∨ r (89 + 7 * i + 2) = r (89 + 7 * t + 2) ∧ i < t
        · have e1 : rkf r t i = 1 := by unfold rkf; rw [if_neg cz, if_pos hc]
          rw [e1] at h1 ⊢
          simp only [c, if_true, if_pos hc, if_neg one0, h1]
        · have e1 : rkf r t i = 0 := by unfold rkf; rw [if_neg cz, if_neg hc]
          rw [e1] at h1 ⊢
          simp only [c, if_true, if_neg hc, h1]
      · have e1 : rkf r t i = 0 := by unfold rkf; rw [if_pos c]
        rw [e1] at h1 ⊢
        have z01 : ¬ (0 : Int32) = 1 := by decide
        simp only [c, z01, if_false, h1]
theorem rx_fdL (hR : RI r nb nt) (x : Int32) (hN : 100 < N) (k : Nat) : ∀ (i w : Nat), i + k = nt → k < w → F_X12_richestAt_7 N w (wm Mb (rf I r f) L) 540 x (nI i) = some (fdA r nt x k i, wm Mb (rf I r f) L) := by
  have h24 := hR.nt24
  induction k with
  | zero =>
    intro i w e hw
    obtain ⟨w, rfl⟩ : ∃ v, w = v + 1 := ⟨w - 1, by omega⟩
    unfold F_X12_richestAt_7
    simp (disch := omega) only [wm_kR, wm_kt, wm_kn, wm_kin, wm_kL, wm_kI, wm_ksI, wm_ksL, wm_kJ, wm_ksJ, kg_t, kl_v, Option.bind_some, sr_k, sr_0, sr_1, sr_2, sr_3, sr_4, sr_7, sr_8, sr_9, sr_26, sr_27, sr_28, kl_0, kl_1, kl_2, kl_3, kl_4, kl_5, kl_6, kl_7, kl_8, kl_9, kl_10, kl_11, kl_12, kl_13, kx_l0, kx_l1, kx_l2, kx_l3, kx_l4, kx_l5, kx_l6, kx_l7, kx_l8, kx_l9, kx_l10, kx_l11, kx_l12, kx_l13, rf_s, hR.r8, nI_ltP]
    rw [if_neg (by omega)]
    rfl
  | succ k ih =>
    intro i w e hw
    obtain ⟨w, rfl⟩ : ∃ v, w = v + 1 := ⟨w - 1, by omega⟩
    have hi : i < 24 := by omega
    have h1 := ih (i + 1) w (by omega) (by omega)
    have hpr := (hR.t i (by omega)).2
    have hr := rx_rankL (N := N) (I := I) (L := L) (f := f) hR (show i < nt by omega) nt 0 N 0 (by omega) (by omega)
    rw [show nI 0 = 0 from rfl] at hr
    unfold F_X12_richestAt_7 F_X12_richerThan fdA
    simp (disch := omega) only [wm_kR, wm_kt, wm_kn, wm_kin, wm_kL, wm_kI, wm_ksI, wm_ksL, wm_kJ, wm_ksJ, kg_t, kl_v, Option.bind_some, sr_k, sr_0, sr_1, sr_2, sr_3, sr_4, sr_7, sr_8, sr_9, sr_26, sr_27, sr_28, kl_0, kl_1, kl_2, kl_3, kl_4, kl_5, kl_6, kl_7, kl_8, kl_9, kl_10, kl_11, kl_12, kl_13, kx_l0, kx_l1, kx_l2, kx_l3, kx_l4, kx_l5, kx_l6, kx_l7, kx_l8, kx_l9, kx_l10, kx_l11, kx_l12, kx_l13, rf_s, hR.r8, nI_ltP, rx_has4 hi, nI_1, hr]
    rw [if_pos (by omega), h1]
    rcases hpr with c | ⟨c, -⟩
    · rw [if_pos c, if_neg (show ¬ r (89 + 7 * i + 4) = 0 by rw [c]; exact one0)]
      split <;> rfl
    · rw [if_neg (show ¬ r (89 + 7 * i + 4) = 1 by rw [c]; decide), if_pos c]
theorem sx_richestAt (h : Rel I) (x : Int32) (hN : 100 < N) : SameI (fun M => F_X11_richestAt N M 1 x) (fun M => F_X12_richestAt N M 540 x) I := by
  obtain ⟨nb, nt, hR, hM⟩ := h.2.2.1.row
  have h24 := hR.nt24
  intro L
  refine ⟨fdA (I 541) nt x nt 0, ?_, fun L' => ⟨tw6 I 0, L', ?_, h.tw, LF.rf'⟩⟩
  · show F_X11_richestAt N (wm Mb I L) 1 x = _
    have z := cx_fdL (N := N) (L := L) m169 hR hM x hN nt 0 N (by omega) (by omega)
    rw [show nI 0 = 0 from rfl] at z
    unfold F_X11_richestAt F_X4_traderWithRank
    simp only [wm_kR, wm_kt, wm_kn, wm_kin, wm_kL, wm_kI, wm_ksI, wm_ksL, wm_kJ, wm_ksJ, kg_t, kl_v, Option.bind_some, x1_t.1, x1_t.2.1, mm_k m169, z]
  · show F_X12_richestAt N (wm Mb I L') 540 x = _
    have z := rx_fdL (N := N) (I := tw6 I 0) (L := L') (f := I 546) hR x hN nt 0 N (by omega) (by omega)
    rw [tw_rf, show nI 0 = 0 from rfl] at z
    unfold F_X12_richestAt
    simp only [wm_kR, wm_kt, wm_kn, wm_kin, wm_kL, wm_kI, wm_ksI, wm_ksL, wm_kJ, wm_ksJ, kg_t, kl_v, Option.bind_some, sr_k, sr_0, sr_1, sr_2, sr_3, sr_4, sr_7, sr_8, sr_9, sr_26, sr_27, sr_28, tw_fd, z]
end
