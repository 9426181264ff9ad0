/-! occupancy -/
theorem fq_ok : ∀ S, S < 25 → ∀ A, A < 61 → A ≠ 0 → decide (FP.fdiv (FP.i2f (nI S)) (FP.i2f (nI A)) &&& 0x7fffffff ≤ 0x7f800000) = true := by decide +kernel
def ocA (r : Nat → Int32) : Nat → Nat → Nat → Nat
  | 0, _, x => x
  | k + 1, i, x => ocA r k (i + 1) (x + 2 * kx (r (14 + 15 * i + 0)))
def ocS (r : Nat → Int32) : Nat → Nat → Nat → Nat
  | 0, _, x => x
  | k + 1, i, x => ocS r k (i + 1) (if r (89 + 7 * i + 5) = -1 then x else x + 1)
section
variable {N : Nat} {I : kInts} {L : kLngs} {r s f : Nat → Int32} {nb nt m : Nat}
theorem ocA_le (hR : RI r nb nt) (k : Nat) : ∀ i x, i + k = nb → ocA r k i x ≤ x + 12 * k := by
  induction k with
  | zero => intro i x _; exact Nat.le_refl _
  | succ k ih =>
    intro i x e
    obtain ⟨a, s', l, ha, -, -, ra, -⟩ := hR.b i (by omega)
    have h := ih (i + 1) (x + 2 * kx (r (14 + 15 * i + 0))) (by omega)
    rw [ra, kx_nI (by omega)] at h
    show ocA r k (i + 1) (x + 2 * kx (r (14 + 15 * i + 0))) ≤ _
    rw [ra, kx_nI (by omega)]
    omega
theorem ocS_le (k : Nat) : ∀ i x, ocS r k i x ≤ x + k := by
  induction k with
  | zero => intro i x; exact Nat.le_refl _
  | succ k ih =>
    intro i x
    have h := ih (i + 1) (if r (89 + 7 * i + 5) = -1 then x else x + 1)
    show ocS r k (i + 1) (if r (89 + 7 * i + 5) = -1 then x else x + 1) ≤ _
    split at h <;> rename_i c <;> simp only [c, if_true, if_false] <;> omega
theorem cx_ocA (hm : m ∈ mks) (hR : RI r nb nt) (hM : RM I m r nb nt) (k : Nat) : ∀ (i w x : Nat), i + k = nb → k < w → F_X4_seatCount_4 N (wm Mb I L) w m (nI x) (nI i) = some (nI (ocA r k i x)) := by
  have h5 := hR.nb5
  induction k with
  | zero =>
    intro i w x e hw
    obtain ⟨w, rfl⟩ : ∃ v, w = v + 1 := ⟨w - 1, by omega⟩
    unfold F_X4_seatCount_4
    simp (disch := omega) only [wm_kR, wm_kt, wm_kn, wm_kin, wm_kL, wm_kI, wm_ksI, wm_ksL, wm_kJ, wm_ksJ, kg_t, kl_v, Option.bind_some, mm_k hm, hM.bc, hR.r7, nI_ltP]
    rw [if_neg (by omega)]
    rfl
  | succ k ih =>
    intro i w x e hw
    obtain ⟨w, rfl⟩ : ∃ v, w = v + 1 := ⟨w - 1, by omega⟩
    have hi : i < 5 := by omega
    obtain ⟨a, s', l, ha, -, -, ra, -⟩ := hR.b i (by omega)
    have h1 := ih (i + 1) w (x + 2 * a) (by omega) (by omega)
    have em : nI x + 2 * nI a = nI (x + 2 * a) := by rw [show (2 : Int32) = nI 2 from rfl, pk_mul, nI_add]
    unfold F_X4_seatCount_4
    simp (disch := omega) only [wm_kR, wm_kt, wm_kn, wm_kin, wm_kL, wm_kI, wm_ksI, wm_ksL, wm_kJ, wm_ksJ, kg_t, kl_v, Option.bind_some, mm_k hm, hM.bc, hR.r7, nI_ltP, kin_b hm hi, kx_nI, bb_r hm hi, bb_k hm hi, (hM.bb i (show i < nb by omega)).1, ra, em, nI_1]
    rw [if_pos (by omega), h1]
    show _ = some (nI (ocA r k (i + 1) (x + 2 * kx (r (14 + 15 * i + 0)))))
    rw [ra, kx_nI (by omega)]
theorem cx_ocS (hm : m ∈ mks) (hR : RI r nb nt) (hM : RM I m r nb nt) (k : Nat) : ∀ (i w x : Nat), i + k = nt → k < w → F_X4_seatedTraders_4 N (wm Mb I L) w m (nI x) (nI i) = some (nI (ocS r k i x)) := by
  have h24 := hR.nt24
  induction k with
  | zero =>
    intro i w x e hw
    obtain ⟨w, rfl⟩ : ∃ v, w = v + 1 := ⟨w - 1, by omega⟩
    unfold F_X4_seatedTraders_4
    simp (disch := omega) only [wm_kR, wm_kt, wm_kn, wm_kin, wm_kL, wm_kI, wm_ksI, wm_ksL, wm_kJ, wm_ksJ, kg_t, kl_v, Option.bind_some, mm_k hm, hM.tc, hR.r8, nI_ltP]
    rw [if_neg (by omega)]
    rfl
  | succ k ih =>
    intro i w x e hw
    obtain ⟨w, rfl⟩ : ∃ v, w = v + 1 := ⟨w - 1, by omega⟩
    have hi : i < 24 := by omega
    have h1 := ih (i + 1) w (if r (89 + 7 * i + 5) = -1 then x else x + 1) (by omega) (by omega)
    unfold F_X4_seatedTraders_4
    simp (disch := omega) only [wm_kR, wm_kt, wm_kn, wm_kin, wm_kL, wm_kI, wm_ksI, wm_ksL, wm_kJ, wm_ksJ, kg_t, kl_v, Option.bind_some, mm_k hm, hM.tc, hR.r8, nI_ltP, kin_t hm hi, kx_nI, tt_r hm hi, tt_k hm hi, cx_seated hm h24 hM (show i < nt by omega), nI_1]
    rw [if_pos (by omega)]
    show _ = some (nI (ocS r k (i + 1) (if r (89 + 7 * i + 5) = -1 then x else x + 1)))
    by_cases c : r (89 + 7 * i + 5) = -1
    · simp only [c, if_true] at h1 ⊢
      exact h1
    · simp only [c, if_false, if_neg one0] at h1 ⊢
      exact h1
/-- the answer -/
def ocV (A S : Nat) : UInt32 := if A = 0 then FP.fconst0 else FP.fdiv (FP.i2f (nI S)) (FP.i2f (nI A))
theorem rx_ocS (hR : RI r nb nt) {A : Nat} (hA : A < 61) (k : Nat) : ∀ (i w x : Nat), i + k = nt → k < w → x ≤ i → F_X12_occupancy_41 N w (wm Mb (rf I r f) L) 540 (nI A) (nI x) (nI i) = some (ocV A (ocS r k i x), wm Mb (rf I r f) L) := by
  have h24 := hR.nt24
  induction k with
  | zero =>
    intro i w x e hw hx
    obtain ⟨w, rfl⟩ : ∃ v, w = v + 1 := ⟨w - 1, by omega⟩
    unfold F_X12_occupancy_41
    simp (disch := omega) only [wm_kR, wm_kt, wm_kn, wm_kin, wm_kL, wm_kI, wm_ksI, wm_ksL, wm_kJ, wm_ksJ, kg_t, kl_v, Option.bind_some, sr_k, sr_0, sr_1, sr_2, sr_3, sr_4, sr_7, sr_8, sr_9, sr_26, sr_27, sr_28, kl_0, kl_1, kl_2, kl_3, kl_4, kl_5, kl_6, kl_7, kl_8, kl_9, kl_10, kl_11, kl_12, kl_13, kx_l0, kx_l1, kx_l2, kx_l3, kx_l4, kx_l5, kx_l6, kx_l7, kx_l8, kx_l9, kx_l10, kx_l11, kx_l12, kx_l13, rf_s, hR.r8, nI_ltP]
    rw [if_neg (by omega)]
    unfold ocV
    by_cases z : A = 0
    · subst z
      rw [if_pos (show nI 0 = 0 from rfl), if_pos rfl]
    · rw [if_neg (nI_ne0 (by omega) (by omega)), if_neg z, fq_ok x (by omega) A hA z, kg_t]
      rfl
  | succ k ih =>
    intro i w x e hw hx
    obtain ⟨w, rfl⟩ : ∃ v, w = v + 1 := ⟨w - 1, by omega⟩
    have hi : i < 24 := by omega
    have h1 := ih (i + 1) w (if r (89 + 7 * i + 5) = -1 then x else x + 1) (by omega) (by omega) (by split <;> omega)
    unfold F_X12_occupancy_41
    simp (disch := omega) only [wm_kR, wm_kt, wm_kn, wm_kin, wm_kL, wm_kI, wm_ksI, wm_ksL, wm_kJ, wm_ksJ, kg_t, kl_v, Option.bind_some, sr_k, sr_0, sr_1, sr_2, sr_3, sr_4, sr_7, sr_8, sr_9, sr_26, sr_27, sr_28, kl_0, kl_1, kl_2, kl_3, kl_4, kl_5, kl_6, kl_7, kl_8, kl_9, kl_10, kl_11, kl_12, kl_13, kx_l0, kx_l1, kx_l2, kx_l3, kx_l4, kx_l5, kx_l6, kx_l7, kx_l8, kx_l9, kx_l10, kx_l11, kx_l12, kx_l13, rf_s, hR.r8, nI_ltP, rx_seated hi, nI_1]
    rw [if_pos (by omega)]
    show _ = some (ocV A (ocS r k (i + 1) (if r (89 + 7 * i + 5) = -1 then x else x + 1)), wm Mb (rf I r f) L)
    by_cases c : r (89 + 7 * i + 5) = -1
    · simp only [c, if_true, flag0, Option.bind_some, add0] at h1 ⊢
      exact h1
    · simp only [c, if_false, flag1, Option.bind_some, nI_1] at h1 ⊢
      exact h1
theorem rx_ocA (hR : RI r nb nt) (hN : 100 < N) (k : Nat) : ∀ (i w x : Nat), i + k = nb → k < w → ocA r k i x < 61 → F_X12_occupancy_11 N w (wm Mb (rf I r f) L) 540 (nI x) 0 (nI i) = some (ocV (ocA r k i x) (ocS r nt 0 0), wm Mb (rf I r f) L) := by
  have h5 := hR.nb5
  have h24 := hR.nt24
  induction k with
  | zero =>
    intro i w x e hw hx
    obtain ⟨w, rfl⟩ : ∃ v, w = v + 1 := ⟨w - 1, by omega⟩
    have z := rx_ocS (N := N) (I := I) (L := L) (f := f) hR (A := x) hx nt 0 N 0 (by omega) (by omega) (by omega)
    rw [show nI 0 = 0 from rfl] at z
    unfold F_X12_occupancy_11
    simp (disch := omega) only [wm_kR, wm_kt, wm_kn, wm_kin, wm_kL, wm_kI, wm_ksI, wm_ksL, wm_kJ, wm_ksJ, kg_t, kl_v, Option.bind_some, sr_k, sr_0, sr_1, sr_2, sr_3, sr_4, sr_7, sr_8, sr_9, sr_26, sr_27, sr_28, kl_0, kl_1, kl_2, kl_3, kl_4, kl_5, kl_6, kl_7, kl_8, kl_9, kl_10, kl_11, kl_12, kl_13, kx_l0, kx_l1, kx_l2, kx_l3, kx_l4, kx_l5, kx_l6, kx_l7, kx_l8, kx_l9, kx_l10, kx_l11, kx_l12, kx_l13, rf_s, hR.r7, nI_ltP]
    rw [if_neg (by omega)]
    exact z
  | succ k ih =>
    intro i w x e hw hx
    obtain ⟨w, rfl⟩ : ∃ v, w = v + 1 := ⟨w - 1, by omega⟩
    have hi : i < 5 := by omega
    obtain ⟨a, s', l, ha, -, -, ra, -⟩ := hR.b i (by omega)
    have ev : ocA r (k + 1) i x = ocA r k (i + 1) (x + 2 * a) := by
      show ocA r k (i + 1) (x + 2 * kx (r (14 + 15 * i + 0))) = _
      rw [ra, kx_nI (by omega)]
    have h1 := ih (i + 1) w (x + 2 * a) (by omega) (by omega) (by rw [← ev]; exact hx)
    have em : nI x + 2 * nI a = nI (x + 2 * a) := by rw [show (2 : Int32) = nI 2 from rfl, pk_mul, nI_add]
    unfold F_X12_occupancy_11
    simp (disch := omega) only [wm_kR, wm_kt, wm_kn, wm_kin, wm_kL, wm_kI, wm_ksI, wm_ksL, wm_kJ, wm_ksJ, kg_t, kl_v, Option.bind_some, sr_k, sr_0, sr_1, sr_2, sr_3, sr_4, sr_7, sr_8, sr_9, sr_26, sr_27, sr_28, kl_0, kl_1, kl_2, kl_3, kl_4, kl_5, kl_6, kl_7, kl_8, kl_9, kl_10, kl_11, kl_12, kl_13, kx_l0, kx_l1, kx_l2, kx_l3, kx_l4, kx_l5, kx_l6, kx_l7, kx_l8, kx_l9, kx_l10, kx_l11, kx_l12, kx_l13, rf_s, hR.r7, nI_ltP, rx_ofB0 hi, ra, em, nI_1]
    rw [if_pos (by omega), ev]
    exact h1
theorem sf_occupancy (h : Rel I) (hN : 100 < N) : ∀ L, ∃ v, F_X11_occupancy N (wm Mb I L) 1 = some v ∧ ∀ L', ∃ I2 L2, F_X12_occupancy N (wm Mb I L') 540 = some (v, wm Mb I2 L2) ∧ Rel I2 ∧ LF L' L2 := by
  obtain ⟨nb, nt, hR, hM⟩ := h.2.2.1.row
  have h5 := hR.nb5
  have h24 := hR.nt24
  have hA := ocA_le hR nb 0 0 (by omega)
  have hS := ocS_le (r := I 541) nt 0 0
  intro L
  refine ⟨ocV (ocA (I 541) nb 0 0) (ocS (I 541) nt 0 0), ?_, fun L' => ⟨tw6 I 0, L', ?_, h.tw, LF.rf'⟩⟩
  · have z1 := cx_ocA (N := N) (L := L) m169 hR hM nb 0 N 0 (by omega) (by omega)
    have z2 := cx_ocS (N := N) (L := L) m169 hR hM nt 0 N 0 (by omega) (by omega)
    rw [show nI 0 = 0 from rfl] at z1 z2
    unfold F_X11_occupancy F_X4_seatCount F_X4_seatedTraders
    simp only [wm_kR, wm_kt, wm_kn, wm_kin, wm_kL, wm_kI, wm_ksI, wm_ksL, wm_kJ, wm_ksJ, kg_t, kl_v, Option.bind_some, x1_t.1, x1_t.2.1, mm_k m169, z1, z2]
    unfold ocV
    by_cases z : ocA (I 541) nb 0 0 = 0
    · rw [z, if_pos (show nI 0 = 0 from rfl), if_pos rfl]
    · rw [if_neg (nI_ne0 (by omega) (by omega)), if_neg z, fq_ok _ (by omega) _ (by omega) z, kg_t]
  · have z := rx_ocA (N := N) (I := tw6 I 0) (L := L') (f := I 546) hR hN nb 0 N 0 (by omega) (by omega) (by omega)
    rw [tw_rf, show nI 0 = 0 from rfl] at z
    unfold F_X12_occupancy
    simp only [wm_kR, wm_kt, wm_kn, wm_kin, wm_kL, wm_kI, wm_ksI, wm_ksL, wm_kJ, wm_ksJ, kg_t, kl_v, Option.bind_some, sr_k, sr_0, sr_1, sr_2, sr_3, sr_4, sr_7, sr_8, sr_9, sr_26, sr_27, sr_28, tw_fd, z]
end
