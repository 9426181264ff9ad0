variable {Mb : SMem}
theorem fq_ok : ∀ S, S < 25 → ∀ A, A < 61 → A ≠ 0 → decide (FP.fdiv (FP.i2f (nI S)) (FP.i2f (nI A)) &&& 0x7fffffff ≤ 0x7f800000) = true := by decide +kernel
def ocA (r : Nat → Int32) : Nat → Nat → Nat → Nat
  | 0, _, x => x
  | k + 1, i, x => ocA r k (i + 1) (x + 2 * kx (r (14 + 15 * i + 0)))
def ocS (r : Nat → Int32) : Nat → Nat → Nat → Nat
  | 0, _, x => x
  | k + 1, i, x => ocS r k (i + 1) (if r (89 + 7 * i + 5) = -1 then x else x + 1)
section
variable {N : Nat} {I : kInts} {L : kLngs} {r s f : Nat → Int32} {nb nt m : Nat}
theorem ocA_le (hR : RI r nb nt) (k : Nat) : ∀ i x, i + k = nb → ocA r k i x ≤ x + 12 * k := by
  induction k with
  | zero => intro i x _; exact Nat.le_refl _
  | succ k ih =>
    intro i x e
    obtain ⟨a, s', l, ha, -, -, ra, -⟩ := hR.b i (by omega)
    have h := ih (i + 1) (x + 2 * kx (r (14 + 15 * i + 0))) (by omega)
    rw [ra, kx_nI (by omega)] at h
    show ocA r k (i + 1) (x + 2 * kx (r (14 + 15 * i + 0))) ≤ _
    rw [ra, kx_nI (by omega)]
    omega
theorem ocS_le (k : Nat) : ∀ i x, ocS r k i x ≤ x + k := by
  induction k with
  | zero => intro i x; exact Nat.le_refl _
  | succ k ih =>
    intro i x
    have h := ih (i + 1) (if r (89 + 7 * i + 5) = -1 then x else x + 1)
    show ocS r k (i + 1) (if r (89 + 7 * i + 5) = -1 then x else x + 1) ≤ _
    split at h <;> rename_i c <;> simp only [c, if_true, if_false] <;> omega
theorem cx_ocA (hm : m ∈ mks) (hR : RI r nb nt) (hM : RM I m r nb nt) (k : Nat) : ∀ (i w x : Nat), i + k = nb → k < w → F_X4_seatCount_4 N (wm Mb I L) w m (nI x) (nI i) = some (nI (ocA r k i x)) := by
  have h5 := hR.nb5
  induction k with
  | zero =>
    intro i w x e hw
    obtain ⟨w, rfl⟩ : ∃ v, w = v + 1 := ⟨w - 1, by omega⟩
    unfold F_X4_seatCount_4
    simp (disch := omega) only [wm_kR, wm_kt, wm_kn, wm_kin, wm_kL, wm_kI, wm_ksI, wm_ksL, wm_kJ, wm_ksJ, kg_t, kl_v, Option.bind_some, mm_k hm, hM.bc, hR.r7, nI_ltP]
    rw [if_neg (by omega)]
    rfl
  | succ k ih =>
    intro i w x e hw
    obtain ⟨w, rfl⟩ : ∃ v, w = v + 1 := ⟨w - 1, by omega⟩
    have hi : i < 5 := by omega
    obtain ⟨a, s', l, ha, -, -, ra, -⟩ := hR.b i (by omega)
    have h1 := ih (i + 1) w (x + 2 * a) (by omega) (by omega)
    have em : nI x + 2 * nI a = nI (x + 2 * a) := by rw [show (2 : Int32) = nI 2 from rfl, pk_mul, nI_add]
    unfold F_X4_seatCount_4
    simp (disch := omega) only [wm_kR, wm_kt, wm_kn, wm_kin, wm_kL, wm_kI, wm_ksI, wm_ksL, wm_kJ, wm_ksJ, kg_t, kl_v, Option.bind_some, mm_k hm, hM.bc, hR.r7, nI_ltP, kin_b hm hi, kx_nI, bb_r hm hi, bb_k hm hi, (hM.bb i (show i < nb by omega)).1, ra, em, nI_1]
    rw [if_pos (by omega), h1]
    show _ = some (nI (ocA r k (i + 1) (x + 2 * kx (r (14 + 15 * i + 0)))))
    rw [ra, kx_nI (by omega)]
theorem cx_ocS (hm : m ∈ mks) (hR : RI r nb nt) (hM : RM I m r nb nt) (k : Nat) : ∀ (i w x : Nat), i + k = nt → k < w → F_X4_seatedTraders_4 N (wm Mb I L) w m (nI x) (nI i) = some (nI (ocS r k i x)) := by
  have h24 := hR.nt24
  induction k with
  | zero =>
    intro i w x e hw
    obtain ⟨w, rfl⟩ : ∃ v, w = v + 1 := ⟨w - 1, by omega⟩
    unfold F_X4_seatedTraders_4
    simp (disch := omega) only [wm_kR, wm_kt, wm_kn, wm_kin, wm_kL, wm_kI, wm_ksI, wm_ksL, wm_kJ, wm_ksJ, kg_t, kl_v, Option.bind_some, mm_k hm, hM.tc, hR.r8, nI_ltP]
    rw [if_neg (by omega)]
    rfl
  | succ k ih =>
    intro i w x e hw
    obtain ⟨w, rfl⟩ : ∃ v, w = v + 1 := ⟨w - 1, by omega⟩
    have hi : i < 24 := by omega
    have h1 := ih (i + 1) w (if r (89 + 7 * i + 5) = -1 then x else x + 1) (by omega) (by omega)
    unfold F_X4_seatedTraders_4
    simp (disch := omega) only [wm_kR, wm_kt, wm_kn, wm_kin, wm_kL, wm_kI, wm_ksI, wm_ksL, wm_kJ, wm_ksJ, kg_t, kl_v, Option.bind_some, mm_k hm, hM.tc, hR.r8, nI_ltP, kin_t hm hi, kx_nI, tt_r hm hi, tt_k hm hi, cx_seated hm h24 hM (show i < nt by omega), nI_1]
    rw [if_pos (by omega)]
    show _ = some (nI (ocS r k (i + 1) (if r (89 + 7 * i + 5) = -1 then x else x + 1)))
    by_cases c : r (89 + 7 * i + 5) = -1
    · simp only [c, if_true] at h1 ⊢
      exact h1
    · simp only [c, if_false, if_neg one0] at h1 ⊢
      exact h1
def ocV (A S : Nat) : UInt32 := if A = 0 then FP.fconst0 else FP.fdiv (FP.i2f (nI S)) (FP.i2f (nI A))
end
