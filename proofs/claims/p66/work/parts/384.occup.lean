variable {Mb : SMem}
theorem fq_ok : ∀ S, S < 25 → ∀ A, A < 61 → A ≠ 0 → decide (FP.fdiv (FP.i2f (nI S)) (FP.i2f (nI A)) &&& 0x7fffffff ≤ 0x7f800000) = true := by decide +kernel
def ocA (r : Nat → Int32) : Nat → Nat → Nat → Nat
  | 0, _, x => x
  | k + 1, i, x => ocA r k (i + 1) (x + 2 * kx (r (14 + 15 * i + 0)))
def ocS (r : Nat → Int32) : Nat → Nat → Nat → Nat
  | 0, _, x => x
  | k + 1, i, x => ocS r k (i + 1) (if r (89 + 7 * i + 5) = -1 then x else x + 1)
section
variable {N : Nat} {I : kInts} {L : kLngs} {r s f : Nat → Int32} {nb nt m : Nat}
theorem ocA_le (hR : RI r nb nt) (k : Nat) : ∀ i x, i + k = nb → ocA r k i x ≤ x + 12 * k := by
  induction k with
  | zero => intro i x _; exact Nat.le_refl _
  | succ k ih =>
    intro i x e
    obtain ⟨a, s', l, ha, -, -, ra, -⟩ := hR.b i (by omega)
    have h := ih (i + 1) (x + 2 * kx (r (14 + 15 * i + 0))) (by omega)
    rw [ra, kx_nI (by omega)] at h
    show ocA r k (i + 1) (x + 2 * kx (r (14 + 15 * i + 0))) ≤ _
    rw [ra, kx_nI (by omega)]
    omega
theorem ocS_le (k : Nat) : ∀ i x, ocS r k i x ≤ x + k := by
  induction k with
  | zero => intro i x; exact Nat.le_refl _
  | succ k ih =>
    intro i x
    have h := ih (i + 1) (if r (89 + 7 * i + 5) = -1 then x else x + 1)
    show ocS r k (i + 1) (if r (89 + 7 * i + 5) = -1 then x else x + 1) ≤ _
    split at h <;> rename_i c <;> simp only [c, if_true, if_false] <;> omega
def ocV (A S : Nat) : UInt32 := if A = 0 then FP.fconst0 else FP.fdiv (FP.i2f (nI S)) (FP.i2f (nI A))
end
