variable {Mb : SMem}
def eqR (s r : Nat → Int32) : Prop := ∀ k, k < 293 → k ≠ 9 → s k = r k
def RFr (I I' : kInts) : Prop := ∀ a j, ¬ (a = 540 ∧ 12 ≤ j ∧ j ≤ 17) → a ≠ 541 → I' a j = I a j
section
variable {N : Nat} {I : kInts} {L : kLngs} {n : Nat} {T : Nat → Nat} {σ : sg} {r s : Nat → Int32} {nb nt : Nat}
theorem RFr.rf' : RFr I I := fun _ _ _ _ => rfl
theorem RFr.trans {I1 I2 : kInts} (h : RFr I I1) (h2 : RFr I1 I2) : RFr I I2 := fun a j x1 x2 => (h2 a j x1 x2).trans (h a j x1 x2)
theorem SG_r {I' : kInts} (h : SG I I') : RFr I I' := fun a j x1 _ => h a j x1
theorem SG_s {I' : kInts} (h : SG I I') : I' 541 = I 541 := funext fun j => h _ _ (by omega)
theorem rf_self : rf I (I 541) (I 546) = I := by
  funext a j
  unfold rf
  by_cases z : a = 541
  · rw [if_pos z, z]
  · rw [if_neg z]
    by_cases y : a = 546
    · rw [if_pos y, y]
    · rw [if_neg y]
theorem fndL_cg {c : Int32} : ∀ {k i : Nat}, i + k ≤ 24 → eqR s r → fndL s c k i = fndL r c k i
  | 0, _, _, _ => rfl
  | k + 1, i, h, e => by
    unfold fndL
    rw [e (89 + 7 * i + 0) (by omega) (by omega), fndL_cg (by omega) e]
theorem fnd_cg {c : Int32} (h : nt ≤ 24) (e : eqR s r) : fnd s nt c = fnd r nt c := fndL_cg (by omega) e
theorem RS_err {x : Nat × Nat} (h : RS I L n T (.inr x)) : ¬ I 540 16 = 0 := by
  obtain ⟨g1, g2, -⟩ := h.2
  rw [g1]
  exact nI_ne0 (by omega) (by omega)
theorem RS_ok {j : Nat} (h : RS I L n T (.inl j)) : I 540 16 = 0 := h.2.2
end
