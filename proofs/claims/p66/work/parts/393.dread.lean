variable {Mb : SMem}
section
variable {N : Nat} {I I' : kInts} {L : kLngs} {n c k d i j : Nat} {T : Nat → Nat} {σ : sg}
theorem nm2.kp (_ : nm2 I i) (_ : ∀ a x, 15 + i ≤ a → a < 15 + i → I' a x = I a x) : nm2 I' i := trivial
theorem PSc.err (h : PSc I n T c k d σ) (hS : CS I' n T c (erS n T i j)) (e : CF I I') : PSc I' n T c k d (erS n T i j) := ⟨hS, h.2.1, ⟨(e _ _ (by omega)).trans h.2.2.1.1, (e _ _ (by omega)).trans h.2.2.1.2.1, (e _ _ (by omega)).trans h.2.2.1.2.2⟩, fun i hi => (h.2.2.2.1 i hi).cf e, fun j hj => by cases hj⟩
end
