variable {Mb : SMem}
section
variable {N : Nat} {I K : kInts} {L : kLngs} {r s f : Nat → Int32} {nb nt nb' nt' : Nat}
theorem num_big (x : Int32) {n : Nat} (hn : n < 100000) (h : ¬ (x < 0 ∨ nI n < x)) : ∃ t, t ≤ n ∧ x = nI t := by
  have h0 : ¬ x < 0 := fun z => h (Or.inl z)
  have h2 : x = nI (kx x) := nn_of h0
  refine ⟨kx x, ?_, h2⟩
  have h3 : ¬ nI n < x := fun z => h (Or.inr z)
  rw [h2, nI_ltI (by omega) nn_lt] at h3
  omega
theorem lt01 {x : Int32} (h : x < 0) : x < 1 := by
  have h1 : (0 : Int32) < 1 := by decide
  grind
end
