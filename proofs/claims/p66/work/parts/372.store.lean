variable {Mb : SMem}
section
variable {N : Nat} {I K : kInts} {L : kLngs} {r s f : Nat → Int32} {nb nt : Nat}
theorem sl_cases (x : Int32) : (∃ i, i < 2 ∧ x = nI i ∧ ¬ (x < 0 ∨ 1 < x) ∧ ¬ x < 0 ∧ x < nI 2) ∨ ((x < 0 ∨ 1 < x) ∧ (x < 0 ∨ ¬ x < nI 2)) := by
  rcases num_cases x (n := 2) (by decide) with ⟨i, hi, rfl⟩ | hx
  · left
    have : i = 0 ∨ i = 1 := by omega
    rcases this with rfl | rfl
    · exact ⟨0, by decide, rfl, by decide, by decide, by decide⟩
    · exact ⟨1, by decide, rfl, by decide, by decide, by decide⟩
  · right
    have h1 : (1 : Int32) < nI 2 := by decide
    refine ⟨?_, ?_⟩
    · rcases hx with z | z
      · exact Or.inl z
      · right; grind
    · rcases hx with z | z
      · exact Or.inl z
      · right; exact Int32.not_lt.mpr z
end
