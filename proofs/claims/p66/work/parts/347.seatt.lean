variable {Mb : SMem}
section
variable {N : Nat} {I : kInts} {L : kLngs} {n : Nat} {T : Nat → Nat} {r s : Nat → Int32} {nb nt : Nat}
theorem eqR_si (h : eqR s r) (t b q : Nat) (hb : b < 5) (hq : q < 13) : eqR (siR s t b q) (siR r t b q) := by
  intro k h1 h2
  unfold siR setr
  by_cases z1 : k = 89 + 7 * t + 6
  · simp only [z1, if_true]
  · by_cases z2 : k = 89 + 7 * t + 5
    · simp only [z2, if_true, show ¬ 89 + 7 * t + 5 = 89 + 7 * t + 6 by omega, if_false]
    · by_cases z3 : k = si b q
      · simp only [z1, z2, z3, if_true, if_false]
      · simp only [z1, z2, z3, if_false]
        exact h k h1 h2
end
