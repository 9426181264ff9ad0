variable {Mb : SMem}
section
variable {N : Nat} {I : kInts} {L : kLngs} {n c : Nat} {T : Nat → Nat} {r s f : Nat → Int32} {nb nt : Nat}
theorem cpy_step {a0 sp a1 dp i : Nat} (hne : a0 ≠ a1) : up (cpy I a0 sp a1 dp i) a1 (dp + i) (cpy I a0 sp a1 dp i a0 (sp + i)) = cpy I a0 sp a1 dp (i + 1) := by
  funext a j
  by_cases z : a = a1 ∧ j = dp + i
  · rw [z.1, z.2, up_eq, cpy_in (by omega), cpy_out (Or.inl hne)]
    rw [show dp + i - dp = i by omega]
  · rw [up_ne (by omega)]
    by_cases y : a = a1 ∧ dp ≤ j ∧ j < dp + i
    · rw [y.1, cpy_in y.2, cpy_in (by omega)]
    · rw [cpy_out (by omega), cpy_out (by omega)]
theorem cpy_0 {a0 sp a1 dp : Nat} : cpy I a0 sp a1 dp 0 = I := by
  funext a j
  exact cpy_out (by omega)
end
