variable {Mb : SMem}
section
variable {N : Nat} {I I' J : kInts} {L L' : kLngs} {n c i j k d q nb nt : Nat} {T : Nat → Nat} {r : Nat → Int32}
theorem fnd_nm {v : Int32} {t : Nat} (h : fnd r nt v = some t) : r (89 + 7 * t + 0) = v := (fndL_lt h).2
theorem cOt_ne (h : cOt n T (j + 1) = 0) : nmc n T j ≠ nmc n T (j + 1) := by
  unfold cOt at h
  intro e
  by_cases c : isM n T (j + 1) = true
  · rw [if_pos c, Nat.add_sub_cancel, if_pos e.symm] at h; cases h
  · rw [if_neg c] at h; cases h
end
