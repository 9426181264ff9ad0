variable {Mb : SMem}
section
variable {N : Nat} {I : kInts} {L : kLngs} {r s f : Nat → Int32} {nb nt : Nat}
theorem m169 : (44 : Nat) ∈ mks := by decide
theorem tw_row {v : Int32} (j : Nat) : tw6 I v 541 j = I 541 j := tw_o (Or.inl (by decide))
end
