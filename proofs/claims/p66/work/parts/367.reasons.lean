variable {Mb : SMem}
section
variable {N : Nat} {I : kInts} {L : kLngs} {r s f : Nat → Int32} {nb nt : Nat}
theorem nI_ne {s t : Nat} (hs : s < 1000) (ht : t < 1000) (h : s ≠ t) : ¬ nI s = nI t := fun z => h ((nI_eq (by omega) (by omega)).mp z)
theorem two0 : ¬ (2 : Int32) = 0 := by decide
theorem three0 : ¬ (3 : Int32) = 0 := by decide
end
