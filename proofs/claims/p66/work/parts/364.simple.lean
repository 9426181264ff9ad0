variable {Mb : SMem}
section
variable {N : Nat} {I : kInts} {r s f : Nat → Int32} {nb nt : Nat}
theorem tw_fd {v : Int32} : up I 540 6 v = tw6 I v := rfl
end
