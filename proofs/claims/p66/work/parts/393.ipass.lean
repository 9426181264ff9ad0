variable {Mb : SMem}
def RPs (J : kInts) (L : kLngs) (n : Nat) (T : Nat → Nat) (k d : Nat) (σ : sg) : Prop := RS J L n T σ ∧ (J 540 21 = 0 ∧ J 540 22 = 0) ∧ (okS σ = true → J 540 23 = nI k ∧ J 540 24 = nI d)
section
variable {N : Nat} {I I' J : kInts} {L L' : kLngs} {n c i j k d q nb nt : Nat} {T : Nat → Nat} {σ : sg}
theorem nI_0lt {a : Nat} (h : a < 2147483648) : ((0 : Int32) < nI a) = (0 < a) := nI_ltP (a := 0) (by decide) h
end
