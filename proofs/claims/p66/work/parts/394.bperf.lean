variable {Mb : SMem}
section
variable {N : Nat} {I I' J : kInts} {L L' : kLngs} {n c i j k d q nb nt : Nat} {T : Nat → Nat} {r : Nat → Int32}
theorem hb01 : ((1 : Int32) == 0 || (1 : Int32) == 1) = true ∧ ((0 : Int32) == 0 || (0 : Int32) == 1) = true := ⟨rfl, rfl⟩
theorem bnd_id (x : Option kMem) : (x.bind fun M => some M) = x := by cases x <;> rfl
theorem cOf_none : cOf 44 none = 0 := rfl
theorem cOf_some (t : Nat) : cOf 44 (some t) = tr 44 t := rfl
theorem rOf_some (t : Nat) : rOf (some t) = nI t := rfl
theorem nI_n1 {t : Nat} (h : t < 1000) : ¬ nI t = -1 := nI_ne1 (by omega)
theorem j_rf (h : J 541 = r) : rf J r (J 546) = J := by rw [← h]; exact rf_self
end
