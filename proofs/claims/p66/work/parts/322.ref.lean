variable {Mb : SMem}
def rf (I : kInts) (r f : Nat → Int32) : kInts := fun a j => if a = 541 then r j else if a = 546 then f j else I a j
def setr (r : Nat → Int32) (k : Nat) (v : Int32) : Nat → Int32 := fun j => if j = k then v else r j
section
variable {N : Nat} {I : kInts} {L : kLngs} {r f : Nat → Int32}
theorem rf_eta (I : kInts) : rf I (I 541) (I 546) = I := by
  funext a j
  unfold rf
  split
  · next h => rw [h]
  · split
    · next h => rw [h]
    · rfl
theorem rf_s (j : Nat) : rf I r f 541 j = r j := rfl
theorem rf_f (j : Nat) : rf I r f 546 j = f j := rfl
theorem rf_o {a : Nat} (j : Nat) (h1 : a ≠ 541) (h2 : a ≠ 546) : rf I r f a j = I a j := by unfold rf; rw [if_neg h1, if_neg h2]
theorem rf_us (j : Nat) (v : Int32) : up (rf I r f) 541 j v = rf I (setr r j v) f := by
  funext a k
  unfold up rf setr
  by_cases h : a = 541 <;> by_cases h2 : k = j <;> simp [h, h2]
theorem rf_uf (j : Nat) (v : Int32) : up (rf I r f) 546 j v = rf I r (setr f j v) := by
  funext a k
  unfold up rf setr
  by_cases h : a = 546 <;> by_cases h2 : k = j <;> simp [h, h2]
theorem rf_uo {a : Nat} (j : Nat) (v : Int32) (h1 : a ≠ 541) (h2 : a ≠ 546) : up (rf I r f) a j v = rf (up I a j v) r f := by
  funext b k
  unfold up rf
  by_cases h : b = a
  · subst h; simp [h1, h2]
  · simp [h]
theorem rf_rf (r2 f2 : Nat → Int32) : rf (rf I r f) r2 f2 = rf I r2 f2 := by
  funext a j
  unfold rf
  split
  · rfl
  · split <;> rfl
theorem rx_at (c d x w : Nat) : (nI c + nI d * nI x) + nI w = nI (c + d * x + w) := by rw [pk_mul, nI_add, nI_add]
end
