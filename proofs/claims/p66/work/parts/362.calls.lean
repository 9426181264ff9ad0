variable {Mb : SMem}
def tw6 (I : kInts) (v : Int32) : kInts := up I 540 6 v
section
variable {N : Nat} {I : kInts} {L : kLngs} {r s f : Nat → Int32} {nb nt : Nat}
theorem tw_6 {v : Int32} : tw6 I v 540 6 = v := up_eq
theorem tw_tw {v w : Int32} : up (tw6 I v) 540 6 w = tw6 I w := by
  funext a j
  unfold tw6
  by_cases z : a = 540 ∧ j = 6
  · rw [z.1, z.2, up_eq, up_eq]
  · rw [up_ne (by omega), up_ne (by omega), up_ne (by omega)]
theorem tw_o {v : Int32} {a j : Nat} (h : a ≠ 540 ∨ j ≠ 6) : tw6 I v a j = I a j := up_ne h
theorem tw_rf {v : Int32} : rf (tw6 I v) (I 541) (I 546) = tw6 I v := by
  have h := @rf_self (tw6 I v)
  have e1 : tw6 I v 541 = I 541 := funext fun j => tw_o (Or.inl (by decide))
  have e2 : tw6 I v 546 = I 546 := funext fun j => tw_o (Or.inl (by decide))
  rw [e1, e2] at h
  exact h
theorem Rel.tw {v : Int32} (h : Rel I) : Rel (tw6 I v) := by
  obtain ⟨hT, hE, hM, hNu, hH, hSl, hOu, hNm⟩ := h
  refine ⟨hT.kp (fun x j y => tw_o (by omega)), ⟨?_, ?_⟩, hM.kp (fun x j y1 y2 => tw_o (by omega)) (fun k hk => tw_o (by omega)), fun m hm => (hNu m hm).kp (fun x j y1 y2 => tw_o (by have := mks_sep hm; omega)), hH.kp (fun x j y => tw_o (by omega)), hSl.kp (fun x j y => tw_o (by omega)), hOu.kp (fun x j y => tw_o (by omega)), hNm.kp (fun x j y => tw_o (by omega))⟩
  · rw [tw_o (by omega), tw_o (by omega)]; exact hE.1
  · rw [tw_o (by omega), tw_o (by omega)]; exact hE.2
theorem nn_of {x : Int32} (h : ¬ x < 0) : nn x := by
  have h1 : ¬ x.toInt < 0 := fun z => h (Int32.lt_iff_toInt_lt.mpr z)
  have h3 : x.toInt < 2147483648 := by have := Int32.toInt_lt x; exact this
  have h4 : kx x = x.toInt.toNat := rfl
  unfold nn
  apply Int32.toInt_inj.mp
  rw [h4, nI_toInt (by omega)]
  omega
theorem num_cases (x : Int32) {n : Nat} (hn : n < 1000) : (∃ t, t < n ∧ x = nI t) ∨ (x < 0 ∨ nI n ≤ x) := by
  by_cases h0 : x < 0
  · exact Or.inr (Or.inl h0)
  · by_cases h1 : nI n ≤ x
    · exact Or.inr (Or.inr h1)
    · left
      have h2 : x = nI (kx x) := by
        have := nn_of (x := x) h0
        exact this
      refine ⟨kx x, ?_, h2⟩
      have h3 : x < nI n := Int32.not_le.mp h1
      rw [h2] at h3
      exact (nI_ltI nn_lt (by omega)).mp h3
end
