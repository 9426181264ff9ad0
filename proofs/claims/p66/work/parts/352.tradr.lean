variable {Mb : SMem}
section
variable {N : Nat} {I : kInts} {L : kLngs} {n c : Nat} {T : Nat → Nat} {σ : sg} {r s : Nat → Int32} {nb nt : Nat}
theorem eqR_ap (h : eqR s r) {cc w p ag : Int32} : eqR (apR s nt cc w p ag) (jnR r nt cc w p ag) := by
  intro k h1 h2
  unfold jnR
  rw [setr_ne h2]
  by_cases z : 89 + 7 * nt ≤ k ∧ k ≤ 89 + 7 * nt + 6
  · obtain ⟨a0, a1, a2, a3, a4, a5, a6⟩ := apR_t (r := r) (nt := nt) (cc := cc) (w := w) (p := p) (ag := ag)
    obtain ⟨b0, b1, b2, b3, b4, b5, b6⟩ := apR_t (r := s) (nt := nt) (cc := cc) (w := w) (p := p) (ag := ag)
    have : k = 89 + 7 * nt + 0 ∨ k = 89 + 7 * nt + 1 ∨ k = 89 + 7 * nt + 2 ∨ k = 89 + 7 * nt + 3 ∨ k = 89 + 7 * nt + 4 ∨ k = 89 + 7 * nt + 5 ∨ k = 89 + 7 * nt + 6 := by omega
    rcases this with e | e | e | e | e | e | e <;> rw [e]
    · rw [a0, b0]
    · rw [a1, b1]
    · rw [a2, b2]
    · rw [a3, b3]
    · rw [a4, b4]
    · rw [a5, b5]
    · rw [a6, b6]
  · by_cases y : k = 8
    · rw [y, apR_8, apR_8]
    · rw [apR_ne y (by omega), apR_ne y (by omega)]
      exact h k h1 h2
theorem rdV_0 {i lo hh : Nat} (h : cN n T lo hh i = 0) : rdV n T lo hh (.inl i) = nI (nuv n T i) := by
  unfold rdV
  simp only [h, if_true]
theorem RFr_rf {J : kInts} (h : RFr I J) (s : Nat → Int32) : RFr I (rf J s (J 546)) := by
  intro a j x1 x2
  refine Eq.trans ?_ (h a j x1 x2)
  unfold rf
  rw [if_neg x2]
  split
  · rename_i z; rw [z]
  · rfl
end
