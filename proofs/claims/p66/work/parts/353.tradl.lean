variable {Mb : SMem}
section
variable {N : Nat} {I : kInts} {L : kLngs} {n c : Nat} {T : Nat → Nat} {σ : sg} {r s : Nat → Int32} {nb nt : Nat}
theorem unS_le : ∀ (k : Nat), unS r k ≤ k
  | 0 => Nat.le_refl _
  | k + 1 => by
    have := unS_le k
    unfold unS at this ⊢
    show sumN _ k + (if r (89 + 7 * k + 5) = -1 then 1 else 0) ≤ k + 1
    split <;> omega
theorem DS.eq {I' : kInts} {σ' : sg} (h : DS I n T c σ r nb nt) (h1 : CS I' n T c σ') (h2 : okS σ' = true → okS σ = true) (e : CF I I') : DS I' n T c σ' r nb nt := by
  obtain ⟨a1, a2, ⟨a3, a4⟩, a5⟩ := h
  exact ⟨h1, a2.cf a3 a4 e, ⟨a3, a4⟩, fun z => a5 (h2 z)⟩
end
