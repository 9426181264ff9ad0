variable {Mb : SMem}
section
variable {N : Nat} {I I' : kInts} {L L' : kLngs} {n c i j k d q nb nt : Nat} {T : Nat → Nat} {σ : sg}
theorem nI_lt2 {a : Nat} (h : a < 2147483648) : (nI a < 2) = (a < 2) := nI_ltP (b := 2) h (by decide)
theorem nI_lt30 {a : Nat} (h : a < 2147483648) : (nI a < 30) = (a < 30) := nI_ltP (b := 30) h (by decide)
theorem RS_o (h : RS I L n T σ) (e : OG I I') (e2 : ∀ x, 12 ≤ x → x ≤ 17 → I' 540 x = I 540 x) : RS I' L n T σ := h.sg (fun a x ha => by
  by_cases z : a = 540 ∧ 12 ≤ x
  · rw [z.1]; exact e2 x z.2 (by omega)
  · exact e a x (by omega) (by omega) (by omega)) rfl
theorem kcd_ne (h1 : 1 ≤ q) (h7 : q ≤ 7) : ¬ lg_cmp (lN (kcd q)) 609752116 = 0 := by
  have : ∀ q, q ≤ 7 → 1 ≤ q → ¬ lg_cmp (lN (kcd q)) 609752116 = 0 := by decide
  exact this q h7 h1
end
