variable {Mb : SMem}
section
variable {N : Nat} {I : kInts} {L : kLngs} {n : Nat} {T : Nat → Nat} {r s : Nat → Int32} {nb nt : Nat}
theorem RS_rf {σ : sg} (h : RS I L n T σ) (s f : Nat → Int32) : RS (rf I s f) L n T σ := h.sg (fun a j ha => rf_o j (by omega) (by omega)) rfl
theorem lN_i32 (w : Nat) : (lN w).toInt32 = nI w := by
  unfold lN nI
  exact Int64.toInt32_ofNat' ..
end
