variable {Mb : SMem}
section
variable {N : Nat} {I K : kInts} {L : kLngs} {r s f : Nat → Int32} {nb nt : Nat}
theorem Rel.back (h : Rel I) (k1 : ∀ a j, a < 44 ∨ 85 ≤ a ∧ a ≠ 126 ∧ a ≠ 541 ∧ a ≠ 540 → K a j = I a j) (k2 : ∀ j, j ≠ 5 → j ≠ 6 → K 540 j = I 540 j) (kR : RI (K 541) nb nt) (kM : RM K 44 (K 541) nb nt) (kH : RelH K) : Rel K := by
  obtain ⟨hT, hE, hMM, hNu, hH, hSl, hOu, hNm⟩ := h
  have kk : ∀ a j, a < 44 ∨ 85 ≤ a ∧ a ≠ 126 ∧ a ≠ 541 ∧ ¬ (a = 540 ∧ (j = 5 ∨ j = 6)) → K a j = I a j := by
    intro a j y
    by_cases z : a = 540
    · rw [z]; exact k2 j (by omega) (by omega)
    · exact k1 a j (by omega)
  refine ⟨hT.kp (fun x j y => kk x j (by omega)), ⟨by rw [kk 6 6 (by omega), kk 540 18 (by omega)]; exact hE.1, by rw [kk 6 7 (by omega), kk 540 19 (by omega)]; exact hE.2⟩, RelM.of kR kM, fun m hm => ?_, kH, hSl.kp (fun x j y => kk x j (by omega)), hOu.kp (fun x j y => kk x j (by omega)), hNm.kp (fun x j y => kk x j (by omega))⟩
  by_cases z : m = 44
  · rw [z]; exact kM.nu
  · refine (hNu m hm).kp (fun x j y1 y2 => kk x j ?_)
    have h1 := mks_sep hm
    by_cases w : m = 85
    · omega
    · have := mks_far hm z w
      omega
end
