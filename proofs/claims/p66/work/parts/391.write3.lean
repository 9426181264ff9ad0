variable {Mb : SMem}
section
variable {N : Nat} {I K : kInts} {L : kLngs} {r s f : Nat → Int32} {nb nt m : Nat} {p : oT}
theorem Rel.out (h : Rel I) (k1 : ∀ a j, ¬ (a = 4 ∧ j = 1) → a ≠ 5 → a ≠ 551 → ¬ (a = 540 ∧ (j = 6 ∨ j = 29)) → K a j = I a j) (hO : RelO K) : Rel K := by
  obtain ⟨hT, hE, hMM, hNu, hH, hSl, -, hNm⟩ := h
  exact ⟨hT.kp (fun x j y => k1 x j (by omega) (by omega) (by omega) (by omega)), ⟨by rw [k1 6 6 (by omega) (by omega) (by omega) (by omega), k1 540 18 (by omega) (by omega) (by omega) (by omega)]; exact hE.1, by rw [k1 6 7 (by omega) (by omega) (by omega) (by omega), k1 540 19 (by omega) (by omega) (by omega) (by omega)]; exact hE.2⟩, hMM.kp (fun x j y1 y2 => k1 x j (by omega) (by omega) (by omega) (by omega)) (fun k hk => k1 _ _ (by omega) (by omega) (by omega) (by omega)), fun m hm => (hNu m hm).kp (fun x j y1 y2 => k1 x j (by have := mks_ge hm; omega) (by have := mks_ge hm; omega) (by have := mks_sep hm; omega) (by have := mks_sep hm; omega)), hH.kp (fun x j y => k1 x j (by omega) (by omega) (by omega) (by omega)), hSl.kp (fun x j y => k1 x j (by omega) (by omega) (by omega) (by omega)), hO, hNm.kp (fun x j y => k1 x j (by omega) (by omega) (by omega) (by omega))⟩
end
