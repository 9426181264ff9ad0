variable {Mb : SMem}
section
variable {N : Nat} {I I' J K : kInts} {L L' : kLngs} {n c i j k d q nb nt dn : Nat} {T : Nat → Nat} {r : Nat → Int32}
theorem Rel.scr (h : Rel I) (k1 : ∀ a x, a ≠ 2 → a < 6 ∨ 9 < a → a < 10 ∨ 43 < a → ¬ (a = 540 ∧ (x = 6 ∨ 10 ≤ x ∧ x ≤ 25)) → a ≠ 548 → a ≠ 549 → a ≠ 550 → K a x = I a x) (k2 : K 2 1 = 0) (k3 : K 540 10 = 0) (k4 : K 6 6 = K 540 18) (k5 : K 6 7 = K 540 19) (k6 : ∀ i, i < 30 → nm2 K i) : Rel K := by
  obtain ⟨hT, hE, hMM, hNu, hH, hSl, hOu, hNm⟩ := h
  refine ⟨⟨0, fun _ => 1, ⟨by omega, fun _ => ⟨Nat.le_refl 1, show 1 ≤ 255 by decide⟩⟩, ⟨k2, fun k hk => absurd hk (Nat.not_lt_zero _)⟩, k3, fun k hk => absurd hk (Nat.not_lt_zero _)⟩, ⟨k4, k5⟩, hMM.kp (fun x j y1 y2 => k1 x j (by omega) (by omega) (by omega) (by omega) (by omega) (by omega) (by omega)) (fun k hk => k1 _ _ (by omega) (by omega) (by omega) (by omega) (by omega) (by omega) (by omega)), fun m hm => (hNu m hm).kp (fun x j y1 y2 => ?_), hH.kp (fun x j y => k1 x j (by omega) (by omega) (by omega) (by omega) (by omega) (by omega) (by omega)), hSl.kp (fun x j y => k1 x j (by omega) (by omega) (by omega) (by omega) (by omega) (by omega) (by omega)), hOu.kp (fun x j y => k1 x j (by omega) (by omega) (by omega) (by omega) (by omega) (by omega) (by omega)), trivial⟩
  have h1 := mks_sep hm
  have h2 : m = 44 ∨ m = 85 ∨ 126 < m := by
    by_cases y : m = 44
    · exact Or.inl y
    · by_cases z : m = 85
      · exact Or.inr (Or.inl z)
      · exact Or.inr (Or.inr (by have := mks_far hm y z; omega))
  exact k1 x j (by omega) (by omega) (by omega) (by omega) (by omega) (by omega) (by omega)
end
