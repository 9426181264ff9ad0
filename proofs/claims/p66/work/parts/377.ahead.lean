variable {Mb : SMem}
section
variable {N : Nat} {I K : kInts} {L : kLngs} {r s f : Nat → Int32} {nb nt : Nat}
theorem Rel.drf (h : Rel I) (k1 : ∀ a j, a < 85 ∨ 126 ≤ a ∧ a ≠ 541 ∧ a ≠ 542 ∧ a ≠ 546 ∧ ¬ (a = 540 ∧ j = 6) → K a j = I a j) (k2 : ∀ k, k < 293 → K 541 k = I 541 k) (k3 : Nu K 85) : Rel K := by
  obtain ⟨hT, hE, hMM, hNu, hH, hSl, hOu, hNm⟩ := h
  refine ⟨hT.kp (fun x j y => k1 x j (by omega)), ⟨by rw [k1 6 6 (by omega), k1 540 18 (by omega)]; exact hE.1, by rw [k1 6 7 (by omega), k1 540 19 (by omega)]; exact hE.2⟩, hMM.kp (fun x j y1 y2 => k1 x j (by omega)) (fun k hk => by rw [Nat.zero_add]; exact k2 k hk), fun m hm => ?_, hH.kp (fun x j y => k1 x j (by omega)), hSl.kp (fun x j y => k1 x j (by omega)), hOu.kp (fun x j y => k1 x j (by omega)), hNm.kp (fun x j y => k1 x j (by omega))⟩
  by_cases z : m = 85
  · rw [z]; exact k3
  · refine (hNu m hm).kp (fun x j y1 y2 => k1 x j ?_)
    have h1 := mks_sep hm
    by_cases w : m = 44
    · omega
    · have := mks_far hm w z
      omega
theorem cx_ahead (h : Rel I) (hR : RI (I 541) nb nt) (hM : RM I 44 (I 541) nb nt) {D : Nat} (hD : D ≤ 100) (hN : 1000 < N) : ∃ I1 I2, F_X4_copyFrom N (wm Mb I L) 85 44 = some (wm Mb I1 L) ∧ F_X4_passDays N (wm Mb I1 L) 85 (nI D) = some (dyN nb nt D (I 541) 12 - I 541 12, wm Mb I2 L) ∧ RM I2 85 (dyN nb nt D (I 541)) nb nt ∧ ∀ a j, a < 85 ∨ 126 ≤ a → I2 a j = I a j := by
  have m258 : (85 : Nat) ∈ mks := by decide
  obtain ⟨I1, a1, a2, a3, a4⟩ := cx_copy (Mb := Mb) (N := N) (I := I) (L := L) m258 m169 (by unfold ap; omega) (by omega) (h.2.2.2.1 _ m258) (h.2.2.2.1 _ m169)
  obtain ⟨I2, b1, b2, b3⟩ := cx_days (Mb := Mb) (N := N) (L := L) m258 (by omega) hR (a2 _ nb nt hR.nb5 hR.nt24 hM) hD
  exact ⟨I1, I2, a1, b1, b2, fun a j y => (b3 a j (by omega)).trans (a4 a j (by omega))⟩
end
