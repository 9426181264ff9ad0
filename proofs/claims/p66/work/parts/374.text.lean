variable {Mb : SMem}
section
variable {N : Nat} {I K : kInts} {L : kLngs} {n : Nat} {T : Nat → Nat} {r s f : Nat → Int32} {nb nt : Nat}
theorem num_not {k n : Nat} (hk : k < n) (hn : n < 1000) : ¬ (nI k < 0 ∨ nI n ≤ nI k) := by
  rw [nI_lt0 (show k < 2147483648 by omega), Int32.le_iff_lt_or_eq, nI_ltI (by omega) (by omega)]
  rintro (z | z | z)
  · exact z
  · omega
  · have := (nI_eq (by omega) (by omega)).mp z; omega
theorem mks_ge {m : Nat} (h : m ∈ mks) : 44 ≤ m := by
  revert h
  simp only [mks, List.mem_cons, List.not_mem_nil, or_false]
  omega
theorem Rel.txt (h : Rel I) (k1 : ∀ a j, ¬ (a = 2 ∧ j = 1) → a ≠ 3 → a ≠ 547 → ¬ (a = 540 ∧ (j = 6 ∨ j = 10)) → K a j = I a j) (hT : RelT K) : Rel K := by
  obtain ⟨-, hE, hMM, hNu, hH, hSl, hOu, hNm⟩ := h
  exact ⟨hT, ⟨by rw [k1 6 6 (by omega) (by omega) (by omega) (by omega), k1 540 18 (by omega) (by omega) (by omega) (by omega)]; exact hE.1, by rw [k1 6 7 (by omega) (by omega) (by omega) (by omega), k1 540 19 (by omega) (by omega) (by omega) (by omega)]; exact hE.2⟩, hMM.kp (fun x j y1 y2 => k1 x j (by omega) (by omega) (by omega) (by omega)) (fun k hk => k1 _ _ (by omega) (by omega) (by omega) (by omega)), fun m hm => (hNu m hm).kp (fun x j y1 y2 => k1 x j (by have := mks_sep hm; have := mks_ge hm; omega) (by have := mks_ge hm; omega) (by have := mks_sep hm; omega) (by have := mks_sep hm; omega)), hH.kp (fun x j y => k1 x j (by omega) (by omega) (by omega) (by omega)), hSl.kp (fun x j y => k1 x j (by omega) (by omega) (by omega) (by omega)), hOu.kp (fun x j y => k1 x j (by omega) (by omega) (by omega) (by omega)), hNm.kp (fun x j y => k1 x j (by omega) (by omega) (by omega) (by omega))⟩
def wnv (n : Nat) (T : Nat → Nat) : Int32 := if (1 ≤ n ∧ n ≤ 6 ∧ ∀ q, q < n → kd (T (0 + q)) = 1) then nI (wv T 0 n) else 0
end
