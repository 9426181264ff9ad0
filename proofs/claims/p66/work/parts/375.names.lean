variable {Mb : SMem}
section
variable {N : Nat} {I K : kInts} {L : kLngs} {n : Nat} {T : Nat → Nat} {r s f : Nat → Int32} {nb nt : Nat}
theorem wnv_0 (h : 1 ≤ n ∧ n ≤ 6 ∧ ∀ q, q < n → kd (T (0 + q)) = 1) : wnv n T = nI (wv T 0 n) ∧ ¬ wnv n T = 0 := by
  have e : wnv n T = nI (wv T 0 n) := if_pos h
  refine ⟨e, ?_⟩
  have hf : ∀ q, q < n → 1 ≤ T (0 + q) - 96 ∧ T (0 + q) - 96 ≤ 26 := fun q hq => by have := kd_1 (h.2.2 q hq); omega
  rw [e, wv_code (by omega)]
  have h1 := code_ge (f := fun q => T (0 + q) - 96) h.1 hf
  have h2 := code_30 (f := fun q => T (0 + q) - 96) h.2.1 hf
  exact nI_ne0 (by omega) (by omega)
theorem nmZ.v {v : Int64} {c : Int32} (h : nmZ v c) (h0 : ¬ c = 0) : nmV v c := by
  obtain ⟨n, f, a1, a2, a3, a4⟩ := h
  by_cases z : n = 0
  · subst z
    exact absurd a4 h0
  · exact ⟨n, f, ⟨by omega, a1⟩, a2, a3, a4⟩
theorem fnd_0 {m : Nat} (h : RMn I m r nt) : fnd r nt 0 = none := by
  cases hf : fnd r nt 0 with
  | none => rfl
  | some t =>
    have h1 := fnd_lt hf
    have h2 := (fndL_lt hf).2
    obtain ⟨n, f, a1, a2, -, a4⟩ := h t h1
    rw [h2] at a4
    have k1 := code_30 a1.2 a2
    have k2 := code_ge a1.1 a2
    exact absurd a4.symm (nI_ne0 (by omega) (by omega))
theorem cx_whole (h : Rel I) (hN : 1000 < N) : ∃ n T v, (okT n T ∧ I 2 1 = nI n ∧ I 540 10 = nI n ∧ ∀ k, k < n → I 547 k = nI (T k)) ∧ F_X8_nameBetween N (wm Mb I L) 2 0 (nI n) = some v ∧ nmZ v (wnv n T) := by
  obtain ⟨⟨n, T, hO, hT, h10, hb⟩, -⟩ := h
  have a1 := cx_between (Mb := Mb) (N := N) (I := I) (L := L) (p := 0) (l := n) hO hT (by omega) hN
  rw [Nat.zero_add] at a1
  refine ⟨n, T, _, ⟨hO, hT.1, h10, hb⟩, a1, ?_⟩
  by_cases b2 : 1 ≤ n ∧ n ≤ 6 ∧ ∀ q, q < n → kd (T (0 + q)) = 1
  · rw [if_pos b2, (wnv_0 b2).1]
    exact (read_nmV b2).z
  · rw [if_neg b2, show wnv n T = 0 from if_neg b2]
    exact nmZ_0
end
