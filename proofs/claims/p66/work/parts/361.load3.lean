variable {Mb : SMem}
section
variable {N : Nat} {I : kInts} {L : kLngs} {n c : Nat} {T : Nat → Nat} {r s f : Nat → Int32} {nb nt : Nat}
theorem RI.eq9 (h : RI r nb nt) (e : eqR s r) : RI s nb nt := by
  have h1 : RI (setr s 9 (r 9)) nb nt := h.eqr (fun k hk => by
    by_cases z : k = 9
    · rw [z, setr_eq]
    · rw [setr_ne z]; exact e k hk z)
  have h2 := RI_10 h1 (k := 9) (by omega) (s 9)
  rwa [setr_setr, setr_same rfl] at h2
theorem tot_eq (h24 : nt ≤ 24) (e : eqR s r) : tot s nt = tot r nt := by
  unfold tot
  rw [e 5 (by decide) (by decide), sumN_congr (f := pu r) (fun i hi => by unfold pu; rw [e _ (by omega) (by omega)])]
end
