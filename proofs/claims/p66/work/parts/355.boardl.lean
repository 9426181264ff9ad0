variable {Mb : SMem}
section
variable {N : Nat} {I : kInts} {L : kLngs} {n c : Nat} {T : Nat → Nat} {σ : sg} {r s : Nat → Int32} {nb nt : Nat}
theorem cx_readBoard {j : Nat} (hS : CS I n T c (.inl j)) (hk : tK n T j = 1) (hR : RI r nb nt) (hM : RM I 85 r nb nt) (hn : nb < 5) (hZ : ZS r nb) (hN : 1000 < N) : ∃ I', F_X7_readBoard N (wm Mb I L) 6 85 = some (wm Mb I' L) ∧ CS I' n T c (bo4 n T (j + 1)) ∧ (if okS (bo4 n T (j + 1)) = true then RM I' 85 (boX n T r nb (j + 1)) (nb + 1) nt else RM I' 85 r nb nt) ∧ EF I I' := by
  have hm : (85 : Nat) ∈ mks := by decide
  have h5 := hR.nb5
  have h24 := hR.nt24
  obtain ⟨I0, z1, z2, z3⟩ := cx_anyWord (Mb := Mb) (N := N) (L := L) hS
  rw [stp_0 (by simp [hk])] at z2
  obtain ⟨I1, a1, a2, a3⟩ := cx_number (Mb := Mb) (N := N) (L := L) z2 (lo := 1) (hh := 7) (x2 := 6) (by decide) (by decide) (by decide) hN
  obtain ⟨I2, b1, b2, b3⟩ := cx_number (Mb := Mb) (N := N) (L := L) a2 (lo := 1) (hh := 100) (x2 := 99) (by decide) (by decide) (by decide) hN
  obtain ⟨I3, d1, d2, d3⟩ := cx_number (Mb := Mb) (N := N) (L := L) b2 (lo := 0) (hh := 1000) (x2 := 999) (by decide) (by decide) (by decide) hN
  obtain ⟨I4, f1, f2, f3⟩ := cx_sg (Mb := Mb) (N := N) (L := L) d2 (ch := 59) (by decide)
  have hcf : CF I I4 := (((z3.trans a3).trans b3).trans d3).trans f3
  have M4 : RM I4 85 r nb nt := hM.cf h5 h24 hcf
  rw [show nI 1 = 1 from rfl] at a1 b1
  rw [show nI 0 = 0 from rfl] at d1
  rw [show nI 59 = 59 from rfl] at f1
  have hS4 : CS I4 n T c (bo4 n T (j + 1)) := f2
  unfold F_X7_readBoard
  simp only [wm_kR, wm_kt, wm_kn, wm_kin, wm_kL, wm_kI, wm_ksI, wm_ksL, wm_kJ, wm_ksJ, kg_t, kl_v, Option.bind_some, s6.1, z1, a1, b1, d1, f1, cx_failed]
  by_cases hok : okS (bo4 n T (j + 1)) = true
  · obtain ⟨o1, o2, o3, ⟨o4, o5, o6⟩, o7⟩ := ok_bo4 hok
    rw [o7] at hS4
    have v1 : nuV n T 1 7 (.inl (j + 1)) = nI (nuv n T (j + 1)) := nuV_0 o1
    have v2 : nuV n T 1 100 (stp n T (.inl (j + 1)) (cN n T 1 7)) = nI (nuv n T (j + 1 + 1)) := by
      show nuV n T 1 100 (bo1 n T (j + 1)) = _
      rw [o4, nuV_0 o2]
    have v3 : nuV n T 0 1000 (stp n T (stp n T (.inl (j + 1)) (cN n T 1 7)) (cN n T 1 100)) = nI (nuv n T (j + 1 + 2)) := by
      show nuV n T 0 1000 (bo2 n T (j + 1)) = _
      rw [o5, nuV_0 o3]
    obtain ⟨I5, g1, g2, g3⟩ := cx_addBoard (Mb := Mb) (N := N) (L := L) (a1 := nI (nuv n T (j + 1))) (a2 := nI (nuv n T (j + 1 + 1))) (a3 := nI (nuv n T (j + 1 + 2))) hm M4 hn h24 hR.r7 (fun q hq h6 => hZ _ (by have := @si_ge nb q; omega) (by have := @si_le nb q hq; omega)) (by omega)
    refine ⟨I5, ?_, ?_, ?_, hcf.e.trans g3.e⟩
    · simp only [hS4.ok, if_true, mm_k hm, kg_t, v1, v2, v3, g1, Option.bind_some]
    · rw [o7]; exact hS4.fm g3
    · rw [if_pos hok]; exact g2
  · have hz : ¬ I4 6 6 = 0 := by
      cases hs : bo4 n T (j + 1) with
      | inl j => rw [hs] at hok; exact absurd rfl hok
      | inr x => rw [hs] at hS4; exact CS.err hS4
    refine ⟨I4, ?_, hS4, ?_, hcf.e⟩
    · simp only [hz, if_false, if_neg one0]
    · rw [if_neg hok]; exact M4
end
