variable {Mb : SMem}
section
variable {N : Nat} {I I' J : kInts} {L L' : kLngs} {n c i j k d q nb nt : Nat} {T : Nat → Nat} {σ : sg}
theorem cx_atEnd (h : CS I n T c (.inl j)) : F_X9_atEnd N (wm Mb I L) 6 = some (if tK n T j = 4 then 1 else 0) := by
  have h1 := cx_at (N := N) (L := L) h 4 (by decide)
  rw [show nI 4 = 4 from rfl] at h1
  have h2 := @cx_failed N I L
  rw [if_pos h.ok] at h2
  unfold F_X9_atEnd
  by_cases z : tK n T j = 4
  · have e : qs (.inl j) (fun j => decide (tK n T j = 4)) = true := by unfold qs; simp [z]
    rw [if_pos e] at h1
    simp only [wm_kR, wm_kt, wm_kn, wm_kin, wm_kL, wm_kI, wm_ksI, wm_ksL, wm_kJ, wm_ksJ, kg_t, kl_v, Option.bind_some, s6.1, h1, h2, if_true, if_neg one0, z]
  · have e : ¬ qs (.inl j) (fun j => decide (tK n T j = 4)) = true := by unfold qs; simp [z]
    rw [if_neg e] at h1
    simp only [wm_kR, wm_kt, wm_kn, wm_kin, wm_kL, wm_kI, wm_ksI, wm_ksL, wm_kJ, wm_ksJ, kg_t, kl_v, Option.bind_some, s6.1, h1, h2, if_true, if_neg z]
theorem nxT_gt : j < nxT n T j := by unfold nxT; omega
end
