/-! occupancy is a number -/
section
variable {N : Nat} {I : kInts} {L : kLngs}
theorem sf_ocv (h : Rel I) (L : kLngs) (hN : 100 < N) : ∃ a s, a < 61 ∧ s < 25 ∧ F_X11_occupancy N (wm Mb I L) 1 = some (ocV a s) := by
  obtain ⟨nb, nt, hR, hM⟩ := h.2.2.1.row
  have h5 := hR.nb5
  have h24 := hR.nt24
  have hA := ocA_le hR nb 0 0 (by omega)
  have hS := ocS_le (r := I 541) nt 0 0
  refine ⟨ocA (I 541) nb 0 0, ocS (I 541) nt 0 0, by omega, by omega, ?_⟩
  have z1 := cx_ocA (N := N) (L := L) m169 hR hM nb 0 N 0 (by omega) (by omega)
  have z2 := cx_ocS (N := N) (L := L) m169 hR hM nt 0 N 0 (by omega) (by omega)
  rw [show nI 0 = 0 from rfl] at z1 z2
  unfold F_X11_occupancy F_X4_seatCount F_X4_seatedTraders
  simp only [wm_kR, wm_kt, wm_kn, wm_kin, wm_kL, wm_kI, wm_ksI, wm_ksL, wm_kJ, wm_ksJ, kg_t, kl_v, Option.bind_some, x1_t.1, x1_t.2.1, mm_k m169, z1, z2]
  unfold ocV
  by_cases z : ocA (I 541) nb 0 0 = 0
  · rw [z, if_pos (show nI 0 = 0 from rfl), if_pos rfl]
  · rw [if_neg (nI_ne0 (by omega) (by omega)), if_neg z, fq_ok _ (by omega) _ (by omega) z, kg_t]
end
theorem oc_nn : ∀ a < 61, ∀ s < 25, decide (FP.f2d (ocV a s) &&& 0x7fffffffffffffff ≤ 0x7ff0000000000000) = true := by decide +kernel
