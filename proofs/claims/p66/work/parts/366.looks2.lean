variable {Mb : SMem}
section
variable {N : Nat} {I : kInts} {r s f : Nat → Int32} {nb nt : Nat}
theorem cx_hasEv {m : Nat} {L : kLngs} (hm : m ∈ mks) {e : Nat} (he : e ≤ 12) (h3 : I (ev m) 3 = nI e) (x : Int32) : F_X2_hasEvent N (wm Mb I L) (ev m) x = some (if x < 0 ∨ nI e ≤ x then 0 else 1) := by
  unfold F_X2_hasEvent
  rcases num_cases x (show e < 1000 by omega) with ⟨k, hk, rfl⟩ | hx
  · have h0 : ¬ (nI k < 0 ∨ nI e ≤ nI k) := by
      rw [nI_lt0 (show k < 2147483648 by omega), Int32.le_iff_lt_or_eq, nI_ltI (by omega) (by omega)]
      rintro (z | z | z)
      · exact z
      · omega
      · have := (nI_eq (by omega) (by omega)).mp z; omega
    have h12 : nI k < 12 := by rw [show (12 : Int32) = nI 12 from rfl, nI_ltI (by omega) (by omega)]; omega
    have hke : nI k < nI e := by rw [nI_ltI (by omega) (by omega)]; omega
    have hn0 : ¬ nI k < 0 := fun z => h0 (Or.inl z)
    rw [if_neg h0, if_neg hn0]
    simp only [wm_kR, wm_kt, wm_kn, wm_kin, wm_kL, wm_kI, wm_ksI, wm_ksL, wm_kJ, wm_ksJ, kg_t, kl_v, Option.bind_some, mm_ek hm, h3, if_pos hke, if_pos h12]
  · rw [if_pos hx]
    by_cases c : x < 0
    · rw [if_pos c]
    · rw [if_neg c]
      have : ¬ x < nI e := Int32.not_lt.mpr (hx.resolve_left c)
      simp only [wm_kR, wm_kt, wm_kn, wm_kin, wm_kL, wm_kI, wm_ksI, wm_ksL, wm_kJ, wm_ksJ, kg_t, kl_v, Option.bind_some, mm_ek hm, h3, if_neg this]
end
