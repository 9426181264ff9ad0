variable {Mb : SMem}
section
variable {N : Nat} {I : kInts} {L : kLngs} {n c : Nat} {T : Nat → Nat} {r s f : Nat → Int32} {nb nt : Nat}
theorem sh62 : kt Mb 457 14 = true ∧ kn Mb 457 = 2 := kt_of (Mb := Mb) 457 (by decide)
theorem cx_unfill (hN : 1000 < N) : F_X11_beginMarketOfText_57 N N (wm Mb I L) 1 0 = some (wm Mb (up (up I 457 0 0) 457 1 0) L) := by
  obtain ⟨w, rfl⟩ : ∃ v, N = v + 3 := ⟨N - 3, by omega⟩
  have hb : ((0 : Int32) == 0 || (0 : Int32) == 1) = true := rfl
  have k0 : kin Mb 457 14 0 = true := by rw [show (0 : Int32) = nI 0 from rfl]; exact kin_nI sh62.1 sh62.2 (by decide) (by decide)
  have k1 : kin Mb 457 14 1 = true := by rw [show (1 : Int32) = nI 1 from rfl]; exact kin_nI sh62.1 sh62.2 (by decide) (by decide)
  have x0 : kx 0 = 0 := by decide
  have x1 : kx 1 = 1 := by decide
  unfold F_X11_beginMarketOfText_57
  simp only [wm_kR, wm_kt, wm_kn, wm_kin, wm_kL, wm_kI, wm_ksI, wm_ksL, wm_kJ, wm_ksJ, kg_t, kl_v, Option.bind_some, sh_x.1, sh_x.2.2.2.2.2.2.2.2.2, sh62.1, sh62.2, k0, hb, Bool.and_self, x0]
  rw [if_pos (by decide)]
  unfold F_X11_beginMarketOfText_57
  simp only [show (0 : Int32) + 1 = 1 from rfl, wm_kR, wm_kt, wm_kn, wm_kin, wm_kL, wm_kI, wm_ksI, wm_ksL, wm_kJ, wm_ksJ, kg_t, kl_v, Option.bind_some, sh_x.1, sh_x.2.2.2.2.2.2.2.2.2, sh62.1, sh62.2, k1, hb, Bool.and_self, x1]
  rw [if_pos (by decide)]
  unfold F_X11_beginMarketOfText_57
  simp only [show (1 : Int32) + 1 = 2 from rfl, wm_kR, wm_kt, wm_kn, wm_kin, wm_kL, wm_kI, wm_ksI, wm_ksL, wm_kJ, wm_ksJ, kg_t, kl_v, Option.bind_some, sh_x.1, sh_x.2.2.2.2.2.2.2.2.2, sh62.1, sh62.2]
  rw [if_neg (by decide)]
theorem RelM.row (h : RelM I 44 541 0) : ∃ nb nt, RI (I 541) nb nt ∧ RM I 44 (I 541) nb nt := by
  obtain ⟨nb, nt, h1, h2⟩ := h
  rw [rw_0] at h1 h2
  exact ⟨nb, nt, h1, h2⟩
theorem RelM.of (h1 : RI (I 541) nb nt) (h2 : RM I 44 (I 541) nb nt) : RelM I 44 541 0 := ⟨nb, nt, by rw [rw_0]; exact h1, by rw [rw_0]; exact h2⟩
def ErC (I : kInts) (σ : sg) : Prop := match σ with
  | .inl _ => I 6 6 = 0 ∧ I 6 7 = -1
  | .inr x => I 6 6 = nI x.1 ∧ (1 ≤ x.1 ∧ x.1 ≤ 5) ∧ I 6 7 = nI x.2
theorem CS.er {σ : sg} (h : CS I n T c σ) : ErC I σ := by
  cases σ with
  | inl j => exact h.2.2.2
  | inr x => exact ⟨h.2.1, h.2.2.1, h.2.2.2.1⟩
theorem ErC.kp {I' : kInts} {σ : sg} (h : ErC I σ) (e : ∀ j, 5 < j → I' 6 j = I 6 j) : ErC I' σ := by
  cases σ with
  | inl j => exact ⟨(e _ (by decide)).trans h.1, (e _ (by decide)).trans h.2⟩
  | inr x => exact ⟨(e _ (by decide)).trans h.1, h.2.1, (e _ (by decide)).trans h.2.2⟩
theorem mks_far {m : Nat} (h : m ∈ mks) (h1 : m ≠ 44) (h2 : m ≠ 85) : 128 ≤ m := by
  revert h1 h2
  revert h
  simp only [mks, List.mem_cons, List.not_mem_nil, or_false]
  omega
theorem mks_sep {m : Nat} (h : m ∈ mks) : m + 41 ≤ 126 ∨ 128 ≤ m ∧ m + 41 ≤ 456 ∨ 458 ≤ m ∧ m + 41 ≤ 540 := by
  revert h
  simp only [mks, List.mem_cons, List.not_mem_nil, or_false]
  omega
end
