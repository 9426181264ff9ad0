variable {Mb : SMem}
section
variable {N : Nat} {I : kInts} {L : kLngs} {r s f : Nat → Int32} {nb nt m : Nat}
theorem cx_tdI (hm : m ∈ mks) (hR : RI r nb nt) (hM : RM I m r nb nt) {b a : Nat} (hb : b < nb) (ra : r (14 + 15 * b + 0) = nI a) (ha : a ≤ 6) (k4 : Nat → Nat → Int32 → Int32 → Option Int32) (i : Nat) (k : Nat) : ∀ (p w : Nat) (x : Int32), p + k = a + 1 → 1 ≤ p → k < w → F_X4_torqueByDistances_15 N (wm Mb I L) k4 w m (bd m b) x (nI i) (nI p) = k4 m (bd m b) (tdI r b k p x) (nI (i + 1)) := by
  have h5 := hR.nb5
  have e1 : I (bd m b) 1 = nI a := (hM.bb b hb).1.trans ra
  induction k with
  | zero =>
    intro p w x e h1 hw
    obtain ⟨w, rfl⟩ : ∃ v, w = v + 1 := ⟨w - 1, by omega⟩
    unfold F_X4_torqueByDistances_15
    simp (disch := omega) only [wm_kR, wm_kt, wm_kn, wm_kin, wm_kL, wm_kI, wm_ksI, wm_ksL, wm_kJ, wm_ksJ, kg_t, kl_v, Option.bind_some, bb_k hm (show b < 5 by omega), e1, nI_ltP, nI_1]
    rw [if_pos (by omega)]
    rfl
  | succ k ih =>
    intro p w x e h1 hw
    obtain ⟨w, rfl⟩ : ∃ v, w = v + 1 := ⟨w - 1, by omega⟩
    have y1 := cx_wOn (Mb := Mb) (N := N) (L := L) hm hR hM (q := 6 + p) hb (by omega) (by omega)
    have y2 := cx_wOn (Mb := Mb) (N := N) (L := L) hm hR hM (q := 6 - p) hb (by omega) (by omega)
    rw [← pz_a] at y1
    rw [← pz_na (by omega)] at y2
    have h2 := ih (p + 1) w (x + (wOn r b (6 + p) - wOn r b (6 - p))) (by omega) (by omega) (by omega)
    unfold F_X4_torqueByDistances_15
    simp (disch := omega) only [wm_kR, wm_kt, wm_kn, wm_kin, wm_kL, wm_kI, wm_ksI, wm_ksL, wm_kJ, wm_ksJ, kg_t, kl_v, Option.bind_some, bb_k hm (show b < 5 by omega), mm_k hm, e1, nI_ltP, y1, y2, nI_1]
    rw [if_neg (by omega)]
    exact h2
theorem cx_tdO (hm : m ∈ mks) (hR : RI r nb nt) (hM : RM I m r nb nt) {b a : Nat} (hb : b < nb) (ra : r (14 + 15 * b + 0) = nI a) (ha : a ≤ 6) (hN : 100 < N) (k : Nat) : ∀ (i w : Nat) (x : Int32), i + k = a + 1 → 1 ≤ i → k < w → F_X4_torqueByDistances_4 N (wm Mb I L) w m (bd m b) x (nI i) = some (tdO r b k i x) := by
  have h5 := hR.nb5
  have e1 : I (bd m b) 1 = nI a := (hM.bb b hb).1.trans ra
  induction k with
  | zero =>
    intro i w x e h1 hw
    obtain ⟨w, rfl⟩ : ∃ v, w = v + 1 := ⟨w - 1, by omega⟩
    unfold F_X4_torqueByDistances_4
    simp (disch := omega) only [wm_kR, wm_kt, wm_kn, wm_kin, wm_kL, wm_kI, wm_ksI, wm_ksL, wm_kJ, wm_ksJ, kg_t, kl_v, Option.bind_some, bb_k hm (show b < 5 by omega), e1, nI_ltP]
    rw [if_pos (by omega)]
    rfl
  | succ k ih =>
    intro i w x e h1 hw
    obtain ⟨w, rfl⟩ : ∃ v, w = v + 1 := ⟨w - 1, by omega⟩
    unfold F_X4_torqueByDistances_4
    simp (disch := omega) only [wm_kR, wm_kt, wm_kn, wm_kin, wm_kL, wm_kI, wm_ksI, wm_ksL, wm_kJ, wm_ksJ, kg_t, kl_v, Option.bind_some, bb_k hm (show b < 5 by omega), e1, nI_ltP]
    rw [if_neg (by omega), cx_tdI hm hR hM hb ra ha _ i (k + 1) i N x (by omega) h1 (by omega)]
    exact ih (i + 1) w _ (by omega) (by omega) (by omega)
theorem cx_wrong (hm : m ∈ mks) (hR : RI r nb nt) (hM : RM I m r nb nt) {b a : Nat} (hb : b < nb) (ra : r (14 + 15 * b + 0) = nI a) (ha : a ≤ 6) (k : Nat) : ∀ (q w : Nat), q + k = 7 + a → 6 - a ≤ q → k < w → F_X4_wrongSeats_8 N (wm Mb I L) w m (bd m b) 0 (pz q) = some 0 := by
  have h5 := hR.nb5
  have h24 := hR.nt24
  have e1 : I (bd m b) 1 = pz (6 + a) := ((hM.bb b hb).1.trans ra).trans (pz_a (a := a))
  induction k with
  | zero =>
    intro q w e h1 hw
    obtain ⟨w, rfl⟩ : ∃ v, w = v + 1 := ⟨w - 1, by omega⟩
    unfold F_X4_wrongSeats_8
    simp only [wm_kR, wm_kt, wm_kn, wm_kin, wm_kL, wm_kI, wm_ksI, wm_ksL, wm_kJ, wm_ksJ, kg_t, kl_v, Option.bind_some, bb_k hm (show b < 5 by omega), e1]
    rw [if_pos ((pz_lt (by omega) (by omega)).mpr (by omega))]
  | succ k ih =>
    intro q w e h1 hw
    obtain ⟨w, rfl⟩ : ∃ v, w = v + 1 := ⟨w - 1, by omega⟩
    have h2 := ih (q + 1) w (by omega) (by omega) (by omega)
    have ho := cx_own (Mb := Mb) (N := N) (I := I) (L := L) hm (show b < 5 by omega) (show q < 13 by omega)
    unfold F_X4_wrongSeats_8
    simp only [wm_kR, wm_kt, wm_kn, wm_kin, wm_kL, wm_kI, wm_ksI, wm_ksL, wm_kJ, wm_ksJ, kg_t, kl_v, Option.bind_some, bb_k hm (show b < 5 by omega), mm_k hm, e1, pz_s]
    rw [if_neg (fun y => by have := (pz_lt (by omega) (by omega)).mp y; omega), ho]
    by_cases c6 : q = 6
    · subst c6
      rw [(hM.bb b hb).2.2.2.2]
      simp only [Option.bind_some, cx_tn_out hm hR hM (x := -1) (Or.inl (by decide)), if_true]
      exact h2
    · rw [(hM.bb b hb).2.2.2.1 q (by omega) c6]
      rcases own_cases hR hb (show q < 13 by omega) c6 with c | ⟨t, ht, z1, z2, z3⟩
      · rw [c, show (0 : Int32) - 1 = -1 from rfl]
        simp only [Option.bind_some, cx_tn_out hm hR hM (x := -1) (Or.inl (by decide)), if_true]
        exact h2
      · rw [z2]
        obtain ⟨-, -, -, s1, s2, -⟩ := z3
        simp only [Option.bind_some, cx_tn_in hm hR hM ht, tr_ne0, if_false, tt_k hm (show t < 24 by omega), kg_t, (hM.tt t ht).2.2.2.2.1, (hM.tt t ht).2.2.2.2.2, s1, s2, hM.nu.1 b (show b < 5 by omega), if_true]
        exact h2
end
