variable {Mb : SMem}
def cnA (r : Nat → Int32) (nt : Nat) : Nat → Nat → Int32 → Int32
  | 0, _, x => x
  | k + 1, i, x => cnA r nt k (i + 1) (x + kabs (tqr r nt i - tdO r i (kx (r (14 + 15 * i + 0))) 1 0))
section
variable {N : Nat} {I : kInts} {L : kLngs} {r s f : Nat → Int32} {nb nt m : Nat}
theorem cx_cnL (hm : m ∈ mks) (hR : RI r nb nt) (hM : RM I m r nb nt) (hN : 100 < N) (k : Nat) : ∀ (i w : Nat) (x : Int32), i + k = nb → k < w → F_X4_countContradictions_20 N (wm Mb I L) w m x (nI i) = some (cnA r nt k i x) := by
  have h5 := hR.nb5
  induction k with
  | zero =>
    intro i w x e hw
    obtain ⟨w, rfl⟩ : ∃ v, w = v + 1 := ⟨w - 1, by omega⟩
    unfold F_X4_countContradictions_20
    simp (disch := omega) only [wm_kR, wm_kt, wm_kn, wm_kin, wm_kL, wm_kI, wm_ksI, wm_ksL, wm_kJ, wm_ksJ, kg_t, kl_v, Option.bind_some, mm_k hm, hM.bc, hR.r7, nI_ltP]
    rw [if_neg (by omega)]
    rfl
  | succ k ih =>
    intro i w x e hw
    obtain ⟨w, rfl⟩ : ∃ v, w = v + 1 := ⟨w - 1, by omega⟩
    have hi : i < 5 := by omega
    have hb : i < nb := by omega
    obtain ⟨a, s', l, ha, -, -, ra, -⟩ := hR.b i hb
    have z1 := cx_tdO (Mb := Mb) (N := N) (L := L) hm hR hM hb ra (by omega) hN a 1 N 0 (by omega) (by omega) (by omega)
    have z2 := cx_wrong (Mb := Mb) (N := N) (L := L) hm hR hM hb ra (by omega) (2 * a + 1) (6 - a) N (by omega) (by omega) (by omega)
    rw [← pz_na (show a ≤ 6 by omega)] at z2
    rw [show nI 1 = 1 from rfl] at z1
    have h2 := ih (i + 1) w (x + kabs (tqr r nt i - tdO r i a 1 0)) (by omega) (by omega)
    unfold F_X4_countContradictions_20 F_X4_torqueByDistances F_X4_wrongSeats
    simp (disch := omega) only [wm_kR, wm_kt, wm_kn, wm_kin, wm_kL, wm_kI, wm_ksI, wm_ksL, wm_kJ, wm_ksJ, kg_t, kl_v, Option.bind_some, mm_k hm, hM.bc, hR.r7, nI_ltP, kin_b hm hi, kx_nI, bb_r hm hi, bb_k hm hi, cx_tq hm hi hR hM hN, z1, (hM.bb i hb).1, ra, z2, add0, nI_1]
    rw [if_pos (by omega)]
    show _ = some (cnA r nt k (i + 1) (x + kabs (tqr r nt i - tdO r i (kx (r (14 + 15 * i + 0))) 1 0)))
    rw [ra, kx_nI (by omega)]
    exact h2
end
