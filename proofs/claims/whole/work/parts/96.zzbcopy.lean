/-! the class alone, ahead of the reference: what is said over the shape of the whole memory, said over the class's cells (printed from the parts that stand) -/
def refC (a j : Nat) : Nat := if a ≤ 539 then refB a j else 0
def cellsC : List (Nat × Nat) := (List.range 539).map (fun k => cellAt (k + 1))
def Mc : kMem := (cellsC, fun _ _ => 0, refC, fun _ _ => 0)
theorem Mc1 : Mc.1 = cellsC := by
  unfold Mc
  with_reducible rfl
theorem cC {a : Nat} (h1 : 1 ≤ a) (h2 : a ≤ 539) : kcell Mc a = some (cellAt a) := by
  obtain ⟨k, rfl⟩ : ∃ k, a = k + 1 := ⟨a - 1, by omega⟩
  rw [kcell_s, Mc1]
  unfold cellsC
  rw [List.getElem?_map, List.getElem?_range (by omega)]
  exact Option.map_some _ _
theorem ktB_q {a t n : Nat} (h : (1 ≤ a ∧ a ≤ 539) ∧ cellAt a = (t, n)) : kt Mc a t = true ∧ kn Mc a = n := by
  unfold kt kn
  rw [cC h.1.1 h.1.2, h.2]
  simp
theorem sh_m0_q : ∀ m ∈ mks, (((1 ≤ m ∧ m ≤ 539) ∧ cellAt m = (4, 16)) ∧ ((1 ≤ refC m 13 ∧ refC m 13 ≤ 539) ∧ cellAt (refC m 13) = (16, 5)) ∧ ((1 ≤ refC m 14 ∧ refC m 14 ≤ 539) ∧ cellAt (refC m 14) = (17, 24)) ∧ ((1 ≤ ev m ∧ ev m ≤ 539) ∧ cellAt (ev m) = (2, 4))) ∧ refC m 15 = ev m := by decide +kernel
theorem sh_m_q : ∀ m ∈ mks, kt Mc m 4 = true ∧ kt Mc (kR Mc m 13) 16 = true ∧ kn Mc (kR Mc m 13) = 5 ∧ kt Mc (kR Mc m 14) 17 = true ∧ kn Mc (kR Mc m 14) = 24 ∧ kR Mc m 15 = ev m ∧ kt Mc (ev m) 2 = true := fun m hm => by
  obtain ⟨⟨h1, h2, h3, h4⟩, h5⟩ := sh_m0_q m hm
  exact ⟨(ktB_q h1).1, (ktB_q h2).1, (ktB_q h2).2, (ktB_q h3).1, (ktB_q h3).2, h5, (ktB_q h4).1⟩
theorem sh_b0_q : ∀ m ∈ mks, ∀ b, b < 5 → (refC (refC m 13) b = bd m b ∧ refC (bd m b) 4 = ow m b) ∧ ((1 ≤ bd m b ∧ bd m b ≤ 539) ∧ cellAt (bd m b) = (0, 5)) ∧ ((1 ≤ ow m b ∧ ow m b ≤ 539) ∧ cellAt (ow m b) = (13, 13)) := by decide +kernel
theorem sh_b_q : ∀ m ∈ mks, ∀ b, b < 5 → kR Mc (kR Mc m 13) b = bd m b ∧ kt Mc (bd m b) 0 = true ∧ kR Mc (bd m b) 4 = ow m b ∧ kt Mc (ow m b) 13 = true ∧ kn Mc (ow m b) = 13 := fun m hm b hb => by
  obtain ⟨⟨h1, h2⟩, h3, h4⟩ := sh_b0_q m hm b hb
  exact ⟨h1, (ktB_q h3).1, h2, (ktB_q h4).1, (ktB_q h4).2⟩
theorem sh_t0_q : ∀ m ∈ mks, ∀ t, t < 24 → refC (refC m 14) t = tr m t ∧ ((1 ≤ tr m t ∧ tr m t ≤ 539) ∧ cellAt (tr m t) = (10, 8)) := by decide +kernel
theorem sh_t_q : ∀ m ∈ mks, ∀ t, t < 24 → kR Mc (kR Mc m 14) t = tr m t ∧ kt Mc (tr m t) 10 = true := fun m hm t ht => by
  obtain ⟨h1, h4⟩ := sh_t0_q m hm t ht
  exact ⟨h1, (ktB_q h4).1⟩
theorem sh_e0_q : ∀ m ∈ mks, ∀ k, k < 3 → refC (ev m) k = ek m k ∧ ((1 ≤ ek m k ∧ ek m k ≤ 539) ∧ cellAt (ek m k) = (13, 12)) := by decide +kernel
theorem sh_e_q : ∀ m ∈ mks, ∀ k, k < 3 → kR Mc (ev m) k = ek m k ∧ kt Mc (ek m k) 13 = true ∧ kn Mc (ek m k) = 12 := fun m hm k hk => by
  obtain ⟨h1, h2⟩ := sh_e0_q m hm k hk
  exact ⟨h1, (ktB_q h2).1, (ktB_q h2).2⟩
theorem kt_of_q {t n : Nat} (a : Nat) (h : ((decide (1 ≤ a) && decide (a ≤ 539)) && ((cellAt a).1 == t && (cellAt a).2 == n)) = true) : kt Mc a t = true ∧ kn Mc a = n := by
  simp only [Bool.and_eq_true, decide_eq_true_eq, beq_iff_eq] at h
  exact ktB_q ⟨h.1, Prod.ext h.2.1 h.2.2⟩
theorem sh_x_q : kt Mc 1 11 = true ∧ kR Mc 1 0 = 2 ∧ kR Mc 1 1 = 4 ∧ kR Mc 1 2 = 6 ∧ kR Mc 1 3 = 10 ∧ kR Mc 1 4 = 44 ∧ kR Mc 1 5 = 85 ∧ kR Mc 1 6 = 126 ∧ kR Mc 1 7 = 456 ∧ kR Mc 1 8 = 457 := ⟨(kt_of_q (n := 9) 1 (by decide)).1, rfl, rfl, rfl, rfl, rfl, rfl, rfl, rfl, rfl⟩
theorem sh_a_q : (∀ a ∈ [3, 5], kt Mc a 13 = true ∧ kn Mc a = 800) ∧ (∀ a ∈ [7, 8, 9], kt Mc a 13 = true ∧ kn Mc a = 801) ∧ True :=
  ⟨fun a ha => kt_of_q a ((show ∀ a ∈ [3, 5], ((decide (1 ≤ a) && decide (a ≤ 539)) && ((cellAt a).1 == 13 && (cellAt a).2 == 800)) = true by decide) a ha), fun a ha => kt_of_q a ((show ∀ a ∈ [7, 8, 9], ((decide (1 ≤ a) && decide (a ≤ 539)) && ((cellAt a).1 == 13 && (cellAt a).2 == 801)) = true by decide) a ha), trivial⟩
section
variable {N : Nat} {I : kInts} {L : kLngs} {r : Nat → Int32} {nb nt m b t q : Nat}
theorem mm_k_q (hm : m ∈ mks) : kt Mc m 4 = true := (sh_m_q m hm).1
end
section
variable {N : Nat} {I : kInts} {L : kLngs} {r : Nat → Int32} {nb nt m b t q : Nat}
theorem mm_bs_q (hm : m ∈ mks) : kt Mc (kR Mc m 13) 16 = true := (sh_m_q m hm).2.1
end
section
variable {N : Nat} {I : kInts} {L : kLngs} {r : Nat → Int32} {nb nt m b t q : Nat}
theorem mm_bn_q (hm : m ∈ mks) : kn Mc (kR Mc m 13) = 5 := (sh_m_q m hm).2.2.1
end
section
variable {N : Nat} {I : kInts} {L : kLngs} {r : Nat → Int32} {nb nt m b t q : Nat}
theorem mm_ts_q (hm : m ∈ mks) : kt Mc (kR Mc m 14) 17 = true := (sh_m_q m hm).2.2.2.1
end
section
variable {N : Nat} {I : kInts} {L : kLngs} {r : Nat → Int32} {nb nt m b t q : Nat}
theorem mm_tn_q (hm : m ∈ mks) : kn Mc (kR Mc m 14) = 24 := (sh_m_q m hm).2.2.2.2.1
end
section
variable {N : Nat} {I : kInts} {L : kLngs} {r : Nat → Int32} {nb nt m b t q : Nat}
theorem mm_e_q (hm : m ∈ mks) : kR Mc m 15 = ev m := (sh_m_q m hm).2.2.2.2.2.1
end
section
variable {N : Nat} {I : kInts} {L : kLngs} {r : Nat → Int32} {nb nt m b t q : Nat}
theorem mm_ek_q (hm : m ∈ mks) : kt Mc (ev m) 2 = true := (sh_m_q m hm).2.2.2.2.2.2
end
section
variable {N : Nat} {I : kInts} {L : kLngs} {r : Nat → Int32} {nb nt m b t q : Nat}
theorem bb_r_q (hm : m ∈ mks) (hb : b < 5) : kR Mc (kR Mc m 13) b = bd m b := (sh_b_q m hm b hb).1
end
section
variable {N : Nat} {I : kInts} {L : kLngs} {r : Nat → Int32} {nb nt m b t q : Nat}
theorem bb_k_q (hm : m ∈ mks) (hb : b < 5) : kt Mc (bd m b) 0 = true := (sh_b_q m hm b hb).2.1
end
section
variable {N : Nat} {I : kInts} {L : kLngs} {r : Nat → Int32} {nb nt m b t q : Nat}
theorem bb_o_q (hm : m ∈ mks) (hb : b < 5) : kR Mc (bd m b) 4 = ow m b := (sh_b_q m hm b hb).2.2.1
end
section
variable {N : Nat} {I : kInts} {L : kLngs} {r : Nat → Int32} {nb nt m b t q : Nat}
theorem bb_ok_q (hm : m ∈ mks) (hb : b < 5) : kt Mc (ow m b) 13 = true := (sh_b_q m hm b hb).2.2.2.1
end
section
variable {N : Nat} {I : kInts} {L : kLngs} {r : Nat → Int32} {nb nt m b t q : Nat}
theorem bb_on_q (hm : m ∈ mks) (hb : b < 5) : kn Mc (ow m b) = 13 := (sh_b_q m hm b hb).2.2.2.2
end
section
variable {N : Nat} {I : kInts} {L : kLngs} {r : Nat → Int32} {nb nt m b t q : Nat}
theorem tt_r_q (hm : m ∈ mks) (ht : t < 24) : kR Mc (kR Mc m 14) t = tr m t := (sh_t_q m hm t ht).1
end
section
variable {N : Nat} {I : kInts} {L : kLngs} {r : Nat → Int32} {nb nt m b t q : Nat}
theorem tt_k_q (hm : m ∈ mks) (ht : t < 24) : kt Mc (tr m t) 10 = true := (sh_t_q m hm t ht).2
end
section
variable {N : Nat} {I : kInts} {L : kLngs} {r : Nat → Int32} {nb nt m b t q : Nat}
theorem kin_b_q (hm : m ∈ mks) (hb : b < 5) : kin Mc (kR Mc m 13) 16 (nI b) = true := kin_nI (mm_bs_q hm) (mm_bn_q hm) hb (by decide)
end
section
variable {N : Nat} {I : kInts} {L : kLngs} {r : Nat → Int32} {nb nt m b t q : Nat}
theorem kin_t_q (hm : m ∈ mks) (ht : t < 24) : kin Mc (kR Mc m 14) 17 (nI t) = true := kin_nI (mm_ts_q hm) (mm_tn_q hm) ht (by decide)
end
section
variable {N : Nat} {I : kInts} {L : kLngs} {r : Nat → Int32} {nb nt m b t q : Nat}
theorem kin_o_q (hm : m ∈ mks) (hb : b < 5) (hq : q < 13) : kin Mc (ow m b) 13 (nI q) = true := kin_nI (bb_ok_q hm hb) (bb_on_q hm hb) hq (by decide)
end
section
variable {N : Nat} {I : kInts} {L : kLngs} {r : Nat → Int32} {nb nt m b t q : Nat}
theorem cx_own_q (hm : m ∈ mks) (hb : b < 5) (hq : q < 13) : F_X0_ownerAt N (wm Mc I L) (bd m b) (pz q) = some (I (ow m b) q) := by
  unfold F_X0_ownerAt
  simp (disch := omega) only [wm_kR, wm_kt, wm_kn, wm_kin, wm_kL, wm_kI, wm_ksI, wm_ksL, wm_kJ, wm_ksJ, kg_t, kl_v, Option.bind_some, bb_r_q hm hb, bb_k_q hm hb, bb_o_q hm hb, bb_ok_q hm hb, bb_on_q hm hb, kin_o_q hm hb hq, pz_p6, nI_lt0, ofN13, nI_ltP, hq, if_true, if_false, kx_nI]
end
section
variable {N : Nat} {I : kInts} {L : kLngs} {r : Nat → Int32} {nb nt m b t q : Nat}
theorem cx_setOwn_q (hm : m ∈ mks) (hb : b < 5) (hq : q < 13) (v : Int32) : F_X0_setOwner N (wm Mc I L) (bd m b) (pz q) v = some (wm Mc (up I (ow m b) q v) L) := by
  unfold F_X0_setOwner
  simp (disch := omega) only [wm_kR, wm_kt, wm_kn, wm_kin, wm_kL, wm_kI, wm_ksI, wm_ksL, wm_kJ, wm_ksJ, kg_t, kl_v, Option.bind_some, bb_r_q hm hb, bb_k_q hm hb, bb_o_q hm hb, bb_ok_q hm hb, bb_on_q hm hb, kin_o_q hm hb hq, pz_p6, nI_lt0, ofN13, nI_ltP, hq, if_true, if_false, kx_nI]
end
section
variable {N : Nat} {I : kInts} {L : kLngs} {r : Nat → Int32} {nb nt m b t q : Nat}
theorem cx_hasSeat_q (hm : m ∈ mks) (hb : b < 5) {a : Nat} (ha : I (bd m b) 1 = nI a) (x : Int32) : F_X0_hasSeat N (wm Mc I L) (bd m b) x = some (if x ≠ 0 ∧ ¬ x < -nI a ∧ ¬ nI a < x then 1 else 0) := by
  unfold F_X0_hasSeat
  simp only [wm_kR, wm_kt, wm_kn, wm_kin, wm_kL, wm_kI, wm_ksI, wm_ksL, wm_kJ, wm_ksJ, kg_t, kl_v, Option.bind_some, bb_r_q hm hb, bb_k_q hm hb, bb_o_q hm hb, bb_ok_q hm hb, bb_on_q hm hb, ha]
  by_cases h1 : x = 0
  · simp [h1]
  by_cases h2 : x < -nI a
  · simp [h1, h2]
  by_cases h3 : nI a < x
  · simp [h1, h2, h3]
  simp [h1, h2, h3]
end
section
variable {N : Nat} {I : kInts} {L : kLngs} {r f : Nat → Int32} {nb nt m b t q : Nat}
theorem cx_bn_in_q (hm : m ∈ mks) (hR : RI r nb nt) (hi : RM I m r nb nt) (hb : b < nb) : F_X4_boardNumbered N (wm Mc I L) m (nI b) = some (bd m b) := by
  have h5 := hR.nb5
  have hb' : b < 5 := by omega
  unfold F_X4_boardNumbered
  simp (disch := omega) only [wm_kR, wm_kt, wm_kn, wm_kin, wm_kL, wm_kI, wm_ksI, wm_ksL, wm_kJ, wm_ksJ, kg_t, kl_v, Option.bind_some, mm_k_q hm, mm_bs_q hm, mm_bn_q hm, mm_ts_q hm, mm_tn_q hm, mm_e_q hm, mm_ek_q hm, bb_r_q hm hb', kin_b_q hm hb', hi.bc, hR.r7, nI_lt0, ofN5, nI_ltP, kx_nI, hb, hb', if_true, if_false]
end
section
variable {N : Nat} {I : kInts} {L : kLngs} {r f : Nat → Int32} {nb nt m b t q : Nat}
theorem cx_seated_q (hm : m ∈ mks) (h24 : nt ≤ 24) (hi : RM I m r nb nt) (ht : t < nt) : F_X10_isSeated N (wm Mc I L) (tr m t) = some (if r (89 + 7 * t + 5) = -1 then 0 else 1) := by
  have ht' : t < 24 := by omega
  unfold F_X10_isSeated
  simp only [wm_kR, wm_kt, wm_kn, wm_kin, wm_kL, wm_kI, wm_ksI, wm_ksL, wm_kJ, wm_ksJ, kg_t, kl_v, Option.bind_some, tt_k_q hm ht', (hi.tt t ht).2.2.2.2.1]
  split <;> rfl
end
section
variable {N : Nat} {I : kInts} {L : kLngs} {r f : Nat → Int32} {nb nt m b t q : Nat}
theorem cx_free_q (hm : m ∈ mks) (hR : RI r nb nt) (hi : RM I m r nb nt) (hb : b < nb) {a : Nat} (ha : r (14 + 15 * b + 0) = nI a) (ha6 : a ≤ 6) (h1 : 6 - a ≤ q) (h2 : q ≤ 6 + a) (h6 : q ≠ 6) : F_X0_isFree N (wm Mc I L) (bd m b) (pz q) = some (if r (si b q) = 0 then 1 else 0) := by
  have h5 := hR.nb5
  have hb' : b < 5 := by omega
  obtain ⟨e1, -, -, e4, -⟩ := hi.bb b hb
  unfold F_X0_isFree
  simp only [wm_kR, wm_kt, wm_kn, wm_kin, wm_kL, wm_kI, wm_ksI, wm_ksL, wm_kJ, wm_ksJ, kg_t, kl_v, Option.bind_some, bb_k_q hm hb', cx_hasSeat_q hm hb' (e1.trans ha), if_pos (pos_in ha6 h1 h2 h6), if_neg one0, cx_own_q hm hb' (show q < 13 by omega), e4 q (by omega) h6]
  have e : (r (si b q) - 1 = -1) = (r (si b q) = 0) := by apply propext; constructor <;> intro z <;> grind
  simp only [e]
  split <;> rfl
end
section
variable {N : Nat} {I : kInts} {L : kLngs} {r f : Nat → Int32} {nb nt m : Nat}
theorem cx_seat_q (hm : m ∈ mks) (h5 : nb ≤ 5) (h24 : nt ≤ 24) (hi : RM I m r nb nt) {t b q : Nat} (ht : t < 24) (hb : b < 5) (hq : q < 13) (h6 : q ≠ 6) : ∃ I', F_X4_seat N (wm Mc I L) m (tr m t) (bd m b) (pz q) = some (wm Mc I' L) ∧ RM I' m (siR r t b q) nb nt ∧ FR m I I' := by
  have q1 : tr m t = m + 17 + t := rfl
  have q2 : ow m b = m + 8 + 2 * b := rfl
  have hRM := RM_o (RM_t6 (RM_t5 hi h5 h24 ht (nI b)) h5 h24 ht (pz q)) h5 h24 hb hq h6 (v := nI (t + 1)) (w := nI t) (nI_pred t).symm
  rw [siR_alt hb hq] at hRM
  refine ⟨_, ?_, hRM, ((FR.rfl'.up (by omega) (by omega)).up (by omega) (by omega)).up (by omega) (by omega)⟩
  unfold F_X4_seat
  have e0 : up (up I (tr m t) 6 (nI b)) (tr m t) 7 (pz q) (tr m t) 0 = nI t := by
    rw [up_ne (Or.inr (by decide)), up_ne (Or.inr (by decide))]
    exact hi.nu.2.1 t ht
  simp only [wm_kR, wm_kt, wm_kn, wm_kin, wm_kL, wm_kI, wm_ksI, wm_ksL, wm_kJ, wm_ksJ, kg_t, kl_v, Option.bind_some, bb_k_q hm hb, tt_k_q hm ht, hi.nu.1 b hb, e0, cx_setOwn_q hm hb hq]
end
section
variable {N : Nat} {I : kInts} {L : kLngs} {r f : Nat → Int32} {nb nt a c : Nat}
theorem kcpOk_n_q {a0 a1 n : Nat} (h0 : kt Mc a0 13 = true) (h1 : kn Mc a0 = n) (h2 : kt Mc a1 13 = true) (h3 : kn Mc a1 = n) (hn : n < 2147483648) : kcpOk (wm Mc I L) a0 0 a1 0 (nI n) = true := by
  unfold kcpOk
  have e1 : (0 : Int32).toNatClampNeg = 0 := by decide
  have e2 : (nI n).toNatClampNeg = n := kx_nI hn
  have e3 := nI_0le hn
  simp only [wm_kt, wm_kn, h0, h1, h2, h3, e1, e2, Nat.zero_add, Nat.le_refl, decide_true, Bool.and_true, Bool.true_and]
  simp [e3]
end
section
variable {N : Nat} {I : kInts} {L : kLngs} {r f : Nat → Int32} {nb nt a c : Nat}
theorem cx_bcopy_q (ha : a ∈ mks) (hc : c ∈ mks) (hd : ap a c) {b : Nat} (hb : b < 5) : ∃ I', F_X0_copyFrom N (wm Mc I L) (bd a b) (bd c b) = some (wm Mc I' L) ∧ BC I I' a c b ∧ (∀ x j, x ≠ bd a b → x ≠ ow a b → I' x j = I x j) := by
  have d1 : bd c b ≠ bd a b := by unfold bd; unfold ap at hd; omega
  have d2 : ow c b ≠ bd a b := by unfold bd ow; unfold ap at hd; omega
  have d3 : bd a b ≠ ow a b := by unfold bd ow; omega
  have d4 : ow a b ≠ bd a b := d3.symm
  refine ⟨cpy (up (up (up I (bd a b) 1 (I (bd c b) 1)) (bd a b) 2 (I (bd c b) 2)) (bd a b) 3 (I (bd c b) 3)) (ow c b) 0 (ow a b) 0 13, ?_, ⟨?_, ⟨?_, ?_, ?_⟩, fun q hq => ?_⟩, fun x j h1 h2 => ?_⟩
  · unfold F_X0_copyFrom
    have x1 : ∀ v, up I (bd a b) 1 v (bd c b) 2 = I (bd c b) 2 := fun v => up_ne (Or.inl d1)
    have x2 : ∀ v w, up (up I (bd a b) 1 v) (bd a b) 2 w (bd c b) 3 = I (bd c b) 3 := fun v w => (up_ne (Or.inl d1)).trans (up_ne (Or.inl d1))
    simp only [wm_kR, wm_kt, wm_kn, wm_kin, wm_kL, wm_kI, wm_ksI, wm_ksL, wm_kJ, wm_ksJ, kg_t, kl_v, Option.bind_some, bb_k_q ha hb, bb_k_q hc hb, bb_o_q ha hb, bb_o_q hc hb, bb_ok_q ha hb, bb_on_q ha hb, x1, x2, ofNnI, kcpOk_n_q (bb_ok_q hc hb) (bb_on_q hc hb) (bb_ok_q ha hb) (bb_on_q ha hb) (show 13 < 2147483648 by decide), wm_kcp, kx_0', kx_nI (show 13 < 2147483648 by decide)]
  · rw [cpy_out (Or.inl d3), up_ne (Or.inr (by decide)), up_ne (Or.inr (by decide)), up_ne (Or.inr (by decide))]
  · rw [cpy_out (Or.inl d3), up_ne (Or.inr (by decide)), up_ne (Or.inr (by decide)), up_eq]
  · rw [cpy_out (Or.inl d3), up_ne (Or.inr (by decide)), up_eq]
  · rw [cpy_out (Or.inl d3), up_eq]
  · rw [cpy_in (by omega), up_ne (Or.inl d2), up_ne (Or.inl d2), up_ne (Or.inl d2)]
    congr 1
    omega
  · rw [cpy_out (Or.inl h2), up_ne (Or.inl h1), up_ne (Or.inl h1), up_ne (Or.inl h1)]
end
section
variable {N : Nat} {I : kInts} {L : kLngs} {r f : Nat → Int32} {nb nt a c : Nat}
theorem cx_tcopy_q (ha : a ∈ mks) (hc : c ∈ mks) (hd : ap a c) {t : Nat} (ht : t < 24) (hbo : I (tr c t) 5 = 0 ∨ I (tr c t) 5 = 1) : ∃ I', F_X10_copyFrom N (wm Mc I L) (tr a t) (tr c t) = some (wm Mc I' L) ∧ TC I I' a c t ∧ (∀ x j, x ≠ tr a t → I' x j = I x j) := by
  have e1 : tr a t = a + 17 + t := rfl
  have e4 : tr c t = c + 17 + t := rfl
  unfold ap at hd
  have x0 : ∀ j, upJ I (tr a t) 1 (jn I (tr c t) 1) (tr c t) j = I (tr c t) j := fun j => upJ_ne (Or.inl (by omega))
  have xs : ∀ (J : kInts) (p : Nat) (v : Int32) (j : Nat), up J (tr a t) p v (tr c t) j = J (tr c t) j := fun J p v j => up_ne (Or.inl (by omega))
  have hb : ((I (tr c t) 5 == 0 || I (tr c t) 5 == 1)) = true := by rcases hbo with z | z <;> rw [z] <;> rfl
  refine ⟨up (up (up (up (up (up (upJ I (tr a t) 1 (jn I (tr c t) 1)) (tr a t) 2 (I (tr c t) 2)) (tr a t) 3 (I (tr c t) 3)) (tr a t) 4 (I (tr c t) 4)) (tr a t) 5 (I (tr c t) 5)) (tr a t) 6 (I (tr c t) 6)) (tr a t) 7 (I (tr c t) 7), ?_, ⟨?_, fun f h2 h8 => ?_, ?_⟩, fun x j h1 => ?_⟩
  · unfold F_X10_copyFrom
    simp only [wm_kR, wm_kt, wm_kn, wm_kin, wm_kL, wm_kI, wm_ksI, wm_ksL, wm_kJ, wm_ksJ, kg_t, kl_v, Option.bind_some, tt_k_q ha ht, tt_k_q hc ht, x0, xs, hb, Bool.and_self]
  · rw [up_ne (Or.inr (by decide)), up_ne (Or.inr (by decide)), up_ne (Or.inr (by decide)), up_ne (Or.inr (by decide)), up_ne (Or.inr (by decide)), up_ne (Or.inr (by decide)), upJ_ne (Or.inr (by decide))]
  · have : f = 2 ∨ f = 3 ∨ f = 4 ∨ f = 5 ∨ f = 6 ∨ f = 7 := by omega
    rcases this with rfl | rfl | rfl | rfl | rfl | rfl
    · rw [up_ne (Or.inr (by decide)), up_ne (Or.inr (by decide)), up_ne (Or.inr (by decide)), up_ne (Or.inr (by decide)), up_ne (Or.inr (by decide)), up_eq]
    · rw [up_ne (Or.inr (by decide)), up_ne (Or.inr (by decide)), up_ne (Or.inr (by decide)), up_ne (Or.inr (by decide)), up_eq]
    · rw [up_ne (Or.inr (by decide)), up_ne (Or.inr (by decide)), up_ne (Or.inr (by decide)), up_eq]
    · rw [up_ne (Or.inr (by decide)), up_ne (Or.inr (by decide)), up_eq]
    · rw [up_ne (Or.inr (by decide)), up_eq]
    · rw [up_eq]
  · rw [jn_up (Or.inr (by decide)), jn_up (Or.inr (by decide)), jn_up (Or.inr (by decide)), jn_up (Or.inr (by decide)), jn_up (Or.inr (by decide)), jn_up (Or.inr (by decide)), jn_eq]
  · rw [up_ne (Or.inl h1), up_ne (Or.inl h1), up_ne (Or.inl h1), up_ne (Or.inl h1), up_ne (Or.inl h1), up_ne (Or.inl h1), upJ_ne (Or.inl h1)]
end
section
variable {N : Nat} {I : kInts} {L : kLngs} {r f : Nat → Int32} {nb nt a c : Nat}
theorem cx_ecopy_q (ha : a ∈ mks) (hc : c ∈ mks) (hd : ap a c) : ∃ I', F_X2_copyFrom N (wm Mc I L) (ev a) (ev c) = some (wm Mc I' L) ∧ EC I I' a c ∧ (∀ x j, x < a + 3 ∨ a + 6 < x → I' x j = I x j) := by
  have e0 : ev a = a + 3 := rfl
  have e1 : ev c = c + 3 := rfl
  have f0 : ∀ k, ek a k = a + 4 + k := fun _ => rfl
  have f1 : ∀ k, ek c k = c + 4 + k := fun _ => rfl
  have g0 := f0 0
  have g1 := f0 1
  have g2 := f0 2
  have k0 := f1 0
  have k1 := f1 1
  have k2 := f1 2
  unfold ap at hd
  have A0 := sh_e_q a ha 0 (by decide)
  have A1 := sh_e_q a ha 1 (by decide)
  have A2 := sh_e_q a ha 2 (by decide)
  have C0 := sh_e_q c hc 0 (by decide)
  have C1 := sh_e_q c hc 1 (by decide)
  have C2 := sh_e_q c hc 2 (by decide)
  refine ⟨cpy (cpy (cpy (up I (ev a) 3 (I (ev c) 3)) (ek c 0) 0 (ek a 0) 0 12) (ek c 1) 0 (ek a 1) 0 12) (ek c 2) 0 (ek a 2) 0 12, ?_, ⟨?_, fun k hk j hj => ?_⟩, fun x j h1 => ?_⟩
  · unfold F_X2_copyFrom
    simp only [wm_kR, wm_kt, wm_kn, wm_kin, wm_kL, wm_kI, wm_ksI, wm_ksL, wm_kJ, wm_ksJ, kg_t, kl_v, Option.bind_some, mm_ek_q ha, mm_ek_q hc, A0.1, A1.1, A2.1, C0.1, C1.1, C2.1, A0.2.1, A1.2.1, A2.2.1, A0.2.2, A1.2.2, A2.2.2, ofNnI, kcpOk_n_q C0.2.1 C0.2.2 A0.2.1 A0.2.2 (show 12 < 2147483648 by decide), kcpOk_n_q C1.2.1 C1.2.2 A1.2.1 A1.2.2 (show 12 < 2147483648 by decide), kcpOk_n_q C2.2.1 C2.2.2 A2.2.1 A2.2.2 (show 12 < 2147483648 by decide), wm_kcp, kx_0', kx_nI (show 12 < 2147483648 by decide)]
  · rw [cpy_out (Or.inl (by omega)), cpy_out (Or.inl (by omega)), cpy_out (Or.inl (by omega)), up_eq]
  · have : k = 0 ∨ k = 1 ∨ k = 2 := by omega
    rcases this with rfl | rfl | rfl
    · rw [cpy_out (Or.inl (by omega)), cpy_out (Or.inl (by omega)), cpy_in (by omega), up_ne (Or.inl (by omega))]
      congr 1
      omega
    · rw [cpy_out (Or.inl (by omega)), cpy_in (by omega), cpy_out (Or.inl (by omega)), up_ne (Or.inl (by omega))]
      congr 1
      omega
    · rw [cpy_in (by omega), cpy_out (Or.inl (by omega)), cpy_out (Or.inl (by omega)), up_ne (Or.inl (by omega))]
      congr 1
      omega
  · rw [cpy_out (Or.inl (by omega)), cpy_out (Or.inl (by omega)), cpy_out (Or.inl (by omega)), up_ne (Or.inl (by omega))]
end
section
variable {N : Nat} {I : kInts} {L : kLngs} {r f : Nat → Int32} {nb nt a c : Nat}
theorem cx_c138_q (ha : a ∈ mks) (hc : c ∈ mks) (hd : ap a c) : ∀ (k i n : Nat) (I : kInts), (∀ t, t < 24 → I (tr c t) 5 = 0 ∨ I (tr c t) 5 = 1) → i + k = 24 → k < n → ∃ I', F_X4_copyFrom_138 N n (wm Mc I L) a c (nI i) = some (wm Mc I' L) ∧ (∀ t, i ≤ t → t < 24 → TC I I' a c t) ∧ EC I I' a c ∧ (∀ x j, x < a + 3 ∨ a + 6 < x ∧ x < a + 17 + i ∨ a + 41 ≤ x → I' x j = I x j)
  | k, i, 0, I, _, _, h => absurd h (Nat.not_lt_zero _)
  | 0, i, n + 1, I, hbo, e, _ => by
    obtain ⟨I', a1, a2, a3⟩ := cx_ecopy_q (N := N) (I := I) (L := L) ha hc hd
    refine ⟨I', ?_, fun t h1 h2 => by omega, a2, fun x j h => a3 x j (by omega)⟩
    unfold F_X4_copyFrom_138
    simp (disch := omega) only [wm_kR, wm_kt, wm_kn, wm_kin, wm_kL, wm_kI, wm_ksI, wm_ksL, wm_kJ, wm_ksJ, kg_t, kl_v, Option.bind_some, mm_k_q ha, mm_k_q hc, mm_ts_q ha, mm_tn_q ha, ofNnI, nI_ltP, mm_e_q ha, mm_e_q hc, mm_ek_q ha, a1]
    rw [if_neg (by omega)]
  | k + 1, i, n + 1, I, hbo, e, hn => by
    have ht : i < 24 := by omega
    obtain ⟨I1, a1, a2, a3⟩ := cx_tcopy_q (N := N) (I := I) (L := L) ha hc hd ht (hbo i ht)
    have hda := hd
    unfold ap at hda
    have e1 : tr a i = a + 17 + i := rfl
    have hc1 : ∀ x j, c ≤ x → x < c + 41 → I1 x j = I x j := fun x j h1 h2 => a3 x j (by omega)
    obtain ⟨I2, b1, b2, b3, b4⟩ := cx_c138_q ha hc hd k (i + 1) n I1 (fun t ht => by rw [hc1 _ _ (by unfold tr; omega) (by unfold tr; omega)]; exact hbo t ht) (by omega) (by omega)
    refine ⟨I2, ?_, fun t h1 h2 => ?_, ⟨b3.1.trans (hc1 _ _ (by unfold ev; omega) (by unfold ev; omega)), fun q hq j hj => (b3.2 q hq j hj).trans (hc1 _ _ (by unfold ek; omega) (by unfold ek; omega))⟩, fun x j h => (b4 x j (by omega)).trans (a3 x j (by omega))⟩
    · unfold F_X4_copyFrom_138
      simp (disch := omega) only [wm_kR, wm_kt, wm_kn, wm_kin, wm_kL, wm_kI, wm_ksI, wm_ksL, wm_kJ, wm_ksJ, kg_t, kl_v, Option.bind_some, mm_k_q ha, mm_k_q hc, mm_ts_q ha, mm_tn_q ha, ofNnI, nI_ltP, kin_t_q ha ht, kin_t_q hc ht, kx_nI, tt_r_q ha ht, tt_r_q hc ht, tt_k_q ha ht, a1, nI_1]
      rw [if_pos ht]
      exact b1
    · by_cases z : t = i
      · subst z
        obtain ⟨c1, c2, c3⟩ := a2
        exact ⟨(b4 _ _ (by omega)).trans c1, fun f h2 h8 => (b4 _ _ (by omega)).trans (c2 f h2 h8), (jn_cg (fun j _ => b4 _ _ (by omega))).trans c3⟩
      · obtain ⟨c1, c2, c3⟩ := b2 t (by omega) h2
        exact ⟨c1.trans (a3 _ _ (by unfold tr; omega)), fun f h2 h8 => (c2 f h2 h8).trans (hc1 _ _ (by unfold tr; omega) (by unfold tr; omega)), c3.trans (jn_cg (fun j _ => hc1 _ _ (by unfold tr; omega) (by unfold tr; omega)))⟩
end
section
variable {N : Nat} {I : kInts} {L : kLngs} {r f : Nat → Int32} {nb nt a c : Nat}
theorem cx_c106_q (ha : a ∈ mks) (hc : c ∈ mks) (hd : ap a c) (hN : 100 < N) : ∀ (k i n : Nat) (I : kInts), (∀ t, t < 24 → I (tr c t) 5 = 0 ∨ I (tr c t) 5 = 1) → i + k = 5 → k < n → ∃ I', F_X4_copyFrom_106 N n (wm Mc I L) a c (nI i) = some (wm Mc I' L) ∧ (∀ b, i ≤ b → b < 5 → BC I I' a c b) ∧ (∀ t, t < 24 → TC I I' a c t) ∧ EC I I' a c ∧ (∀ x j, x < a + 3 ∨ a + 6 < x ∧ x < a + 7 + 2 * i ∨ a + 41 ≤ x → I' x j = I x j)
  | k, i, 0, I, _, _, h => absurd h (Nat.not_lt_zero _)
  | 0, i, n + 1, I, hbo, e, _ => by
    obtain ⟨I', a1, a2, a3, a4⟩ := cx_c138_q (N := N) (L := L) ha hc hd 24 0 N I hbo (by omega) (by omega)
    refine ⟨I', ?_, fun b h1 h2 => by omega, fun t ht => a2 t (Nat.zero_le _) ht, a3, fun x j h => a4 x j (by omega)⟩
    unfold F_X4_copyFrom_106
    simp (disch := omega) only [wm_kR, wm_kt, wm_kn, wm_kin, wm_kL, wm_kI, wm_ksI, wm_ksL, wm_kJ, wm_ksJ, kg_t, kl_v, Option.bind_some, mm_k_q ha, mm_k_q hc, mm_bs_q ha, mm_bn_q ha, ofNnI, nI_ltP]
    rw [if_neg (by omega)]
    exact a1
  | k + 1, i, n + 1, I, hbo, e, hn => by
    have hb : i < 5 := by omega
    obtain ⟨I1, a1, a2, a3⟩ := cx_bcopy_q (N := N) (I := I) (L := L) ha hc hd hb
    have hda := hd
    unfold ap at hda
    have e1 : bd a i = a + 7 + 2 * i := rfl
    have e2 : ow a i = a + 8 + 2 * i := rfl
    have hc1 : ∀ x j, c ≤ x → x < c + 41 → I1 x j = I x j := fun x j h1 h2 => a3 x j (by omega) (by omega)
    obtain ⟨I2, b1, b2, b3, b4, b5⟩ := cx_c106_q ha hc hd hN k (i + 1) n I1 (fun t ht => by rw [hc1 _ _ (by unfold tr; omega) (by unfold tr; omega)]; exact hbo t ht) (by omega) (by omega)
    refine ⟨I2, ?_, fun b h1 h2 => ?_, fun t ht => ?_, ⟨b4.1.trans (hc1 _ _ (by unfold ev; omega) (by unfold ev; omega)), fun q hq j hj => (b4.2 q hq j hj).trans (hc1 _ _ (by unfold ek; omega) (by unfold ek; omega))⟩, fun x j h => (b5 x j (by omega)).trans (a3 x j (by omega) (by omega))⟩
    · unfold F_X4_copyFrom_106
      simp (disch := omega) only [wm_kR, wm_kt, wm_kn, wm_kin, wm_kL, wm_kI, wm_ksI, wm_ksL, wm_kJ, wm_ksJ, kg_t, kl_v, Option.bind_some, mm_k_q ha, mm_k_q hc, mm_bs_q ha, mm_bn_q ha, ofNnI, nI_ltP, kin_b_q ha hb, kin_b_q hc hb, kx_nI, bb_r_q ha hb, bb_r_q hc hb, bb_k_q ha hb, a1, nI_1]
      rw [if_pos hb]
      exact b1
    · by_cases z : b = i
      · subst z
        obtain ⟨c1, ⟨c2, c3, c4⟩, c5⟩ := a2
        exact ⟨(b5 _ _ (by omega)).trans c1, ⟨(b5 _ _ (by omega)).trans c2, (b5 _ _ (by omega)).trans c3, (b5 _ _ (by omega)).trans c4⟩, fun q hq => (b5 _ _ (by omega)).trans (c5 q hq)⟩
      · obtain ⟨c1, ⟨c2, c3, c4⟩, c5⟩ := b2 b (by omega) h2
        exact ⟨c1.trans (a3 _ _ (by unfold bd; omega) (by unfold bd; omega)), ⟨c2.trans (hc1 _ _ (by unfold bd; omega) (by unfold bd; omega)), c3.trans (hc1 _ _ (by unfold bd; omega) (by unfold bd; omega)), c4.trans (hc1 _ _ (by unfold bd; omega) (by unfold bd; omega))⟩, fun q hq => (c5 q hq).trans (hc1 _ _ (by unfold ow; omega) (by unfold ow; omega))⟩
    · obtain ⟨c1, c2, c3⟩ := b3 t ht
      exact ⟨c1.trans (a3 _ _ (by unfold tr bd; omega) (by unfold tr ow; omega)), fun f h2 h8 => (c2 f h2 h8).trans (hc1 _ _ (by unfold tr; omega) (by unfold tr; omega)), c3.trans (jn_cg (fun j _ => hc1 _ _ (by unfold tr; omega) (by unfold tr; omega)))⟩
end
section
variable {N : Nat} {I : kInts} {L : kLngs} {r f : Nat → Int32} {nb nt a c : Nat}
theorem cx_copy_q (ha : a ∈ mks) (hc : c ∈ mks) (hd : ap a c) (hN : 100 < N) (hna : Nu I a) (hnc : Nu I c) : ∃ I', F_X4_copyFrom N (wm Mc I L) a c = some (wm Mc I' L) ∧ (∀ r nb nt, nb ≤ 5 → nt ≤ 24 → RM I c r nb nt → RM I' a r nb nt) ∧ Nu I' a ∧ FR a I I' := by
  have hda := hd
  unfold ap at hda
  have e13 : ∃ J, (up (up (up (up (up (up (up (up (up (up (up (up (up I a 0 (I c 0)) a 1 (I c 1)) a 2 (I c 2)) a 3 (I c 3)) a 4 (I c 4)) a 5 (I c 5)) a 6 (I c 6)) a 7 (I c 7)) a 8 (I c 8)) a 9 (I c 9)) a 10 (I c 10)) a 11 (I c 11)) a 12 (I c 12)) = J ∧ (∀ j, j < 13 → J a j = I c j) ∧ (∀ x j, x ≠ a → J x j = I x j) := by
    refine ⟨_, rfl, fun j hj => ?_, fun x j hx => ?_⟩
    · have : j = 0 ∨ j = 1 ∨ j = 2 ∨ j = 3 ∨ j = 4 ∨ j = 5 ∨ j = 6 ∨ j = 7 ∨ j = 8 ∨ j = 9 ∨ j = 10 ∨ j = 11 ∨ j = 12 := by omega
      rcases this with rfl | rfl | rfl | rfl | rfl | rfl | rfl | rfl | rfl | rfl | rfl | rfl | rfl <;> simp [up]
    · simp only [up_ne (Or.inl hx)]
  obtain ⟨J, hJ, j1, j2⟩ := e13
  obtain ⟨I', a1, a2, a3, a4, a5⟩ := cx_c106_q (N := N) (L := L) ha hc hd hN 5 0 N J (fun t ht => by rw [j2 _ _ (by unfold tr; omega)]; exact hnc.2.2 t ht) (by omega) (by omega)
  have hc1 : ∀ x j, c ≤ x → x < c + 41 → J x j = I x j := fun x j h1 h2 => j2 x j (by omega)
  have hNu : Nu I' a := by
    refine ⟨fun b hb => ?_, fun t ht => ?_, fun t ht => ?_⟩
    · rw [(a2 b (Nat.zero_le _) hb).1, j2 _ _ (by unfold bd; omega)]; exact hna.1 b hb
    · rw [(a3 t ht).1, j2 _ _ (by unfold tr; omega)]; exact hna.2.1 t ht
    · rw [(a3 t ht).2.1 5 (by decide) (by decide), hc1 _ _ (by unfold tr; omega) (by unfold tr; omega)]; exact hnc.2.2 t ht
  refine ⟨I', ?_, fun r nb nt h5 h24 h => ⟨hNu, ?_, fun b hb => ?_, fun t ht => ?_, fun t ht => ?_, ?_⟩, hNu, fun x j hx => (a5 x j (by omega)).trans (j2 x j (by omega))⟩
  · have x : ∀ (K : kInts) p v j, up K a p v c j = K c j := fun K p v j => up_ne (Or.inl (by omega))
    unfold F_X4_copyFrom
    simp only [wm_kR, wm_kt, wm_kn, wm_kin, wm_kL, wm_kI, wm_ksI, wm_ksL, wm_kJ, wm_ksJ, kg_t, kl_v, Option.bind_some, mm_k_q ha, mm_k_q hc, x, hJ]
    exact a1
  · have e : ∀ j, j < 13 → I' a j = I c j := fun j hj => (a5 a j (by omega)).trans (j1 j hj)
    unfold RMg
    rw [e 0 (by decide), e 1 (by decide), e 2 (by decide), e 3 (by decide), e 4 (by decide), e 5 (by decide), e 6 (by decide), e 7 (by decide), e 8 (by decide), e 9 (by decide), e 10 (by decide), e 11 (by decide), e 12 (by decide)]
    exact h.g
  · obtain ⟨c1, ⟨c2, c3, c4⟩, c5⟩ := a2 b (Nat.zero_le _) (by omega)
    have hh := hc1 (bd c b)
    have ho := hc1 (ow c b)
    rw [c2, c3, c4, c5 6 (by decide), hh _ (by unfold bd; omega) (by unfold bd; omega), hh _ (by unfold bd; omega) (by unfold bd; omega), hh _ (by unfold bd; omega) (by unfold bd; omega), ho _ (by unfold ow; omega) (by unfold ow; omega)]
    obtain ⟨d1, d2, d3, d4, d5⟩ := h.bb b hb
    exact ⟨d1, d2, d3, fun q hq h6 => by rw [c5 q hq, ho _ (by unfold ow; omega) (by unfold ow; omega)]; exact d4 q hq h6, d5⟩
  · have hh := fun f h2 h8 => ((a3 t (by omega)).2.1 f h2 h8).trans (hc1 (tr c t) f (by unfold tr; omega) (by unfold tr; omega))
    rw [hh 2 (by decide) (by decide), hh 3 (by decide) (by decide), hh 4 (by decide) (by decide), hh 5 (by decide) (by decide), hh 6 (by decide) (by decide), hh 7 (by decide) (by decide)]
    exact h.tt t ht
  · rw [(a3 t (by omega)).2.2, jn_cg (fun j _ => hc1 _ _ (by unfold tr; omega) (by unfold tr; omega))]
    exact h.n t ht
  · obtain ⟨h1, h2⟩ := h.e
    refine ⟨(a4.1.trans (hc1 _ _ (by unfold ev; omega) (by unfold ev; omega))).trans h1, fun e he h13 k hk => ?_⟩
    rw [a4.2 0 (by decide) k (by omega), a4.2 1 (by decide) k (by omega), a4.2 2 (by decide) k (by omega), hc1 _ _ (by unfold ek; omega) (by unfold ek; omega), hc1 _ _ (by unfold ek; omega) (by unfold ek; omega), hc1 _ _ (by unfold ek; omega) (by unfold ek; omega)]
    exact h2 e he h13 k hk
end
section
variable {N : Nat} {I : kInts} {L : kLngs} {r f : Nat → Int32} {nb nt m a b a2 b2 : Nat}
theorem cx_namedL_q (hm : m ∈ mks) {v : Int64} {c : Int32} (hq : nmZ v c) (h24 : nt ≤ 24) (h8 : r 8 = nI nt) (htc : I m 12 = r 8) (hRn : RMn I m r nt) : ∀ (k i z : Nat), i + k = nt → k < z → F_X4_traderNamed_2 N (wm Mc I L) z m v (nI i) = some (cOf m (fndL r c k i))
  | k, i, 0, _, h => absurd h (Nat.not_lt_zero _)
  | 0, i, z + 1, e, _ => by
    unfold F_X4_traderNamed_2
    simp (disch := omega) only [wm_kR, wm_kt, wm_kn, wm_kin, wm_kL, wm_kI, wm_ksI, wm_ksL, wm_kJ, wm_ksJ, kg_t, kl_v, Option.bind_some, mm_k_q hm, mm_bs_q hm, mm_bn_q hm, mm_ts_q hm, mm_tn_q hm, mm_e_q hm, mm_ek_q hm, htc, h8, nI_ltP]
    rw [if_neg (by omega)]
    rfl
  | k + 1, i, z + 1, e, hz => by
    have hi : i < nt := by omega
    have ht : i < 24 := by omega
    have ih := cx_namedL_q hm hq h24 h8 htc hRn k (i + 1) z (by omega) (by omega)
    unfold F_X4_traderNamed_2 fndL
    simp (disch := omega) only [wm_kR, wm_kt, wm_kn, wm_kin, wm_kL, wm_kI, wm_ksI, wm_ksL, wm_kJ, wm_ksJ, kg_t, kl_v, Option.bind_some, mm_k_q hm, mm_bs_q hm, mm_bn_q hm, mm_ts_q hm, mm_tn_q hm, mm_e_q hm, mm_ek_q hm, tt_r_q hm ht, tt_k_q hm ht, htc, h8, nI_ltP, kin_t_q hm ht, kx_nI, lgc0, (hRn i hi).z.eq hq, nI_1]
    rw [if_pos hi]
    by_cases c1 : r (89 + 7 * i + 0) = c
    · simp only [if_pos c1]
      rfl
    · simp only [if_neg c1]
      exact ih
end
section
variable {N : Nat} {I : kInts} {L : kLngs} {r f : Nat → Int32} {nb nt m a b a2 b2 : Nat}
theorem cx_named_q (hm : m ∈ mks) {v : Int64} {c : Int32} (hq : nmZ v c) (h24 : nt ≤ 24) (h8 : r 8 = nI nt) (htc : I m 12 = r 8) (hRn : RMn I m r nt) (hN : 100 < N) : F_X4_traderNamed N (wm Mc I L) m v = some (cOf m (fnd r nt c)) := by
  unfold F_X4_traderNamed
  exact cx_namedL_q hm hq h24 h8 htc hRn nt 0 N (by omega) (by omega)
end
section
variable {N : Nat} {I : kInts} {L : kLngs} {n : Nat} {T : Nat → Nat}
theorem s6_q : kt Mc 6 9 = true ∧ kR Mc 6 0 = 2 ∧ kR Mc 6 1 = 7 ∧ kR Mc 6 2 = 8 ∧ kR Mc 6 3 = 9 := ⟨(kt_of_q (n := 8) 6 (by decide)).1, rfl, rfl, rfl, rfl⟩
end
section
variable {N : Nat} {I : kInts} {L : kLngs} {n : Nat} {T : Nat → Nat}
theorem s2_q : kt Mc 2 8 = true ∧ kR Mc 2 0 = 3 := ⟨(kt_of_q (n := 2) 2 (by decide)).1, rfl⟩
end
section
variable {N : Nat} {I : kInts} {L : kLngs} {n : Nat} {T : Nat → Nat}
theorem s3_q : kt Mc 3 13 = true ∧ kn Mc 3 = 800 := sh_a_q.1 3 (by decide)
end
section
variable {N : Nat} {I : kInts} {L : kLngs} {n : Nat} {T : Nat → Nat}
theorem s7_q : kt Mc 7 13 = true ∧ kn Mc 7 = 801 := sh_a_q.2.1 7 (by decide)
end
section
variable {N : Nat} {I : kInts} {L : kLngs} {n : Nat} {T : Nat → Nat}
theorem s8_q : kt Mc 8 13 = true ∧ kn Mc 8 = 801 := sh_a_q.2.1 8 (by decide)
end
section
variable {N : Nat} {I : kInts} {L : kLngs} {n : Nat} {T : Nat → Nat}
theorem s9_q : kt Mc 9 13 = true ∧ kn Mc 9 = 801 := sh_a_q.2.1 9 (by decide)
end
section
variable {N : Nat} {I : kInts} {L : kLngs} {n : Nat} {T : Nat → Nat}
theorem kin_3_q {i : Nat} (h : i < 800) : kin Mc 3 13 (nI i) = true := kin_nI s3_q.1 s3_q.2 h (by decide)
end
section
variable {N : Nat} {I : kInts} {L : kLngs} {n : Nat} {T : Nat → Nat}
theorem kin_7_q {i : Nat} (h : i < 801) : kin Mc 7 13 (nI i) = true := kin_nI s7_q.1 s7_q.2 h (by decide)
end
section
variable {N : Nat} {I : kInts} {L : kLngs} {n : Nat} {T : Nat → Nat}
theorem kin_8_q {i : Nat} (h : i < 801) : kin Mc 8 13 (nI i) = true := kin_nI s8_q.1 s8_q.2 h (by decide)
end
section
variable {N : Nat} {I : kInts} {L : kLngs} {n : Nat} {T : Nat → Nat}
theorem kin_9_q {i : Nat} (h : i < 801) : kin Mc 9 13 (nI i) = true := kin_nI s9_q.1 s9_q.2 h (by decide)
end
section
variable {N : Nat} {I : kInts} {L : kLngs} {n : Nat} {T : Nat → Nat}
theorem cx_byte_q (hT : CT I n T) (h800 : n ≤ 800) {i : Nat} (hi : i < n) : F_X8_byteAt N (wm Mc I L) 2 (nI i) = some (nI (T i)) := by
  unfold F_X8_byteAt
  simp (disch := omega) only [wm_kR, wm_kt, wm_kn, wm_kin, wm_kL, wm_kI, wm_ksI, wm_ksL, wm_kJ, wm_ksJ, kg_t, kl_v, Option.bind_some, s2_q.1, s2_q.2, s3_q.1, s3_q.2, hT.1, ofNnI, nI_lt0, nI_ltP, if_false, kin_3_q, kx_nI, hT.2 i hi]
  rw [if_pos hi, if_pos (by omega)]
end
section
variable {N : Nat} {I : kInts} {L : kLngs} {n : Nat} {T : Nat → Nat}
theorem cx_add9_q {c : Nat} (h : I 6 4 = nI c) (hc : c ≤ 800) (x y z : Int32) : F_X9_add N (wm Mc I L) 6 x y z = some (wm Mc (up (up (up (up I 7 c x) 8 c y) 9 c z) 6 4 (nI (c + 1))) L) := by
  have e1 : up I 7 c x 6 4 = nI c := (up_ne (Or.inl (by decide))).trans h
  have e2 : up (up I 7 c x) 8 c y 6 4 = nI c := (up_ne (Or.inl (by decide))).trans e1
  have e3 : up (up (up I 7 c x) 8 c y) 9 c z 6 4 = nI c := (up_ne (Or.inl (by decide))).trans e2
  unfold F_X9_add
  simp (disch := omega) only [wm_kR, wm_kt, wm_kn, wm_kin, wm_kL, wm_kI, wm_ksI, wm_ksL, wm_kJ, wm_ksJ, kg_t, kl_v, Option.bind_some, s6_q.1, s6_q.2.1, s6_q.2.2.1, s6_q.2.2.2.1, s6_q.2.2.2.2, s7_q.1, s7_q.2, h, e1, e2, e3, ofNnI, nI_ltP, kin_7_q, kin_8_q, kin_9_q, kx_nI, nI_1]
  rw [if_pos (by omega)]
end
section
variable {N : Nat} {I : kInts} {L : kLngs} {n : Nat} {T : Nat → Nat}
theorem cx_beginL_q (hO : okT n T) (k : Nat) : ∀ (i z c pv : Nat) (I : kInts), CT I n T → TI I n T i c pv → pv < 4 → i + k = n → k < z → ∃ I' c', F_X9_begin_24 N z (wm Mc I L) 6 (nI pv) (nI i) = some (wm Mc I' L) ∧ TA I' n T c' ∧ (∀ a j, a < 6 ∨ 9 < a ∨ a = 6 ∧ j ≠ 4 → I' a j = I a j) := by
  obtain ⟨h800, hB⟩ := hO
  induction k with
  | zero =>
    intro i z c pv I hT hI hpv e hz
    cases z with
    | zero => omega
    | succ z =>
      obtain ⟨g1, g2, g3, g4⟩ := hI
      have hc : tS n T c = n := by
        rcases g4 with ⟨-, -, g6⟩ | ⟨g5, d, g6, g7, g8, g9⟩
        · have h1 : n ≤ sk n T i := by have := sk_ge (n := n) (T := T) (p := i); omega
          have h2 := tS_le (n := n) (T := T) c
          show sk n T (tP n T c) = n
          unfold tS at h2
          omega
        · have h1 : n ≤ tP n T c := by rw [g9]; have := runs_ge (n := n) (T := T) (k := pv) (p := i); omega
          have h2 := sk_ge (n := n) (T := T) (p := tP n T c)
          have h3 := tS_le (n := n) (T := T) c
          unfold tS at h3 ⊢
          omega
      have hk : tK n T c = 4 := tK_4 (by omega)
      have hp := (tP_4 hk).1
      refine ⟨up (up (up (up I 7 c (nI 4)) 8 c (nI n)) 9 c (nI n)) 6 4 (nI (c + 1)), c, ?_, ⟨up_eq, by omega, hk, fun j hj => (g3 j hj).1, fun j hj => ?_⟩, fun a j h => ?_⟩
      · unfold F_X9_begin_24
        simp (disch := omega) only [wm_kR, wm_kt, wm_kn, wm_kin, wm_kL, wm_kI, wm_ksI, wm_ksL, wm_kJ, wm_ksJ, kg_t, kl_v, Option.bind_some, s6_q.1, s6_q.2.1, s2_q.1, hT.1, nI_ltP, cx_add9_q g1 (show c ≤ 800 by omega)]
        rw [if_neg (by omega)]
        rfl
      · by_cases z : j = c
        · subst z
          rw [up_ne (Or.inl (by decide)), up_ne (Or.inl (by decide)), up_ne (Or.inl (by decide)), up_eq, up_ne (Or.inl (by decide)), up_ne (Or.inl (by decide)), up_eq, up_ne (Or.inl (by decide)), up_eq, hk, hc, hp]
          exact ⟨rfl, rfl, rfl⟩
        · rw [up_ne (Or.inl (by decide)), up_ne (Or.inl (by decide)), up_ne (Or.inl (by decide)), up_ne (Or.inr z), up_ne (Or.inl (by decide)), up_ne (Or.inl (by decide)), up_ne (Or.inr z), up_ne (Or.inl (by decide)), up_ne (Or.inl (by decide)), up_ne (Or.inr z), up_ne (Or.inl (by decide)), up_ne (Or.inl (by decide))]
          refine ⟨(g3 j (by omega)).2.1, (g3 j (by omega)).2.2, ?_⟩
          rcases g4 with ⟨-, g5, -⟩ | ⟨g5, d, g6, g7, g8, g9⟩
          · exact g5 j (by omega)
          · by_cases y : j = d
            · subst y
              rw [g8, ← g6, g9, runs_stop (by omega)]
            · exact g7 j (by omega)
      · rw [up_ne (by omega), up_ne (by omega), up_ne (by omega), up_ne (by omega)]
  | succ k ih =>
    intro i z c pv I hT hI hpv e hz
    cases z with
    | zero => omega
    | succ z =>
      have hi : i < n := by omega
      have hb := hB i
      have hkl := kd_lt (T i)
      -- one more token, from a closed place
      have step : ∀ I2 : kInts, CT I2 n T → I2 6 4 = nI c → c ≤ i → (∀ j, j < c → tK n T j ≠ 4 ∧ I2 7 j = nI (tK n T j) ∧ I2 8 j = nI (tS n T j)) → (∀ j, j < c → I2 9 j = nI (tP n T (j + 1))) → sk n T (tP n T c) = sk n T i → ∃ I' c', F_X9_begin_72 N (fun M a0 x1 x2 => F_X9_begin_24 N z M a0 x1 x2) (wm Mc I2 L) 6 (nI i) (nI (kd (T i))) = some (wm Mc I' L) ∧ TA I' n T c' ∧ (∀ a j, a < 6 ∨ 9 < a ∨ a = 6 ∧ j ≠ 4 → I' a j = I2 a j) := by
        intro I2 hT2 q1 q2 q3 q4 q5
        unfold F_X9_begin_72
        by_cases c0 : kd (T i) = 0
        · rw [c0, if_pos (show nI 0 = 0 from rfl)]
          obtain ⟨I', c', a1, a2, a3⟩ := ih (i + 1) z c 0 I2 hT2 ⟨q1, by omega, q3, Or.inl ⟨Or.inl rfl, q4, by
            rw [q5]
            show runs n T 0 i = runs n T 0 (i + 1)
            exact runs_step hi c0⟩⟩ (by decide) (by omega) (by omega)
          refine ⟨I', c', ?_, a2, a3⟩
          simp only [kl_v, nI_1]
          exact a1
        · rw [if_neg (show ¬ nI (kd (T i)) = 0 from nI_ne0 (by omega) (by omega))]
          have hski : sk n T i = i := runs_stop (fun z => c0 z.2)
          have hS : tS n T c = i := q5.trans hski
          have hKc : tK n T c = kd (T i) := by rw [tK_kd (by omega), hS]
          have hnext : ∀ pv', pv' = kd (T i) → TI (up (up (up (up I2 7 c (nI (kd (T i)))) 8 c (nI i)) 9 c (nI (i + 1))) 6 4 (nI (c + 1))) n T (i + 1) (c + 1) pv' := by
            intro pv' hpv'
            refine ⟨up_eq, by omega, fun j hj => ?_, ?_⟩
            · by_cases y : j = c
              · subst y
                rw [up_ne (Or.inl (by decide)), up_ne (Or.inl (by decide)), up_ne (Or.inl (by decide)), up_eq, up_ne (Or.inl (by decide)), up_ne (Or.inl (by decide)), up_eq, hKc, hS]
                exact ⟨by omega, rfl, rfl⟩
              · rw [up_ne (Or.inl (by decide)), up_ne (Or.inl (by decide)), up_ne (Or.inl (by decide)), up_ne (Or.inr y), up_ne (Or.inl (by decide)), up_ne (Or.inl (by decide)), up_ne (Or.inr y), up_ne (Or.inl (by decide))]
                exact q3 j (by omega)
            · have hold : ∀ j, j < c → up (up (up (up I2 7 c (nI (kd (T i)))) 8 c (nI i)) 9 c (nI (i + 1))) 6 4 (nI (c + 1)) 9 j = nI (tP n T (j + 1)) := by
                intro j hj
                rw [up_ne (Or.inl (by decide)), up_ne (Or.inr (by omega)), up_ne (Or.inl (by decide)), up_ne (Or.inl (by decide))]
                exact q4 j hj
              have hnew : up (up (up (up I2 7 c (nI (kd (T i)))) 8 c (nI i)) 9 c (nI (i + 1))) 6 4 (nI (c + 1)) 9 c = nI (i + 1) := by
                rw [up_ne (Or.inl (by decide)), up_eq]
              by_cases c3 : kd (T i) = 3
              · have hP : tP n T (c + 1) = i + 1 := by rw [tP_3 (by omega), hS]
                refine Or.inl ⟨Or.inr (by omega), fun j hj => ?_, by rw [hP]⟩
                by_cases y : j = c
                · subst y; rw [hnew, hP]
                · exact hold j (by omega)
              · refine Or.inr ⟨by omega, c, rfl, hold, hnew, ?_⟩
                rw [tP_1 (by omega), hS, hKc, hpv']
          obtain ⟨I', c', a1, a2, a3⟩ := ih (i + 1) z (c + 1) (kd (T i)) _ ⟨by rw [up_ne (Or.inl (by decide)), up_ne (Or.inl (by decide)), up_ne (Or.inl (by decide)), up_ne (Or.inl (by decide))]; exact hT2.1, fun j hj => by rw [up_ne (Or.inl (by decide)), up_ne (Or.inl (by decide)), up_ne (Or.inl (by decide)), up_ne (Or.inl (by decide))]; exact hT2.2 j hj⟩ (hnext _ rfl) hkl (by omega) (by omega)
          refine ⟨I', c', ?_, a2, fun a j h => (a3 a j h).trans (by rw [up_ne (by omega), up_ne (by omega), up_ne (by omega), up_ne (by omega)])⟩
          simp only [wm_kR, wm_kt, wm_kn, wm_kin, wm_kL, wm_kI, wm_ksI, wm_ksL, wm_kJ, wm_ksJ, kg_t, kl_v, Option.bind_some, s6_q.1, nI_1, cx_add9_q q1 (show c ≤ 800 by omega)]
          exact a1
      obtain ⟨g1, g2, g3, g4⟩ := hI
      unfold F_X9_begin_24
      simp (disch := omega) only [wm_kR, wm_kt, wm_kn, wm_kin, wm_kL, wm_kI, wm_ksI, wm_ksL, wm_kJ, wm_ksJ, kg_t, kl_v, Option.bind_some, s6_q.1, s6_q.2.1, s2_q.1, hT.1, nI_ltP, cx_byte_q hT h800 hi, cx_kind _ hb.2, nI_eqI]
      rw [if_pos hi]
      rcases g4 with ⟨g5, g6, g7⟩ | ⟨g5, d, g6, g7, g8, g9⟩
      · have st := step I hT g1 g2 g3 g6 g7
        by_cases y : kd (T i) = pv
        · rw [if_pos y, if_neg (show ¬ nI (kd (T i)) = 1 by rw [show (1 : Int32) = nI 1 from rfl, nI_eq (by omega) (by omega)]; omega), if_neg (show ¬ nI (kd (T i)) = 2 by rw [show (2 : Int32) = nI 2 from rfl, nI_eq (by omega) (by omega)]; omega)]
          exact st
        · rw [if_neg y]
          exact st
      · by_cases y : kd (T i) = pv
        · -- the token grows
          have hlen : F_X9_begin_62 N (fun M a0 x1 x2 => F_X9_begin_24 N z M a0 x1 x2) (wm Mc I L) 6 (nI i) (nI (kd (T i))) = F_X9_begin_24 N z (wm Mc (up I 9 d (nI (i + 1))) L) 6 (nI pv) (nI (i + 1)) := by
            have em : nI c - 1 = nI d := by rw [g6, nI_pred]
            unfold F_X9_begin_62 F_X9_lengthen
            rw [y]
            simp (disch := omega) only [wm_kR, wm_kt, wm_kn, wm_kin, wm_kL, wm_kI, wm_ksI, wm_ksL, wm_kJ, wm_ksJ, kg_t, kl_v, Option.bind_some, s6_q.1, s6_q.2.2.2.2, g1, em, kin_9_q, kx_nI, nI_1]
            rw [if_pos (show (0 : Int32) < nI c from nI_lt (a := 0) (by omega) (by omega))]
            rfl
          obtain ⟨I', c', a1, a2, a3⟩ := ih (i + 1) z c pv (up I 9 d (nI (i + 1))) ⟨(up_ne (Or.inl (by decide))).trans hT.1, fun j hj => (up_ne (Or.inl (by decide))).trans (hT.2 j hj)⟩ ⟨(up_ne (Or.inl (by decide))).trans g1, by omega, fun j hj => by rw [up_ne (Or.inl (by decide)), up_ne (Or.inl (by decide))]; exact g3 j hj, Or.inr ⟨g5, d, g6, fun j hj => (up_ne (Or.inr (by omega))).trans (g7 j hj), up_eq, by rw [g9]; exact runs_step hi y⟩⟩ hpv (by omega) (by omega)
          refine ⟨I', c', ?_, a2, fun a j h => (a3 a j h).trans (up_ne (by omega))⟩
          rw [if_pos y]
          rcases g5 with g5 | g5
          · rw [if_pos (show nI (kd (T i)) = 1 by rw [y, g5]; rfl), hlen]
            exact a1
          · rw [if_neg (show ¬ nI (kd (T i)) = 1 by rw [y, g5]; decide), if_pos (show nI (kd (T i)) = 2 by rw [y, g5]; rfl), hlen]
            exact a1
        · rw [if_neg y]
          have hs : runs n T pv i = i := runs_stop (fun z => y z.2)
          rw [hs] at g9
          exact step I hT g1 g2 g3 (fun j hj => by
            by_cases w : j = d
            · subst w; rw [g8, ← g6, g9]
            · exact g7 j (by omega)) (by rw [g9])
end
section
variable {N : Nat} {I : kInts} {L : kLngs} {n : Nat} {T : Nat → Nat}
theorem cx_begin_q (hO : okT n T) (hT : CT I n T) (hN : 1000 < N) : ∃ I' c, F_X9_begin N (wm Mc I L) 6 = some (wm Mc I' L) ∧ TA I' n T c ∧ I' 6 5 = 0 ∧ I' 6 6 = 0 ∧ I' 6 7 = -1 ∧ (∀ a j, a < 6 ∨ 9 < a → I' a j = I a j) := by
  have h800 := hO.1
  obtain ⟨I', c, a1, a2, a3⟩ := cx_beginL_q (N := N) (L := L) hO n 0 N 0 0 (up (up (up (up I 6 6 0) 6 7 (-1)) 6 5 0) 6 4 0) ⟨by rw [up_ne (Or.inl (by decide)), up_ne (Or.inl (by decide)), up_ne (Or.inl (by decide)), up_ne (Or.inl (by decide))]; exact hT.1, fun j hj => by rw [up_ne (Or.inl (by decide)), up_ne (Or.inl (by decide)), up_ne (Or.inl (by decide)), up_ne (Or.inl (by decide))]; exact hT.2 j hj⟩ ⟨up_eq, by omega, fun j hj => absurd hj (Nat.not_lt_zero _), Or.inl ⟨Or.inl rfl, fun j hj => absurd hj (Nat.not_lt_zero _), rfl⟩⟩ (by decide) (by omega) (by omega)
  refine ⟨I', c, ?_, a2, ?_, ?_, ?_, fun a j h => (a3 a j (by omega)).trans (by rw [up_ne (by omega), up_ne (by omega), up_ne (by omega), up_ne (by omega)])⟩
  · unfold F_X9_begin
    simp only [wm_kR, wm_kt, wm_kn, wm_kin, wm_kL, wm_kI, wm_ksI, wm_ksL, wm_kJ, wm_ksJ, kg_t, kl_v, Option.bind_some, s6_q.1]
    exact a1
  · rw [a3 6 5 (by omega), up_ne (Or.inr (by decide)), up_eq]
  · rw [a3 6 6 (by omega), up_ne (Or.inr (by decide)), up_ne (Or.inr (by decide)), up_ne (Or.inr (by decide)), up_eq]
  · rw [a3 6 7 (by omega), up_ne (Or.inr (by decide)), up_ne (Or.inr (by decide)), up_eq]
end
section
variable {N : Nat} {I : kInts} {L : kLngs} {n c : Nat} {T : Nat → Nat} {σ : sg}
theorem cx_at_q (h : CS I n T c σ) (k : Nat) (hk : k ≤ 4) : F_X9_at N (wm Mc I L) 6 (nI k) = some (if qs σ (fun j => decide (tK n T j = k)) then 1 else 0) := by
  obtain ⟨⟨h0, h1, h3, h4, h5, h6, h7⟩, h8⟩ := h
  have h800 := h0.1
  unfold F_X9_at
  cases σ with
  | inl j =>
    obtain ⟨g1, g2, g3, g4⟩ := h8
    have hkj : tK n T j ≤ 4 := by
      unfold tK
      split
      · have := kd_lt (T (tS n T j)); omega
      · exact Nat.le_refl _
    simp (disch := omega) only [wm_kR, wm_kt, wm_kn, wm_kin, wm_kL, wm_kI, wm_ksI, wm_ksL, wm_kJ, wm_ksJ, kg_t, kl_v, Option.bind_some, s6_q.1, s6_q.2.2.1, g1, g3, h3, nI_ltP, kin_7_q, kx_nI, (h7 j g2).1, nI_eqI, if_true]
    rw [if_pos (by omega)]
    show _ = some (if decide (tK n T j = k) = true then 1 else 0)
    simp only [decide_eq_true_eq]
    split <;> rfl
  | inr x =>
    obtain ⟨g1, g2, g3, g4⟩ := h8
    simp only [wm_kR, wm_kt, wm_kn, wm_kin, wm_kL, wm_kI, wm_ksI, wm_ksL, wm_kJ, wm_ksJ, kg_t, kl_v, Option.bind_some, s6_q.1, g1]
    rw [if_neg (nI_ne0 (by omega) (by omega))]
    rfl
end
section
variable {N : Nat} {I : kInts} {L : kLngs} {n c : Nat} {T : Nat → Nat} {σ : sg}
theorem cx_failAt_q (h : CS I n T c σ) {i e : Nat} (he : 1 ≤ e ∧ e ≤ 5) (hi : i ≤ c) : ∃ I', F_X9_failAt N (wm Mc I L) 6 (nI i) (nI e) = some (wm Mc I' L) ∧ CS I' n T c (match σ with | .inl _ => .inr (e, tS n T i) | .inr x => .inr x) ∧ CF I I' := by
  obtain ⟨⟨h0, h1, hta⟩, h8⟩ := h
  obtain ⟨h3, h4, h5, h6, h7⟩ := id hta
  have h800 := h0.1
  have hS := tS_le (n := n) (T := T) i
  unfold F_X9_failAt
  cases σ with
  | inl j =>
    obtain ⟨g1, g2, g3, g4⟩ := h8
    have e8 : up I 6 6 (nI e) 8 i = nI (tS n T i) := (up_ne (Or.inl (by decide))).trans (h7 i hi).2.1
    have hcf : CF I (up (up I 6 6 (nI e)) 6 7 (nI (tS n T i))) := (CF.rf'.up (by decide) (by decide)).up (by decide) (by decide)
    refine ⟨_, ?_, ⟨⟨h0, h1.cf hcf, hta.cf hcf⟩, ?_⟩, hcf⟩
    · simp (disch := omega) only [wm_kR, wm_kt, wm_kn, wm_kin, wm_kL, wm_kI, wm_ksI, wm_ksL, wm_kJ, wm_ksJ, kg_t, kl_v, Option.bind_some, s6_q.1, s6_q.2.2.2.1, g3, h3, nI_lt0, nI_ltP, if_true, if_false, kin_8_q, kx_nI, e8]
      rw [if_pos (by omega)]
    · exact ⟨(up_ne (Or.inr (by decide))).trans up_eq, he, up_eq, by show tS n T i ≤ 800; omega⟩
  | inr x =>
    obtain ⟨g1, g2, g3, g4⟩ := h8
    refine ⟨I, ?_, ⟨⟨h0, h1, hta⟩, g1, g2, g3, g4⟩, CF.rf'⟩
    simp only [wm_kR, wm_kt, wm_kn, wm_kin, wm_kL, wm_kI, wm_ksI, wm_ksL, wm_kJ, wm_ksJ, kg_t, kl_v, Option.bind_some, s6_q.1, g1]
    rw [if_neg (nI_ne0 (by omega) (by omega))]
end
section
variable {N : Nat} {I : kInts} {L : kLngs} {n c : Nat} {T : Nat → Nat} {σ : sg}
theorem cx_refuse_q (h : CS I n T c σ) {e : Nat} (he : 1 ≤ e ∧ e ≤ 5) : ∃ I', F_X9_refuse N (wm Mc I L) 6 (nI e) = some (wm Mc I' L) ∧ CS I' n T c (ers n T σ e) ∧ CF I I' := by
  unfold F_X9_refuse
  cases σ with
  | inl j =>
    obtain ⟨I', a1, a2, a3⟩ := cx_failAt_q (N := N) (L := L) h he h.2.2.1
    refine ⟨I', ?_, a2, a3⟩
    simp only [wm_kR, wm_kt, wm_kn, wm_kin, wm_kL, wm_kI, wm_ksI, wm_ksL, wm_kJ, wm_ksJ, kg_t, kl_v, Option.bind_some, s6_q.1, h.2.1, a1]
  | inr x =>
    refine ⟨I, ?_, h, CF.rf'⟩
    obtain ⟨g1, g2, -⟩ := h.2
    unfold F_X9_failAt
    simp only [wm_kR, wm_kt, wm_kn, wm_kin, wm_kL, wm_kI, wm_ksI, wm_ksL, wm_kJ, wm_ksJ, kg_t, kl_v, Option.bind_some, s6_q.1, g1]
    rw [if_neg (nI_ne0 (by omega) (by omega))]
    rfl
end
section
variable {N : Nat} {I : kInts} {L : kLngs} {n c : Nat} {T : Nat → Nat} {σ : sg}
theorem cx_refuseT_q (h : CS I n T c σ) {e : Nat} (he : 1 ≤ e ∧ e ≤ 5) (h1 : ∀ j, σ = .inl j → 1 ≤ j) : ∃ I', F_X9_refuseTaken N (wm Mc I L) 6 (nI e) = some (wm Mc I' L) ∧ CS I' n T c (match σ with | .inl j => .inr (e, tS n T (j - 1)) | .inr x => .inr x) ∧ CF I I' := by
  unfold F_X9_refuseTaken
  cases σ with
  | inl j =>
    have hj := h1 j rfl
    have hjc := h.2.2.1
    obtain ⟨I', a1, a2, a3⟩ := cx_failAt_q (N := N) (L := L) h he (show j - 1 ≤ c by omega)
    refine ⟨I', ?_, a2, a3⟩
    have em : nI j - 1 = nI (j - 1) := pk_sub (b := 1) hj
    simp only [wm_kR, wm_kt, wm_kn, wm_kin, wm_kL, wm_kI, wm_ksI, wm_ksL, wm_kJ, wm_ksJ, kg_t, kl_v, Option.bind_some, s6_q.1, h.2.1, em, a1]
  | inr x =>
    refine ⟨I, ?_, h, CF.rf'⟩
    obtain ⟨g1, g2, -⟩ := h.2
    unfold F_X9_failAt
    simp only [wm_kR, wm_kt, wm_kn, wm_kin, wm_kL, wm_kI, wm_ksI, wm_ksL, wm_kJ, wm_ksJ, kg_t, kl_v, Option.bind_some, s6_q.1, g1]
    rw [if_neg (nI_ne0 (by omega) (by omega))]
    rfl
end
section
variable {N : Nat} {I : kInts} {L : kLngs} {n c : Nat} {T : Nat → Nat} {σ : sg}
theorem cx_takeNo_q (h : CS I n T c σ) : ∃ I', F_X9_takeIf N (wm Mc I L) 6 0 = some (wm Mc I' L) ∧ CS I' n T c (ers n T σ 1) ∧ CF I I' := by
  obtain ⟨I', a1, a2, a3⟩ := cx_refuse_q (N := N) (L := L) h (e := 1) (by decide)
  refine ⟨I', ?_, a2, a3⟩
  unfold F_X9_refuse at a1
  unfold F_X9_takeIf
  rw [if_pos rfl]
  exact a1
end
section
variable {N : Nat} {I : kInts} {L : kLngs} {n c : Nat} {T : Nat → Nat} {σ : sg}
theorem cx_takeYes_q (h : CS I n T c σ) (h4 : ∀ j, σ = .inl j → tK n T j ≠ 4) : ∃ I', F_X9_takeIf N (wm Mc I L) 6 1 = some (wm Mc I' L) ∧ CS I' n T c (match σ with | .inl j => .inl (j + 1) | .inr x => .inr x) ∧ CF I I' := by
  obtain ⟨⟨h0, h1, hta⟩, h8⟩ := h
  have h800 := h0.1
  unfold F_X9_takeIf
  rw [if_neg one0]
  cases σ with
  | inl j =>
    obtain ⟨g1, g2, g3, g4⟩ := h8
    have hj : j < c := by
      by_cases z : j = c
      · subst z; exact absurd hta.2.2.1 (h4 j rfl)
      · omega
    have hcf : CF I (up I 6 5 (nI (j + 1))) := CF.rf'.up (by decide) (by decide)
    refine ⟨up I 6 5 (nI (j + 1)), ?_, ⟨⟨h0, h1.cf hcf, hta.cf hcf⟩, up_eq, hj, (up_ne (Or.inr (by decide))).trans g3, (up_ne (Or.inr (by decide))).trans g4⟩, hcf⟩
    simp only [wm_kR, wm_kt, wm_kn, wm_kin, wm_kL, wm_kI, wm_ksI, wm_ksL, wm_kJ, wm_ksJ, kg_t, kl_v, Option.bind_some, s6_q.1, g3, g1, if_true, nI_1]
  | inr x =>
    obtain ⟨g1, g2, g3, g4⟩ := h8
    refine ⟨I, ?_, ⟨⟨h0, h1, hta⟩, g1, g2, g3, g4⟩, CF.rf'⟩
    simp only [wm_kR, wm_kt, wm_kn, wm_kin, wm_kL, wm_kI, wm_ksI, wm_ksL, wm_kJ, wm_ksJ, kg_t, kl_v, Option.bind_some, s6_q.1, g1]
    rw [if_neg (nI_ne0 (by omega) (by omega))]
end
section
variable {N : Nat} {I : kInts} {L : kLngs} {n c : Nat} {T : Nat → Nat} {σ : sg}
theorem cx_takeIf_q (h : CS I n T c σ) {p : Nat → Bool} (h4 : ∀ j, p j = true → tK n T j ≠ 4) : ∃ I', F_X9_takeIf N (wm Mc I L) 6 (if qs σ p then 1 else 0) = some (wm Mc I' L) ∧ CS I' n T c (stp n T σ (fun j => if p j then 0 else 1)) ∧ CF I I' := by
  cases σ with
  | inl j =>
    by_cases hp : p j = true
    · have e : qs (.inl j) p = true := hp
      obtain ⟨I', a1, a2, a3⟩ := cx_takeYes_q (N := N) (L := L) h (fun i hi => by cases hi; exact h4 j hp)
      refine ⟨I', ?_, ?_, a3⟩
      · rw [e, if_pos rfl]; exact a1
      · unfold stp
        simp only [hp, if_true]
        exact a2
    · have e : qs (.inl j) p = false := by simpa [qs] using hp
      obtain ⟨I', a1, a2, a3⟩ := cx_takeNo_q (N := N) (L := L) h
      refine ⟨I', ?_, ?_, a3⟩
      · rw [e, if_neg (by decide)]; exact a1
      · unfold stp
        simp only [hp]
        exact a2
  | inr x =>
    have e : qs (.inr x) p = false := rfl
    obtain ⟨I', a1, a2, a3⟩ := cx_takeNo_q (N := N) (L := L) h
    exact ⟨I', by rw [e, if_neg (by decide)]; exact a1, a2, a3⟩
end
section
variable {N : Nat} {I : kInts} {L : kLngs} {n c : Nat} {T : Nat → Nat} {σ : sg}
theorem cx_sign_q (h : CS I n T c σ) {ch : Nat} (hch : ch < 256) : F_X9_atSign N (wm Mc I L) 6 (nI ch) = some (if qs σ (isG n T ch) then 1 else 0) := by
  unfold F_X9_atSign
  rw [show (3 : Int32) = nI 3 from rfl]
  simp only [wm_kR, wm_kt, wm_kn, wm_kin, wm_kL, wm_kI, wm_ksI, wm_ksL, wm_kJ, wm_ksJ, kg_t, kl_v, Option.bind_some, s6_q.1, cx_at_q h 3 (by decide)]
  cases σ with
  | inl j =>
    obtain ⟨⟨h0, h1, h3, h4, h5, h6, h7⟩, g1, g2, g3, g4⟩ := h
    have h800 := h0.1
    have hb := h0.2 (tS n T j)
    unfold qs isG
    by_cases c3 : tK n T j = 3
    · have hS := tS_lt (n := n) (T := T) (j := j) (by omega)
      simp (disch := omega) only [wm_kR, wm_kt, wm_kn, wm_kin, wm_kL, wm_kI, wm_ksI, wm_ksL, wm_kJ, wm_ksJ, kg_t, kl_v, Option.bind_some, s6_q.1, s6_q.2.1, s6_q.2.2.2.1, s2_q.1, c3, decide_true, if_true, if_neg one0, g1, kin_8_q, kx_nI, (h7 j g2).2.1, cx_byte_q h1 h800 hS, nI_eqI, Bool.true_and, decide_eq_true_eq]
      split <;> rfl
    · simp [c3]
  | inr x => rfl
end
section
variable {N : Nat} {I : kInts} {L : kLngs} {n c : Nat} {T : Nat → Nat} {σ : sg}
theorem cx_anyWord_q (h : CS I n T c σ) : ∃ I', F_X9_takeAnyWord N (wm Mc I L) 6 = some (wm Mc I' L) ∧ CS I' n T c (stp n T σ (fun j => if decide (tK n T j = 1) then 0 else 1)) ∧ CF I I' := by
  obtain ⟨I', a1, a2, a3⟩ := cx_takeIf_q (N := N) (L := L) h (p := fun j => decide (tK n T j = 1)) (fun j hj => by
    have := of_decide_eq_true hj
    omega)
  refine ⟨I', ?_, a2, a3⟩
  unfold F_X9_takeAnyWord
  rw [show (1 : Int32) = nI 1 from rfl]
  simp only [wm_kR, wm_kt, wm_kn, wm_kin, wm_kL, wm_kI, wm_ksI, wm_ksL, wm_kJ, wm_ksJ, kg_t, kl_v, Option.bind_some, s6_q.1, cx_at_q h 1 (by decide), a1]
end
theorem kw_market_q : KW 3 (kwL 3).length (fun k => (kwL 3).getD k 0) 437857460 := kw_of 3 437857460 (by decide +kernel)
theorem kw_board_q : KW 4 (kwL 4).length (fun k => (kwL 4).getD k 0) 2590276 := kw_of 4 2590276 (by decide +kernel)
theorem kw_trader_q : KW 5 (kwL 5).length (fun k => (kwL 5).getD k 0) 690000050 := kw_of 5 690000050 (by decide +kernel)
theorem kw_seat_q : KW 6 (kwL 6).length (fun k => (kwL 6).getD k 0) 627764 := kw_of 6 627764 (by decide +kernel)
section
variable {N : Nat} {I : kInts} {L : kLngs} {n c : Nat} {T : Nat → Nat} {σ : sg}
theorem cx_wordL_q {s len w j : Nat} {bs : Nat → Nat} (hK : KW s len bs w) (h : CS I n T c (.inl j)) (h1 : tK n T j = 1) (hl : tL n T j = len) : ∀ (k i z : Nat), i + k = len → k < z → F_X9_atWord_38 N (wm Mc I L) z 6 s (nI i) = some (if sameL bs (fun q => T (tS n T j + q)) k i then 1 else 0)
  | k, i, 0, _, hz => absurd hz (Nat.not_lt_zero _)
  | 0, i, z + 1, e, _ => by
    have h9 := hK.1
    unfold F_X9_atWord_38
    simp (disch := omega) only [hK.2.1, wm_kR, wm_kt, wm_kn, wm_kin, wm_kL, wm_kI, wm_ksI, wm_ksL, wm_kJ, wm_ksJ, kg_t, kl_v, Option.bind_some, nI_ltP]
    rw [if_neg (by omega)]
    rfl
  | k + 1, i, z + 1, e, hz => by
    have ih := cx_wordL_q hK h h1 hl k (i + 1) z (by omega) (by omega)
    have h9 := hK.1
    obtain ⟨⟨h0, hT, h3, h4, h5, h6, h7⟩, g1, g2, g3, g4⟩ := h
    have h800 := h0.1
    obtain ⟨t1, t2, t3⟩ := tok_let h1 (show i < tL n T j by omega)
    have hb := hK.2.2.2.1 i (by omega)
    unfold F_X9_atWord_38 sameL
    simp (disch := omega) only [hK.2.1, hK.2.2.1 i (by omega), wm_kR, wm_kt, wm_kn, wm_kin, wm_kL, wm_kI, wm_ksI, wm_ksL, wm_kJ, wm_ksJ, kg_t, kl_v, Option.bind_some, nI_ltP, s6_q.1, s6_q.2.1, s6_q.2.2.2.1, s2_q.1, g1, kin_8_q, kx_nI, (h7 j g2).2.1, nI_add, cx_byte_q hT h800 t1, nI_eqI, nI_1]
    rw [if_pos (by omega)]
    by_cases cc : bs i = T (tS n T j + i)
    · rw [if_pos cc, ih]
      have : (bs i == T (tS n T j + i)) = true := by simpa using cc
      rw [this, Bool.true_and]
    · rw [if_neg cc]
      have : (bs i == T (tS n T j + i)) = false := by simpa using cc
      rw [this]
      rfl
end
section
variable {N : Nat} {I : kInts} {L : kLngs} {n c : Nat} {T : Nat → Nat} {σ : sg}
theorem cx_atWord_q {s len w : Nat} {bs : Nat → Nat} (hK : KW s len bs w) (h : CS I n T c σ) (hN : 1000 < N) : F_X9_atWord N (wm Mc I L) 6 s = some (if qs σ (isW n T w) then 1 else 0) := by
  have hat := cx_at_q (N := N) (L := L) h 1 (by decide)
  rw [show nI 1 = 1 from rfl] at hat
  unfold F_X9_atWord
  simp only [wm_kR, wm_kt, wm_kn, wm_kin, wm_kL, wm_kI, wm_ksI, wm_ksL, wm_kJ, wm_ksJ, kg_t, kl_v, Option.bind_some, s6_q.1, hat]
  cases σ with
  | inr x => rfl
  | inl j =>
    have hw : tK n T j = 1 → tL n T j = len → F_X9_atWord_38 N (wm Mc I L) N 6 s (nI 0) = some (if sameL bs (fun q => T (tS n T j + q)) len 0 then 1 else 0) := fun h1 hl => cx_wordL_q (N := N) (L := L) hK h h1 hl len 0 N (by omega) (by have := hK.1; omega)
    have h9 := hK.1
    have h0 := h.1.1
    have h4 : c ≤ 800 := h.1.2.2.2.1
    have h7 : ∀ j, j ≤ c → I 7 j = nI (tK n T j) ∧ I 8 j = nI (tS n T j) ∧ I 9 j = nI (tP n T (j + 1)) := h.1.2.2.2.2.2.2
    have g1 : I 6 5 = nI j := h.2.1
    have g2 : j ≤ c := h.2.2.1
    have h800 := h0.1
    have hP := tP_le (n := n) (T := T) (j + 1)
    have e := @tL_end n T j
    unfold qs isW
    by_cases c1 : tK n T j = 1
    · have hlw : ∀ i, i < tL n T j → 97 ≤ T (tS n T j + i) ∧ T (tS n T j + i) ≤ 122 := fun i hi => (tok_let c1 hi).2
      simp (disch := omega) only [wm_kR, wm_kt, wm_kn, wm_kin, wm_kL, wm_kI, wm_ksI, wm_ksL, wm_kJ, wm_ksJ, kg_t, kl_v, Option.bind_some, s6_q.1, s6_q.2.2.2.1, s6_q.2.2.2.2, hK.2.1, c1, decide_true, if_true, if_neg one0, g1, kin_8_q, kin_9_q, kx_nI, (h7 j g2).2.1, (h7 j g2).2.2, Bool.true_and]
      have em : nI (tP n T (j + 1)) - nI (tS n T j) = nI (tL n T j) := pk_sub (by omega)
      simp (disch := omega) only [em, nI_eqI]
      by_cases c2 : len = tL n T j
      · rw [if_pos c2, show (0 : Int32) = nI 0 from rfl, hw c1 c2.symm]
        have hcode : wv T (tS n T j) (tL n T j) = codeN (fun k => T (tS n T j + k) - 96) len := by rw [wv_code (by omega), ← c2]
        have hiff : sameL bs (fun q => T (tS n T j + q)) len 0 = true ↔ wv T (tS n T j) (tL n T j) = w := by
          rw [hcode, ← hK.2.2.2.2, sameL_iff]
          constructor
          · intro hh
            exact code_cong (fun k hk => by show T (tS n T j + k) - 96 = bs k - 96; rw [hh k (Nat.zero_le _) (by omega)])
          · intro hh k _ hk
            have hk' : k < len := by omega
            have i1 := (code_inj (fun k hk => by have := hlw k (by omega); show 1 ≤ T (tS n T j + k) - 96 ∧ T (tS n T j + k) - 96 ≤ 26; omega) (fun k hk => by have := hK.2.2.2.1 k hk; show 1 ≤ bs k - 96 ∧ bs k - 96 ≤ 26; omega) hh).2 k hk'
            have i2 := hlw k (by omega)
            have i3 := hK.2.2.2.1 k hk'
            show bs k = T (tS n T j + k)
            have i1' : T (tS n T j + k) - 96 = bs k - 96 := i1
            omega
        have hlt : decide (tL n T j < 12) = true := by simp; omega
        rw [hlt, Bool.true_and]
        by_cases c3 : sameL bs (fun q => T (tS n T j + q)) len 0 = true
        · rw [if_pos c3, if_pos (by simpa using hiff.mp c3)]
        · rw [if_neg c3, if_neg (by simpa using fun z => c3 (hiff.mpr z))]
          rfl
      · rw [if_neg c2]
        by_cases c4 : tL n T j < 12
        · rw [if_neg]
          simp only [c4, decide_true, Bool.true_and, decide_eq_true_eq]
          rw [wv_code (by omega), ← hK.2.2.2.2]
          intro hh
          exact c2 (code_inj (fun k hk => by have := hlw k (by omega); show 1 ≤ T (tS n T j + k) - 96 ∧ T (tS n T j + k) - 96 ≤ 26; omega) (fun k hk => by have := hK.2.2.2.1 k hk; show 1 ≤ bs k - 96 ∧ bs k - 96 ≤ 26; omega) hh).1.symm
        · simp [c4]
    · simp [c1]
end
section
variable {N : Nat} {I : kInts} {L : kLngs} {n c : Nat} {T : Nat → Nat} {σ : sg}
theorem cx_betweenL_q (hO : okT n T) (hT : CT I n T) {p l : Nat} (hl : l ≤ 6) (hp : p + l ≤ n) : ∀ (i z : Nat), i ≤ l → i < z → (∀ q, i ≤ q → q < l → kd (T (p + q)) = 1) → F_X8_nameBetween_17 N (wm Mc I L) z 2 (nI p) (lN (pkN (fun q => T (p + q) - 96) (l - i) i)) (nI (p + i) - 1) = some (if ∀ q, q < l → kd (T (p + q)) = 1 then lN (pkN (fun q => T (p + q) - 96) l 0) else 0)
  | _, 0, _, h, _ => absurd h (Nat.not_lt_zero _)
  | 0, z + 1, _, _, hq => by
    have h800 := hO.1
    unfold F_X8_nameBetween_17
    rw [if_pos (show nI (p + 0) - 1 < nI p from (n_pred p).resolve_right (by omega)), if_pos (fun q hq2 => hq q (Nat.zero_le _) hq2)]
    rfl
  | i + 1, z + 1, hi, hz, hq => by
    have h800 := hO.1
    have hB := hO.2 (p + i)
    have ih := cx_betweenL_q hO hT hl hp i z (by omega) (by omega)
    have em : nI (p + (i + 1)) - 1 = nI (p + i) := by
      show nI (p + (i + 1)) - nI 1 = nI (p + i)
      rw [pk_sub (by omega)]
      rfl
    unfold F_X8_nameBetween_17
    rw [em, if_neg (by rw [nI_ltI (by omega) (by omega)]; omega)]
    simp only [wm_kR, wm_kt, wm_kn, wm_kin, wm_kL, wm_kI, wm_ksI, wm_ksL, wm_kJ, wm_ksJ, kg_t, kl_v, Option.bind_some, s2_q.1, cx_byte_q hT h800 (show p + i < n by omega), cx_let _ hB.2]
    by_cases c1 : kd (T (p + i)) = 1
    · have hk := kd_1 c1
      have hq2 : ∀ q, i ≤ q → q < l → kd (T (p + q)) = 1 := fun q h1 h2 => by
        by_cases y : q = i
        · rw [y]; exact c1
        · exact hq q (by omega) h2
      have hP := pkN_48 (f := fun q => T (p + q) - 96) (k := l - (i + 1)) (i := i + 1) (by omega) (fun j h1 h2 => by
        have := kd_1 (hq j h1 (by omega))
        show 1 ≤ T (p + j) - 96 ∧ T (p + j) - 96 ≤ 26
        omega)
      simp only [c1, if_true, if_neg one0]
      rw [pkN_shl _ _ (by omega) (by omega)]
      have e5 : 256 * pkN (fun q => T (p + q) - 96) (l - (i + 1)) (i + 1) + T (p + i) = pkN (fun q => T (p + q) - 96) (l - i) i := by
        rw [show l - i = (l - (i + 1)) + 1 by omega, pkN_s]
        show _ = 96 + (T (p + i) - 96) + _
        omega
      have e6 : nI (p + i) + (-1) = nI (p + i) - 1 := by grind
      rw [e5, e6]
      exact ih hq2
    · simp only [c1, if_false, if_true]
      rw [if_neg (fun z => c1 (z i (by omega)))]
end
section
variable {N : Nat} {I : kInts} {L : kLngs} {n c : Nat} {T : Nat → Nat} {σ : sg}
theorem cx_between_q (hO : okT n T) (hT : CT I n T) {p l : Nat} (hp : p + l ≤ n) (hN : 1000 < N) : F_X8_nameBetween N (wm Mc I L) 2 (nI p) (nI (p + l)) = some (if 1 ≤ l ∧ l ≤ 6 ∧ ∀ q, q < l → kd (T (p + q)) = 1 then lN (pkN (fun q => T (p + q) - 96) l 0) else 0) := by
  have h800 := hO.1
  have em : nI (p + l) - nI p = nI l := by rw [pk_sub (by omega)]; congr 1; omega
  unfold F_X8_nameBetween
  rw [em]
  by_cases c2 : 6 < l
  · rw [if_pos (show (6 : Int32) < nI l from nI_lt (a := 6) c2 (by omega)), if_neg (by omega)]
  · rw [if_neg (show ¬ (6 : Int32) < nI l from nI_nlt (b := l) (a := 6) (by omega) (by decide))]
    have h := cx_betweenL_q (N := N) (I := I) (L := L) hO hT (show l ≤ 6 by omega) hp l N (Nat.le_refl _) (by omega) (fun q h1 h2 => absurd h2 (by omega))
    rw [Nat.sub_self] at h
    unfold kl
    refine Eq.trans h ?_
    by_cases c1 : l = 0
    · subst c1
      rw [if_pos (fun q hq => absurd hq (Nat.not_lt_zero _)), if_neg (by omega)]
      rfl
    · by_cases c3 : ∀ q, q < l → kd (T (p + q)) = 1
      · rw [if_pos c3, if_pos ⟨by omega, by omega, c3⟩]
      · rw [if_neg c3, if_neg (fun z => c3 z.2.2)]
end
section
variable {N : Nat} {I : kInts} {L : kLngs} {n c : Nat} {T : Nat → Nat} {σ : sg}
theorem cx_takeName_q (h : CS I n T c σ) (hN : 1000 < N) : ∃ I' v, F_X9_takeName N (wm Mc I L) 6 = some (v, wm Mc I' L) ∧ CS I' n T c (stp n T σ (fun j => if isM n T j then 0 else 1)) ∧ CF I I' ∧ (∀ j, σ = .inl j → isM n T j = true → nmV v (nmc n T j)) ∧ ∃ q, nmZ v q := by
  have fin0 : ∀ J, CS J n T c σ → (∀ j, σ = .inl j → isM n T j = false) → ∃ I', F_X9_takeIf N (wm Mc J L) 6 0 = some (wm Mc I' L) ∧ CS I' n T c (stp n T σ (fun j => if isM n T j then 0 else 1)) ∧ CF J I' := by
    intro J hJ hno
    obtain ⟨I', a1, a2, a3⟩ := cx_takeNo_q (N := N) (L := L) hJ
    refine ⟨I', a1, ?_, a3⟩
    cases σ with
    | inr x => exact a2
    | inl j =>
      unfold stp
      simp only [hno j rfl]
      exact a2
  unfold F_X9_takeName
  have hat := cx_at_q (N := N) (L := L) h 1 (by decide)
  rw [show nI 1 = 1 from rfl] at hat
  simp only [wm_kR, wm_kt, wm_kn, wm_kin, wm_kL, wm_kI, wm_ksI, wm_ksL, wm_kJ, wm_ksJ, kg_t, kl_v, Option.bind_some, s6_q.1, hat]
  have z0 : (lg_cmp (0 : Int64) 0 = 0) = True := by rw [lgc0]; exact eq_self _
  by_cases hq : qs σ (fun j => decide (tK n T j = 1)) = true
  · cases σ with
    | inr x => cases hq
    | inl j =>
      have c1 : tK n T j = 1 := of_decide_eq_true hq
      rw [hq, if_pos rfl, if_neg one0]
      obtain ⟨⟨h0, hT, hta⟩, g1, g2, g3, g4⟩ := id h
      obtain ⟨h3, h4, h5, h6, h7⟩ := id hta
      have h800 := h0.1
      have hP := tP_le (n := n) (T := T) (j + 1)
      have e := @tL_end n T j
      have a1 := cx_between_q (N := N) (L := L) h0 hT (show tS n T j + tL n T j ≤ n by omega) hN
      rw [e] at a1
      simp (disch := omega) only [wm_kR, wm_kt, wm_kn, wm_kin, wm_kL, wm_kI, wm_ksI, wm_ksL, wm_kJ, wm_ksJ, kg_t, kl_v, Option.bind_some, s6_q.1, s6_q.2.1, s6_q.2.2.2.1, s6_q.2.2.2.2, g1, kin_8_q, kin_9_q, kx_nI, (h7 j g2).2.1, (h7 j g2).2.2, s2_q.1, a1]
      by_cases b2 : 1 ≤ tL n T j ∧ tL n T j ≤ 6 ∧ ∀ q, q < tL n T j → kd (T (tS n T j + q)) = 1
      · rw [if_pos b2]
        have hM : isM n T j = true := by
          unfold isM
          simp only [Bool.and_eq_true, decide_eq_true_eq]
          exact ⟨c1, b2.2.1⟩
        obtain ⟨I', d1, d2, d3⟩ := cx_takeYes_q (N := N) (L := L) h (fun i hi => by cases hi; omega)
        have hn : nmV (lN (pkN (fun q => T (tS n T j + q) - 96) (tL n T j) 0)) (nmc n T j) := read_nmV b2
        refine ⟨I', _, ?_, ?_, d3, fun i hi _ => by cases hi; exact hn, ⟨_, hn.z⟩⟩
        · unfold F_X9_takeName_37
          simp only [wm_kR, wm_kt, wm_kn, wm_kin, wm_kL, wm_kI, wm_ksI, wm_ksL, wm_kJ, wm_ksJ, kg_t, kl_v, Option.bind_some, lgc0, hn.ne, if_false, s6_q.1, d1]
        · unfold stp
          simp only [hM, if_true]
          exact d2
      · rw [if_neg b2]
        have hM : isM n T j = false := by
          cases hz : isM n T j with
          | false => rfl
          | true =>
            exfalso
            unfold isM at hz
            simp only [Bool.and_eq_true, decide_eq_true_eq] at hz
            exact b2 ⟨tL_pos (tS_lt (by omega)), hz.2, fun q hq' => kd_is1 (tok_let c1 hq').2⟩
        obtain ⟨I', d1, d2, d3⟩ := fin0 I h (fun i hi => by cases hi; exact hM)
        refine ⟨I', 0, ?_, d2, d3, fun i hi hm => ?_, ⟨0, nmZ_0⟩⟩
        · unfold F_X9_takeName_37
          simp only [wm_kR, wm_kt, wm_kn, wm_kin, wm_kL, wm_kI, wm_ksI, wm_ksL, wm_kJ, wm_ksJ, kg_t, kl_v, Option.bind_some, z0, if_true, s6_q.1, d1]
        · cases hi
          rw [hM] at hm
          cases hm
  · have hf : qs σ (fun j => decide (tK n T j = 1)) = false := by simpa using hq
    have hno : ∀ j, σ = .inl j → isM n T j = false := by
      intro j hj
      subst hj
      unfold isM
      have : decide (tK n T j = 1) = false := hf
      rw [this]
      rfl
    obtain ⟨I', d1, d2, d3⟩ := fin0 I h hno
    rw [hf]
    refine ⟨I', 0, ?_, d2, d3, fun i hi hm => ?_, ⟨0, nmZ_0⟩⟩
    · unfold F_X9_takeName_37
      simp only [Bool.false_eq_true, if_false, if_true, z0, s6_q.1, d1, wm_kR, wm_kt, wm_kn, wm_kin, wm_kL, wm_kI, wm_ksI, wm_ksL, wm_kJ, wm_ksJ, kg_t, kl_v, Option.bind_some]
    · rw [hno i hi] at hm
      cases hm
end
section
variable {N : Nat} {I : kInts} {L : kLngs} {n c : Nat} {T : Nat → Nat} {σ : sg}
theorem cx_valL_q {j : Nat} (h : CS I n T c (.inl j)) (h2 : tK n T j = 2) : ∀ (k l z : Nat), l + k = tL n T j → k < z → F_X9_valueHere_12 N (wm Mc I L) z 6 (nI (min 1000000 (nv T (tS n T j) l))) (nI (tS n T j + l)) = some (nI (min 1000000 (nuv n T j)))
  | k, l, 0, _, hz => absurd hz (Nat.not_lt_zero _)
  | 0, l, z + 1, e, _ => by
    have h0 := h.1.1
    have h800 := h0.1
    have h4 : c ≤ 800 := h.1.2.2.2.1
    have h7 : ∀ j, j ≤ c → I 7 j = nI (tK n T j) ∧ I 8 j = nI (tS n T j) ∧ I 9 j = nI (tP n T (j + 1)) := h.1.2.2.2.2.2.2
    have g1 : I 6 5 = nI j := h.2.1
    have g2 : j ≤ c := h.2.2.1
    have hP := tP_le (n := n) (T := T) (j + 1)
    have ee := @tL_end n T j
    unfold F_X9_valueHere_12
    simp (disch := omega) only [wm_kR, wm_kt, wm_kn, wm_kin, wm_kL, wm_kI, wm_ksI, wm_ksL, wm_kJ, wm_ksJ, kg_t, kl_v, Option.bind_some, s6_q.1, s6_q.2.2.2.2, g1, kin_9_q, kx_nI, (h7 j g2).2.2, nI_ltP]
    rw [if_neg (by omega)]
    have : l = tL n T j := by omega
    rw [this]
    rfl
  | k + 1, l, z + 1, e, hz => by
    have ih := cx_valL_q h h2 k (l + 1) z (by omega) (by omega)
    have h0 := h.1.1
    have hT := h.1.2.1
    have h800 := h0.1
    have h4 : c ≤ 800 := h.1.2.2.2.1
    have h7 : ∀ j, j ≤ c → I 7 j = nI (tK n T j) ∧ I 8 j = nI (tS n T j) ∧ I 9 j = nI (tP n T (j + 1)) := h.1.2.2.2.2.2.2
    have g1 : I 6 5 = nI j := h.2.1
    have g2 : j ≤ c := h.2.2.1
    have hP := tP_le (n := n) (T := T) (j + 1)
    have ee := @tL_end n T j
    obtain ⟨t1, t2, t3⟩ := tok_dig h2 (show l < tL n T j by omega)
    have hnv := nv_le T (tS n T j) (fun i => (h0.2 i).2) l
    unfold F_X9_valueHere_12
    simp (disch := omega) only [wm_kR, wm_kt, wm_kn, wm_kin, wm_kL, wm_kI, wm_ksI, wm_ksL, wm_kJ, wm_ksJ, kg_t, kl_v, Option.bind_some, s6_q.1, s6_q.2.1, s6_q.2.2.2.2, s2_q.1, g1, kin_9_q, kx_nI, (h7 j g2).2.2, nI_ltP, cx_byte_q hT h800 t1, nI_1]
    rw [if_pos (by omega)]
    have em : nI (min 1000000 (nv T (tS n T j) l)) * 10 + nI (T (tS n T j + l)) - 48 = nI (min 1000000 (nv T (tS n T j) l) * 10 + (T (tS n T j + l) - 48)) := by
      rw [show (10 : Int32) = nI 10 from rfl, show (48 : Int32) = nI 48 from rfl, pk_mul, nI_add, pk_sub (by omega)]
      congr 1
      omega
    rw [em, show (1000000 : Int32) = nI 1000000 from rfl, kmin_nI (by omega) (by omega)]
    have e2 : min 1000000 (min 1000000 (nv T (tS n T j) l) * 10 + (T (tS n T j + l) - 48)) = min 1000000 (nv T (tS n T j) (l + 1)) := by
      rw [nv_s]
      split <;> omega
    rw [e2]
    exact ih
end
section
variable {N : Nat} {I : kInts} {L : kLngs} {n c : Nat} {T : Nat → Nat} {σ : sg}
theorem cx_val_q {j : Nat} (h : CS I n T c (.inl j)) (h2 : tK n T j = 2) (hN : 1000 < N) : F_X9_valueHere N (wm Mc I L) 6 = some (nI (min 1000000 (nuv n T j))) := by
  have h800 := h.1.1.1
  have h4 : c ≤ 800 := h.1.2.2.2.1
  have h7 : ∀ j, j ≤ c → I 7 j = nI (tK n T j) ∧ I 8 j = nI (tS n T j) ∧ I 9 j = nI (tP n T (j + 1)) := h.1.2.2.2.2.2.2
  have g1 : I 6 5 = nI j := h.2.1
  have g2 : j ≤ c := h.2.2.1
  have hP := tP_le (n := n) (T := T) (j + 1)
  have ee := @tL_end n T j
  have hL := cx_valL_q (N := N) (L := L) h h2 (tL n T j) 0 N (by omega) (by omega)
  unfold F_X9_valueHere
  simp (disch := omega) only [wm_kR, wm_kt, wm_kn, wm_kin, wm_kL, wm_kI, wm_ksI, wm_ksL, wm_kJ, wm_ksJ, kg_t, kl_v, Option.bind_some, s6_q.1, s6_q.2.2.2.1, g1, kin_8_q, kx_nI, (h7 j g2).2.1]
  exact hL
end
section
variable {N : Nat} {I : kInts} {L : kLngs} {n c : Nat} {T : Nat → Nat} {σ : sg}
theorem cx_num41_q {x4 : Int32} {b : Bool} {σ2 : sg} (h : ∃ I', F_X9_takeIf N (wm Mc I L) 6 (if b then 1 else 0) = some (wm Mc I' L) ∧ CS I' n T c σ2 ∧ CF I I') : ∃ I', F_X9_takeNumber_41 N (wm Mc I L) 6 (if b then 1 else 0) x4 = some ((if okS σ2 then x4 else -1), wm Mc I' L) ∧ CS I' n T c σ2 ∧ CF I I' := by
  obtain ⟨I', a1, a2, a3⟩ := h
  refine ⟨I', ?_, a2, a3⟩
  unfold F_X9_takeNumber_41
  simp only [a1, wm_kR, wm_kt, wm_kn, wm_kin, wm_kL, wm_kI, wm_ksI, wm_ksL, wm_kJ, wm_ksJ, kg_t, kl_v, Option.bind_some, s6_q.1]
  cases σ2 with
  | inl j =>
    have := a2.2.2.2.1
    simp only [this, if_true]
    rfl
  | inr x =>
    obtain ⟨g1, g2, -⟩ := a2.2
    have hne : ¬ I' 6 6 = 0 := by rw [g1]; exact nI_ne0 (by omega) (by omega)
    simp only [hne, if_false]
    rfl
end
section
variable {N : Nat} {I : kInts} {L : kLngs} {n c : Nat} {T : Nat → Nat} {σ : sg}
theorem cx_number_q (h : CS I n T c σ) {lo hh : Nat} {x2 : Int32} (hlo : lo ≤ 100000) (hhi : hh ≤ 100000) (hx : x2 = nI hh - 1) (hN : 1000 < N) : ∃ I', F_X9_takeNumber N (wm Mc I L) 6 (nI lo) x2 = some (nuV n T lo hh σ, wm Mc I' L) ∧ CS I' n T c (stp n T σ (cN n T lo hh)) ∧ CF I I' := by
  have hat := cx_at_q (N := N) (L := L) h 2 (by decide)
  rw [show nI 2 = 2 from rfl] at hat
  unfold F_X9_takeNumber
  simp only [wm_kR, wm_kt, wm_kn, wm_kin, wm_kL, wm_kI, wm_ksI, wm_ksL, wm_kJ, wm_ksJ, kg_t, kl_v, Option.bind_some, s6_q.1, hat]
  cases σ with
  | inr x =>
    have hq : qs (.inr x) (fun j => decide (tK n T j = 2)) = false := rfl
    rw [hq]
    simp only [Bool.false_eq_true, if_false, if_true]
    unfold F_X9_takeNumber_18
    rw [if_pos rfl]
    obtain ⟨I', a1, a2, a3⟩ := cx_num41_q (b := false) (x4 := -1) (cx_takeNo_q (N := N) (L := L) h)
    exact ⟨I', a1, a2, a3⟩
  | inl j =>
    by_cases c2 : tK n T j = 2
    · have hq : qs (.inl j) (fun j => decide (tK n T j = 2)) = true := by simp [qs, c2]
      rw [hq]
      simp only [if_true, if_neg one0, cx_val_q h c2 hN, Option.bind_some]
      have hnv : nuv n T j ≤ 10000300 := nv_le T _ (fun i => (h.1.1.2 i).2) _
      have hc1 : (x2 < nI (min 1000000 (nuv n T j))) = ¬ (nuv n T j < hh) := by
        rw [hx]
        apply propext
        by_cases z : hh = 0
        · subst z
          rw [show nI 0 - 1 = -1 by decide]
          refine ⟨fun _ => by omega, fun _ => ?_⟩
          have := nI_0le (a := min 1000000 (nuv n T j)) (by omega)
          have h1 : (-1 : Int32) < 0 := by decide
          grind
        · rw [show nI hh - 1 = nI (hh - 1) from pk_sub (b := 1) (by omega), nI_ltI (by omega) (by omega)]
          omega
      have hc2 : (nI (min 1000000 (nuv n T j)) < nI lo) = ¬ (lo ≤ nuv n T j) := by
        rw [nI_ltP (by omega) (by omega)]
        apply propext
        omega
      unfold F_X9_takeNumber_18
      rw [if_neg one0]
      simp only [hc1, hc2]
      -- refused for its size
      have bad : (¬ (lo ≤ nuv n T j ∧ nuv n T j < hh)) → ∃ I', F_X9_takeNumber_36 N (wm Mc I L) 6 1 (nI (min 1000000 (nuv n T j))) = some (nuV n T lo hh (.inl j), wm Mc I' L) ∧ CS I' n T c (stp n T (.inl j) (cN n T lo hh)) ∧ CF I I' := by
        intro hb
        have hcn : cN n T lo hh j = 2 := by unfold cN; rw [if_pos c2, if_neg hb]
        obtain ⟨I1, a1, a2, a3⟩ := cx_refuse_q (N := N) (L := L) h (e := 2) (by decide)
        rw [show nI 2 = 2 from rfl] at a1
        obtain ⟨I', b1, b2, b3⟩ := cx_num41_q (b := true) (x4 := nI (min 1000000 (nuv n T j))) (cx_takeYes_q (N := N) (L := L) a2 (fun i hi => by cases hi))
        refine ⟨I', ?_, ?_, a3.trans b3⟩
        · unfold F_X9_takeNumber_36
          simp only [wm_kR, wm_kt, wm_kn, wm_kin, wm_kL, wm_kI, wm_ksI, wm_ksL, wm_kJ, wm_ksJ, kg_t, kl_v, Option.bind_some, s6_q.1, a1]
          have b1' : F_X9_takeNumber_41 N (wm Mc I1 L) 6 1 (nI (min 1000000 (nuv n T j))) = _ := b1
          rw [b1']
          unfold nuV
          simp only [hcn]
          rfl
        · unfold stp
          simp only [hcn]
          exact b2
      by_cases d1 : lo ≤ nuv n T j
      · rw [if_neg (fun z => z d1)]
        by_cases d2 : nuv n T j < hh
        · rw [if_neg (fun z => z d2)]
          have hcn : cN n T lo hh j = 0 := by unfold cN; rw [if_pos c2, if_pos ⟨d1, d2⟩]
          obtain ⟨I', b1, b2, b3⟩ := cx_num41_q (b := true) (x4 := nI (min 1000000 (nuv n T j))) (cx_takeYes_q (N := N) (L := L) h (fun i hi => by cases hi; omega))
          refine ⟨I', ?_, ?_, b3⟩
          · have b1' : F_X9_takeNumber_41 N (wm Mc I L) 6 1 (nI (min 1000000 (nuv n T j))) = _ := b1
            rw [b1']
            unfold nuV
            simp only [hcn, if_true]
            rw [Nat.min_eq_right (by omega)]
            rfl
          · unfold stp
            simp only [hcn, if_true]
            exact b2
        · rw [if_pos d2]
          exact bad (fun z => d2 z.2)
      · rw [if_pos d1]
        exact bad (fun z => d1 z.1)
    · have hq : qs (.inl j) (fun j => decide (tK n T j = 2)) = false := by simp [qs, c2]
      have hcn : cN n T lo hh j = 1 := by unfold cN; rw [if_neg c2]
      rw [hq]
      simp only [Bool.false_eq_true, if_false, if_true]
      unfold F_X9_takeNumber_18
      rw [if_pos rfl]
      obtain ⟨I', a1, a2, a3⟩ := cx_num41_q (b := false) (x4 := -1) (cx_takeNo_q (N := N) (L := L) h)
      refine ⟨I', ?_, ?_, a3⟩
      · have a1' : F_X9_takeNumber_41 N (wm Mc I L) 6 0 (-1) = _ := a1
        rw [a1']
        unfold nuV
        simp only [hcn]
        rfl
      · unfold stp
        simp only [hcn]
        exact a2
end
section
variable {N : Nat} {I : kInts} {L : kLngs} {n c : Nat} {T : Nat → Nat} {σ : sg}
theorem cx_side_q (h : CS I n T c σ) (hN : 1000 < N) : ∃ I', F_X9_takeSide N (wm Mc I L) 6 = some (sdV n T σ, wm Mc I' L) ∧ CS I' n T c (stp n T σ (sdC n T)) ∧ CF I I' := by
  have w1 := cx_atWord_q (N := N) (L := L) kw_left h hN
  have w2 := cx_atWord_q (N := N) (L := L) kw_right h hN
  obtain ⟨I', a1, a2, a3⟩ := cx_takeIf_q (N := N) (L := L) h (p := fun j => isW n T 398548 j || isW n T 19176724 j) (fun j hj => by
    rcases Bool.or_eq_true _ _ ▸ hj with z | z
    · have := isW_4 z; omega
    · have := isW_4 z; omega)
  have h14 : ∀ y, F_X9_takeSide_14 N (wm Mc I L) 6 y = some (y, wm Mc I' L) := by
    intro y
    unfold F_X9_takeSide_14
    simp only [wm_kR, wm_kt, wm_kn, wm_kin, wm_kL, wm_kI, wm_ksI, wm_ksL, wm_kJ, wm_ksJ, kg_t, kl_v, Option.bind_some, s6_q.1, w1, w2]
    cases σ with
    | inr x =>
      have a1' : F_X9_takeIf N (wm Mc I L) 6 0 = some (wm Mc I' L) := a1
      simp only [qs, Bool.false_eq_true, if_false, if_true, a1', wm_kR, wm_kt, wm_kn, wm_kin, wm_kL, wm_kI, wm_ksI, wm_ksL, wm_kJ, wm_ksJ, kg_t, kl_v, Option.bind_some]
    | inl j =>
      simp only [qs] at a1 ⊢
      by_cases z1 : isW n T 398548 j = true
      · simp only [z1, Bool.true_or, if_true, if_neg one0] at a1 ⊢
        simp only [a1, wm_kR, wm_kt, wm_kn, wm_kin, wm_kL, wm_kI, wm_ksI, wm_ksL, wm_kJ, wm_ksJ, kg_t, kl_v, Option.bind_some]
      · have z1' : isW n T 398548 j = false := by simpa using z1
        by_cases z2 : isW n T 19176724 j = true
        · simp only [z1', z2, Bool.false_or, if_true, if_neg one0, Bool.false_eq_true, if_false] at a1 ⊢
          simp only [a1, wm_kR, wm_kt, wm_kn, wm_kin, wm_kL, wm_kI, wm_ksI, wm_ksL, wm_kJ, wm_ksJ, kg_t, kl_v, Option.bind_some]
        · have z2' : isW n T 19176724 j = false := by simpa using z2
          simp only [z1', z2', Bool.false_or, if_true, Bool.false_eq_true, if_false] at a1 ⊢
          simp only [a1, wm_kR, wm_kt, wm_kn, wm_kin, wm_kL, wm_kI, wm_ksI, wm_ksL, wm_kJ, wm_ksJ, kg_t, kl_v, Option.bind_some]
  refine ⟨I', ?_, a2, a3⟩
  unfold F_X9_takeSide sdV
  simp only [wm_kR, wm_kt, wm_kn, wm_kin, wm_kL, wm_kI, wm_ksI, wm_ksL, wm_kJ, wm_ksJ, kg_t, kl_v, Option.bind_some, s6_q.1, w1, h14]
  by_cases z : qs σ (isW n T 398548) = true
  · rw [z]; rfl
  · have z' : qs σ (isW n T 398548) = false := by simpa using z
    rw [z']; rfl
end
section
variable {N : Nat} {I : kInts} {L : kLngs} {n c : Nat} {T : Nat → Nat} {σ : sg}
theorem cx_takeEnd_q (h : CS I n T c σ) : ∃ I', F_X9_takeEnd N (wm Mc I L) 6 = some (wm Mc I' L) ∧ CS I' n T c (enS n T σ) ∧ CF I I' := by
  have hat := cx_at_q (N := N) (L := L) h 4 (by decide)
  rw [show nI 4 = 4 from rfl] at hat
  obtain ⟨I', a1, a2, a3⟩ := cx_refuse_q (N := N) (L := L) h (e := 1) (by decide)
  rw [show nI 1 = 1 from rfl] at a1
  unfold F_X9_takeEnd
  simp only [wm_kR, wm_kt, wm_kn, wm_kin, wm_kL, wm_kI, wm_ksI, wm_ksL, wm_kJ, wm_ksJ, kg_t, kl_v, Option.bind_some, s6_q.1, hat]
  cases σ with
  | inr x =>
    refine ⟨I', ?_, a2, a3⟩
    simp only [qs, Bool.false_eq_true, if_false, if_true, a1, wm_kR, wm_kt, wm_kn, wm_kin, wm_kL, wm_kI, wm_ksI, wm_ksL, wm_kJ, wm_ksJ, kg_t, kl_v, Option.bind_some]
  | inl j =>
    unfold enS qs
    by_cases z : tK n T j = 4
    · refine ⟨I, ?_, ?_, CF.rf'⟩
      · simp only [z, decide_true, if_true, if_neg one0]
      · simp only [z, if_true]; exact h
    · refine ⟨I', ?_, ?_, a3⟩
      · simp only [z, decide_false, Bool.false_eq_true, if_false, if_true, a1, wm_kR, wm_kt, wm_kn, wm_kin, wm_kL, wm_kI, wm_ksI, wm_ksL, wm_kJ, wm_ksJ, kg_t, kl_v, Option.bind_some]
      · simp only [z, if_false]; exact a2
end
section
variable {N : Nat} {I : kInts} {L : kLngs} {n c : Nat} {T : Nat → Nat} {σ : sg} {r : Nat → Int32} {nb nt m : Nat}
theorem ce_at_q (h : ¬ I 6 6 = 0) (x : Int32) : F_X9_at N (wm Mc I L) 6 x = some 0 := by
  unfold F_X9_at
  simp only [wm_kR, wm_kt, wm_kn, wm_kin, wm_kL, wm_kI, wm_ksI, wm_ksL, wm_kJ, wm_ksJ, kg_t, kl_v, Option.bind_some, s6_q.1, h, if_false]
end
section
variable {N : Nat} {I : kInts} {L : kLngs} {n c : Nat} {T : Nat → Nat} {σ : sg} {r : Nat → Int32} {nb nt m : Nat}
theorem ce_failAt_q (h : ¬ I 6 6 = 0) (x e : Int32) : F_X9_failAt N (wm Mc I L) 6 x e = some (wm Mc I L) := by
  unfold F_X9_failAt
  simp only [wm_kR, wm_kt, wm_kn, wm_kin, wm_kL, wm_kI, wm_ksI, wm_ksL, wm_kJ, wm_ksJ, kg_t, kl_v, Option.bind_some, s6_q.1, h, if_false]
end
section
variable {N : Nat} {I : kInts} {L : kLngs} {n c : Nat} {T : Nat → Nat} {σ : sg} {r : Nat → Int32} {nb nt m : Nat}
theorem ce_takeIf_q (h : ¬ I 6 6 = 0) (x : Int32) : F_X9_takeIf N (wm Mc I L) 6 x = some (wm Mc I L) := by
  unfold F_X9_takeIf
  simp only [wm_kR, wm_kt, wm_kn, wm_kin, wm_kL, wm_kI, wm_ksI, wm_ksL, wm_kJ, wm_ksJ, kg_t, kl_v, Option.bind_some, s6_q.1, h, if_false, ce_failAt_q h]
  split <;> rfl
end
section
variable {N : Nat} {I : kInts} {L : kLngs} {n c : Nat} {T : Nat → Nat} {σ : sg} {r : Nat → Int32} {nb nt m : Nat}
theorem ce_refuseT_q (h : ¬ I 6 6 = 0) (x : Int32) : F_X9_refuseTaken N (wm Mc I L) 6 x = some (wm Mc I L) := by
  unfold F_X9_refuseTaken
  simp only [wm_kR, wm_kt, wm_kn, wm_kin, wm_kL, wm_kI, wm_ksI, wm_ksL, wm_kJ, wm_ksJ, kg_t, kl_v, Option.bind_some, s6_q.1, ce_failAt_q h]
end
section
variable {N : Nat} {I : kInts} {L : kLngs} {n c : Nat} {T : Nat → Nat} {σ : sg} {r : Nat → Int32} {nb nt m : Nat}
theorem ce_word_q (h : ¬ I 6 6 = 0) (s : Nat) : F_X9_atWord N (wm Mc I L) 6 s = some 0 := by
  unfold F_X9_atWord
  simp only [wm_kR, wm_kt, wm_kn, wm_kin, wm_kL, wm_kI, wm_ksI, wm_ksL, wm_kJ, wm_ksJ, kg_t, kl_v, Option.bind_some, s6_q.1, ce_at_q h, if_true]
end
section
variable {N : Nat} {I : kInts} {L : kLngs} {n c : Nat} {T : Nat → Nat} {σ : sg} {r : Nat → Int32} {nb nt m : Nat}
theorem ce_sign_q (h : ¬ I 6 6 = 0) (x : Int32) : F_X9_takeSign N (wm Mc I L) 6 x = some (wm Mc I L) := by
  unfold F_X9_takeSign F_X9_atSign
  simp only [wm_kR, wm_kt, wm_kn, wm_kin, wm_kL, wm_kI, wm_ksI, wm_ksL, wm_kJ, wm_ksJ, kg_t, kl_v, Option.bind_some, s6_q.1, ce_at_q h, if_true, ce_takeIf_q h]
end
section
variable {N : Nat} {I : kInts} {L : kLngs} {n c : Nat} {T : Nat → Nat} {σ : sg} {r : Nat → Int32} {nb nt m : Nat}
theorem ce_num_q (h : ¬ I 6 6 = 0) (x y : Int32) : F_X9_takeNumber N (wm Mc I L) 6 x y = some (-1, wm Mc I L) := by
  unfold F_X9_takeNumber F_X9_takeNumber_18 F_X9_takeNumber_41
  simp only [wm_kR, wm_kt, wm_kn, wm_kin, wm_kL, wm_kI, wm_ksI, wm_ksL, wm_kJ, wm_ksJ, kg_t, kl_v, Option.bind_some, s6_q.1, ce_at_q h, if_true, ce_takeIf_q h, h, if_false]
end
section
variable {N : Nat} {I : kInts} {L : kLngs} {n c : Nat} {T : Nat → Nat} {σ : sg} {r : Nat → Int32} {nb nt m : Nat}
theorem ce_side_q (h : ¬ I 6 6 = 0) : F_X9_takeSide N (wm Mc I L) 6 = some (1, wm Mc I L) := by
  unfold F_X9_takeSide F_X9_takeSide_14
  simp only [wm_kR, wm_kt, wm_kn, wm_kin, wm_kL, wm_kI, wm_ksI, wm_ksL, wm_kJ, wm_ksJ, kg_t, kl_v, Option.bind_some, s6_q.1, ce_word_q h, if_true, ce_takeIf_q h]
end
section
variable {N : Nat} {I : kInts} {L : kLngs} {n c : Nat} {T : Nat → Nat} {σ : sg} {r : Nat → Int32} {nb nt m : Nat}
theorem cx_failed_q : F_X9_failed N (wm Mc I L) 6 = some (if I 6 6 = 0 then 0 else 1) := by
  unfold F_X9_failed
  simp only [wm_kR, wm_kt, wm_kn, wm_kin, wm_kL, wm_kI, wm_ksI, wm_ksL, wm_kJ, wm_ksJ, kg_t, kl_v, Option.bind_some, s6_q.1]
  by_cases z : I 6 6 = 0
  · simp only [z, if_true]
  · simp only [z, if_false]
end
section
variable {N : Nat} {I : kInts} {L : kLngs} {n c : Nat} {T : Nat → Nat} {σ : sg} {r : Nat → Int32} {nb nt m : Nat}
theorem cx_bn0_q (hm : m ∈ mks) {x : Int32} (h : x < 0) : F_X4_boardNumbered N (wm Mc I L) m x = some 0 := by
  unfold F_X4_boardNumbered
  rw [if_pos h]
end
section
variable {N : Nat} {I : kInts} {L : kLngs} {n c : Nat} {T : Nat → Nat} {σ : sg} {r : Nat → Int32} {nb nt m : Nat}
theorem cx_freeAny_q (hm : m ∈ mks) {b q : Nat} (hb : b < 5) (hq : q < 13) : ∃ v : Int32, F_X0_isFree N (wm Mc I L) (bd m b) (pz q) = some v ∧ (v = 0 ∨ v = 1) := by
  unfold F_X0_isFree F_X0_hasSeat
  simp only [wm_kR, wm_kt, wm_kn, wm_kin, wm_kL, wm_kI, wm_ksI, wm_ksL, wm_kJ, wm_ksJ, kg_t, kl_v, Option.bind_some, bb_k_q hm hb, cx_own_q hm hb hq]
  by_cases c1 : pz q = 0
  · exact ⟨0, by simp [c1], Or.inl rfl⟩
  · by_cases c2 : pz q < -I (bd m b) 1
    · exact ⟨0, by simp [c1, c2], Or.inl rfl⟩
    · by_cases c3 : I (bd m b) 1 < pz q
      · exact ⟨0, by simp [c1, c2, c3], Or.inl rfl⟩
      · by_cases c4 : I (ow m b) q = -1
        · exact ⟨1, by simp [c1, c2, c3, c4], Or.inr rfl⟩
        · exact ⟨0, by simp [c1, c2, c3, c4], Or.inl rfl⟩
end
section
variable {N : Nat} {I : kInts} {L : kLngs} {n c : Nat} {T : Nat → Nat} {σ : sg} {r : Nat → Int32} {nb nt m : Nat}
theorem ce_112_q (h : ¬ I 6 6 = 0) (a3 a4 : Nat) (x5 x6 : Int32) : F_X7_readSeat_99 N (wm Mc I L) 6 85 a3 a4 x5 x6 = some (wm Mc I L) := by
  unfold F_X7_readSeat_99
  simp only [wm_kR, wm_kt, wm_kn, wm_kin, wm_kL, wm_kI, wm_ksI, wm_ksL, wm_kJ, wm_ksJ, kg_t, kl_v, Option.bind_some, s6_q.1, ce_sign_q h, cx_failed_q, h, if_false, if_neg one0]
end
section
variable {N : Nat} {I : kInts} {L : kLngs} {n c : Nat} {T : Nat → Nat} {σ : sg} {r : Nat → Int32} {nb nt m : Nat}
theorem ce_84_q (h : ¬ I 6 6 = 0) {a3 a4 : Nat} {x5 : Int32} (h4 : a4 = 0 ∨ ∃ b, b < 5 ∧ a4 = bd 85 b) (h5 : x5 = 1 ∨ x5 = -1) (y1 y2 : Int32) : F_X7_readSeat_73 N (wm Mc I L) 6 85 a3 a4 x5 6 y1 y2 = some (wm Mc I L) := by
  unfold F_X7_readSeat_73
  simp only [wm_kR, wm_kt, wm_kn, wm_kin, wm_kL, wm_kI, wm_ksI, wm_ksL, wm_kJ, wm_ksJ, kg_t, kl_v, Option.bind_some, s6_q.1, ce_num_q h]
  by_cases z : a4 = 0
  · simp only [z, if_true, ce_112_q h]
  · obtain ⟨b, hb, e⟩ := h4.resolve_left z
    simp only [z, if_false]
    subst e
    have hm : (85 : Nat) ∈ mks := by decide
    obtain ⟨q, hq, e⟩ : ∃ q, q < 13 ∧ x5 * (-1) = pz q := by
      rcases h5 with rfl | rfl
      · exact ⟨5, by decide, by decide⟩
      · exact ⟨7, by decide, by decide⟩
    obtain ⟨v, hv, hv2⟩ := cx_freeAny_q (N := N) (I := I) (L := L) hm hb hq
    simp only [bb_k_q hm hb, kg_t, e, hv, Option.bind_some, ce_refuseT_q h, ce_112_q h]
    split <;> rfl
end
section
variable {N : Nat} {I : kInts} {L : kLngs} {n c : Nat} {T : Nat → Nat} {σ : sg} {r : Nat → Int32} {nb nt m : Nat}
theorem ce_45_q (h : ¬ I 6 6 = 0) (a3 : Nat) : F_X7_readSeat_37 N (wm Mc I L) 6 85 a3 = some (wm Mc I L) := by
  have hm : (85 : Nat) ∈ mks := by decide
  unfold F_X7_readSeat_37
  simp only [wm_kR, wm_kt, wm_kn, wm_kin, wm_kL, wm_kI, wm_ksI, wm_ksL, wm_kJ, wm_ksJ, kg_t, kl_v, Option.bind_some, s6_q.1, mm_k_q hm, ce_num_q h, cx_bn0_q hm (show (-1 : Int32) < 0 by decide), ce_side_q h, if_true, ce_84_q h (Or.inl rfl) (Or.inl rfl)]
end
section
variable {N : Nat} {I : kInts} {L : kLngs} {n c : Nat} {T : Nat → Nat} {σ : sg} {r : Nat → Int32} {nb nt m : Nat}
theorem cx_sg_q (h : CS I n T c σ) {ch : Nat} (hch : ch < 256) : ∃ I', F_X9_takeSign N (wm Mc I L) 6 (nI ch) = some (wm Mc I' L) ∧ CS I' n T c (stp n T σ (cG n T ch)) ∧ CF I I' := by
  obtain ⟨I', a1, a2, a3⟩ := cx_takeIf_q (N := N) (L := L) h (p := isG n T ch) (fun j hj => by
    unfold isG at hj
    simp only [Bool.and_eq_true, decide_eq_true_eq] at hj
    omega)
  refine ⟨I', ?_, a2, a3⟩
  unfold F_X9_takeSign
  simp only [cx_sign_q h hch, wm_kR, wm_kt, wm_kn, wm_kin, wm_kL, wm_kI, wm_ksI, wm_ksL, wm_kJ, wm_ksJ, kg_t, kl_v, Option.bind_some, s6_q.1, a1]
end
section
variable {N : Nat} {I : kInts} {L : kLngs} {n c : Nat} {T : Nat → Nat} {σ : sg} {r : Nat → Int32} {nb nt m : Nat}
theorem cx_45_q {i : Nat} (hS : CS I n T c (.inl i)) (hR : RI r nb nt) (hM : RM I 85 r nb nt) {t : Nat} (ht : t < nt) (hN : 1000 < N) : ∃ I', F_X7_readSeat_37 N (wm Mc I L) 6 85 (tr 85 t) = some (wm Mc I' L) ∧ CS I' n T c (seG n T r nb t i).1 ∧ RM I' 85 (seG n T r nb t i).2 nb nt ∧ EF I I' := by
  have hm : (85 : Nat) ∈ mks := by decide
  have h5 := hR.nb5
  have h24 := hR.nt24
  have one0' : ¬ (1 : Int32) = 0 := one0
  obtain ⟨I1, a1, a2, a3⟩ := cx_number_q (N := N) (L := L) hS (lo := 0) (hh := nb) (x2 := nI nb - 1) (by omega) (by omega) rfl hN
  have M1 := hM.cf h5 h24 a3
  unfold F_X7_readSeat_37
  rw [show (0 : Int32) = nI 0 from rfl]
  simp only [wm_kR, wm_kt, wm_kn, wm_kin, wm_kL, wm_kI, wm_ksI, wm_ksL, wm_kJ, wm_ksJ, kg_t, kl_v, Option.bind_some, s6_q.1, mm_k_q hm, hM.bc, hR.r7, a1]
  unfold seG
  by_cases c4 : cN n T 0 nb i = 0
  · rw [stp_0 c4] at a2
    rw [nuV_0 c4, if_pos c4]
    have hb := (cN_in c4).2
    generalize hbb : nuv n T i = b at hb ⊢
    have hb5 : b < 5 := by omega
    obtain ⟨a, s, l, ha, -, -, ra, -⟩ := hR.b b hb
    rw [ra, kx_nI (by omega)]
    obtain ⟨I2, b1, b2, b3⟩ := cx_side_q (N := N) (L := L) a2 hN
    have M2 := M1.cf h5 h24 b3
    simp only [cx_bn_in_q hm hR M1 hb, Option.bind_some, b1, show (nI 0 : Int32) = 0 from rfl, bd_ne0, if_false, wm_kt, bb_k_q hm hb5, kg_t, kl_v]
    unfold seH
    by_cases c5 : sdC n T (i + 1) = 0
    · rw [stp_0 c5] at b2
      rw [if_pos c5]
      obtain ⟨I3, d1, d2, d3⟩ := cx_number_q (N := N) (L := L) b2 (lo := 1) (hh := a + 1) (x2 := nI a) (by omega) (by omega) (by show nI a = nI (a + 1) - nI 1; rw [pk_sub (by omega)]; rfl) hN
      have M3 := M2.cf h5 h24 d3
      unfold F_X7_readSeat_73
      rw [show (1 : Int32) = nI 1 from rfl]
      simp only [wm_kR, wm_kt, wm_kn, wm_kin, wm_kL, wm_kI, wm_ksI, wm_ksL, wm_kJ, wm_ksJ, kg_t, kl_v, Option.bind_some, s6_q.1, (M2.bb b hb).1, ra, d1, bd_ne0, if_false, bb_k_q hm hb5]
      unfold seI
      by_cases c6 : cN n T 1 (a + 1) (i + 1 + 1) = 0
      · rw [stp_0 c6] at d2
        rw [nuV_0 c6, if_pos c6]
        obtain ⟨p1, p2, p3, p4⟩ := plc_ok (n := n) (T := T) (i := i + 1) (cN_in c6) (show a ≤ 6 by omega)
        rw [p1]
        generalize hqq : plc n T (i + 1) (nuv n T (i + 1 + 1)) = q at p2 p3 p4 ⊢
        simp only [cx_free_q hm hR M3 hb ra (by omega) p2 p3 p4, Option.bind_some]
        by_cases c7 : r (si b q) = 0
        · simp only [c7, if_true, show ¬ (nI 1 = 0) from one0', if_false]
          obtain ⟨I4, e1, e2, e3⟩ := cx_sg_q (N := N) (L := L) d2 (ch := 59) (by decide)
          have M4 := M3.cf h5 h24 e3
          unfold F_X7_readSeat_99
          rw [show (59 : Int32) = nI 59 from rfl]
          simp only [wm_kR, wm_kt, wm_kn, wm_kin, wm_kL, wm_kI, wm_ksI, wm_ksL, wm_kJ, wm_ksJ, kg_t, kl_v, Option.bind_some, s6_q.1, e1, cx_failed_q, tr_ne0, bd_ne0, if_false, mm_k_q hm]
          by_cases c8 : cG n T 59 (i + 1 + 1 + 1) = 0
          · rw [stp_0 c8] at e2
            simp only [e2.ok, c8, if_true]
            obtain ⟨I5, f1, f2, f3⟩ := cx_seat_q (N := N) (L := L) hm h5 h24 M4 (show t < 24 by omega) hb5 (show q < 13 by omega) p4
            refine ⟨I5, ?_, e2.fm f3, f2, (((a3.trans b3).trans d3).trans e3).e.trans f3.e⟩
            simp only [one0', if_false]
            rw [p1, hqq, f1]
            simp only [Option.bind_some, c8, if_true]
          · rw [stp_e c8] at e2
            have hz := CS.err e2
            refine ⟨I4, ?_, ?_, ?_, (((a3.trans b3).trans d3).trans e3).e⟩
            · simp only [hz, if_false, one0']
            · simp only [c8, if_false]; exact e2
            · simp only [c8, if_false]; exact M4
        · obtain ⟨I4, e1, e2, e3⟩ := cx_refuseT_q (N := N) (L := L) d2 (e := 3) (by decide) (fun j hj => by cases hj; omega)
          rw [show nI 3 = 3 from rfl] at e1
          have M4 := M3.cf h5 h24 e3
          have e2' : CS I4 n T c (erS n T (i + 1 + 1) 3) := e2
          have hz := CS.err e2'
          refine ⟨I4, ?_, ?_, ?_, (((a3.trans b3).trans d3).trans e3).e⟩
          · simp only [c7, if_false, if_true, e1, Option.bind_some, ce_112_q hz]
          · simp only [c7, if_false]; exact e2'
          · simp only [c7, if_false]; exact M4
      · rw [stp_e c6] at d2
        have hz := CS.err d2
        obtain ⟨q, hq, e⟩ : ∃ q, q < 13 ∧ sdV n T (.inl (i + 1)) * (-1) = pz q := by
          rcases sdV_or (n := n) (T := T) (σ := .inl (i + 1)) with z | z
          · exact ⟨5, by decide, by rw [z]; decide⟩
          · exact ⟨7, by decide, by rw [z]; decide⟩
        obtain ⟨v, hv, hv2⟩ := cx_freeAny_q (N := N) (I := I3) (L := L) hm hb5 hq
        refine ⟨I3, ?_, ?_, ?_, ((a3.trans b3).trans d3).e⟩
        · rw [nuV_e c6, e, hv]
          simp only [Option.bind_some, ce_refuseT_q hz, ce_112_q hz]
          split <;> rfl
        · simp only [c6, if_false]; exact d2
        · simp only [c6, if_false]; exact M3
    · rw [stp_e c5] at b2
      have hz := CS.err b2
      refine ⟨I2, ?_, ?_, ?_, (a3.trans b3).e⟩
      · exact ce_84_q hz (Or.inr ⟨b, hb5, rfl⟩) sdV_or _ _
      · simp only [c5, if_false]; exact b2
      · simp only [c5, if_false]; exact M2
  · rw [stp_e c4] at a2
    have hz := CS.err a2
    refine ⟨I1, ?_, ?_, ?_, a3.e⟩
    · rw [nuV_e c4]
      simp only [cx_bn0_q hm (show (-1 : Int32) < 0 by decide), Option.bind_some, ce_side_q hz, if_true, kl_v]
      exact ce_84_q hz (Or.inl rfl) (Or.inl rfl) _ _
    · simp only [c4, if_false]; exact a2
    · simp only [c4, if_false]; exact M1
end
section
variable {N : Nat} {I : kInts} {L : kLngs} {n c : Nat} {T : Nat → Nat} {r : Nat → Int32} {nb nt : Nat}
theorem cx_readSeat_q {j : Nat} (hS : CS I n T c (.inl j)) (hk : tK n T j = 1) (hR : RI r nb nt) (hM : RM I 85 r nb nt) (hN : 1000 < N) : ∃ I', F_X7_readSeat N (wm Mc I L) 6 85 = some (wm Mc I' L) ∧ CS I' n T c (seF n T r nb nt (j + 1)).1 ∧ RM I' 85 (seF n T r nb nt (j + 1)).2 nb nt ∧ EF I I' := by
  have hm : (85 : Nat) ∈ mks := by decide
  have h5 := hR.nb5
  have h24 := hR.nt24
  have hN2 : 100 < N := by omega
  obtain ⟨I1, a1, a2, a3⟩ := cx_anyWord_q (N := N) (L := L) hS
  rw [stp_0 (by simp [hk])] at a2
  have M1 := hM.cf h5 h24 a3
  obtain ⟨I2, v, b1, b2, b3, b5, b6⟩ := cx_takeName_q (N := N) (L := L) a2 hN
  have hd : EF I1 I2 := b3.e
  have M2 : RM I2 85 r nb nt := M1.cf h5 h24 b3
  unfold F_X7_readSeat
  simp only [wm_kR, wm_kt, wm_kn, wm_kin, wm_kL, wm_kI, wm_ksI, wm_ksL, wm_kJ, wm_ksJ, kg_t, kl_v, Option.bind_some, s6_q.1, a1, b1, mm_k_q hm]
  unfold seF
  by_cases cm : isM n T (j + 1) = true
  · rw [stp_0 (by simp [cm])] at b2
    have hnq := (b5 (j + 1) rfl cm).z
    rw [cx_named_q hm hnq h24 hR.r8 M2.tc M2.n hN2]
    rw [if_pos cm]
    cases hf : fnd r nt (nmc n T (j + 1)) with
    | none =>
      obtain ⟨I3, e1, e2, e3⟩ := cx_refuseT_q (N := N) (L := L) b2 (e := 4) (by decide) (fun j hj => by cases hj; omega)
      rw [show nI 4 = 4 from rfl] at e1
      have e2' : CS I3 n T c (erS n T (j + 1) 4) := e2
      refine ⟨I3, ?_, e2', M2.cf h5 h24 e3, (a3.d.trans hd).trans e3.d⟩
      simp only [Option.bind_some, cOf, if_true, e1, ce_45_q (CS.err e2')]
    | some t =>
      have ht := fnd_lt hf
      have ht24 : t < 24 := by omega
      simp only [Option.bind_some, cOf, tr_ne0, if_false, tt_k_q hm ht24, kg_t, cx_seated_q hm h24 M2 ht]
      by_cases cs : r (89 + 7 * t + 5) = -1
      · simp only [cs, if_true]
        obtain ⟨I3, f1, f2, f3, f4⟩ := cx_45_q (N := N) (L := L) b2 hR M2 ht hN
        exact ⟨I3, f1, f2, f3, (a3.d.trans hd).trans f4.d⟩
      · obtain ⟨I3, e1, e2, e3⟩ := cx_refuseT_q (N := N) (L := L) b2 (e := 3) (by decide) (fun j hj => by cases hj; omega)
        rw [show nI 3 = 3 from rfl] at e1
        have e2' : CS I3 n T c (erS n T (j + 1) 3) := e2
        simp only [cs, if_false, if_neg one0]
        refine ⟨I3, ?_, e2', M2.cf h5 h24 e3, (a3.d.trans hd).trans e3.d⟩
        simp only [Option.bind_some, e1, ce_45_q (CS.err e2')]
  · rw [stp_e (by simp [cm])] at b2
    have hz := CS.err b2
    obtain ⟨q, hq3⟩ := b6
    rw [cx_named_q hm hq3 h24 hR.r8 M2.tc M2.n hN2, if_neg cm]
    have hfin : erS n T (j + 1) (if isM n T (j + 1) = true then 0 else 1) = erS n T (j + 1) 1 := by rw [if_neg cm]
    refine ⟨I2, ?_, ?_, M2, a3.d.trans hd⟩
    · simp only [Option.bind_some, ce_refuseT_q hz, ce_45_q hz]
      cases hf : fnd r nt q with
      | none => simp only [cOf, if_true]
      | some t =>
        have ht := fnd_lt hf
        simp only [cOf, tr_ne0, if_false, tt_k_q hm (show t < 24 by omega), kg_t, cx_seated_q hm h24 M2 ht, Option.bind_some]
        split <;> split <;> rfl
    · rw [← hfin]; exact b2
end
section
variable {N : Nat} {I : kInts} {L : kLngs} {r f : Nat → Int32} {nb nt m : Nat} {cc w p ag : Int32}
theorem cx_admit_q (hm : m ∈ mks) {v : Int64} (hi : RM I m r nb nt) (h5 : nb ≤ 5) (hn : nt < 24) (h8 : r 8 = nI nt) (hq : nmV v cc) : ∃ I', F_X4_admit N (wm Mc I L) m v w p ag = some (nI nt, wm Mc I' L) ∧ RM I' m (jnR r nt cc w p ag) nb (nt + 1) ∧ FR m I I' := by
  have q1 : tr m nt = m + 17 + nt := rfl
  have htc : I m 12 = nI nt := hi.tc.trans h8
  have ea : nI nt + 1 = nI (nt + 1) := by rw [nI_succ]
  have hlim : nt < 24 := hn
  let I0 := upJ (up I m 12 (nI (nt + 1))) (tr m nt) 1 v
  let I1 := up (up (up (up (up (up I0 (tr m nt) 2 w) (tr m nt) 3 p) (tr m nt) 4 ag) (tr m nt) 5 1) (tr m nt) 6 (-1)) (tr m nt) 7 0
  have x1 : ∀ x j, x ≠ m → x ≠ tr m nt → I1 x j = I x j := by
    intro x j y1 y4
    show up (up (up (up (up (up I0 (tr m nt) 2 w) (tr m nt) 3 p) (tr m nt) 4 ag) (tr m nt) 5 1) (tr m nt) 6 (-1)) (tr m nt) 7 0 x j = _
    rw [up_ne (Or.inl y4), up_ne (Or.inl y4), up_ne (Or.inl y4), up_ne (Or.inl y4), up_ne (Or.inl y4), up_ne (Or.inl y4)]
    exact (upJ_ne (Or.inl y4)).trans (up_ne (Or.inl y1))
  have x2 : ∀ j, I1 m j = up I m 12 (nI (nt + 1)) m j := by
    intro j
    show up (up (up (up (up (up I0 (tr m nt) 2 w) (tr m nt) 3 p) (tr m nt) 4 ag) (tr m nt) 5 1) (tr m nt) 6 (-1)) (tr m nt) 7 0 m j = _
    rw [up_ne (Or.inl (by omega)), up_ne (Or.inl (by omega)), up_ne (Or.inl (by omega)), up_ne (Or.inl (by omega)), up_ne (Or.inl (by omega)), up_ne (Or.inl (by omega))]
    exact upJ_ne (Or.inl (by omega))
  have x3 : jn I1 (tr m nt) 1 = v := by
    show jn (up (up (up (up (up (up I0 (tr m nt) 2 w) (tr m nt) 3 p) (tr m nt) 4 ag) (tr m nt) 5 1) (tr m nt) 6 (-1)) (tr m nt) 7 0) (tr m nt) 1 = _
    rw [jn_up (Or.inr (by decide)), jn_up (Or.inr (by decide)), jn_up (Or.inr (by decide)), jn_up (Or.inr (by decide)), jn_up (Or.inr (by decide)), jn_up (Or.inr (by decide))]
    exact jn_eq
  have x5 : I1 (tr m nt) 0 = I (tr m nt) 0 := by
    show up (up (up (up (up (up I0 (tr m nt) 2 w) (tr m nt) 3 p) (tr m nt) 4 ag) (tr m nt) 5 1) (tr m nt) 6 (-1)) (tr m nt) 7 0 (tr m nt) 0 = _
    rw [up_ne (Or.inr (by decide)), up_ne (Or.inr (by decide)), up_ne (Or.inr (by decide)), up_ne (Or.inr (by decide)), up_ne (Or.inr (by decide)), up_ne (Or.inr (by decide))]
    exact (upJ_ne (Or.inr (by decide))).trans (up_ne (Or.inl (by omega)))
  have x6 : I1 (tr m nt) 2 = w ∧ I1 (tr m nt) 3 = p ∧ I1 (tr m nt) 4 = ag ∧ I1 (tr m nt) 5 = 1 ∧ I1 (tr m nt) 6 = -1 ∧ I1 (tr m nt) 7 = 0 := by
    refine ⟨?_, ?_, ?_, ?_, ?_, up_eq⟩
    · exact (up_ne (Or.inr (by decide))).trans ((up_ne (Or.inr (by decide))).trans ((up_ne (Or.inr (by decide))).trans ((up_ne (Or.inr (by decide))).trans ((up_ne (Or.inr (by decide))).trans up_eq))))
    · exact (up_ne (Or.inr (by decide))).trans ((up_ne (Or.inr (by decide))).trans ((up_ne (Or.inr (by decide))).trans ((up_ne (Or.inr (by decide))).trans up_eq)))
    · exact (up_ne (Or.inr (by decide))).trans ((up_ne (Or.inr (by decide))).trans ((up_ne (Or.inr (by decide))).trans up_eq))
    · exact (up_ne (Or.inr (by decide))).trans ((up_ne (Or.inr (by decide))).trans up_eq)
    · exact (up_ne (Or.inr (by decide))).trans up_eq
  have x7 : I1 m 7 = I m 7 := (x2 7).trans (up_ne (Or.inr (by decide)))
  obtain ⟨j0, j1, j2, j3, j4, j5, j6⟩ := jnR_t (r := r) (nt := nt) (cc := cc) (w := w) (p := p) (ag := ag)
  refine ⟨up I1 m 7 (I m 7 + p), ?_, ?_, ?_⟩
  · unfold F_X4_admit
    simp (disch := omega) only [wm_kR, wm_kt, wm_kn, wm_kin, wm_kL, wm_kI, wm_ksI, wm_ksL, wm_kJ, wm_ksJ, kg_t, kl_v, Option.bind_some, mm_k_q hm, mm_bs_q hm, mm_bn_q hm, mm_ts_q hm, mm_tn_q hm, mm_e_q hm, mm_ek_q hm, mm_ts_q hm, mm_tn_q hm, ofNnI, htc, nI_ltP, hlim, if_true, kin_t_q hm hn, kx_nI, tt_r_q hm hn, tt_k_q hm hn, ea]
    have z1 : up I1 m 7 (I m 7 + p) (tr m nt) 0 = nI nt := (up_ne (Or.inl (by omega))).trans (x5.trans (hi.nu.2.1 nt hn))
    have z7 : up (up (up (up (up (up I0 (tr m nt) 2 w) (tr m nt) 3 p) (tr m nt) 4 ag) (tr m nt) 5 1) (tr m nt) 6 (-1)) (tr m nt) 7 0 m 7 = I m 7 := x7
    have z8 : up (up (up (up (up (up (up I0 (tr m nt) 2 w) (tr m nt) 3 p) (tr m nt) 4 ag) (tr m nt) 5 1) (tr m nt) 6 (-1)) (tr m nt) 7 0) m 7 (I m 7 + p) (tr m nt) 0 = nI nt := z1
    rw [show (true && ((1 : Int32) == 0 || (1 : Int32) == 1)) = true from rfl, kg_t, z7, z8]
  · have g := hi.g
    refine ⟨hi.nu.cg (fun c hc => ?_) (fun t ht => ?_) (fun t ht => ?_), ?_, hi.bb.cg (fun c hc j => ?_) (fun c hc j => ?_) (fun k h1 h2 => jnR_ne (by omega) (by omega) (by omega)) h5, fun t ht => ?_, fun t ht => ?_, hi.e.cg ?_ (fun k hk j => ?_) (fun k hk => jnR_ne (by omega) (by omega) (by omega))⟩
    · have : bd m c = m + 7 + 2 * c := rfl
      exact (up_ne (Or.inl (by omega))).trans (x1 _ _ (by omega) (by omega))
    · have : tr m t = m + 17 + t := rfl
      rw [up_ne (Or.inl (by omega))]
      by_cases e : t = nt
      · rw [e]; exact x5
      · exact x1 _ _ (by omega) (by omega)
    · have : tr m t = m + 17 + t := rfl
      rw [up_ne (Or.inl (by omega))]
      by_cases e : t = nt
      · rw [e]; exact Or.inr (Or.inr x6.2.2.2.1)
      · exact Or.inl (x1 _ _ (by omega) (by omega))
    · have e : ∀ j, j ≠ 7 → j ≠ 12 → up I1 m 7 (I m 7 + p) m j = I m j := fun j h1 h2 => (up_ne (Or.inr h1)).trans ((x2 j).trans (up_ne (Or.inr h2)))
      unfold RMg
      obtain ⟨g0, g1, g2, g3, g4, g5, g6, g7, g8, g9, g10, g11, g12⟩ := g
      rw [e 0 (by decide) (by decide), e 1 (by decide) (by decide), e 2 (by decide) (by decide), e 3 (by decide) (by decide), e 4 (by decide) (by decide), e 5 (by decide) (by decide), e 6 (by decide) (by decide), e 8 (by decide) (by decide), e 9 (by decide) (by decide), e 10 (by decide) (by decide), e 11 (by decide) (by decide), jnR_8, jnR_9, jnR_ne (k := 6) (by omega) (by omega) (by omega), jnR_ne (k := 5) (by omega) (by omega) (by omega), jnR_ne (k := 0) (by omega) (by omega) (by omega), jnR_ne (k := 1) (by omega) (by omega) (by omega), jnR_ne (k := 2) (by omega) (by omega) (by omega), jnR_ne (k := 3) (by omega) (by omega) (by omega), jnR_ne (k := 4) (by omega) (by omega) (by omega), jnR_ne (k := 10) (by omega) (by omega) (by omega), jnR_ne (k := 11) (by omega) (by omega) (by omega), jnR_ne (k := 12) (by omega) (by omega) (by omega), jnR_ne (k := 7) (by omega) (by omega) (by omega)]
      exact ⟨g0, g1, g2, g3, g4, g5, g6, by rw [up_eq, g7], g8, g9, g10, g11, (up_ne (Or.inr (by decide))).trans ((x2 12).trans up_eq)⟩
    · have : bd m c = m + 7 + 2 * c := rfl
      exact (up_ne (Or.inl (by omega))).trans (x1 _ _ (by omega) (by omega))
    · have : ow m c = m + 8 + 2 * c := rfl
      exact (up_ne (Or.inl (by omega))).trans (x1 _ _ (by omega) (by omega))
    · have ett : tr m t = m + 17 + t := rfl
      have z : ∀ j, up I1 m 7 (I m 7 + p) (tr m t) j = I1 (tr m t) j := fun j => up_ne (Or.inl (by omega))
      rw [z, z, z, z, z, z]
      by_cases e : t = nt
      · subst e
        rw [j1, j2, j3, j4, j5, j6]
        exact x6
      · have z2 : ∀ j, I1 (tr m t) j = I (tr m t) j := fun j => x1 _ _ (by omega) (by omega)
        rw [z2, z2, z2, z2, z2, z2, jnR_ne (by omega) (by omega) (by omega), jnR_ne (by omega) (by omega) (by omega), jnR_ne (by omega) (by omega) (by omega), jnR_ne (by omega) (by omega) (by omega), jnR_ne (by omega) (by omega) (by omega), jnR_ne (by omega) (by omega) (by omega)]
        exact hi.tt t (by omega)
    · have ett : tr m t = m + 17 + t := rfl
      by_cases e : t = nt
      · subst e
        rw [j0, jn_up (Or.inl (by omega)), x3]
        exact hq
      · rw [jnR_ne (by omega) (by omega) (by omega), jn_up (Or.inl (by omega)), jn_cg (I := I) (a := tr m t) (fun j _ => x1 _ _ (by omega) (by omega))]
        exact hi.n t (by omega)
    · have : ev m = m + 3 := rfl
      exact (up_ne (Or.inl (by omega))).trans (x1 _ _ (by omega) (by omega))
    · have : ek m k = m + 4 + k := rfl
      exact (up_ne (Or.inl (by omega))).trans (x1 _ _ (by omega) (by omega))
  · intro x j hx
    exact (up_ne (Or.inl (by omega))).trans (x1 _ _ (by omega) (by omega))
end
section
variable {N : Nat} {I : kInts} {L : kLngs} {n c : Nat} {T : Nat → Nat} {σ : sg} {r s : Nat → Int32} {nb nt : Nat}
theorem cx_tr28_q {i : Nat} (hS : CS I n T c (tr0 n T r nt i)) (hR : RI r nb nt) (hM : RM I 85 r nb nt) (hn : nt < 24) {v : Int64} (hq : okS (tr0 n T r nt i) = true → nmV v (nmc n T i)) (hN : 1000 < N) : ∃ I', F_X7_readTrader_22 N (wm Mc I L) 6 85 v = some (wm Mc I' L) ∧ CS I' n T c (tr4 n T r nt i) ∧ (if okS (tr4 n T r nt i) = true then RM I' 85 (trR n T r nt i) nb (nt + 1) else RM I' 85 r nb nt) ∧ EF I I' := by
  have hm : (85 : Nat) ∈ mks := by decide
  have h5 := hR.nb5
  have h24 := hR.nt24
  obtain ⟨-, -, -, -, ⟨rt, hrt, ert⟩, -, -⟩ := hR.g
  obtain ⟨I1, a1, a2, a3⟩ := cx_number_q (N := N) (L := L) hS (lo := 1) (hh := 100) (x2 := 99) (by decide) (by decide) (by decide) hN
  obtain ⟨I2, b1, b2, b3⟩ := cx_number_q (N := N) (L := L) a2 (lo := 0) (hh := 10000) (x2 := 9999) (by decide) (by decide) (by decide) hN
  have M2 : RM I2 85 r nb nt := hM.cf h5 h24 (a3.trans b3)
  have e3 : kx (r 3) = rt := by rw [ert, kx_nI (by omega)]
  obtain ⟨I3, d1, d2, d3⟩ := cx_number_q (N := N) (L := L) b2 (lo := 0) (hh := kx (r 3) + 1) (x2 := r 3) (by decide) (by omega) (by rw [e3, ert]; show nI rt = nI (rt + 1) - nI 1; rw [pk_sub (by omega)]; rfl) hN
  obtain ⟨I4, f1, f2, f3⟩ := cx_sg_q (N := N) (L := L) d2 (ch := 59) (by decide)
  have hcf : CF I I4 := ((a3.trans b3).trans d3).trans f3
  have M4 : RM I4 85 r nb nt := hM.cf h5 h24 hcf
  rw [show nI 1 = 1 from rfl] at a1
  rw [show nI 0 = 0 from rfl] at b1 d1
  rw [show nI 59 = 59 from rfl] at f1
  have hS4 : CS I4 n T c (tr4 n T r nt i) := f2
  unfold F_X7_readTrader_22
  simp only [wm_kR, wm_kt, wm_kn, wm_kin, wm_kL, wm_kI, wm_ksI, wm_ksL, wm_kJ, wm_ksJ, kg_t, kl_v, Option.bind_some, s6_q.1, a1, b1, mm_k_q hm, M2.ret, d1, f1, cx_failed_q]
  by_cases hok : okS (tr4 n T r nt i) = true
  · obtain ⟨⟨o1, o2⟩, o3, o4, o5, ⟨o6, o7, o8, o9⟩, o10⟩ := ok_tr4 hok
    rw [o10] at hS4
    have hq4 : nmV v (nmc n T i) := hq (by rw [o6]; rfl)
    have v1 : nuV n T 1 100 (tr0 n T r nt i) = nI (nuv n T (i + 1)) := by rw [o6, nuV_0 o3]
    have v2 : nuV n T 0 10000 (stp n T (tr0 n T r nt i) (cN n T 1 100)) = nI (nuv n T (i + 2)) := by
      show nuV n T 0 10000 (tr1 n T r nt i) = _
      rw [o7, nuV_0 o4]
    have v3 : nuV n T 0 (kx (r 3) + 1) (stp n T (stp n T (tr0 n T r nt i) (cN n T 1 100)) (cN n T 0 10000)) = nI (nuv n T (i + 3)) := by
      show nuV n T 0 (kx (r 3) + 1) (tr2 n T r nt i) = _
      rw [o8, nuV_0 o5]
    obtain ⟨I5, g1, g2, g3⟩ := cx_admit_q (N := N) (L := L) (w := nI (nuv n T (i + 1))) (p := nI (nuv n T (i + 2))) (ag := nI (nuv n T (i + 3))) hm M4 h5 hn hR.r8 hq4
    refine ⟨I5, ?_, ?_, ?_, hcf.e.trans g3.e⟩
    · simp only [hS4.ok, if_true, v1, v2, v3, g1, Option.bind_some]
    · rw [o10]; exact hS4.fm g3
    · rw [if_pos hok]; exact g2
  · have hz : ¬ I4 6 6 = 0 := by
      cases hs : tr4 n T r nt i with
      | inl j => rw [hs] at hok; exact absurd rfl hok
      | inr x => rw [hs] at hS4; exact CS.err hS4
    refine ⟨I4, ?_, hS4, ?_, hcf.e⟩
    · simp only [hz, if_false, if_neg one0]
    · rw [if_neg hok]; exact M4
end
section
variable {N : Nat} {I : kInts} {L : kLngs} {n c : Nat} {T : Nat → Nat} {σ : sg} {r s : Nat → Int32} {nb nt : Nat}
theorem cx_readTrader_q {j : Nat} (hS : CS I n T c (.inl j)) (hk : tK n T j = 1) (hR : RI r nb nt) (hM : RM I 85 r nb nt) (hn : nt < 24) (hN : 1000 < N) : ∃ I', F_X7_readTrader N (wm Mc I L) 6 85 = some (wm Mc I' L) ∧ CS I' n T c (tr4 n T r nt (j + 1)) ∧ (if okS (tr4 n T r nt (j + 1)) = true then RM I' 85 (trR n T r nt (j + 1)) nb (nt + 1) else RM I' 85 r nb nt) ∧ EF I I' := by
  have hm : (85 : Nat) ∈ mks := by decide
  have h5 := hR.nb5
  have h24 := hR.nt24
  have hN2 : 100 < N := by omega
  obtain ⟨I1, a1, a2, a3⟩ := cx_anyWord_q (N := N) (L := L) hS
  rw [stp_0 (by simp [hk])] at a2
  have M1 := hM.cf h5 h24 a3
  obtain ⟨I2, v, b1, b2, b3, b5, q, hq2⟩ := cx_takeName_q (N := N) (L := L) a2 hN
  have M2 : RM I2 85 r nb nt := M1.cf h5 h24 b3
  have pre : ∃ I3, (F_X7_readTrader N (wm Mc I L) 6 85 = F_X7_readTrader_22 N (wm Mc I3 L) 6 85 v) ∧ CS I3 n T c (tr0 n T r nt (j + 1)) ∧ RM I3 85 r nb nt ∧ (okS (tr0 n T r nt (j + 1)) = true → nmV v (nmc n T (j + 1))) ∧ CF I2 I3 := by
    unfold F_X7_readTrader tr0
    by_cases cm : isM n T (j + 1) = true
    · rw [stp_0 (by simp [cm])] at b2
      have hnq := b5 (j + 1) rfl cm
      have hnm := cx_named_q (N := N) (L := L) hm hnq.z h24 hR.r8 M2.tc M2.n hN2
      rw [if_pos cm]
      simp only [wm_kR, wm_kt, wm_kn, wm_kin, wm_kL, wm_kI, wm_ksI, wm_ksL, wm_kJ, wm_ksJ, kg_t, kl_v, Option.bind_some, s6_q.1, a1, b1, mm_k_q hm, hnm]
      cases hf : fnd r nt (nmc n T (j + 1)) with
      | none =>
        refine ⟨I2, ?_, b2, M2, fun _ => hnq, CF.rf'⟩
        simp only [cOf, if_true]
      | some t =>
        obtain ⟨I3, e1, e2, e3⟩ := cx_refuseT_q (N := N) (L := L) b2 (e := 3) (by decide) (fun j hj => by cases hj; omega)
        rw [show nI 3 = 3 from rfl] at e1
        have e2' : CS I3 n T c (erS n T (j + 1) 3) := e2
        refine ⟨I3, ?_, e2', M2.cf h5 h24 e3, (fun z => by cases z), e3⟩
        simp only [cOf, tr_ne0, if_false, e1, Option.bind_some]
    · rw [stp_e (by simp [cm])] at b2
      have hz := CS.err b2
      have hnm := cx_named_q (N := N) (L := L) hm hq2 h24 hR.r8 M2.tc M2.n hN2
      simp only [wm_kR, wm_kt, wm_kn, wm_kin, wm_kL, wm_kI, wm_ksI, wm_ksL, wm_kJ, wm_ksJ, kg_t, kl_v, Option.bind_some, s6_q.1, a1, b1, mm_k_q hm, hnm, ce_refuseT_q hz]
      rw [if_neg cm] at b2 ⊢
      refine ⟨I2, ?_, b2, M2, (fun z => by cases z), CF.rf'⟩
      split <;> rfl
  obtain ⟨I3, p1, p2, p3, p4, p5⟩ := pre
  obtain ⟨I4, q1, q2, q3, q4⟩ := cx_tr28_q (N := N) (L := L) p2 hR p3 hn p4 hN
  exact ⟨I4, p1.trans q1, q2, q3, ((a3.trans b3).trans p5).e.trans q4⟩
end
section
variable {N : Nat} {I : kInts} {L : kLngs} {n c : Nat} {T : Nat → Nat} {σ : sg} {r s : Nat → Int32} {nb nt m : Nat} {a1 a2 a3 : Int32}
theorem cx_buildL_q (hm : m ∈ mks) {b : Nat} (hb : b < 5) : ∀ (k i z : Nat) (I : kInts), i + k = 13 → k < z → ∃ I', F_X0_build_18 N z (wm Mc I L) (bd m b) (nI i) = some (wm Mc I' L) ∧ (∀ q, i ≤ q → q < 13 → I' (ow m b) q = -1) ∧ (∀ q, q < i → I' (ow m b) q = I (ow m b) q) ∧ (∀ x j, x ≠ ow m b → I' x j = I x j)
  | k, i, 0, _, _, h => absurd h (Nat.not_lt_zero _)
  | 0, i, z + 1, I, e, _ => by
    refine ⟨I, ?_, fun q h1 h2 => by omega, fun _ _ => rfl, fun _ _ _ => rfl⟩
    unfold F_X0_build_18
    simp (disch := omega) only [wm_kR, wm_kt, wm_kn, wm_kin, wm_kL, wm_kI, wm_ksI, wm_ksL, wm_kJ, wm_ksJ, kg_t, kl_v, Option.bind_some, bb_k_q hm hb, bb_o_q hm hb, bb_ok_q hm hb, bb_on_q hm hb, ofNnI, nI_ltP]
    rw [if_neg (by omega)]
  | k + 1, i, z + 1, I, e, hz => by
    have hi : i < 13 := by omega
    obtain ⟨I', g1, g2, g3, g4⟩ := cx_buildL_q hm hb k (i + 1) z (up I (ow m b) i (-1)) (by omega) (by omega)
    refine ⟨I', ?_, fun q h1 h2 => ?_, fun q hq => ?_, fun x j hx => (g4 x j hx).trans (up_ne (Or.inl hx))⟩
    · unfold F_X0_build_18
      simp (disch := omega) only [wm_kR, wm_kt, wm_kn, wm_kin, wm_kL, wm_kI, wm_ksI, wm_ksL, wm_kJ, wm_ksJ, kg_t, kl_v, Option.bind_some, bb_k_q hm hb, bb_o_q hm hb, bb_ok_q hm hb, bb_on_q hm hb, ofNnI, nI_ltP, kin_nI (bb_ok_q hm hb) (bb_on_q hm hb) hi, kx_nI, nI_1]
      rw [if_pos hi]
      exact g1
    · by_cases y : q = i
      · subst y
        exact (g3 q (by omega)).trans up_eq
      · exact g2 q (by omega) h2
    · exact (g3 q (by omega)).trans (up_ne (Or.inr (by omega)))
end
section
variable {N : Nat} {I : kInts} {L : kLngs} {n c : Nat} {T : Nat → Nat} {σ : sg} {r s : Nat → Int32} {nb nt m : Nat} {a1 a2 a3 : Int32}
theorem cx_addBoard_q (hm : m ∈ mks) (hi : RM I m r nb nt) (hn : nb < 5) (h24 : nt ≤ 24) (h7 : r 7 = nI nb) (hZ : ∀ q, q < 13 → q ≠ 6 → r (si nb q) = 0) (hN : 100 < N) : ∃ I', F_X4_addBoard N (wm Mc I L) m a1 a2 a3 = some (wm Mc I' L) ∧ RM I' m (boR r nb a1 a2 a3) (nb + 1) nt ∧ FR m I I' := by
  have q1 : bd m nb = m + 7 + 2 * nb := rfl
  have q2 : ow m nb = m + 8 + 2 * nb := rfl
  have hbc : I m 11 = nI nb := hi.bc.trans h7
  obtain ⟨I1, g1, g2, g3, g4⟩ := cx_buildL_q (N := N) (L := L) hm hn 13 0 N (up (up (up I (bd m nb) 1 a1) (bd m nb) 2 a2) (bd m nb) 3 a3) (by omega) (by omega)
  have x0 : ∀ x j, x ≠ ow m nb → x ≠ bd m nb → I1 x j = I x j := fun x j h1 h2 => (g4 x j h1).trans ((up_ne (Or.inl h2)).trans ((up_ne (Or.inl h2)).trans (up_ne (Or.inl h2))))
  have xb : ∀ j, I1 (bd m nb) j = up (up (up I (bd m nb) 1 a1) (bd m nb) 2 a2) (bd m nb) 3 a3 (bd m nb) j := fun j => g4 _ j (by omega)
  have em : I1 m 11 = nI nb := (x0 _ _ (by omega) (by omega)).trans hbc
  have ea : nI nb + 1 = nI (nb + 1) := by rw [nI_succ]
  refine ⟨up I1 m 11 (nI (nb + 1)), ?_, ?_, ?_⟩
  · unfold F_X4_addBoard F_X0_build
    rw [show nI 0 = 0 from rfl] at g1
    simp (disch := omega) only [wm_kR, wm_kt, wm_kn, wm_kin, wm_kL, wm_kI, wm_ksI, wm_ksL, wm_kJ, wm_ksJ, kg_t, kl_v, Option.bind_some, mm_k_q hm, mm_bs_q hm, mm_bn_q hm, mm_ts_q hm, mm_tn_q hm, mm_e_q hm, mm_ek_q hm, mm_bs_q hm, mm_bn_q hm, ofNnI, hbc, nI_ltP, hn, if_true, kin_b_q hm hn, kx_nI, bb_r_q hm hn, bb_k_q hm hn, g1, em, ea]
  · obtain ⟨b0, b1, b2⟩ := boR_b (r := r) (nb := nb) (a1 := a1) (a2 := a2) (a3 := a3)
    refine ⟨hi.nu.cg (fun c hc => ?_) (fun t ht => ?_) (fun t ht => Or.inl ?_), ?_, fun b hb => ?_, hi.tt.cg (fun t ht j => ?_) (fun t ht w hw => boR_ne (by omega) (by omega)), hi.n.cg (fun t ht j _ => ?_) (fun t ht => boR_ne (by omega) (by omega)), hi.e.cg ?_ (fun k hk j => ?_) (fun k hk => boR_ne (by omega) (by omega))⟩
    · have : bd m c = m + 7 + 2 * c := rfl
      rw [up_ne (Or.inl (by omega))]
      by_cases e : c = nb
      · rw [e, xb]
        exact (up_ne (Or.inr (by decide))).trans ((up_ne (Or.inr (by decide))).trans (up_ne (Or.inr (by decide))))
      · exact x0 _ _ (by omega) (by omega)
    · have : tr m t = m + 17 + t := rfl
      exact (up_ne (Or.inl (by omega))).trans (x0 _ _ (by omega) (by omega))
    · have : tr m t = m + 17 + t := rfl
      exact (up_ne (Or.inl (by omega))).trans (x0 _ _ (by omega) (by omega))
    · have e : ∀ j, j ≠ 11 → up I1 m 11 (nI (nb + 1)) m j = I m j := fun j h1 => (up_ne (Or.inr h1)).trans (x0 _ _ (by omega) (by omega))
      unfold RMg
      obtain ⟨y0, y1, y2, y3, y4, y5, y6, y7, y8, y9, y10, y11, y12⟩ := hi.g
      rw [e 0 (by decide), e 1 (by decide), e 2 (by decide), e 3 (by decide), e 4 (by decide), e 5 (by decide), e 6 (by decide), e 7 (by decide), e 8 (by decide), e 9 (by decide), e 10 (by decide), e 12 (by decide), boR_7, boR_ne (k := 6) (by omega) (by omega), boR_ne (k := 5) (by omega) (by omega), boR_ne (k := 0) (by omega) (by omega), boR_ne (k := 1) (by omega) (by omega), boR_ne (k := 2) (by omega) (by omega), boR_ne (k := 3) (by omega) (by omega), boR_ne (k := 4) (by omega) (by omega), boR_ne (k := 9) (by omega) (by omega), boR_ne (k := 10) (by omega) (by omega), boR_ne (k := 11) (by omega) (by omega), boR_ne (k := 12) (by omega) (by omega), boR_ne (k := 8) (by omega) (by omega)]
      exact ⟨y0, y1, y2, y3, y4, y5, y6, y7, y8, y9, y10, up_eq, y12⟩
    · have e1 : bd m b = m + 7 + 2 * b := rfl
      have e2 : ow m b = m + 8 + 2 * b := rfl
      have z1 : ∀ j, up I1 m 11 (nI (nb + 1)) (bd m b) j = I1 (bd m b) j := fun j => up_ne (Or.inl (by omega))
      have z2 : ∀ j, up I1 m 11 (nI (nb + 1)) (ow m b) j = I1 (ow m b) j := fun j => up_ne (Or.inl (by omega))
      by_cases e : b = nb
      · subst e
        rw [z1, z1, z1, z2, b0, b1, b2, xb, xb, xb]
        refine ⟨(up_ne (Or.inr (by decide))).trans ((up_ne (Or.inr (by decide))).trans up_eq), (up_ne (Or.inr (by decide))).trans up_eq, up_eq, fun q hq h6 => ?_, g2 6 (by omega) (by omega)⟩
        have x3 := @si_le b q hq
        have x4 := @si_ge b q
        rw [z2, boR_ne (by omega) (by omega), hZ q hq h6, g2 q (by omega) hq]
        decide
      · rw [z1, z1, z1, z2, boR_ne (by omega) (by omega), boR_ne (by omega) (by omega), boR_ne (by omega) (by omega), x0 _ _ (by omega) (by omega), x0 _ _ (by omega) (by omega), x0 _ _ (by omega) (by omega), x0 _ _ (by omega) (by omega)]
        obtain ⟨y1, y2, y3, y4, y5⟩ := hi.bb b (by omega)
        refine ⟨y1, y2, y3, fun q hq h6 => ?_, y5⟩
        have x3 := @si_le b q hq
        have x4 := @si_ge b q
        rw [z2, boR_ne (by omega) (by omega), x0 _ _ (by omega) (by omega)]
        exact y4 q hq h6
    · have : tr m t = m + 17 + t := rfl
      exact (up_ne (Or.inl (by omega))).trans (x0 _ _ (by omega) (by omega))
    · have : tr m t = m + 17 + t := rfl
      exact (up_ne (Or.inl (by omega))).trans (x0 _ _ (by omega) (by omega))
    · have : ev m = m + 3 := rfl
      exact (up_ne (Or.inl (by omega))).trans (x0 _ _ (by omega) (by omega))
    · have : ek m k = m + 4 + k := rfl
      exact (up_ne (Or.inl (by omega))).trans (x0 _ _ (by omega) (by omega))
  · intro x j hx
    exact (up_ne (Or.inl (by omega))).trans (x0 _ _ (by omega) (by omega))
end
section
variable {N : Nat} {I : kInts} {L : kLngs} {n c : Nat} {T : Nat → Nat} {σ : sg} {r s : Nat → Int32} {nb nt : Nat}
theorem cx_readBoard_q {j : Nat} (hS : CS I n T c (.inl j)) (hk : tK n T j = 1) (hR : RI r nb nt) (hM : RM I 85 r nb nt) (hn : nb < 5) (hZ : ZS r nb) (hN : 1000 < N) : ∃ I', F_X7_readBoard N (wm Mc I L) 6 85 = some (wm Mc I' L) ∧ CS I' n T c (bo4 n T (j + 1)) ∧ (if okS (bo4 n T (j + 1)) = true then RM I' 85 (boX n T r nb (j + 1)) (nb + 1) nt else RM I' 85 r nb nt) ∧ EF I I' := by
  have hm : (85 : Nat) ∈ mks := by decide
  have h5 := hR.nb5
  have h24 := hR.nt24
  obtain ⟨I0, z1, z2, z3⟩ := cx_anyWord_q (N := N) (L := L) hS
  rw [stp_0 (by simp [hk])] at z2
  obtain ⟨I1, a1, a2, a3⟩ := cx_number_q (N := N) (L := L) z2 (lo := 1) (hh := 7) (x2 := 6) (by decide) (by decide) (by decide) hN
  obtain ⟨I2, b1, b2, b3⟩ := cx_number_q (N := N) (L := L) a2 (lo := 1) (hh := 100) (x2 := 99) (by decide) (by decide) (by decide) hN
  obtain ⟨I3, d1, d2, d3⟩ := cx_number_q (N := N) (L := L) b2 (lo := 0) (hh := 1000) (x2 := 999) (by decide) (by decide) (by decide) hN
  obtain ⟨I4, f1, f2, f3⟩ := cx_sg_q (N := N) (L := L) d2 (ch := 59) (by decide)
  have hcf : CF I I4 := (((z3.trans a3).trans b3).trans d3).trans f3
  have M4 : RM I4 85 r nb nt := hM.cf h5 h24 hcf
  rw [show nI 1 = 1 from rfl] at a1 b1
  rw [show nI 0 = 0 from rfl] at d1
  rw [show nI 59 = 59 from rfl] at f1
  have hS4 : CS I4 n T c (bo4 n T (j + 1)) := f2
  unfold F_X7_readBoard
  simp only [wm_kR, wm_kt, wm_kn, wm_kin, wm_kL, wm_kI, wm_ksI, wm_ksL, wm_kJ, wm_ksJ, kg_t, kl_v, Option.bind_some, s6_q.1, z1, a1, b1, d1, f1, cx_failed_q]
  by_cases hok : okS (bo4 n T (j + 1)) = true
  · obtain ⟨o1, o2, o3, ⟨o4, o5, o6⟩, o7⟩ := ok_bo4 hok
    rw [o7] at hS4
    have v1 : nuV n T 1 7 (.inl (j + 1)) = nI (nuv n T (j + 1)) := nuV_0 o1
    have v2 : nuV n T 1 100 (stp n T (.inl (j + 1)) (cN n T 1 7)) = nI (nuv n T (j + 1 + 1)) := by
      show nuV n T 1 100 (bo1 n T (j + 1)) = _
      rw [o4, nuV_0 o2]
    have v3 : nuV n T 0 1000 (stp n T (stp n T (.inl (j + 1)) (cN n T 1 7)) (cN n T 1 100)) = nI (nuv n T (j + 1 + 2)) := by
      show nuV n T 0 1000 (bo2 n T (j + 1)) = _
      rw [o5, nuV_0 o3]
    obtain ⟨I5, g1, g2, g3⟩ := cx_addBoard_q (N := N) (L := L) (a1 := nI (nuv n T (j + 1))) (a2 := nI (nuv n T (j + 1 + 1))) (a3 := nI (nuv n T (j + 1 + 2))) hm M4 hn h24 hR.r7 (fun q hq h6 => hZ _ (by have := @si_ge nb q; omega) (by have := @si_le nb q hq; omega)) (by omega)
    refine ⟨I5, ?_, ?_, ?_, hcf.e.trans g3.e⟩
    · simp only [hS4.ok, if_true, mm_k_q hm, kg_t, v1, v2, v3, g1, Option.bind_some]
    · rw [o7]; exact hS4.fm g3
    · rw [if_pos hok]; exact g2
  · have hz : ¬ I4 6 6 = 0 := by
      cases hs : bo4 n T (j + 1) with
      | inl j => rw [hs] at hok; exact absurd rfl hok
      | inr x => rw [hs] at hS4; exact CS.err hS4
    refine ⟨I4, ?_, hS4, ?_, hcf.e⟩
    · simp only [hz, if_false, if_neg one0]
    · rw [if_neg hok]; exact M4
end
section
variable {N : Nat} {I : kInts} {L : kLngs} {n c : Nat} {T : Nat → Nat} {σ : sg} {r s : Nat → Int32} {nb nt : Nat}
theorem cx_takeWd_q {s len w : Nat} {bs : Nat → Nat} (hK : KW s len bs w) (h : CS I n T c σ) (hN : 1000 < N) : ∃ I', F_X9_takeWord N (wm Mc I L) 6 s = some (wm Mc I' L) ∧ CS I' n T c (stp n T σ (cW n T w)) ∧ CF I I' := by
  obtain ⟨I', a1, a2, a3⟩ := cx_takeIf_q (N := N) (L := L) h (p := isW n T w) (fun j hj => by have := isW_4 hj; omega)
  refine ⟨I', ?_, a2, a3⟩
  unfold F_X9_takeWord
  simp only [wm_kR, wm_kt, wm_kn, wm_kin, wm_kL, wm_kI, wm_ksI, wm_ksL, wm_kJ, wm_ksJ, kg_t, kl_v, Option.bind_some, s6_q.1, cx_atWord_q hK h hN, a1]
end
section
variable {N : Nat} {I : kInts} {L : kLngs} {n c : Nat} {T : Nat → Nat} {σ : sg} {r s : Nat → Int32} {nb nt : Nat}
theorem cx_clear_q {m : Nat} (hm : m ∈ mks) : F_X4_clear N (wm Mc I L) m = some (wm Mc (up (up (up (up (up (up (up I m 0 0) m 8 0) m 9 0) m 10 0) m 11 0) m 12 0) (ev m) 3 0) L) := by
  have e2 : kt Mc (ev m) 2 = true := mm_ek_q hm
  unfold F_X4_clear
  simp only [wm_kR, wm_kt, wm_kn, wm_kin, wm_kL, wm_kI, wm_ksI, wm_ksL, wm_kJ, wm_ksJ, kg_t, kl_v, Option.bind_some, mm_k_q hm, mm_bs_q hm, mm_bn_q hm, mm_ts_q hm, mm_tn_q hm, mm_e_q hm, mm_ek_q hm, mm_e_q hm, e2]
end
section
variable {N : Nat} {I : kInts} {L : kLngs} {n c : Nat} {T : Nat → Nat} {σ : sg} {r s : Nat → Int32} {nb nt : Nat}
theorem cx_header_q (hS : CS I n T c (.inl 0)) (hNu : Nu I 85) (hN : 1000 < N) : ∃ I1 I', F_X4_clear N (wm Mc I L) 85 = some (wm Mc I1 L) ∧ F_X7_readMarket N (wm Mc I1 L) 6 85 = some (wm Mc I' L) ∧ CS I' n T c (hd7 n T) ∧ RM I' 85 (hdV n T) 0 0 ∧ EF I I' := by
  have hm : (85 : Nat) ∈ mks := by decide
  let J0 := up (up (up (up (up (up (up I 85 0 0) 85 8 0) 85 9 0) 85 10 0) 85 11 0) 85 12 0) (ev 85) 3 0
  have hS0 : CS J0 n T c (.inl 0) := ((((((hS.u (by decide)).u (by decide)).u (by decide)).u (by decide)).u (by decide)).u (by decide)).u (by decide)
  obtain ⟨K1, a1, a2, a3⟩ := cx_takeWd_q (N := N) (L := L) kw_market_q hS0 hN
  obtain ⟨K2, b1, b2, b3⟩ := cx_number_q (N := N) (L := L) a2 (lo := 0) (hh := 21) (x2 := 20) (by decide) (by decide) (by decide) hN
  obtain ⟨K3, c1, c2, c3⟩ := cx_number_q (N := N) (L := L) (b2.u (m := 85) (j := 2) (v := nuV n T 0 21 (hd0 n T)) (by decide)) (lo := 0) (hh := 100) (x2 := 99) (by decide) (by decide) (by decide) hN
  obtain ⟨K4, d1, d2, d3⟩ := cx_number_q (N := N) (L := L) (c2.u (m := 85) (j := 3) (v := nuV n T 0 100 (hd1 n T)) (by decide)) (lo := 0) (hh := 100) (x2 := 99) (by decide) (by decide) (by decide) hN
  obtain ⟨K5, e1, e2, e3⟩ := cx_number_q (N := N) (L := L) (d2.u (m := 85) (j := 4) (v := nuV n T 0 100 (hd2 n T)) (by decide)) (lo := 1) (hh := 1000) (x2 := 999) (by decide) (by decide) (by decide) hN
  obtain ⟨K6, f1, f2, f3⟩ := cx_number_q (N := N) (L := L) (e2.u (m := 85) (j := 5) (v := nuV n T 1 1000 (hd3 n T)) (by decide)) (lo := 0) (hh := 1000) (x2 := 999) (by decide) (by decide) (by decide) hN
  obtain ⟨K7, g1, g2, g3⟩ := cx_number_q (N := N) (L := L) (f2.u (m := 85) (j := 6) (v := nuV n T 0 1000 (hd4 n T)) (by decide)) (lo := 0) (hh := 100000) (x2 := 99999) (by decide) (by decide) (by decide) hN
  obtain ⟨K8, h1, h2, h3⟩ := cx_sg_q (N := N) (L := L) ((g2.u (m := 85) (j := 1) (v := nuV n T 0 100000 (hd5 n T)) (by decide)).u (m := 85) (j := 7) (v := nuV n T 0 100000 (hd5 n T)) (by decide)) (ch := 59) (by decide)
  rw [show nI 0 = 0 from rfl] at b1 c1 d1 f1 g1
  rw [show nI 1 = 1 from rfl] at e1
  rw [show nI 59 = 59 from rfl] at h1
  have r0 : EQ J0 J0 := fun _ _ _ => rfl
  have hall := ((((((((((((((r0.cf a3).cf b3).u (a := 85) (j := 2) (v := nuV n T 0 21 (hd0 n T))).cf c3).u (a := 85) (j := 3) (v := nuV n T 0 100 (hd1 n T))).cf d3).u (a := 85) (j := 4) (v := nuV n T 0 100 (hd2 n T))).cf e3).u (a := 85) (j := 5) (v := nuV n T 1 1000 (hd3 n T))).cf f3).u (a := 85) (j := 6) (v := nuV n T 0 1000 (hd4 n T))).cf g3).u (a := 85) (j := 1) (v := nuV n T 0 100000 (hd5 n T))).u (a := 85) (j := 7) (v := nuV n T 0 100000 (hd5 n T))).cf h3
  have hne : ∀ a j, 85 ≤ a → a ≠ 85 → a ≠ 88 → K8 a j = I a j := by
    intro a j y1 y2 y3
    rw [hall a j y1, up_ne (Or.inl y2), up_ne (Or.inl y2), up_ne (Or.inl y2), up_ne (Or.inl y2), up_ne (Or.inl y2), up_ne (Or.inl y2), up_ne (Or.inl y2)]
    have y3' : a ≠ ev 85 := y3
    exact (up_ne (Or.inl y3')).trans ((up_ne (Or.inl y2)).trans ((up_ne (Or.inl y2)).trans ((up_ne (Or.inl y2)).trans ((up_ne (Or.inl y2)).trans ((up_ne (Or.inl y2)).trans (up_ne (Or.inl y2)))))))
  have rr : EF I I := fun _ _ _ _ => rfl
  have hef : EF I J0 := by
    intro a k x1 x2
    have y2 : a ≠ 85 := by omega
    have y3 : a ≠ ev 85 := by have : ev 85 = 88 := rfl; omega
    exact (up_ne (Or.inl y3)).trans ((up_ne (Or.inl y2)).trans ((up_ne (Or.inl y2)).trans ((up_ne (Or.inl y2)).trans ((up_ne (Or.inl y2)).trans ((up_ne (Or.inl y2)).trans (up_ne (Or.inl y2)))))))
  have hfin : EF I K8 := ((((((((((((((hef.trans a3.e).trans b3.e).u).trans c3.e).u).trans d3.e).u).trans e3.e).u).trans f3.e).u).trans g3.e).u).u).trans h3.e
  refine ⟨J0, K8, cx_clear_q hm, ?_, h2, ⟨?_, ?_, fun b hb => absurd hb (Nat.not_lt_zero _), fun b hb => absurd hb (Nat.not_lt_zero _), fun b hb => absurd hb (Nat.not_lt_zero _), ?_⟩, hfin⟩
  · unfold F_X7_readMarket
    simp only [wm_kR, wm_kt, wm_kn, wm_kin, wm_kL, wm_kI, wm_ksI, wm_ksL, wm_kJ, wm_ksJ, kg_t, kl_v, Option.bind_some, s6_q.1, mm_k_q hm, a1]
    simp only [hd0, hd1, hd2, hd3, hd4, hd5] at b1 c1 d1 e1 f1 g1 h1
    simp only [wm_kR, wm_kt, wm_kn, wm_kin, wm_kL, wm_kI, wm_ksI, wm_ksL, wm_kJ, wm_ksJ, kg_t, kl_v, Option.bind_some, s6_q.1, mm_k_q hm, b1, c1, d1, e1, f1, g1, up_eq, h1]
  · exact ⟨fun b hb => (hne _ _ (by unfold bd; omega) (by unfold bd; omega) (by unfold bd; omega)).trans (hNu.1 b hb), fun b hb => (hne _ _ (by unfold tr; omega) (by unfold tr; omega) (by unfold tr; omega)).trans (hNu.2.1 b hb), fun b hb => by rw [hne _ _ (by unfold tr; omega) (by unfold tr; omega) (by unfold tr; omega)]; exact hNu.2.2 b hb⟩
  · unfold RMg
    rw [hall 85 0 (by decide), hall 85 1 (by decide), hall 85 2 (by decide), hall 85 3 (by decide), hall 85 4 (by decide), hall 85 5 (by decide), hall 85 6 (by decide), hall 85 7 (by decide), hall 85 8 (by decide), hall 85 9 (by decide), hall 85 10 (by decide), hall 85 11 (by decide), hall 85 12 (by decide)]
    exact ⟨rfl, rfl, rfl, rfl, rfl, rfl, rfl, rfl, rfl, rfl, rfl, rfl, rfl⟩
  · refine ⟨?_, fun e he h13 k hk => ?_⟩
    · rw [hall _ _ (by decide)]
      rfl
    · have : nI e = nI 0 := h13.symm
      have := (nI_eq (by omega) (by omega)).mp this
      omega
end
section
variable {N : Nat} {I : kInts} {L : kLngs} {n c : Nat} {T : Nat → Nat} {r s f : Nat → Int32} {nb nt : Nat}
theorem sh62_q : kt Mc 457 14 = true ∧ kn Mc 457 = 2 := kt_of_q 457 (by decide)
end
section
variable {N : Nat} {I : kInts} {L : kLngs} {n c : Nat} {T : Nat → Nat} {r s f : Nat → Int32} {nb nt : Nat}
theorem cx_unfill_q (hN : 1000 < N) : F_X11_beginMarketOfText_57 N N (wm Mc I L) 1 0 = some (wm Mc (up (up I 457 0 0) 457 1 0) L) := by
  obtain ⟨w, rfl⟩ : ∃ v, N = v + 3 := ⟨N - 3, by omega⟩
  have hb : ((0 : Int32) == 0 || (0 : Int32) == 1) = true := rfl
  have k0 : kin Mc 457 14 0 = true := by rw [show (0 : Int32) = nI 0 from rfl]; exact kin_nI sh62_q.1 sh62_q.2 (by decide) (by decide)
  have k1 : kin Mc 457 14 1 = true := by rw [show (1 : Int32) = nI 1 from rfl]; exact kin_nI sh62_q.1 sh62_q.2 (by decide) (by decide)
  have x0 : kx 0 = 0 := by decide
  have x1 : kx 1 = 1 := by decide
  unfold F_X11_beginMarketOfText_57
  simp only [wm_kR, wm_kt, wm_kn, wm_kin, wm_kL, wm_kI, wm_ksI, wm_ksL, wm_kJ, wm_ksJ, kg_t, kl_v, Option.bind_some, sh_x_q.1, sh_x_q.2.2.2.2.2.2.2.2.2, sh62_q.1, sh62_q.2, k0, hb, Bool.and_self, x0]
  rw [if_pos (by decide)]
  unfold F_X11_beginMarketOfText_57
  simp only [show (0 : Int32) + 1 = 1 from rfl, wm_kR, wm_kt, wm_kn, wm_kin, wm_kL, wm_kI, wm_ksI, wm_ksL, wm_kJ, wm_ksJ, kg_t, kl_v, Option.bind_some, sh_x_q.1, sh_x_q.2.2.2.2.2.2.2.2.2, sh62_q.1, sh62_q.2, k1, hb, Bool.and_self, x1]
  rw [if_pos (by decide)]
  unfold F_X11_beginMarketOfText_57
  simp only [show (1 : Int32) + 1 = 2 from rfl, wm_kR, wm_kt, wm_kn, wm_kin, wm_kL, wm_kI, wm_ksI, wm_ksL, wm_kJ, wm_ksJ, kg_t, kl_v, Option.bind_some, sh_x_q.1, sh_x_q.2.2.2.2.2.2.2.2.2, sh62_q.1, sh62_q.2]
  rw [if_neg (by decide)]
end
section
variable {N : Nat} {I : kInts} {L : kLngs} {r s f : Nat → Int32} {nb nt : Nat}
theorem x1_t_q : kt Mc 1 11 = true ∧ kR Mc 1 4 = 44 ∧ kR Mc 1 6 = 126 ∧ kR Mc 1 0 = 2 ∧ kR Mc 1 1 = 4 ∧ kR Mc 1 2 = 6 ∧ kR Mc 1 3 = 10 ∧ kR Mc 1 5 = 85 ∧ kR Mc 1 7 = 456 ∧ kR Mc 1 8 = 457 := ⟨sh_x_q.1, rfl, rfl, rfl, rfl, rfl, rfl, rfl, rfl, rfl⟩
end
theorem s47h_q : kt Mc 126 3 = true ∧ kR Mc 126 0 = 127 := ⟨(kt_of_q (n := 3) 126 (by decide)).1, rfl⟩
