variable {Mb : SMem}
def rkf (r : Nat → Int32) (t j : Nat) : Int32 := if r (89 + 7 * j + 4) = 0 then 0 else if r (89 + 7 * t + 2) < r (89 + 7 * j + 2) ∨ r (89 + 7 * j + 2) = r (89 + 7 * t + 2) ∧ j < t then 1 else 0
def rkA (r : Nat → Int32) (t : Nat) : Nat → Nat → Int32 → Int32
  | 0, _, x => x
  | k + 1, i, x => rkA r t k (i + 1) (x + rkf r t i)
def fdA (r : Nat → Int32) (nt : Nat) (x : Int32) : Nat → Nat → Int32
  | 0, _ => -1
  | k + 1, i => if r (89 + 7 * i + 4) = 0 then fdA r nt x k (i + 1) else if rkA r i nt 0 0 = x then nI i else fdA r nt x k (i + 1)
section
variable {N : Nat} {I : kInts} {L : kLngs} {r s f : Nat → Int32} {nb nt m : Nat}
theorem add0 (x : Int32) : x + 0 = x := by grind
theorem cx_rankL (hm : m ∈ mks) (hR : RI r nb nt) (hM : RM I m r nb nt) {t : Nat} (ht : t < nt) (k : Nat) : ∀ (i w : Nat) (x : Int32), i + k = nt → k < w → F_X4_rankOf_4 N (wm Mb I L) w m (tr m t) x (nI i) = some (rkA r t k i x) := by
  have h24 := hR.nt24
  have kt' := tt_k hm (show t < 24 by omega)
  obtain ⟨t2, t3, t4, t5, t6, t7⟩ := hM.tt t ht
  have t0 := hM.nu.2.1 t (show t < 24 by omega)
  induction k with
  | zero =>
    intro i w x e hw
    obtain ⟨w, rfl⟩ : ∃ v, w = v + 1 := ⟨w - 1, by omega⟩
    unfold F_X4_rankOf_4
    simp (disch := omega) only [wm_kR, wm_kt, wm_kn, wm_kin, wm_kL, wm_kI, wm_ksI, wm_ksL, wm_kJ, wm_ksJ, kg_t, kl_v, Option.bind_some, mm_k hm, hM.tc, hR.r8, nI_ltP]
    rw [if_neg (by omega)]
    rfl
  | succ k ih =>
    intro i w x e hw
    obtain ⟨w, rfl⟩ : ∃ v, w = v + 1 := ⟨w - 1, by omega⟩
    have hi : i < 24 := by omega
    have h1 := ih (i + 1) w (x + rkf r t i) (by omega) (by omega)
    obtain ⟨i2, i3, i4, i5, i6, i7⟩ := hM.tt i (by omega)
    unfold F_X4_rankOf_4
    simp (disch := omega) only [wm_kR, wm_kt, wm_kn, wm_kin, wm_kL, wm_kI, wm_ksI, wm_ksL, wm_kJ, wm_ksJ, kg_t, kl_v, Option.bind_some, mm_k hm, hM.tc, hR.r8, nI_ltP, kin_t hm hi, kx_nI, tt_r hm hi, tt_k hm hi, kt', i3, t3, t0]
    rw [if_pos (by omega)]
    have hyes : (r (89 + 7 * t + 2) < r (89 + 7 * i + 2) ∨ r (89 + 7 * i + 2) = r (89 + 7 * t + 2) ∧ i < t) → F_X4_rankOf_52 N (wm Mb I L) (fun a0 a1 x2 x3 => F_X4_rankOf_4 N (wm Mb I L) w a0 a1 x2 x3) m (tr m t) x (nI i) (tr m i) = some (rkA r t (k + 1) i x) := by
      intro hc
      unfold F_X4_rankOf_52
      simp only [wm_kR, wm_kt, wm_kn, wm_kin, wm_kL, wm_kI, wm_ksI, wm_ksL, wm_kJ, wm_ksJ, kg_t, kl_v, Option.bind_some, tt_k hm hi, i5, nI_1]
      by_cases c : r (89 + 7 * i + 4) = 0
      · have e1 : rkf r t i = 0 := by unfold rkf; rw [if_pos c]
        rw [e1, add0] at h1
        simp only [c, if_true, h1]
        show _ = some (rkA r t k (i + 1) (x + rkf r t i))
        rw [e1, add0]
      · have e1 : rkf r t i = 1 := by unfold rkf; rw [if_neg c, if_pos hc]
        rw [e1] at h1
        simp only [c, if_false, if_neg one0, h1]
        show _ = some (rkA r t k (i + 1) (x + rkf r t i))
        rw [e1]
    have hno : ¬ (r (89 + 7 * t + 2) < r (89 + 7 * i + 2) ∨ r (89 + 7 * i + 2) = r (89 + 7 * t + 2) ∧ i < t) → F_X4_rankOf_56 N (wm Mb I L) (fun a0 a1 x2 x3 => F_X4_rankOf_4 N (wm Mb I L) w a0 a1 x2 x3) m (tr m t) x (nI i) (tr m i) = some (rkA r t (k + 1) i x) := by
      intro hc
      have e1 : rkf r t i = 0 := by unfold rkf; rw [if_neg hc]; split <;> rfl
      rw [e1, add0] at h1
      unfold F_X4_rankOf_56
      simp only [wm_kR, wm_kt, wm_kn, wm_kin, wm_kL, wm_kI, wm_ksI, wm_ksL, wm_kJ, wm_ksJ, kg_t, kl_v, Option.bind_some, tt_k hm hi, i5, nI_1, if_true, h1]
      show _ = some (rkA r t k (i + 1) (x + rkf r t i))
      rw [e1, add0]
      split <;> rfl
    by_cases c1 : r (89 + 7 * t + 2) < r (89 + 7 * i + 2)
    · rw [if_pos c1]
      exact hyes (Or.inl c1)
    · rw [if_neg c1]
      by_cases c2 : r (89 + 7 * i + 2) = r (89 + 7 * t + 2)
      · rw [if_pos c2]
        by_cases c3 : i < t
        · rw [if_pos c3]
          exact hyes (Or.inr ⟨c2, c3⟩)
        · rw [if_neg c3]
          exact hno (fun z => z.elim c1 (fun y => c3 y.2))
      · rw [if_neg c2]
        exact hno (fun z => z.elim c1 (fun y => c2 y.1))
theorem cx_fdL (hm : m ∈ mks) (hR : RI r nb nt) (hM : RM I m r nb nt) (x : Int32) (hN : 100 < N) (k : Nat) : ∀ (i w : Nat), i + k = nt → k < w → F_X4_traderWithRank_2 N (wm Mb I L) w m x (nI i) = some (fdA r nt x k i) := by
  have h24 := hR.nt24
  induction k with
  | zero =>
    intro i w e hw
    obtain ⟨w, rfl⟩ : ∃ v, w = v + 1 := ⟨w - 1, by omega⟩
    unfold F_X4_traderWithRank_2
    simp (disch := omega) only [wm_kR, wm_kt, wm_kn, wm_kin, wm_kL, wm_kI, wm_ksI, wm_ksL, wm_kJ, wm_ksJ, kg_t, kl_v, Option.bind_some, mm_k hm, hM.tc, hR.r8, nI_ltP]
    rw [if_neg (by omega)]
    rfl
  | succ k ih =>
    intro i w e hw
    obtain ⟨w, rfl⟩ : ∃ v, w = v + 1 := ⟨w - 1, by omega⟩
    have hi : i < 24 := by omega
    have h1 := ih (i + 1) w (by omega) (by omega)
    obtain ⟨i2, i3, i4, i5, i6, i7⟩ := hM.tt i (by omega)
    have hr := cx_rankL (N := N) (L := L) hm hR hM (show i < nt by omega) nt 0 N 0 (by omega) (by omega)
    rw [show nI 0 = 0 from rfl] at hr
    unfold F_X4_traderWithRank_2 F_X4_rankOf fdA
    simp (disch := omega) only [wm_kR, wm_kt, wm_kn, wm_kin, wm_kL, wm_kI, wm_ksI, wm_ksL, wm_kJ, wm_ksJ, kg_t, kl_v, Option.bind_some, mm_k hm, hM.tc, hR.r8, nI_ltP, kin_t hm hi, kx_nI, tt_r hm hi, tt_k hm hi, i5, nI_1, hr]
    rw [if_pos (by omega), h1]
    by_cases c : r (89 + 7 * i + 4) = 0
    · rw [if_pos c, if_pos c]
    · rw [if_neg c, if_neg c]
      split <;> rfl
end
