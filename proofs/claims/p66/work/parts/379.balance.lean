variable {Mb : SMem}
def bsA (r : Nat → Int32) (b : Nat) (T w : Int32) : Nat → Nat → Int32 → Int32
  | 0, _, x => x
  | k + 1, q, x => if q = 6 ∨ ¬ r (si b q) = 0 then bsA r b T w k (q + 1) x else if x = 0 then bsA r b T w k (q + 1) (pz q) else if kabs (T + pz q * w) < kabs (T + x * w) then bsA r b T w k (q + 1) (pz q) else bsA r b T w k (q + 1) x
section
variable {N : Nat} {I : kInts} {L : kLngs} {r s f : Nat → Int32} {nb nt m : Nat}
theorem cx_bsL (hm : m ∈ mks) (hR : RI r nb nt) (hM : RM I m r nb nt) {b a : Nat} (hb : b < nb) (ra : r (14 + 15 * b + 0) = nI a) (ha : a ≤ 6) (T w : Int32) (k : Nat) : ∀ (q z : Nat) (x y : Int32), q + k = 7 + a → 6 - a ≤ q → k < z → (x = 0 ∨ y = kabs (T + x * w)) → F_X4_mostBalancingSeat_19 N (wm Mb I L) z (bd m b) w T x y (pz q) = some (bsA r b T w k q x) := by
  have h5 := hR.nb5
  have hb' : b < 5 := by omega
  have e1 : I (bd m b) 1 = pz (6 + a) := ((hM.bb b hb).1.trans ra).trans pz_a
  induction k with
  | zero =>
    intro q z x y e h1 hz hxy
    obtain ⟨z, rfl⟩ : ∃ v, z = v + 1 := ⟨z - 1, by omega⟩
    unfold F_X4_mostBalancingSeat_19
    simp only [wm_kR, wm_kt, wm_kn, wm_kin, wm_kL, wm_kI, wm_ksI, wm_ksL, wm_kJ, wm_ksJ, kg_t, kl_v, Option.bind_some, bb_k hm hb', e1]
    rw [if_pos ((pz_lt (by omega) (by omega)).mpr (by omega))]
    rfl
  | succ k ih =>
    intro q z x y e h1 hz hxy
    obtain ⟨z, rfl⟩ : ∃ v, z = v + 1 := ⟨z - 1, by omega⟩
    unfold F_X4_mostBalancingSeat_19 bsA
    simp only [wm_kR, wm_kt, wm_kn, wm_kin, wm_kL, wm_kI, wm_ksI, wm_ksL, wm_kJ, wm_ksJ, kg_t, kl_v, Option.bind_some, bb_k hm hb', e1, pz_s]
    rw [if_neg (fun y => by have := (pz_lt (by omega) (by omega)).mp y; omega)]
    by_cases c6 : q = 6
    · rw [if_pos (Or.inl c6), c6, cx_free6 hm hR hM hb]
      simp only [Option.bind_some, if_true]
      exact ih 7 z x y (by omega) (by omega) (by omega) hxy
    · rw [cx_free hm hR hM hb ra ha h1 (by omega) c6]
      by_cases c1 : r (si b q) = 0
      · have hn : ¬ (q = 6 ∨ ¬ r (si b q) = 0) := fun y => y.elim c6 (fun y => y c1)
        rw [if_neg hn]
        simp only [c1, if_true, Option.bind_some, if_neg one0]
        by_cases c2 : x = 0
        · simp only [c2, if_true]
          exact ih (q + 1) z _ _ (by omega) (by omega) (by omega) (Or.inr rfl)
        · have hy := hxy.resolve_left c2
          simp only [c2, if_false, hy]
          by_cases c3 : kabs (T + pz q * w) < kabs (T + x * w)
          · simp only [c3, if_true]
            exact ih (q + 1) z _ _ (by omega) (by omega) (by omega) (Or.inr rfl)
          · simp only [c3, if_false]
            exact ih (q + 1) z _ _ (by omega) (by omega) (by omega) (Or.inr rfl)
      · rw [if_pos (Or.inr c1)]
        simp only [c1, if_false, Option.bind_some, if_true]
        exact ih (q + 1) z x y (by omega) (by omega) (by omega) hxy
end
