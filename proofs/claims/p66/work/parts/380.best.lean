variable {Mb : SMem}
def scS (r : Nat → Int32) (nt t b : Nat) (p : Int32) : Int32 := -p * tl r b (twS r nt t b p)
def bpA (r : Nat → Int32) (nt t b : Nat) : Nat → Nat → Int32 → Int32
  | 0, _, x => x
  | k + 1, q, x => if q = 6 ∨ ¬ aSeat r nt t b q = 0 then bpA r nt t b k (q + 1) x else if x = 0 then bpA r nt t b k (q + 1) (pz q) else if scS r nt t b x < scS r nt t b (pz q) then bpA r nt t b k (q + 1) (pz q) else bpA r nt t b k (q + 1) x
section
variable {N : Nat} {I : kInts} {L : kLngs} {r s f : Nat → Int32} {nb nt m : Nat}
theorem cx_bpL (hm : m ∈ mks) (hR : RI r nb nt) (hM : RM I m r nb nt) {t b a : Nat} (ht : t < nt) (hb : b < nb) (ra : r (14 + 15 * b + 0) = nI a) (ha : a ≤ 6) (hN : 100 < N) (k : Nat) : ∀ (q z : Nat) (x y : Int32), q + k = 7 + a → 6 - a ≤ q → k < z → (x = 0 ∨ y = scS r nt t b x) → F_X4_mostPayingSeat_12 N (wm Mb I L) z m (tr m t) (bd m b) x y (pz q) = some (bpA r nt t b k q x) := by
  have h5 := hR.nb5
  have hb' : b < 5 := by omega
  have e1 : I (bd m b) 1 = pz (6 + a) := ((hM.bb b hb).1.trans ra).trans (pz_a (a := a))
  induction k with
  | zero =>
    intro q z x y e h1 hz hxy
    obtain ⟨z, rfl⟩ : ∃ v, z = v + 1 := ⟨z - 1, by omega⟩
    unfold F_X4_mostPayingSeat_12
    simp only [wm_kR, wm_kt, wm_kn, wm_kin, wm_kL, wm_kI, wm_ksI, wm_ksL, wm_kJ, wm_ksJ, kg_t, kl_v, Option.bind_some, bb_k hm hb', e1]
    rw [if_pos ((pz_lt (by omega) (by omega)).mpr (by omega))]
    rfl
  | succ k ih =>
    intro q z x y e h1 hz hxy
    obtain ⟨z, rfl⟩ : ∃ v, z = v + 1 := ⟨z - 1, by omega⟩
    unfold F_X4_mostPayingSeat_12 bpA
    simp only [wm_kR, wm_kt, wm_kn, wm_kin, wm_kL, wm_kI, wm_ksI, wm_ksL, wm_kJ, wm_ksJ, kg_t, kl_v, Option.bind_some, bb_k hm hb', mm_k hm, e1, pz_s, cx_tw hm hR hM ht hb _ hN, cx_tl hm hR hM hb]
    rw [if_neg (fun y => by have := (pz_lt (by omega) (by omega)).mp y; omega)]
    by_cases c6 : q = 6
    · rw [if_pos (Or.inl c6), c6, cx_free6 hm hR hM hb]
      simp only [Option.bind_some, if_true]
      exact ih 7 z x y (by omega) (by omega) (by omega) hxy
    · rw [cx_free hm hR hM hb ra ha h1 (by omega) c6]
      by_cases c1 : r (si b q) = 0
      · simp only [c1, if_true, Option.bind_some, if_neg one0, cx_aSeat hm hR hM ht hb ra ha h1 (show q ≤ 6 + a by omega) c6 hN]
        by_cases c2 : aSeat r nt t b q = 0
        · have hn : ¬ (q = 6 ∨ ¬ aSeat r nt t b q = 0) := fun y => y.elim c6 (fun y => y c2)
          rw [if_neg hn]
          simp only [c2, if_true]
          by_cases c3 : x = 0
          · simp only [c3, if_true]
            exact ih (q + 1) z _ _ (by omega) (by omega) (by omega) (Or.inr rfl)
          · have hy := hxy.resolve_left c3
            simp only [c3, if_false, hy]
            by_cases c4 : scS r nt t b x < scS r nt t b (pz q)
            · have c4' : scS r nt t b x < -pz q * tl r b (twS r nt t b (pz q)) := c4
              simp only [c4, c4', if_true]
              exact ih (q + 1) z _ _ (by omega) (by omega) (by omega) (Or.inr rfl)
            · have c4' : ¬ scS r nt t b x < -pz q * tl r b (twS r nt t b (pz q)) := c4
              simp only [c4, c4', if_false]
              exact ih (q + 1) z _ _ (by omega) (by omega) (by omega) (Or.inr rfl)
        · rw [if_pos (Or.inr c2)]
          simp only [c2, if_false]
          exact ih (q + 1) z x y (by omega) (by omega) (by omega) hxy
      · rw [if_pos (Or.inr (fun y => c1 (aSeat_0 y).2.1))]
        simp only [c1, if_false, Option.bind_some, if_true]
        exact ih (q + 1) z x y (by omega) (by omega) (by omega) hxy
theorem sc_rng {t b q : Nat} (hq : q < 13) : ∃ j, j < 109 ∧ scS r nt t b (pz q) = nI j - 54 := by
  unfold scS
  obtain ⟨k, hk, e⟩ := tl_rng (r := r) b (twS r nt t b (pz q))
  rw [e]
  exact ht_tab q hq k hk
theorem inc_cmp {v j1 j2 : Nat} (hv : v ≤ 20) (h1 : j1 < 109) (h2 : j2 < 109) : (nI v + (nI j1 - 54) < nI v + (nI j2 - 54)) = (nI j1 - 54 < nI j2 - 54) := by
  have hk : ∀ k, k < 129 → (nI k - 54).toInt = (k : Int) - 54 := by decide
  have e : ∀ j, j < 109 → (nI v + (nI j - 54)).toInt = ((v + j : Nat) : Int) - 54 := by
    intro j hj
    have : nI v + (nI j - 54) = nI (v + j) - 54 := by rw [← nI_add]; grind
    rw [this]
    exact hk _ (by omega)
  apply propext
  rw [Int32.lt_iff_toInt_lt, Int32.lt_iff_toInt_lt, e _ h1, e _ h2, hk _ (by omega), hk _ (by omega)]
  omega
end
