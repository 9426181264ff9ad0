variable {Mb : SMem}
def scS (r : Nat → Int32) (nt t b : Nat) (p : Int32) : Int32 := -p * tl r b (twS r nt t b p)
def bpA (r : Nat → Int32) (nt t b : Nat) : Nat → Nat → Int32 → Int32
  | 0, _, x => x
  | k + 1, q, x => if q = 6 ∨ ¬ aSeat r nt t b q = 0 then bpA r nt t b k (q + 1) x else if x = 0 then bpA r nt t b k (q + 1) (pz q) else if scS r nt t b x < scS r nt t b (pz q) then bpA r nt t b k (q + 1) (pz q) else bpA r nt t b k (q + 1) x
section
variable {N : Nat} {I : kInts} {L : kLngs} {r s f : Nat → Int32} {nb nt m : Nat}
theorem sc_rng {t b q : Nat} (hq : q < 13) : ∃ j, j < 109 ∧ scS r nt t b (pz q) = nI j - 54 := by
  unfold scS
  obtain ⟨k, hk, e⟩ := tl_rng (r := r) b (twS r nt t b (pz q))
  rw [e]
  exact ht_tab q hq k hk
theorem inc_cmp {v j1 j2 : Nat} (hv : v ≤ 20) (h1 : j1 < 109) (h2 : j2 < 109) : (nI v + (nI j1 - 54) < nI v + (nI j2 - 54)) = (nI j1 - 54 < nI j2 - 54) := by
  have hk : ∀ k, k < 129 → (nI k - 54).toInt = (k : Int) - 54 := by decide
  have e : ∀ j, j < 109 → (nI v + (nI j - 54)).toInt = ((v + j : Nat) : Int) - 54 := by
    intro j hj
    have : nI v + (nI j - 54) = nI (v + j) - 54 := by rw [← nI_add]; grind
    rw [this]
    exact hk _ (by omega)
  apply propext
  rw [Int32.lt_iff_toInt_lt, Int32.lt_iff_toInt_lt, e _ h1, e _ h2, hk _ (by omega), hk _ (by omega)]
  omega
end
