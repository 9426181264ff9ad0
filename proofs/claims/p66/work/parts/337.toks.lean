variable {Mb : SMem}
def kd (b : Nat) : Nat := if 97 ≤ b ∧ b ≤ 122 then 1 else if 48 ≤ b ∧ b ≤ 57 then 2 else if b = 32 ∨ b = 10 then 0 else 3
def runF (n : Nat) (T : Nat → Nat) (k : Nat) : Nat → Nat → Nat
  | 0, p => p
  | z + 1, p => if p < n ∧ kd (T p) = k then runF n T k z (p + 1) else p
def runs (n : Nat) (T : Nat → Nat) (k p : Nat) : Nat := runF n T k (n - p) p
def sk (n : Nat) (T : Nat → Nat) (p : Nat) : Nat := runs n T 0 p
def tE (n : Nat) (T : Nat → Nat) (p : Nat) : Nat := if sk n T p < n then (if kd (T (sk n T p)) = 3 then sk n T p + 1 else runs n T (kd (T (sk n T p))) (sk n T p)) else sk n T p
def tP (n : Nat) (T : Nat → Nat) : Nat → Nat
  | 0 => 0
  | j + 1 => tE n T (tP n T j)
def tS (n : Nat) (T : Nat → Nat) (j : Nat) : Nat := sk n T (tP n T j)
def tK (n : Nat) (T : Nat → Nat) (j : Nat) : Nat := if tS n T j < n then kd (T (tS n T j)) else 4
def nv (T : Nat → Nat) (b : Nat) : Nat → Nat
  | 0 => 0
  | l + 1 => if 999999 < nv T b l then nv T b l else 10 * nv T b l + (T (b + l) - 48)
def wv (T : Nat → Nat) (b : Nat) : Nat → Nat
  | 0 => 0
  | l + 1 => if l < 12 then 32 * wv T b l + (T (b + l) - 96) else wv T b l
section
variable {n : Nat} {T : Nat → Nat}
theorem kd_lt (b : Nat) : kd b < 4 := by unfold kd; split; decide; split; decide; split <;> decide
theorem runs_step {k p : Nat} (h : p < n) (hk : kd (T p) = k) : runs n T k p = runs n T k (p + 1) := by
  unfold runs
  rw [show n - p = (n - (p + 1)) + 1 by omega]
  show (if p < n ∧ kd (T p) = k then runF n T k (n - (p + 1)) (p + 1) else p) = _
  rw [if_pos ⟨h, hk⟩]
theorem runs_stop {k p : Nat} (h : ¬ (p < n ∧ kd (T p) = k)) : runs n T k p = p := by
  unfold runs
  cases hz : n - p with
  | zero => rfl
  | succ z =>
    show (if p < n ∧ kd (T p) = k then runF n T k z (p + 1) else p) = p
    rw [if_neg h]
theorem runF_ge {k : Nat} : ∀ (z p : Nat), p ≤ runF n T k z p
  | 0, p => Nat.le_refl _
  | z + 1, p => by
    show p ≤ (if p < n ∧ kd (T p) = k then runF n T k z (p + 1) else p)
    split
    · have := runF_ge (k := k) z (p + 1)
      omega
    · exact Nat.le_refl _
theorem runF_le {k : Nat} : ∀ (z p : Nat), p ≤ n → runF n T k z p ≤ n
  | 0, p, h => h
  | z + 1, p, h => by
    show (if p < n ∧ kd (T p) = k then runF n T k z (p + 1) else p) ≤ n
    split
    · exact runF_le z (p + 1) (by omega)
    · exact h
theorem runs_ge {k p : Nat} : p ≤ runs n T k p := runF_ge _ _
theorem runs_le {k p : Nat} (h : p ≤ n) : runs n T k p ≤ n := runF_le _ _ h
theorem runF_all {k : Nat} : ∀ (z p q : Nat), p ≤ q → q < runF n T k z p → q < n ∧ kd (T q) = k
  | 0, p, q, h1, h2 => by
    have : q < p := h2
    omega
  | z + 1, p, q, h1, h2 => by
    have h2' : q < (if p < n ∧ kd (T p) = k then runF n T k z (p + 1) else p) := h2
    by_cases c : p < n ∧ kd (T p) = k
    · rw [if_pos c] at h2'
      by_cases e : q = p
      · subst e; exact c
      · exact runF_all z (p + 1) q (by omega) h2'
    · rw [if_neg c] at h2'
      omega
theorem runs_all {k p q : Nat} (h1 : p ≤ q) (h2 : q < runs n T k p) : q < n ∧ kd (T q) = k := runF_all _ _ _ h1 h2
theorem runF_end {k : Nat} : ∀ (z p : Nat), n - p ≤ z → ¬ (runF n T k z p < n ∧ kd (T (runF n T k z p)) = k)
  | 0, p, h => by
    show ¬ (p < n ∧ _)
    omega
  | z + 1, p, h => by
    have e : runF n T k (z + 1) p = (if p < n ∧ kd (T p) = k then runF n T k z (p + 1) else p) := rfl
    rw [e]
    by_cases c : p < n ∧ kd (T p) = k
    · rw [if_pos c]
      exact runF_end z (p + 1) (by omega)
    · rw [if_neg c]
      exact c
theorem runs_end {k p : Nat} : ¬ (runs n T k p < n ∧ kd (T (runs n T k p)) = k) := runF_end _ _ (Nat.le_refl _)
theorem sk_ge {p : Nat} : p ≤ sk n T p := runs_ge
theorem sk_le {p : Nat} (h : p ≤ n) : sk n T p ≤ n := runs_le h
theorem sk_kd {p : Nat} (h : sk n T p < n) : kd (T (sk n T p)) ≠ 0 := fun z => runs_end (k := 0) ⟨h, z⟩
theorem tE_ge {p : Nat} : sk n T p ≤ tE n T p := by
  unfold tE
  split
  · split
    · omega
    · exact runs_ge
  · exact Nat.le_refl _
theorem tE_le {p : Nat} (h : p ≤ n) : tE n T p ≤ n := by
  have := sk_le (T := T) h
  unfold tE
  split
  · split
    · omega
    · exact runs_le this
  · exact this
theorem tP_le : ∀ j, tP n T j ≤ n
  | 0 => Nat.zero_le _
  | j + 1 => tE_le (tP_le j)
theorem tS_le (j : Nat) : tS n T j ≤ n := sk_le (tP_le j)
theorem tS_lt {j : Nat} (h : tK n T j ≠ 4) : tS n T j < n := by
  by_cases c : tS n T j < n
  · exact c
  · exact absurd (if_neg c) h
theorem tK_4 {j : Nat} (h : ¬ tS n T j < n) : tK n T j = 4 := if_neg h
theorem tK_kd {j : Nat} (h : tS n T j < n) : tK n T j = kd (T (tS n T j)) := if_pos h
theorem tK_pos {j : Nat} (h : tS n T j < n) : tK n T j = 1 ∨ tK n T j = 2 ∨ tK n T j = 3 := by
  rw [tK_kd h]
  have h1 := sk_kd h
  have h2 := kd_lt (T (tS n T j))
  unfold tS at h2 ⊢
  omega
theorem tP_gt {j : Nat} (h : tS n T j < n) : tS n T j < tP n T (j + 1) := by
  show tS n T j < tE n T (tP n T j)
  have h1 : sk n T (tP n T j) < n := h
  have h2 := sk_kd h1
  unfold tE
  rw [if_pos h1]
  split
  · exact Nat.lt_succ_self _
  · rw [runs_step h1 rfl]
    exact Nat.lt_of_lt_of_le (Nat.lt_succ_self _) runs_ge
theorem tP_1 {j : Nat} (h : tK n T j = 1 ∨ tK n T j = 2) : tP n T (j + 1) = runs n T (tK n T j) (tS n T j + 1) := by
  have h0 : tS n T j < n := tS_lt (by omega)
  have h1 : sk n T (tP n T j) < n := h0
  show tE n T (tP n T j) = _
  rw [tK_kd h0] at h ⊢
  unfold tE
  rw [if_pos h1, if_neg (by unfold tS at h; omega), runs_step h1 rfl]
  rfl
theorem tP_3 {j : Nat} (h : tK n T j = 3) : tP n T (j + 1) = tS n T j + 1 := by
  have h0 : tS n T j < n := tS_lt (by omega)
  have h1 : sk n T (tP n T j) < n := h0
  show tE n T (tP n T j) = _
  rw [tK_kd h0] at h
  unfold tE
  rw [if_pos h1, if_pos (show kd (T (sk n T (tP n T j))) = 3 from h)]
  rfl
theorem tP_4 {j : Nat} (h : tK n T j = 4) : tP n T (j + 1) = n ∧ tS n T j = n := by
  have h0 : ¬ tS n T j < n := fun z => by
    rcases tK_pos z with e | e | e <;> omega
  have h1 := tS_le (n := n) (T := T) j
  have h2 : ¬ sk n T (tP n T j) < n := h0
  have h3 : sk n T (tP n T j) ≤ n := h1
  show tE n T (tP n T j) = n ∧ _
  unfold tE
  rw [if_neg h2]
  exact ⟨by omega, by omega⟩
theorem tok_all {j q k : Nat} (hk : tK n T j = k) (h12 : k = 1 ∨ k = 2) (h1 : tS n T j ≤ q) (h2 : q < tP n T (j + 1)) : q < n ∧ kd (T q) = k := by
  rw [tP_1 (by omega), hk] at h2
  have h0 : tS n T j < n := tS_lt (by omega)
  by_cases e : q = tS n T j
  · subst e
    exact ⟨h0, by rw [← tK_kd h0]; exact hk⟩
  · exact runs_all (by omega) h2
theorem kd_1 {b : Nat} (h : kd b = 1) : 97 ≤ b ∧ b ≤ 122 := by
  unfold kd at h
  by_cases c : 97 ≤ b ∧ b ≤ 122
  · exact c
  · rw [if_neg c] at h
    split at h
    · omega
    · split at h <;> omega
theorem kd_2 {b : Nat} (h : kd b = 2) : 48 ≤ b ∧ b ≤ 57 := by
  unfold kd at h
  split at h
  · omega
  · split at h
    · assumption
    · split at h <;> omega
theorem nv_le (T : Nat → Nat) (b : Nat) (hT : ∀ l, T l ≤ 255) : ∀ l, nv T b l ≤ 10000300
  | 0 => Nat.zero_le _
  | l + 1 => by
    unfold nv
    have h1 := nv_le T b hT l
    have h2 := hT (b + l)
    split <;> omega
theorem wv_lt (T : Nat → Nat) (b : Nat) (hT : ∀ l, T l ≤ 122) : ∀ l, wv T b l < 32 ^ (min l 12)
  | 0 => by show 0 < 32 ^ 0; decide
  | l + 1 => by
    unfold wv
    have h1 := wv_lt T b hT l
    have h2 := hT (b + l)
    by_cases c : l < 12
    · rw [if_pos c, Nat.min_eq_left (by omega)]
      rw [Nat.min_eq_left (by omega)] at h1
      rw [Nat.pow_succ]
      omega
    · rw [if_neg c, Nat.min_eq_right (by omega)]
      rw [Nat.min_eq_right (by omega)] at h1
      exact h1
theorem wv_code {b : Nat} : ∀ {l : Nat}, l ≤ 12 → wv T b l = codeN (fun k => T (b + k) - 96) l
  | 0, _ => rfl
  | l + 1, h => by
    unfold wv
    rw [if_pos (by omega), wv_code (by omega)]
    rfl
end
