/-! the class is made: its references -/
section
variable {N : Nat} {C D X Y : List (Nat × Nat)} {I : kInts} {R : Nat → Nat → Nat} {L : kLngs} {a b t n m s h p k j v mc ms : Nat} {x : Int32}
theorem upR_na {a' j' : Nat} (h : a' ≠ a) : upR R a j v a' j' = R a' j' := upR_ne (Or.inl h)
theorem mR_na (h : a < m ∨ m + 41 ≤ a) : mR m R a j = R a j := by
  unfold mR tR bR hR
  rw [if_neg (by omega), if_neg (by omega), if_neg (by omega), upR_na (by omega), upR_na (by omega), upR_na (by omega), upR_na (by omega), upR_na (by omega), upR_na (by omega)]
theorem mR_in (h1 : m ≤ a) (h2 : a < m + 41) (h0 : ∀ j, R a j = 0) : mR m R a j = mref m (a - m) j := by
  obtain ⟨k, rfl⟩ : ∃ k, a = m + k := ⟨a - m, by omega⟩
  rw [show m + k - m = k by omega]
  unfold mR tR bR hR mref
  by_cases k0 : k = 0
  · subst k0
    rw [if_neg (by omega), if_neg (by omega), if_neg (by omega), if_pos rfl]
    by_cases j13 : j = 13
    · subst j13
      rw [upR_ne (by omega), upR_ne (by omega), upR_ne (by omega), upR_ne (by omega), upR_ne (by omega), if_pos rfl]
      exact upR_eq
    by_cases j14 : j = 14
    · subst j14
      rw [upR_ne (by omega), upR_ne (by omega), upR_ne (by omega), upR_ne (by omega), if_neg (by omega), if_pos rfl]
      exact upR_eq
    by_cases j15 : j = 15
    · subst j15
      rw [if_neg (by omega), if_neg (by omega), if_pos rfl]
      exact upR_eq
    rw [upR_ne (by omega), upR_ne (by omega), upR_ne (by omega), upR_ne (by omega), upR_ne (by omega), upR_ne (by omega), if_neg j13, if_neg j14, if_neg j15]
    exact h0 j
  rw [if_neg k0]
  by_cases k1 : k = 1
  · subst k1
    rw [if_neg (by omega), if_pos rfl]
    by_cases j5 : j < 5
    · rw [if_pos ⟨rfl, j5⟩, if_pos j5]
    · rw [if_neg (by omega), if_neg (by omega), if_neg j5, upR_na (by omega), upR_na (by omega), upR_na (by omega), upR_na (by omega), upR_na (by omega), upR_na (by omega)]
      exact h0 j
  rw [if_neg k1]
  by_cases k2 : k = 2
  · subst k2
    rw [if_pos rfl]
    by_cases j5 : j < 24
    · rw [if_pos ⟨rfl, j5⟩, if_pos j5]
    · rw [if_neg (by omega), if_neg (by omega), if_neg (by omega), if_neg j5, upR_na (by omega), upR_na (by omega), upR_na (by omega), upR_na (by omega), upR_na (by omega), upR_na (by omega)]
      exact h0 j
  rw [if_neg k2, if_neg (by omega)]
  by_cases k3 : k = 3
  · subst k3
    rw [if_neg (by omega), if_neg (by omega), if_pos rfl]
    by_cases j0 : j = 0
    · subst j0
      rw [upR_ne (by omega), upR_ne (by omega), upR_ne (by omega), if_pos (by omega)]
      exact upR_eq
    by_cases j1 : j = 1
    · subst j1
      rw [upR_ne (by omega), upR_ne (by omega), if_pos (by omega)]
      exact upR_eq
    by_cases j2 : j = 2
    · subst j2
      rw [upR_ne (by omega), if_pos (by omega)]
      exact upR_eq
    rw [upR_ne (by omega), upR_ne (by omega), upR_ne (by omega), upR_ne (by omega), upR_ne (by omega), upR_ne (by omega), if_neg (by omega)]
    exact h0 j
  rw [if_neg k3]
  have hz : upR (upR (upR (upR (upR (upR R m 13 (m + 1)) m 14 (m + 2)) (m + 3) 0 (m + 4)) (m + 3) 1 (m + 5)) (m + 3) 2 (m + 6)) m 15 (m + 3) (m + k) j = 0 := by
    rw [upR_na (by omega), upR_na (by omega), upR_na (by omega), upR_na (by omega), upR_na (by omega), upR_na (by omega)]
    exact h0 j
  rw [hz]
  by_cases k7 : k < 7
  · rw [if_pos k7, if_neg (by omega), if_neg (by omega)]
  rw [if_neg k7]
  by_cases k17 : k < 17
  · rw [if_pos k17, if_neg (by omega)]
    by_cases c : (k - 7) % 2 = 0 ∧ j = 4
    · rw [if_pos (by omega), if_pos c]
    · rw [if_neg (by omega), if_neg c]
  rw [if_neg k17, if_neg (by omega), if_neg (by omega)]
theorem sR_na (h : a < s ∨ s + 34 ≤ a) : sR s R a j = R a j := by
  unfold sR cR
  rw [if_neg (by omega), upR_na (by omega), upR_na (by omega), upR_na (by omega)]
theorem hsR_na (hk : k ≤ 8) (hp : a ≠ p) (h1 : a < h + 2 ∨ h + 330 ≤ a) : hsR h p R k a j = R a j := by
  induction k with
  | zero => rfl
  | succ k ih =>
    show upR (mR (h + 2 + 41 * k) (hsR h p R k)) p k (h + 2 + 41 * k) a j = _
    rw [upR_na hp, mR_na (by omega)]
    exact ih (by omega)
theorem hsR_p (hk : k ≤ 8) (hp : p < h + 2) : hsR h p R k p j = if j < k then h + 2 + 41 * j else R p j := by
  induction k with
  | zero => rw [if_neg (by omega)]; rfl
  | succ k ih =>
    show upR (mR (h + 2 + 41 * k) (hsR h p R k)) p k (h + 2 + 41 * k) p j = _
    by_cases e : j = k
    · subst e
      rw [upR_eq, if_pos (by omega)]
    · rw [upR_ne (Or.inr e), mR_na (by omega), ih (by omega)]
      by_cases c : j < k
      · rw [if_pos c, if_pos (by omega)]
      · rw [if_neg c, if_neg (by omega)]
theorem hsR_in (hk : k ≤ 8) (hp : p < h + 2) (h1 : h + 2 ≤ a) (h2 : a < h + 2 + 41 * k) (h0 : ∀ j, R a j = 0) : hsR h p R k a j = mref (h + 2 + (a - (h + 2)) / 41 * 41) ((a - (h + 2)) % 41) j := by
  induction k with
  | zero => omega
  | succ k ih =>
    show upR (mR (h + 2 + 41 * k) (hsR h p R k)) p k (h + 2 + 41 * k) a j = _
    rw [upR_na (by omega)]
    by_cases c : a < h + 2 + 41 * k
    · rw [mR_na (by omega)]
      exact ih (by omega) c
    · have e1 : (a - (h + 2)) / 41 = k := by omega
      have e2 : (a - (h + 2)) % 41 = a - (h + 2 + 41 * k) := by omega
      rw [mR_in (by omega) (by omega) (fun i => ?_), e1, e2, Nat.mul_comm k 41]
      have : ∀ q, q ≤ k → hsR h p R q a i = 0 := by
        intro q
        induction q with
        | zero => intro _; exact h0 i
        | succ q ihq =>
          intro hq
          show upR (mR (h + 2 + 41 * q) (hsR h p R q)) p q (h + 2 + 41 * q) a i = _
          rw [upR_na (by omega), mR_na (by omega)]
          exact ihq (by omega)
      exact this k (Nat.le_refl _)
end
