variable {Mb : SMem}
def rkd (b : Nat) : Nat := if b = 59 ∨ b = 40 ∨ b = 41 then 3 else 4
def rK (n : Nat) (T : Nat → Nat) (j : Nat) : Nat := if tK n T j = 4 then 0 else if tK n T j = 3 then rkd (T (tS n T j)) else tK n T j
def tL (n : Nat) (T : Nat → Nat) (j : Nat) : Nat := tP n T (j + 1) - tS n T j
def RJ (I : kInts) (L : kLngs) (n : Nat) (T : Nat → Nat) (j : Nat) : Prop := I 540 12 = nI (tP n T (j + 1)) ∧ I 540 13 = nI (tS n T j) ∧ I 540 14 = nI (rK n T j) ∧ (tK n T j = 2 → I 540 15 = nI (nv T (tS n T j) (tL n T j))) ∧ (tK n T j = 1 → L 540 20 = lN (wv T (tS n T j) (tL n T j)))
def SF (I I' : kInts) : Prop := ∀ a j, ¬ (a = 540 ∧ 12 ≤ j ∧ j ≤ 15) → I' a j = I a j
def LF (L L' : kLngs) : Prop := ∀ a j, ¬ (a = 540 ∧ j = 20) → L' a j = L a j
section
variable {N : Nat} {I : kInts} {L : kLngs} {n : Nat} {T : Nat → Nat}
theorem SF.up {I' : kInts} {j : Nat} {v : Int32} (h : SF I I') (h1 : 12 ≤ j) (h2 : j ≤ 15) : SF I (up I' 540 j v) := fun a i hn => (up_ne (by omega)).trans (h a i hn)
theorem SF.rf' : SF I I := fun _ _ _ => rfl
theorem LF.rf' : LF L L := fun _ _ _ => rfl
theorem LF.up {L' : kLngs} {v : Int64} (h : LF L L') : LF L (upL L' 540 20 v) := fun a j hn => (if_neg hn).trans (h a j hn)
theorem upL_eq {a j : Nat} {v : Int64} : upL L a j v a j = v := if_pos ⟨rfl, rfl⟩
theorem SF.trans {I1 I2 : kInts} (h : SF I I1) (h2 : SF I1 I2) : SF I I2 := fun a j hn => (h2 a j hn).trans (h a j hn)
theorem LF.trans {L1 L2 : kLngs} (h : LF L L1) (h2 : LF L1 L2) : LF L L2 := fun a j hn => (h2 a j hn).trans (h a j hn)
theorem RT.sf {I' : kInts} (h : RT I n T) (hs : SF I I') : RT I' n T := ⟨(hs _ _ (by omega)).trans h.1, fun k hk => (hs _ _ (by omega)).trans (h.2 k hk)⟩
theorem wv_s (b l : Nat) : wv T b (l + 1) = if l < 12 then 32 * wv T b l + (T (b + l) - 96) else wv T b l := rfl
theorem kd_is2 {b : Nat} (h : 48 ≤ b ∧ b ≤ 57) : kd b = 2 := by
  unfold kd
  rw [if_neg (by omega), if_pos h]
theorem wv_le (hB : ∀ k, 1 ≤ T k ∧ T k ≤ 255) {s : Nat} : ∀ l, (∀ i, i < l → 97 ≤ T (s + i) ∧ T (s + i) ≤ 122) → wv T s l < 1152921504606846976
  | 0, _ => by show 0 < 1152921504606846976; decide
  | l + 1, h => by
    have hp : ∀ l, (∀ i, i < l → 97 ≤ T (s + i) ∧ T (s + i) ≤ 122) → wv T s l < 32 ^ (min l 12) := by
      intro l
      induction l with
      | zero => intro _; show 0 < 32 ^ 0; decide
      | succ l ih =>
        intro h
        have h1 := ih (fun i hi => h i (by omega))
        have h2 := h l (by omega)
        unfold wv
        by_cases c : l < 12
        · rw [if_pos c, Nat.min_eq_left (by omega)]
          rw [Nat.min_eq_left (by omega)] at h1
          rw [Nat.pow_succ]
          omega
        · rw [if_neg c, Nat.min_eq_right (by omega)]
          rw [Nat.min_eq_right (by omega)] at h1
          exact h1
    have h3 := hp (l + 1) h
    have h4 : 32 ^ (min (l + 1) 12) ≤ 32 ^ 12 := Nat.pow_le_pow_right (by decide) (Nat.min_le_right _ _)
    have h5 : 32 ^ 12 = 1152921504606846976 := by decide
    omega
theorem kd_sp {b : Nat} (h : b = 32 ∨ b = 10) : kd b = 0 := by rcases h with rfl | rfl <;> rfl
end
