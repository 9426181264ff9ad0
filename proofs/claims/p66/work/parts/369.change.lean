variable {Mb : SMem}
section
variable {N : Nat} {I K : kInts} {L : kLngs} {r s f : Nat → Int32} {nb nt nb' nt' : Nat}
theorem hs_mod {a b : Nat} (h : a % 8 = b % 8) : hs a = hs b := by unfold hs; rw [h]
theorem hs_ne {a b : Nat} (h : a % 8 ≠ b % 8) : hs a + 41 ≤ hs b ∨ hs b + 41 ≤ hs a := by
  unfold hs
  omega
theorem Rel.chg (h : Rel I) {nx u : Nat} (hx : nx < 8) (hu : u ≤ 8) (h6 : ∀ k, k < u → RelM I (hs (nx + 8 - u + k)) 543 (293 * k))
    (k1 : K 126 1 = nI ((nx + 1) % 8)) (k2 : K 126 2 = nI (min (u + 1) 8)) (k3 : K 540 5 = nI (min (u + 1) 8))
    (k4 : ∀ a j, 128 ≤ a → a < 456 → a < hs nx ∨ hs nx + 41 ≤ a → K a j = I a j)
    (k5 : RM K (hs nx) (I 541) nb nt) (k6 : RI (I 541) nb nt)
    (k7 : ∀ k, k < 293 → K 543 (293 * min u 7 + k) = I 541 k) (k8 : u < 8 → ∀ j, j < 293 * u → K 543 j = I 543 j) (k9 : u = 8 → ∀ j, j < 2051 → K 543 j = I 543 (j + 293))
    (k10 : ∀ a j, a = 4 ∨ a = 5 ∨ a = 6 ∧ 5 < j ∨ 85 ≤ a ∧ a < 126 ∨ 457 ≤ a ∧ a < 540 ∨ a = 544 ∨ a = 545 ∨ a = 551 ∨ a = 540 ∧ (j = 18 ∨ j = 19 ∨ j = 29) → K a j = I a j)
    (hT : RelT K) (k11 : RI (K 541) nb' nt') (k12 : RM K 44 (K 541) nb' nt') : Rel K := by
  obtain ⟨-, hE, -, hNu, -, hSl, hOu, hNm⟩ := h
  have hle := hs_le nx
  refine ⟨hT, ⟨by rw [k10 6 6 (by omega), k10 540 18 (by omega)]; exact hE.1, by rw [k10 6 7 (by omega), k10 540 19 (by omega)]; exact hE.2⟩, RelM.of k11 k12, fun m hm => ?_, ⟨(nx + 1) % 8, min (u + 1) 8, Nat.mod_lt _ (by decide), by omega, k1, k2, k3, fun k hk => ?_⟩, hSl.kp (fun x j y => k10 x j (by omega)), hOu.kp (fun x j y => k10 x j (by omega)), trivial⟩
  · by_cases y : m = 44
    · rw [y]; exact k12.nu
    · by_cases z : m = 85
      · rw [z]; exact (hNu 85 (by decide)).kp (fun x j y1 y2 => k10 x j (by omega))
      · by_cases w : m = hs nx
        · rw [w]; exact k5.nu
        · refine (hNu m hm).kp (fun x j y1 y2 => ?_)
          have h3 := mks_far hm y z
          rcases mks_sep hm with q | q | q
          · omega
          · refine k4 x j (by omega) (by omega) ?_
            have : ∃ i, i < 8 ∧ m = hs i := by
              have hq := q
              clear y1 y2 w
              revert q
              revert hm
              simp only [mks, List.mem_cons, List.not_mem_nil, or_false]
              intro hm q
              refine ⟨(m - 128) / 41, by omega, ?_⟩
              rw [hs_of (by omega)]
              omega
            obtain ⟨i, hi, e⟩ := this
            have : i % 8 ≠ nx % 8 := by
              rw [Nat.mod_eq_of_lt hi, Nat.mod_eq_of_lt hx]
              intro e2
              exact w (by rw [e, e2])
            have := hs_ne this
            rw [← e] at this
            omega
          · exact k10 x j (by omega)
  · by_cases z : u = 8
    · subst z
      by_cases e : k = 7
      · subst e
        have e1 : hs ((nx + 1) % 8 + 8 - min (8 + 1) 8 + 7) = hs nx := hs_mod (by omega)
        rw [e1]
        have e2 : ∀ j, j < 293 → rw' K 543 (293 * 7) j = I 541 j := fun j hj => k7 j hj
        exact ⟨nb, nt, k6.eqr e2, k5.eqr k6.nb5 k6.nt24 e2⟩
      · have e1 : hs ((nx + 1) % 8 + 8 - min (8 + 1) 8 + k) = hs (nx + 8 - 8 + (k + 1)) := hs_mod (by omega)
        rw [e1]
        obtain ⟨b', t', w1, w2⟩ := h6 (k + 1) (by omega)
        have e2 : ∀ j, j < 293 → rw' K 543 (293 * k) j = rw' I 543 (293 * (k + 1)) j := by
          intro j hj
          show K 543 (293 * k + j) = I 543 (293 * (k + 1) + j)
          rw [k9 rfl _ (by omega)]
          congr 1
          omega
        have hn : (nx + 8 - 8 + (k + 1)) % 8 ≠ nx % 8 := by omega
        have hn2 := hs_ne hn
        have hl2 := hs_le (nx + 8 - 8 + (k + 1))
        exact ⟨b', t', w1.eqr e2, (w2.cI w1.nb5 w1.nt24 (fun a j y1 y2 => k4 a j (by omega) (by omega) (by omega))).eqr w1.nb5 w1.nt24 e2⟩
    · have hmin : min (u + 1) 8 = u + 1 := by omega
      rw [hmin] at hk ⊢
      by_cases e : k = u
      · subst e
        have e1 : hs ((nx + 1) % 8 + 8 - (k + 1) + k) = hs nx := hs_mod (by omega)
        rw [e1]
        have e2 : ∀ j, j < 293 → rw' K 543 (293 * k) j = I 541 j := fun j hj => by
          have := k7 j hj
          rw [Nat.min_eq_left (by omega)] at this
          exact this
        exact ⟨nb, nt, k6.eqr e2, k5.eqr k6.nb5 k6.nt24 e2⟩
      · have e1 : hs ((nx + 1) % 8 + 8 - (u + 1) + k) = hs (nx + 8 - u + k) := hs_mod (by omega)
        rw [e1]
        obtain ⟨b', t', w1, w2⟩ := h6 k (by omega)
        have e2 : ∀ j, j < 293 → rw' K 543 (293 * k) j = rw' I 543 (293 * k) j := fun j hj => k8 (by omega) _ (by omega)
        have hn : (nx + 8 - u + k) % 8 ≠ nx % 8 := by omega
        have hn2 := hs_ne hn
        have hl2 := hs_le (nx + 8 - u + k)
        exact ⟨b', t', w1.eqr e2, (w2.cI w1.nb5 w1.nt24 (fun a j y1 y2 => k4 a j (by omega) (by omega) (by omega))).eqr w1.nb5 w1.nt24 e2⟩
end
