section
variable {N : Nat} {M M' M1 M2 : kMem} {a i j k k2 nb nt b s t q g d : Nat} {A : kA} {E : Nat → Nat → Nat} {r r' : Nat → Int32} {I I' : kInts}
theorem nine {k : Nat} (hk : k < 9) : k = 0 ∨ k = 1 ∨ k = 2 ∨ k = 3 ∨ k = 4 ∨ k = 5 ∨ k = 6 ∨ k = 7 ∨ k = 8 := by omega
theorem cc_more {M0 M : kMem} {P : kMem → Prop} (hc : Cc M0 M 0) {f : Option (Int32 × kMem)} (h : ∃ M' E' r', f = some (1, M') ∧ ST M' A E' r' nb nt g ∧ Cc M M' 8000 ∧ ∃ d', r' 6 = nI d' ∧ d' ≤ d + 6) : ∃ M' E' r', f = some (1, M') ∧ ST M' A E' r' nb nt g ∧ Cc M0 M' 8000 ∧ ∃ d', r' 6 = nI d' ∧ d' ≤ d + 6 := by
  obtain ⟨M', E', r', h1, h2, h3, h4⟩ := h
  exact ⟨M', E', r', h1, h2, (hc.trans h3).le (by omega), h4⟩
theorem lw_act (h : ST M A E r nb nt g) (hd : r 6 = nI d) (hd2 : d ≤ 1000) (h2 : 2 ≤ nt) (h10 : nt ≤ 10) (hnb : 1 ≤ nb) (hN : 1000 < N) : ∃ M' E' r', F_L_act N M 1 (aH A) g = some (1, M') ∧ ST M' A E' r' nb nt g ∧ Cc M M' 8000 ∧ ∃ d', r' 6 = nI d' ∧ d' ≤ d + 6 := by
  obtain ⟨s, v0, hs, u0⟩ := lw_draw (N := N) h.2.2 (m := nt) (by omega) (by omega)
  have h1 := h.draw v0
  obtain ⟨k2, v1, hk2, u1⟩ := lw_draw (N := N) h1.2.2 (m := nt - 1) (by omega) (by omega)
  have h2' := h1.draw v1
  obtain ⟨c, v2, hc, u2⟩ := lw_draw (N := N) h2'.2.2 (m := 9) (by omega) (by omega)
  have h3 := h2'.draw v2
  have u2' : F_L_draw N (ksI (ksI M g 0 v0) g 0 v1) g 9 = some (nI c, ksI (ksI (ksI M g 0 v0) g 0 v1) g 0 v2) := u2
  have cc : Cc M (ksI (ksI (ksI M g 0 v0) g 0 v1) g 0 v2) 0 := Cc.of rfl
  have en : nI nt - 1 = nI (nt - 1) := by
    rw [show (1 : Int32) = nI 1 from rfl, pk_sub (by omega)]
  have hz : (nI nt == 0) = false := by
    have := nI_ne0 (show 0 < nt by omega) (show nt < 2 ^ 31 by omega)
    simpa using this
  have ev : nI s + 1 + nI k2 - (nI s + 1 + nI k2) / nI nt * nI nt = nI ((s + 1 + k2) % nt) := by
    rw [nI_1, nI_add, nI_rem (by omega) (by omega) (by omega)]
  have htt : (s + 1 + k2) % nt < nt := Nat.mod_lt _ (by omega)
  have hst : s ≠ (s + 1 + k2) % nt := by
    by_cases z : s + 1 + k2 < nt
    · rw [Nat.mod_eq_of_lt z]; omega
    · rw [Nat.mod_eq_sub_mod (by omega), Nat.mod_eq_of_lt (by omega)]; omega
  unfold F_L_act
  rw [h.2.1.hk, kg_t, h.2.1.g.1.2.2, h.2.1.lt.1, kg_t, al_size h.2.1.lt, Option.bind_some, u0, Option.bind_some, kl_v]
  simp only [h1.2.1.hk, kg_t, h1.2.1.g.1.2.2, h1.2.1.lt.1, al_get h1.2.1.lt h10 hs, Option.bind_some, kor _ _ (h1.2.1.tk hs), al_size h1.2.1.lt, en]
  rw [u1, Option.bind_some]
  simp only [h2'.2.1.hk, kg_t, h2'.2.1.g.1.2.2, h2'.2.1.lt.1, al_size h2'.2.1.lt, Option.bind_some, hz, Bool.not_false, ev, al_get h2'.2.1.lt h10 htt, kor _ _ (h2'.2.1.tk htt)]
  rw [kl_v]
  simp only [ev, al_get h2'.2.1.lt h10 htt, kg_t, h2'.2.1.hk, h2'.2.1.g.1.2.2, h2'.2.1.lt.1, Option.bind_some, kor _ _ (h2'.2.1.tk htt)]
  rw [u2', Option.bind_some]
  refine cc_more (P := fun _ => True) cc ?_
  generalize (s + 1 + k2) % nt = t at htt hst ⊢
  generalize ksI (ksI (ksI M g 0 v0) g 0 v1) g 0 v2 = M3 at h3 ⊢
  clear u2' u2 u1 u0 h2' h1 cc ev
  dsimp only
  rcases nine hc with rfl | rfl | rfl | rfl | rfl | rfl | rfl | rfl | rfl
  · rw [if_pos (by decide)]
    exact act_seat h3 hd hs hnb hN
  · rw [if_neg (by decide), if_pos (by decide)]
    exact act_seat h3 hd hs hnb hN
  · rw [if_neg (by decide), if_neg (by decide), if_pos (by decide)]
    exact act_seat h3 hd hs hnb hN
  · rw [if_neg (by decide), if_neg (by decide), if_neg (by decide), if_pos (by decide)]
    exact act_sale h3 hd hs htt hst hN
  · rw [if_neg (by decide), if_neg (by decide), if_neg (by decide), if_neg (by decide), if_pos (by decide)]
    exact act_sale h3 hd hs htt hst hN
  · rw [if_neg (by decide), if_neg (by decide), if_neg (by decide), if_neg (by decide), if_neg (by decide), if_pos (by decide)]
    exact act_swap h3 hd hs htt hst hN
  · rw [if_neg (by decide), if_neg (by decide), if_neg (by decide), if_neg (by decide), if_neg (by decide), if_neg (by decide), if_pos (by decide)]
    exact act_wage h3 hd hN
  · rw [if_neg (by decide), if_neg (by decide), if_neg (by decide), if_neg (by decide), if_neg (by decide), if_neg (by decide), if_neg (by decide)]
    exact act_days h3 hd hd2 h10 hN
  · rw [if_neg (by decide), if_neg (by decide), if_neg (by decide), if_neg (by decide), if_neg (by decide), if_neg (by decide), if_neg (by decide)]
    exact act_days h3 hd hd2 h10 hN
end
