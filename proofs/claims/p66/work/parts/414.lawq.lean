/-! the law's own questions, over the row -/
section
variable {N : Nat} {M M' M1 M2 : kMem} {a s i j k k2 nb nt b t q : Nat} {A : kA} {E : Nat → Nat → Nat} {r r' : Nat → Int32}
theorem sumI_sh (f : Nat → Int32) (a : Nat) : ∀ n, sumI f (a + n) = sumI f a + sumI (fun i => f (a + i)) n
  | 0 => by show sumI f a = sumI f a + 0; rw [Int32.add_zero]
  | n + 1 => by
    show sumI f (a + n) + f (a + n) = sumI f a + (sumI (fun i => f (a + i)) n + f (a + n))
    rw [sumI_sh f a n, Int32.add_assoc]
theorem LW.ent (h : LW M A E r nb nt) (hR : RI r nb nt) (hb : b < nb) (hq : E b q ≠ 0) : q < 13 ∧ q ≠ 6 ∧ ∃ t, t < nt ∧ r (si b q) = nI (t + 1) ∧ st r nb t b q ∧ kR M (E b q) 1 = aT A t := by
  have q13 := (h.tm hb).lt13 hq
  obtain ⟨c1, c2⟩ := h.c b hb
  have q6 : q ≠ 6 := fun z => hq (z ▸ c1)
  refine ⟨q13, q6, ?_⟩
  rcases hR.s.2 b hb q q13 q6 with e | ⟨t, ht, e, hs⟩
  · exact absurd ((c2 q q13 q6).1 e) hq
  · exact ⟨t, ht, e, hs, ((c2 q q13 q6).2 t ht e).2⟩
theorem LW.hv (h : LW M A E r nb nt) (hR : RI r nb nt) (hb : b < nb) : ∀ q, E b q ≠ 0 → kt M (kR M (E b q) 1) 32 = true := fun q hq => by
  obtain ⟨-, -, t, ht, -, -, e⟩ := h.ent hR hb hq
  rw [e]
  exact h.tk ht
theorem LW.e0 (h : LW M A E r nb nt) (hR : RI r nb nt) (hb : b < nb) (hq : q < 13) (h6 : q ≠ 6) : E b q = 0 ↔ r (si b q) = 0 := by
  refine ⟨fun z => ?_, ((h.c b hb).2 q hq h6).1⟩
  rcases hR.s.2 b hb q hq h6 with e | ⟨t, ht, e, hs⟩
  · exact e
  · exact absurd z (((h.c b hb).2 q hq h6).2 t ht e).1
theorem LW.tq (h : LW M A E r nb nt) (hR : RI r nb nt) (hb : b < nb) : sumI (TqM M (E b)) 13 = tqr r nt b := by
  have h24 := hR.nt24
  have e1 : ∀ q, q < 13 → TqM M (E b) q = gq r b q := by
    intro q hq
    unfold TqM gq
    by_cases z : E b q = 0
    · rw [if_pos z]
      by_cases h6 : q = 6
      · rw [if_pos h6]
      · rw [if_neg h6, if_pos ((h.e0 hR hb hq h6).mp z)]
    · obtain ⟨-, h6, t, ht, e, hs, v⟩ := h.ent hR hb z
      obtain ⟨⟨-, -, t3, -, -, -, t7⟩, -⟩ := h.t t ht
      rw [if_neg z, if_neg h6, v, t7, t3, if_neg (by rw [e]; exact nI_ne0 (by omega) (by omega)), e, kx_nI (by omega)]
      rw [hs.2.2.2.2.1]
      rfl
  rw [sumI_congr e1]
  obtain ⟨a, s, l, ha, -, -, ea, -⟩ := hR.b b hb
  rw [← tq_swap hR.s hb hR.nb5 h24 ea ha.2]
  have z1 : ∀ q, q < 13 → (q < 6 - a ∨ 6 + a < q) → gq r b q = 0 := by
    intro q hq ho
    unfold gq
    by_cases h6 : q = 6
    · rw [if_pos h6]
    · rw [if_neg h6]
      rcases hR.s.2 b hb q hq h6 with e | ⟨t, ht, e, hs⟩
      · rw [if_pos e]
      · obtain ⟨-, -, ⟨a2, g1, g2, g3, g4⟩, -⟩ := hs
        have : a2 = a := (nI_eq (by omega) (by omega)).mp (g1.symm.trans ea)
        omega
  have e2 : sumI (gq r b) 13 = sumI (gq r b) (6 - a + (2 * a + 1)) := sumI_to (by omega) (fun q h1 h2 => z1 q h2 (by omega))
  rw [e2, sumI_sh, sumI_zero (fun q hq => z1 q (by omega) (by omega)), Int32.zero_add]
theorem lw_torque (h : LW M A E r nb nt) (hR : RI r nb nt) (hb : b < nb) (hN : 100 < N) : ∃ M', F_LB_torque N M (aB A b) = some (tqr r nt b, M') ∧ Gr M M' 7 := by
  obtain ⟨M', u1, u2⟩ := lb_torque (h.bk hb) (h.b b hb).1.2.2.2.2.2 (h.tm hb) hN (h.hv hR hb)
  rw [h.tq hR hb] at u1
  exact ⟨M', u1, u2⟩
theorem LW.st0 (h : LW M A E r nb nt) (hR : RI r nb nt) (hb : b < nb) : kI M (aB A b) 2 ≠ 0 := by
  rw [(h.b b hb).1.2.2.2.1]
  obtain ⟨a, s, l, -, hs, -, -, es, -⟩ := hR.b b hb
  rw [es]
  exact nI_ne0 (by omega) (by omega)
theorem LW.tl (h : LW M A E r nb nt) (hR : RI r nb nt) (hb : b < nb) : tlT M (E b) (aB A b) = tl r b (tqr r nt b) := by
  unfold tlT Jvm.Pilot.@@N@@.tl
  rw [h.tq hR hb, (h.b b hb).1.2.2.2.1]
theorem lw_tilt (h : LW M A E r nb nt) (hR : RI r nb nt) (hb : b < nb) (hN : 100 < N) : ∃ M', F_LB_tilt N M (aB A b) = some (tl r b (tqr r nt b), M') ∧ Gr M M' 7 := by
  obtain ⟨M', u1, u2⟩ := lb_tilt (h.bk hb) (h.b b hb).1.2.2.2.2.2 (h.tm hb) hN (h.hv hR hb) (h.st0 hR hb)
  rw [h.tl hR hb] at u1
  exact ⟨M', u1, u2⟩
theorem lw_height (h : LW M A E r nb nt) (hR : RI r nb nt) (hb : b < nb) (hN : 100 < N) (x : Int32) : ∃ M', F_LB_height N M (aB A b) x = some (ht r nt b x, M') ∧ Gr M M' 7 := by
  obtain ⟨M', u1, u2⟩ := lb_height x (h.bk hb) (h.b b hb).1.2.2.2.2.2 (h.tm hb) hN (h.hv hR hb) (h.st0 hR hb)
  rw [h.tl hR hb] at u1
  exact ⟨M', u1, u2⟩
theorem lw_price (h : LW M A E r nb nt) (hR : RI r nb nt) (hb : b < nb) (hN : 100 < N) (x : Int32) : ∃ M', F_L_price N M (aH A) (aB A b) x = some (prS r nt b x, M') ∧ Gr M M' 7 := by
  obtain ⟨M', u1, u2⟩ := lw_height h hR hb hN x
  unfold F_L_price
  rw [h.hk, kg_t, h.bk hb, kg_t, u1, Option.bind_some, h.g.2.2.1]
  exact ⟨M', rfl, u2⟩
theorem LW.seat (h : LW M A E r nb nt) (hR : RI r nb nt) (ht : t < nt) (hs : Jvm.Pilot.@@N@@.st r nb t b q) : b < nb ∧ kR M (aT A t) 6 = aB A b ∧ kI M (aT A t) 4 = pz q ∧ r (89 + 7 * t + 5) = nI b := by
  have h5 := hR.nb5
  obtain ⟨⟨-, -, -, -, -, -, t7⟩, -, t9⟩ := h.t t ht
  exact ⟨hs.1, t9 b (by have := hs.1; omega) hs.2.2.2.1, t7.trans hs.2.2.2.2.1, hs.2.2.2.1⟩
theorem lw_oh (h : LW M A E r nb nt) (hR : RI r nb nt) (ht : t < nt) (hs : Jvm.Pilot.@@N@@.st r nb t b q) (hN : 100 < N) : kt M (kR M (aT A t) 6) 31 = true ∧ ∃ M', F_LB_height N M (kR M (aT A t) 6) (kI M (aT A t) 4) = some (oh r nt t, M') ∧ Gr M M' 7 := by
  obtain ⟨hb, e1, e2, -⟩ := h.seat hR ht hs
  rw [e1, e2, oh_st hs hR.nb5]
  exact ⟨h.bk hb, lw_height h hR hb hN _⟩
theorem lw_unit (h : LW M A E r nb nt) (hR : RI r nb nt) {s b2 q2 : Nat} (hs0 : s < nt) (ht : t < nt) (hs : st r nb s b q) (hs2 : st r nb t b2 q2) (hN : 100 < N) : ∃ M', F_L_unit N M (aH A) (aT A s) (aT A t) = some (uprS r nt s t, M') ∧ Gr M M' 14 := by
  obtain ⟨k1, M1, u1, g1⟩ := lw_oh h hR ht hs2 hN
  have h1 := h.gr g1
  obtain ⟨k2, M2, u2, g2⟩ := lw_oh h1 hR hs0 hs hN
  unfold F_L_unit
  rw [h.hk, kg_t, h.tk ht, kg_t, kg_t, k1, kg_t, u1, Option.bind_some]
  simp only [h1.tk hs0, kg_t, k2]
  rw [u2, Option.bind_some, h.g.2.2.2.1]
  exact ⟨M2, rfl, (g1.trans g2).le (by omega)⟩
theorem lw_more (h : LW M A E r nb nt) (hR : RI r nb nt) {s b2 q2 : Nat} (hs0 : s < nt) (ht : t < nt) (hs : st r nb s b q) (hs2 : st r nb t b2 q2) (hN : 100 < N) : ∃ M', F_L_more N M (aT A s) (aT A t) = some (oh r nt t - oh r nt s, M') ∧ Gr M M' 14 := by
  obtain ⟨k1, M1, u1, g1⟩ := lw_oh h hR ht hs2 hN
  have h1 := h.gr g1
  obtain ⟨k2, M2, u2, g2⟩ := lw_oh h1 hR hs0 hs hN
  unfold F_L_more
  rw [h.tk ht, kg_t, kg_t, k1, kg_t, u1, Option.bind_some]
  simp only [h1.tk hs0, kg_t, k2]
  rw [u2, Option.bind_some]
  exact ⟨M2, rfl, (g1.trans g2).le (by omega)⟩
theorem val_of {q : Nat} (hq : q < 13) : F_IN_valueOf N M (pz q) = some (pz q, M) := by
  have h1 : ∀ q, q < 13 → (¬ pz q < -128) ∧ (¬ (127 : Int32) < pz q) ∧ (decide ((0 : Int32) ≤ pz q + 128) && decide (pz q + 128 < (256 : Int32))) = true := by decide
  obtain ⟨a1, a2, a3⟩ := h1 q hq
  unfold F_IN_valueOf
  rw [if_neg a1, if_neg a2, a3, kg_t]
  have : pz q + 128 - 128 = pz q := by grind
  rw [this]
theorem LW.at (h : LW M A E r nb nt) (hR : RI r nb nt) (ht : t < nt) (hb : b < nb) : (kR M (aT A t) 6 = aB A b) ↔ r (89 + 7 * t + 5) = nI b := by
  have h5 := hR.nb5
  obtain ⟨-, t8, t9⟩ := h.t t ht
  refine ⟨fun z => ?_, t9 b (by omega)⟩
  rcases hR.s.1 t ht with e | ⟨b2, q2, hs⟩
  · rw [t8 e.1] at z
    have := (kt_le (h.bk hb)).1
    omega
  · obtain ⟨g1, g2, g3, g4⟩ := h.seat hR ht hs
    rw [g2] at z
    rw [g4, h.binj h5 g1 hb z]
theorem lw_against (h : LW M A E r nb nt) (hR : RI r nb nt) (ht : t < nt) (hb : b < nb) (hq : q < 13) (h6 : q ≠ 6) (hN : 100 < N) : ∃ M', F_L_against N M (aH A) (aT A t) (aB A b) (pz q) = some (aSeat r nt t b q, M') ∧ Gr M M' 14 := by
  obtain ⟨⟨t1, t2, t3, t4, t5, t6, t7⟩, t8, t9⟩ := h.t t ht
  unfold F_L_against aSeat
  rw [t1, kg_t, t6]
  by_cases c1 : r (89 + 7 * t + 4) = 0
  · rw [if_pos c1, if_pos c1]
    exact ⟨M, rfl, Gr.rf'.le (by omega)⟩
  · rw [if_neg c1, if_neg c1, h.bk hb, kg_t, val_of hq, Option.bind_some]
    simp only [(h.b b hb).1.2.2.2.2.2, (h.tm hb).k, kg_t, tm_has (h.tm hb) hN hq, Option.bind_some]
    by_cases c2 : r (si b q) = 0
    · rw [if_pos c2, if_pos ((h.e0 hR hb hq h6).mpr c2), if_pos rfl, t1, kg_t, h.hk, kg_t]
      obtain ⟨M1, u1, g1⟩ := lw_price h hR hb hN (pz q)
      rw [u1, Option.bind_some, t4]
      by_cases c3 : r (89 + 7 * t + 2) < prS r nt b (pz q)
      · rw [if_pos c3, if_pos c3]
        exact ⟨M1, rfl, g1.le (by omega)⟩
      · rw [if_neg c3, if_neg c3]
        have h1 := h.gr g1
        obtain ⟨M2, u2, g2⟩ := lw_torque h1 hR hb hN
        have h2 := h1.gr g2
        obtain ⟨⟨s1, s2, s3, s4, s5, s6, s7⟩, s8, s9⟩ := h2.t t ht
        have hbl := (h2.b b hb).1.2.2.2.2.1
        simp only [h1.bk hb, kg_t]
        rw [u2, Option.bind_some]
        simp only [h2.bk hb, kg_t, s1, kl_v, s3, s7, hbl]
        unfold tmu twS
        refine ⟨M2, ?_, (g1.trans g2).le (by omega)⟩
        by_cases c4 : r (89 + 7 * t + 5) = nI b
        · rw [if_pos ((h2.at hR ht hb).mpr c4), if_pos c4]
          by_cases c5 : r (14 + 15 * b + 2) < kabs (tqr r nt b + pz q * r (89 + 7 * t + 1) - r (89 + 7 * t + 6) * r (89 + 7 * t + 1))
          · rw [if_pos c5, if_pos c5, if_neg (by decide)]
          · rw [if_neg c5, if_neg c5, if_pos rfl]
        · rw [if_neg (fun z => c4 ((h2.at hR ht hb).mp z)), if_neg c4, Int32.sub_zero]
          by_cases c5 : r (14 + 15 * b + 2) < kabs (tqr r nt b + pz q * r (89 + 7 * t + 1))
          · rw [if_pos c5, if_pos c5, if_neg (by decide)]
          · rw [if_neg c5, if_neg c5, if_pos rfl]
    · rw [if_neg c2, if_neg (fun z => c2 ((h.e0 hR hb hq h6).mp z)), if_neg (by decide)]
      exact ⟨M, rfl, Gr.rf'.le (by omega)⟩
end
