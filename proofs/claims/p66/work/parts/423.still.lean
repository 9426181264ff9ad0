/-! still: what the class answers and what the law's market holds are the same -/
section
variable {N : Nat} {M M' M1 M2 : kMem} {a i j k k2 nb nt b s t q g : Nat} {A : kA} {E : Nat → Nat → Nat} {r r' : Nat → Int32} {I I' : kInts}
theorem SMp.k11 (h : SMp M) : kt M 1 11 = true := h.kt1 (by decide) (by decide)
theorem lw_286 (hN : 1000 < N) (k226 : kMem → Nat → Nat → Int32 → Option (Int32 × kMem)) (hb : b < nb) (ha : r (14 + 15 * b + 0) = nI a) (ha6 : a ≤ 6) : ∀ (d q n : Nat) (M : kMem), ST M A E r nb nt g → q + d = 7 + a → 6 - a ≤ q → d < n → ∃ M', F_L_still_286 N k226 n M 1 (aH A) (nI b) (aB A b) (pz q) = k226 M' 1 (aH A) (nI b + 1) ∧ ST M' A E r nb nt g ∧ Gr M M' (14 * d) := by
  intro d
  induction d with
  | zero =>
    intro q n M h hq _ hn
    obtain ⟨n, rfl⟩ : ∃ n', n = n' + 1 := ⟨n - 1, by omega⟩
    unfold F_L_still_286
    rw [h.2.1.bk hb, kg_t, (h.2.1.b b hb).1.2.2.1, ha, pz_a, if_pos ((pz_lt (by omega) (by omega)).mpr (by omega)), kl_v]
    exact ⟨M, rfl, h, Gr.rf'⟩
  | succ d ih =>
    intro q n M h hq hlo hn
    obtain ⟨n, rfl⟩ : ∃ n', n = n' + 1 := ⟨n - 1, by omega⟩
    have hR := h.1.2.1.1
    have hM := h.1.2.2.1
    have h5 := hR.nb5
    have h24 := hR.nt24
    have q13 : q < 13 := by omega
    unfold F_L_still_286
    rw [h.2.1.bk hb, kg_t, (h.2.1.b b hb).1.2.2.1, ha, pz_a, if_neg (fun z => by have := (pz_lt (by omega) (by omega)).mp z; omega)]
    by_cases q6 : q = 6
    · subst q6
      rw [if_pos pz_6, kl_v, pz_s]
      obtain ⟨M', u1, u2, u3⟩ := ih 7 n M h (by omega) (by omega) (by omega)
      exact ⟨M', u1, u2, u3.le (by omega)⟩
    · rw [if_neg (pz_ne (by omega) q6), kg_t, val_of q13, Option.bind_some]
      have e1 : F_X11_seatOwner N M 1 (nI b) (pz q) = some (r (si b q) - 1) := cl_seatOwner (Mb := ⟨M, h.1.1⟩) (L := M.2.2.2) hR hM hb ha ha6 hlo (by omega) q6
      have v1 := tm_val (h.2.1.tm hb) (show 100 < N by omega) q13
      simp only [(h.2.1.b b hb).1.2.2.2.2.2, (h.2.1.tm hb).k, kg_t]
      rw [v1, Option.bind_some, e1]
      -- the rest of the step
      have rest : ∀ y1 : Int32, r (si b q) - 1 = y1 → ∃ M', F_L_still_341 N k226 (fun M a0 a1 x2 a3 x4 => F_L_still_286 N k226 n M a0 a1 x2 a3 x4) M 1 (aH A) (nI b) (aB A b) (pz q) (r (si b q) - 1) y1 = k226 M' 1 (aH A) (nI b + 1) ∧ ST M' A E r nb nt g ∧ Gr M M' (14 * (d + 1)) := by
        intro y1 hy
        unfold F_L_still_341
        have e2 : F_X11_seatHeight N M 1 (nI b) (pz q) = some (ht r nt b (pz q)) := cl_seatHeight (Mb := ⟨M, h.1.1⟩) (L := M.2.2.2) hR hM hb ha ha6 hlo (by omega) q6 (by omega)
        rw [if_pos hy, h.1.1.k11, kg_t, e2, ksm rfl, Option.bind_some, h.2.1.bk hb, kg_t]
        obtain ⟨M1, u1, g1⟩ := lw_height h.2.1 hR hb (show 100 < N by omega) (pz q)
        have h1 := h.gr g1
        have hM1 := h1.1.2.2.1
        have e3 : F_X11_seatPrice N M1 1 (nI b) (pz q) = some (prS r nt b (pz q)) := cl_seatPrice (Mb := ⟨M1, h1.1.1⟩) (L := M1.2.2.2) hR hM1 hb ha ha6 hlo (by omega) q6 (by omega)
        rw [u1, Option.bind_some, if_pos rfl]
        simp only [h1.1.1.k11, kg_t, e3, h1.2.1.hk]
        rw [ksm rfl, Option.bind_some]
        obtain ⟨M2, u2, g2⟩ := lw_price h1.2.1 hR hb (show 100 < N by omega) (pz q)
        have h2 := h1.gr g2
        rw [u2, Option.bind_some, if_pos rfl, kl_v, pz_s]
        obtain ⟨M', w1, w2, w3⟩ := ih (q + 1) n M2 h2 (by omega) (by omega) (by omega)
        exact ⟨M', w1, w2, ((g1.trans g2).trans w3).le (by omega)⟩
      by_cases z : E b q = 0
      · rw [if_pos z]
        have r0 := (h.2.1.e0 hR hb q13 q6).mp z
        rw [show ((0 : Nat) == 0) = true from rfl, Bool.true_or, kg_t, h.1.1.k11, kg_t, ksm rfl, Option.bind_some, if_pos rfl]
        exact rest (-1) (by rw [r0]; decide)
      · rw [if_neg z]
        obtain ⟨-, -, t, htt, et, hs, ev⟩ := h.2.1.ent hR hb z
        rw [ev]
        have kt1 := h.2.1.tk htt
        rw [kor _ _ kt1, kg_t, h.1.1.k11, kg_t, ksm rfl, Option.bind_some, if_neg (by have := (kt_le kt1).1; omega), kt1, kg_t, (h.2.1.t t htt).1.2.1]
        refine rest (nI t) ?_
        rw [et]
        show nI (t + 1) - nI 1 = nI t
        rw [pk_sub (by omega)]
        rfl
theorem lw_226 (hN : 1000 < N) : ∀ (k i n : Nat) (M : kMem), ST M A E r nb nt g → i + k = nb → k < n → ∃ M', F_L_still_226 N n M 1 (aH A) (nI i) = some (1, M') ∧ ST M' A E r nb nt g ∧ Gr M M' (196 * k)
  | k, i, 0, _, _, _, h1 => absurd h1 (Nat.not_lt_zero _)
  | 0, i, n + 1, M, h, hi, _ => by
    have h5 := h.1.2.1.1.nb5
    unfold F_L_still_226
    rw [h.2.1.hk, kg_t, h.2.1.g.1.2.1, h.2.1.lb.1, kg_t, al_size h.2.1.lb, Option.bind_some, if_neg (by rw [nI_ltI (by omega) (by omega)]; omega)]
    exact ⟨M, rfl, h, Gr.rf'⟩
  | k + 1, i, n + 1, M, h, hi, hn => by
    have hR := h.1.2.1.1
    have hM := h.1.2.2.1
    have h5 := hR.nb5
    have hb : i < nb := by omega
    obtain ⟨a, s, l, ha6, -, -, ha, -⟩ := hR.b i hb
    unfold F_L_still_226
    rw [h.2.1.hk, kg_t, h.2.1.g.1.2.1, h.2.1.lb.1, kg_t, al_size h.2.1.lb, Option.bind_some, if_pos ((nI_ltI (by omega) (by omega)).mpr hb), kg_t, kg_t, al_get h.2.1.lb (by omega) hb, Option.bind_some, kor _ _ (h.2.1.bk hb), kg_t]
    have e1 : F_X11_torque N M 1 (nI i) = some (tqr r nt i) := cl_torque (Mb := ⟨M, h.1.1⟩) (L := M.2.2.2) hR hM hb (by omega)
    rw [h.1.1.k11, kg_t, e1, ksm rfl, Option.bind_some, h.2.1.bk hb, kg_t]
    obtain ⟨M1, u1, g1⟩ := lw_torque h.2.1 hR hb (show 100 < N by omega)
    have h1 := h.gr g1
    have e2 : F_X11_tilt N M1 1 (nI i) = some (tl r i (tqr r nt i)) := cl_tilt (Mb := ⟨M1, h1.1.1⟩) (L := M1.2.2.2) hR h1.1.2.2.1 hb (by omega)
    rw [u1, Option.bind_some, if_pos rfl]
    simp only [h1.1.1.k11, kg_t, e2, h1.2.1.bk hb]
    rw [ksm rfl, Option.bind_some]
    obtain ⟨M2, u2, g2⟩ := lw_tilt h1.2.1 hR hb (show 100 < N by omega)
    have h2 := h1.gr g2
    rw [u2, Option.bind_some, if_pos rfl]
    simp only [h2.2.1.bk hb, kg_t, (h2.2.1.b i hb).1.2.2.1, ha, kl_v]
    rw [pz_na ha6.2]
    obtain ⟨M3, w1, w2, w3⟩ := lw_286 hN (fun M a0 a1 x2 => F_L_still_226 N n M a0 a1 x2) hb ha ha6.2 (2 * a + 1) (6 - a) N M2 h2 (by omega) (by omega) (by omega)
    rw [w1, nI_1]
    obtain ⟨M', x1, x2, x3⟩ := lw_226 hN k (i + 1) n M3 w2 (by omega) (by omega)
    exact ⟨M', x1, x2, (((g1.trans g2).trans w3).trans x3).le (by omega)⟩
theorem lw_66 (hN : 1000 < N) (h10 : nt ≤ 10) : ∀ (k i n : Nat) (M : kMem), ST M A E r nb nt g → i + k = nt → k < n → ∃ M', F_L_still_66 N n M 1 (aH A) (nI i) = F_L_still_226 N N M' 1 (aH A) 0 ∧ ST M' A E r nb nt g ∧ Gr M M' (7 * k)
  | k, i, 0, _, _, _, h1 => absurd h1 (Nat.not_lt_zero _)
  | 0, i, n + 1, M, h, hi, _ => by
    unfold F_L_still_66
    rw [h.2.1.hk, kg_t, h.2.1.g.1.2.2, h.2.1.lt.1, kg_t, al_size h.2.1.lt, Option.bind_some, if_neg (by rw [nI_ltI (by omega) (by omega)]; omega)]
    exact ⟨M, rfl, h, Gr.rf'⟩
  | k + 1, i, n + 1, M, h, hi, hn => by
    have hR := h.1.2.1.1
    have hM := h.1.2.2.1
    have h5 := hR.nb5
    have htt : i < nt := by omega
    obtain ⟨⟨t1, t2, t3, t4, t5, t6, t7⟩, t8, t9⟩ := h.2.1.t i htt
    have e1 : F_X11_weightOf N M 1 (nI i) = some (r (89 + 7 * i + 1)) := cl_weightOf (Mb := ⟨M, h.1.1⟩) (L := M.2.2.2) hR hM htt
    have e2 : F_X11_purseOf N M 1 (nI i) = some (r (89 + 7 * i + 2)) := cl_purseOf (Mb := ⟨M, h.1.1⟩) (L := M.2.2.2) hR hM htt
    have e3 : F_X11_ageOf N M 1 (nI i) = some (r (89 + 7 * i + 3)) := cl_ageOf (Mb := ⟨M, h.1.1⟩) (L := M.2.2.2) hR hM htt
    have e4 : F_X11_isPresent N M 1 (nI i) = some (r (89 + 7 * i + 4)) := cl_isPresent (Mb := ⟨M, h.1.1⟩) (L := M.2.2.2) hR hM htt
    have e5 : F_X11_boardOf N M 1 (nI i) = some (r (89 + 7 * i + 5)) := cl_boardOf (Mb := ⟨M, h.1.1⟩) (L := M.2.2.2) hR hM htt
    have e6 : F_X11_positionOf N M 1 (nI i) = some (r (89 + 7 * i + 6)) := cl_positionOf (Mb := ⟨M, h.1.1⟩) (L := M.2.2.2) hR hM htt
    have e7 : F_X11_incomeOf N M 1 (nI i) = some (if r (89 + 7 * i + 5) = -1 then 0 else r 0 + oh r nt i) := cl_incomeOf (Mb := ⟨M, h.1.1⟩) (L := M.2.2.2) hR hM htt (by omega)
    unfold F_L_still_66
    rw [h.2.1.hk, kg_t, h.2.1.g.1.2.2, h.2.1.lt.1, kg_t, al_size h.2.1.lt, Option.bind_some, if_pos ((nI_ltI (by omega) (by omega)).mpr htt), kg_t, kg_t, al_get h.2.1.lt h10 htt, Option.bind_some, kor _ _ (h.2.1.tk htt), kg_t]
    rw [h.1.1.k11, kg_t, e1, ksm rfl, Option.bind_some, t1, kg_t, t3, if_pos rfl, kg_t, e2, ksm rfl, Option.bind_some, kg_t, t4, if_pos rfl, kg_t, e3, ksm rfl, Option.bind_some, kg_t, t5, if_pos rfl, kg_t, e4, ksm rfl, Option.bind_some, kg_t, t6, if_pos rfl, kg_t, e6, ksm rfl, Option.bind_some, kg_t, t7, if_pos rfl, kg_t, e5, ksm rfl, Option.bind_some, kg_t]
    unfold F_L_still_176
    by_cases c : r (89 + 7 * i + 5) = -1
    · have h0 := (h.2.1.off hR htt).mpr c
      rw [if_pos h0, if_pos c, h.1.1.k11, kg_t, e7, ksm rfl, Option.bind_some, t1, kg_t, if_pos h0, if_pos c, if_pos rfl, kl_v, nI_1]
      obtain ⟨M', u1, u2, u3⟩ := lw_66 hN h10 k (i + 1) n M h (by omega) (by omega)
      exact ⟨M', u1, u2, u3.le (by omega)⟩
    · have h0 : ¬ kR M (aT A i) 6 = 0 := fun z => c ((h.2.1.off hR htt).mp z)
      obtain ⟨b, q, hs⟩ := hR.seat htt c
      obtain ⟨gb, f1, f2, f3⟩ := h.2.1.seat hR htt hs
      obtain ⟨k1, M1, u1, g1⟩ := lw_oh h.2.1 hR htt hs (show 100 < N by omega)
      have h1 := h.gr g1
      rw [if_neg h0, kg_t, k1, kg_t, f1, (h.2.1.b b gb).1.2.1, if_pos f3, h.1.1.k11, kg_t, e7, ksm rfl, Option.bind_some, t1, kg_t, if_neg (by rw [← f1]; exact h0), h.2.1.hk, kg_t, kg_t, kg_t, kg_t]
      rw [f1] at u1
      rw [u1, Option.bind_some, if_neg c, h.2.1.g.2.1, if_pos rfl, kl_v, nI_1]
      obtain ⟨M', w1, w2, w3⟩ := lw_66 hN h10 k (i + 1) n M1 h1 (by omega) (by omega)
      exact ⟨M', w1, w2, (g1.trans w3).le (by omega)⟩
theorem lw_still (h : ST M A E r nb nt g) (h10 : nt ≤ 10) (hN : 1000 < N) : ∃ M', F_L_still N M 1 (aH A) = some (1, M') ∧ ST M' A E r nb nt g ∧ Cc M M' 1100 := by
  have hR := h.1.2.1.1
  have hM := h.1.2.2.1
  have h5 := hR.nb5
  obtain ⟨-, g4, g5, g6, g7, g8, g9, g10, g11, g12, g13⟩ := h.2.1.g
  have e1 : F_X11_contradictions N M 1 = some 0 := cl_contra (Mb := ⟨M, h.1.1⟩) (L := M.2.2.2) hR hM h.1.2.1.2 (by omega)
  have e2 : F_X11_day N M 1 = some (r 6) := cl_day (Mb := ⟨M, h.1.1⟩) (L := M.2.2.2) hM
  have e3 : F_X11_bank N M 1 = some (r 5) := cl_bank (Mb := ⟨M, h.1.1⟩) (L := M.2.2.2) hM
  have e4 : F_X11_seatsSold N M 1 = some (r 10) := cl_seatsSold (Mb := ⟨M, h.1.1⟩) (L := M.2.2.2) hM
  have e5 : F_X11_weightSold N M 1 = some (r 11) := cl_weightSold (Mb := ⟨M, h.1.1⟩) (L := M.2.2.2) hM
  have e6 : F_X11_fallCount N M 1 = some (r 12) := cl_fallCount (Mb := ⟨M, h.1.1⟩) (L := M.2.2.2) hM
  obtain ⟨M1, u1, u2, u3⟩ := lw_66 hN h10 nt 0 N M h (by omega) (by omega)
  obtain ⟨M2, w1, w2, w3⟩ := lw_226 hN nb 0 N M1 u2 (by omega) (by omega)
  unfold F_L_still
  rw [h.1.1.k11, kg_t, e1, ksm rfl, Option.bind_some, if_pos rfl, kg_t, e2, ksm rfl, Option.bind_some, h.2.1.hk, kg_t, g10, if_pos rfl, kg_t, e3, ksm rfl, Option.bind_some, kg_t, g9, if_pos rfl, kg_t, e4, ksm rfl, Option.bind_some, kg_t, g11, if_pos rfl, kg_t, e5, ksm rfl, Option.bind_some, kg_t, g12, if_pos rfl, kg_t, e6, ksm rfl, Option.bind_some, kg_t, g13, if_pos rfl]
  rw [show (0 : Int32) = nI 0 from rfl, u1, show (0 : Int32) = nI 0 from rfl, w1]
  exact ⟨M2, rfl, w2, (u3.cc.trans w3.cc).le (by omega)⟩
end
