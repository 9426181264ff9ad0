/-! sale and swap: the law's questions and its exchange of seats -/
section
variable {N : Nat} {M M' M1 M2 : kMem} {a i j k k2 nb nt b s t q b2 q2 : Nat} {A : kA} {E : Nat → Nat → Nat} {e' : Nat → Nat} {r r' : Nat → Int32}
theorem wt_tab : ∀ a, a < 100 → ∀ k, k < 10 → ((nI a - nI k < 1) ↔ ¬ (nI k < nI a)) := by decide +kernel
theorem lw_sale (h : LW M A E r nb nt) (hR : RI r nb nt) (hs : s < nt) (ht : t < nt) {u : Nat} (hu : u < 10) (hN : 100 < N) : ∃ M', F_L_against_ N M (aH A) (aT A s) (aT A t) (nI u) = some (aSale r nt s t (nI u), M') ∧ Gr M M' 21 := by
  have h5 := hR.nb5
  have h24 := hR.nt24
  obtain ⟨⟨s1, s2, s3, s4, s5, s6, s7⟩, -⟩ := h.t s hs
  obtain ⟨⟨t1, t2, t3, t4, t5, t6, t7⟩, -⟩ := h.t t ht
  have g0 : Gr M M 21 := Gr.rf'.le (by omega)
  unfold F_L_against_ aSale
  rw [s1, kg_t]
  by_cases c1 : r (89 + 7 * s + 5) = -1
  · rw [if_pos ((h.off hR hs).mpr c1), if_pos c1]
    exact ⟨M, rfl, g0⟩
  rw [if_neg (fun z => c1 ((h.off hR hs).mp z)), if_neg c1, t1, kg_t]
  by_cases c2 : r (89 + 7 * t + 5) = -1
  · rw [if_pos ((h.off hR ht).mpr c2), if_pos c2]
    exact ⟨M, rfl, g0⟩
  rw [if_neg (fun z => c2 ((h.off hR ht).mp z)), if_neg c2, kg_t, kg_t]
  obtain ⟨b, q, k1⟩ := hR.seat hs c1
  obtain ⟨b2, q2, k2⟩ := hR.seat ht c2
  obtain ⟨gb, e1, e2, e3⟩ := h.seat hR hs k1
  obtain ⟨gb2, f1, f2, f3⟩ := h.seat hR ht k2
  rw [e1, f1, e3, f3]
  by_cases c3 : b = b2
  · subst c3
    rw [if_pos rfl, if_pos rfl, kg_t, s3]
    obtain ⟨⟨w, hw, ew⟩, -⟩ := hR.t s hs
    have wt := wt_tab w (by omega) u hu
    rw [← ew] at wt
    by_cases c4 : nI u < r (89 + 7 * s + 1)
    · rw [if_pos c4, if_neg (fun z => (wt.mp z) c4), kg_t, t3]
      by_cases c5 : 99 < r (89 + 7 * t + 1) + nI u
      · rw [if_pos c5, if_pos c5]
        exact ⟨M, rfl, g0⟩
      · rw [if_neg c5, if_neg c5, kg_t, h.hk, kg_t]
        obtain ⟨M1, u1, g1⟩ := lw_unit h hR hs ht k1 k2 hN
        rw [u1, Option.bind_some, t4]
        by_cases c6 : r (89 + 7 * t + 2) < nI u * uprS r nt s t
        · rw [if_pos c6, if_pos c6]
          exact ⟨M1, rfl, g1.le (by omega)⟩
        · rw [if_neg c6, if_neg c6]
          have h1 := h.gr g1
          obtain ⟨_, e1', _, _⟩ := h1.seat hR hs k1
          obtain ⟨M2, u2, g2⟩ := lw_torque h1 hR gb hN
          have h2 := h1.gr g2
          obtain ⟨⟨x1, x2, x3, x4, x5, x6, x7⟩, -⟩ := h2.t s hs
          obtain ⟨⟨y1, y2, y3, y4, y5, y6, y7⟩, -⟩ := h2.t t ht
          obtain ⟨_, e1'', _, _⟩ := h2.seat hR hs k1
          rw [e1']
          simp only [h1.tk hs, h1.bk gb, kg_t]
          rw [u2, Option.bind_some]
          simp only [x1, y1, kg_t, kl_v, x7, y7, e1'', h2.bk gb, (h2.b b gb).1.2.2.2.2.1]
          have ek : kx (nI b) = b := kx_nI (by omega)
          rw [ek]
          have eq : tqr r nt b - r (89 + 7 * s + 6) * nI u + r (89 + 7 * t + 6) * nI u = tqr r nt b + nI u * (r (89 + 7 * t + 6) - r (89 + 7 * s + 6)) := by grind
          rw [eq]
          unfold tmu
          refine ⟨M2, ?_, (g1.trans g2).le (by omega)⟩
          by_cases c7 : r (14 + 15 * b + 2) < kabs (tqr r nt b + nI u * (r (89 + 7 * t + 6) - r (89 + 7 * s + 6)))
          · rw [if_pos c7, if_pos c7, if_neg (by decide)]
          · rw [if_neg c7, if_neg c7, if_pos rfl]
    · rw [if_neg c4, if_pos (wt.mpr c4)]
      exact ⟨M, rfl, g0⟩
  · have n1 : ¬ aB A b = aB A b2 := fun z => c3 (h.binj h5 gb gb2 z)
    have n2 : ¬ nI b = nI b2 := fun z => c3 ((nI_eq (by omega) (by omega)).mp z)
    rw [if_neg n1, if_neg n2]
    exact ⟨M, rfl, g0⟩
theorem seats_ne (hR : RI r nb nt) (hs : s < nt) (ht : t < nt) (hst : s ≠ t) (k1 : st r nb s b q) (k2 : st r nb t b2 q2) : si b q ≠ si b2 q2 := fun z => by
  have h24 := hR.nt24
  have e1 := k1.2.2.2.2.2
  have e2 := k2.2.2.2.2.2
  rw [z] at e1
  have := (nI_eq (by omega) (by omega)).mp (e1.symm.trans e2)
  omega
theorem st_ri (hR : RI r nb nt) (hs : s < nt) (ht : t < nt) (hst : s ≠ t) (k1 : st r nb s b q) (k2 : st r nb t b2 q2) : st (riR r s b q) nb t b2 q2 := by
  have h5 := hR.nb5
  have hne := seats_ne hR hs ht hst k1 k2
  have l1 := si_lt (show b < 5 by have := k1.1; omega) k1.q13
  have l2 := si_lt (show b2 < 5 by have := k2.1; omega) k2.q13
  have g1 := @si_ge b q
  have u1 := si_le (b := b) k1.q13
  have hb25 : b2 < 5 := by have := k2.1; omega
  exact k2.cg (riR_ne (by omega) (by omega) (by omega)) (riR_ne hne.symm (by omega) (by omega)) (riR_ne (by omega) (by omega) (by omega)) (riR_ne (by omega) (by omega) (by omega))
/-- the row behind an exchange -/
def xcR (r : Nat → Int32) (s t b q b2 q2 : Nat) : Nat → Int32 := siR (siR r s b2 q2) t b q
theorem xc_eq (hb5 : b < 5) (hb25 : b2 < 5) (hq : q < 13) (hq2 : q2 < 13) : siR (siR (riR (riR r s b q) t b2 q2) s b2 q2) t b q = xcR r s t b q b2 q2 := by
  funext k
  unfold xcR siR riR setr
  by_cases c1 : k = 89 + 7 * t + 6
  · simp only [c1, if_true]
  by_cases c2 : k = 89 + 7 * t + 5
  · simp only [c1, c2, if_true, if_false]
  by_cases c3 : k = si b q
  · simp only [c1, c2, c3, if_true, if_false]
  by_cases c4 : k = 89 + 7 * s + 6
  · simp only [c1, c2, c3, c4, if_true, if_false]
  by_cases c5 : k = 89 + 7 * s + 5
  · simp only [c1, c2, c3, c4, c5, if_true, if_false]
  by_cases c6 : k = si b2 q2
  · simp only [c1, c2, c3, c4, c5, c6, if_true, if_false]
  · simp only [c1, c2, c3, c4, c5, c6, if_false]
theorem lw_exch (h : LW M A E r nb nt) (hR : RI r nb nt) (hs : s < nt) (ht : t < nt) (hst : s ≠ t) (k1 : st r nb s b q) (k2 : st r nb t b2 q2) (hN : 100 < N) : ∃ M' E', F_L_exchange N M (aT A s) (aT A t) = some M' ∧ LW M' A E' (xcR r s t b q b2 q2) nb nt ∧ Op M M' 14 := by
  have h5 := hR.nb5
  have h24 := hR.nt24
  obtain ⟨gb, e1, e2, e3⟩ := h.seat hR hs k1
  obtain ⟨gb2, f1, f2, f3⟩ := h.seat hR ht k2
  have hb5 : b < 5 := by omega
  have hb25 : b2 < 5 := by omega
  have hq := k1.q13
  have hq2 := k2.q13
  have hne := seats_ne hR hs ht hst k1 k2
  have l1 := si_lt hb5 hq
  have l2 := si_lt hb25 hq2
  have m1 := @si_ge b q
  have m2 := @si_ge b2 q2
  have n1 := si_le (b := b) hq
  have n2 := si_le (b := b2) hq2
  obtain ⟨M1, E1, u1, v1, o1⟩ := lw_rises h hR hs k1 hN
  have hR1 := RI_ri hR hs k1
  have k2' := st_ri hR hs ht hst k1 k2
  obtain ⟨M2, E2, u2, v2, o2⟩ := lw_rises v1 hR1 ht k2' hN
  have hR2 := RI_ri hR1 ht k2'
  have z1 : riR (riR r s b q) t b2 q2 (si b2 q2) = 0 := riR_s hb25 hq2
  obtain ⟨M3, E3, u3, v3, o3⟩ := lw_sits v2 h5 h24 hR2 hs gb2 hq2 k2.2.1 z1 hN
  have hR3 : RI (siR (riR (riR r s b q) t b2 q2) s b2 q2) nb nt := by
    obtain ⟨-, -, ⟨a, a1, a2, a3, a4⟩, -⟩ := id k2
    refine RI_si hR2 hs ?_ ?_ gb2 (a := a) ?_ a2 a3 a4 k2.2.1 z1
    · rw [riR_ne (by omega) (by omega) (by omega)]
      exact riR_5
    · rw [riR_ne (by omega) (by omega) (by omega), riR_ne (by omega) (by omega) (by omega)]
      exact hR.pres hs k1
    · rw [riR_ne (by omega) (by omega) (by omega), riR_ne (by omega) (by omega) (by omega)]
      exact a1
  have z2 : siR (riR (riR r s b q) t b2 q2) s b2 q2 (si b q) = 0 := by
    rw [siR_ne hne (by omega) (by omega), riR_ne hne (by omega) (by omega)]
    exact riR_s hb5 hq
  obtain ⟨M4, E4, u4, v4, o4⟩ := lw_sits v3 h5 h24 hR3 ht gb hq k1.2.1 z2 hN
  rw [xc_eq hb5 hb25 hq hq2] at v4
  unfold F_L_exchange
  rw [h.tk hs, kg_t, kl_v, kg_t, kl_v, h.tk ht, kg_t, kl_v, kg_t, kl_v, kg_t, e1, e2, f1, f2, u1, Option.bind_some, v1.tk ht, kg_t, u2, Option.bind_some, v2.tk hs, kg_t, u3, Option.bind_some, v3.tk ht, kg_t, u4, Option.bind_some]
  exact ⟨M4, E4, rfl, v4, (((o1.trans o2).trans o3).trans o4).le (by omega)⟩
theorem xc_seats (hR : RI r nb nt) (hs : s < nt) (ht : t < nt) (hst : s ≠ t) (k1 : st r nb s b q) (k2 : st r nb t b2 q2) : st (xcR r s t b q b2 q2) nb s b2 q2 ∧ st (xcR r s t b q b2 q2) nb t b q ∧ RI (xcR r s t b q b2 q2) nb nt ∧ (∀ k, k ≠ si b q → k ≠ si b2 q2 → k ≠ 89 + 7 * s + 5 → k ≠ 89 + 7 * s + 6 → k ≠ 89 + 7 * t + 5 → k ≠ 89 + 7 * t + 6 → xcR r s t b q b2 q2 k = r k) := by
  have h5 := hR.nb5
  have h24 := hR.nt24
  have hb5 : b < 5 := by have := k1.1; omega
  have hb25 : b2 < 5 := by have := k2.1; omega
  have hq := k1.q13
  have hq2 := k2.q13
  have hne := seats_ne hR hs ht hst k1 k2
  have l1 := si_lt hb5 hq
  have l2 := si_lt hb25 hq2
  have m1 := @si_ge b q
  have m2 := @si_ge b2 q2
  have n1 := si_le (b := b) hq
  have n2 := si_le (b := b2) hq2
  have vne : ∀ k, k ≠ si b q → k ≠ si b2 q2 → k ≠ 89 + 7 * s + 5 → k ≠ 89 + 7 * s + 6 → k ≠ 89 + 7 * t + 5 → k ≠ 89 + 7 * t + 6 → xcR r s t b q b2 q2 k = r k := fun k a1 a2 a3 a4 a5 a6 => (siR_ne a1 a5 a6).trans (siR_ne a2 a3 a4)
  have vs : xcR r s t b q b2 q2 (si b2 q2) = nI (s + 1) := (siR_ne hne.symm (by omega) (by omega)).trans (siR_s hb25 hq2)
  have vt : xcR r s t b q b2 q2 (si b q) = nI (t + 1) := siR_s hb5 hq
  have vs5 : xcR r s t b q b2 q2 (89 + 7 * s + 5) = nI b2 := (siR_ne (by omega) (by omega) (by omega)).trans siR_5
  have vs6 : xcR r s t b q b2 q2 (89 + 7 * s + 6) = pz q2 := (siR_ne (by omega) (by omega) (by omega)).trans siR_6
  refine ⟨?_, ?_, RI_2si hR hs ht hst k1 k2, vne⟩
  · obtain ⟨a1, a2, ⟨a, a3, a4⟩, -⟩ := k2
    exact ⟨a1, a2, ⟨a, by rw [vne _ (by omega) (by omega) (by omega) (by omega) (by omega) (by omega)]; exact a3, a4⟩, vs5, vs6, vs⟩
  · obtain ⟨a1, a2, ⟨a, a3, a4⟩, -⟩ := k1
    exact ⟨a1, a2, ⟨a, by rw [vne _ (by omega) (by omega) (by omega) (by omega) (by omega) (by omega)]; exact a3, a4⟩, siR_5, siR_6, vt⟩
theorem xc_back (hR : RI r nb nt) (hs : s < nt) (ht : t < nt) (hst : s ≠ t) (k1 : st r nb s b q) (k2 : st r nb t b2 q2) : xcR (xcR r s t b q b2 q2) s t b2 q2 b q = r := by
  funext k
  obtain ⟨-, -, -, d4, d5, d6⟩ := k1
  obtain ⟨-, -, -, f4, f5, f6⟩ := k2
  unfold xcR siR setr
  by_cases c1 : k = 89 + 7 * t + 6
  · simp only [c1, if_true, f5]
  by_cases c2 : k = 89 + 7 * t + 5
  · simp only [c1, c2, if_true, if_false, f4]
    rw [if_neg (by omega)]
  by_cases c3 : k = si b2 q2
  · have hb := si_le (b := b2) (q := q2)
    simp only [c1, c2, c3, if_true, if_false, f6]
    rw [if_neg (by omega), if_neg (by omega)]
  by_cases c4 : k = 89 + 7 * s + 6
  · simp only [c4, if_true, d5]
    rw [if_neg (by omega), if_neg (by omega), if_neg (by omega)]
  by_cases c5 : k = 89 + 7 * s + 5
  · simp only [c5, if_true, d4]
    rw [if_neg (by omega), if_neg (by omega), if_neg (by omega), if_neg (by omega)]
  by_cases c6 : k = si b q
  · simp only [c6, if_true, d6]
    rw [if_neg (by omega), if_neg (by omega), if_neg (by omega), if_neg (by omega), if_neg (by omega)]
  · simp only [c1, c2, c3, c4, c5, c6, if_false]
theorem sumI_two {f g : Nat → Int32} (hst : s ≠ t) : ∀ {n : Nat}, s < n → t < n → (∀ u, u < n → u ≠ s → u ≠ t → g u = f u) → sumI g n = sumI f n + (g s - f s) + (g t - f t) := by
  intro n hs ht h
  have e1 : ∀ u, u < n → g u = f u + (if u = s then g s - f s else 0) + (if u = t then g t - f t else 0) := by
    intro u hu
    by_cases c1 : u = s
    · subst c1
      rw [if_pos rfl, if_neg hst]
      grind
    · by_cases c2 : u = t
      · subst c2
        rw [if_neg c1, if_pos rfl]
        grind
      · rw [if_neg c1, if_neg c2, h u hu c1 c2]
        grind
  rw [sumI_congr e1, sumI_add (fun u => f u + (if u = s then g s - f s else 0)) (fun u => if u = t then g t - f t else 0), sumI_add f (fun u => if u = s then g s - f s else 0)]
  rw [sumI_one (f := fun u => if u = s then g s - f s else 0) s hs (fun i _ hi => if_neg hi), sumI_one (f := fun u => if u = t then g t - f t else 0) t ht (fun i _ hi => if_neg hi), if_pos rfl, if_pos rfl]
theorem xc_tq (hR : RI r nb nt) (hs : s < nt) (ht : t < nt) (hst : s ≠ t) (k1 : st r nb s b q) (k2 : st r nb t b2 q2) : tqr (xcR r s t b q b2 q2) nt b = tsw r nt s t ∧ tqr (xcR r s t b q b2 q2) nt b2 = tsw r nt t s := by
  have h5 := hR.nb5
  have h24 := hR.nt24
  have hb5 : b < 5 := by have := k1.1; omega
  have hb25 : b2 < 5 := by have := k2.1; omega
  have l1 := si_lt hb5 k1.q13
  have l2 := si_lt hb25 k2.q13
  obtain ⟨w1, w2, -, vne⟩ := xc_seats hR hs ht hst k1 k2
  have d4 := k1.2.2.2.1
  have d5 := k1.2.2.2.2.1
  have f4 := k2.2.2.2.1
  have f5 := k2.2.2.2.2.1
  have c4 := w1.2.2.2.1
  have c5 := w1.2.2.2.2.1
  have g4 := w2.2.2.2.1
  have g5 := w2.2.2.2.2.1
  have ws : xcR r s t b q b2 q2 (89 + 7 * s + 1) = r (89 + 7 * s + 1) := vne _ (by omega) (by omega) (by omega) (by omega) (by omega) (by omega)
  have wt : xcR r s t b q b2 q2 (89 + 7 * t + 1) = r (89 + 7 * t + 1) := vne _ (by omega) (by omega) (by omega) (by omega) (by omega) (by omega)
  have oth : ∀ c u, u < nt → u ≠ s → u ≠ t → tqf (xcR r s t b q b2 q2) c u = tqf r c u := by
    intro c u hu h1 h2
    unfold tqf
    rw [vne (89 + 7 * u + 5) (by omega) (by omega) (by omega) (by omega) (by omega) (by omega), vne (89 + 7 * u + 6) (by omega) (by omega) (by omega) (by omega) (by omega) (by omega), vne (89 + 7 * u + 1) (by omega) (by omega) (by omega) (by omega) (by omega) (by omega)]
  have kb : kx (nI b) = b := kx_nI (by omega)
  have kb2 : kx (nI b2) = b2 := kx_nI (by omega)
  have eqb : ∀ x y, x < 5 → y < 5 → (nI x = nI y) = (x = y) := fun x y hx hy => propext (nI_eq (by omega) (by omega))
  unfold tsw tqr
  rw [sumI_two hst hs ht (oth b), sumI_two hst hs ht (oth b2), d4, f4, kb, kb2]
  unfold tqf
  simp only [c4, c5, g4, g5, ws, wt, d4, d5, f4, f5, eqb _ _ hb5 hb25, eqb _ _ hb25 hb5, if_true]
  by_cases c : b = b2
  · subst c
    simp only [if_true]
    constructor <;> grind
  · have c' : ¬ b2 = b := fun z => c z.symm
    simp only [c, c', if_false]
    constructor <;> grind
theorem lw_swap (h : LW M A E r nb nt) (hR : RI r nb nt) (hs : s < nt) (ht : t < nt) (hst : s ≠ t) (hN : 100 < N) : ∃ M' E', F_L_against__ N M (aT A s) (aT A t) = some (aSwap r nt s t, M') ∧ LW M' A E' r nb nt ∧ Op M M' 56 := by
  have h5 := hR.nb5
  have h24 := hR.nt24
  unfold F_L_against__ aSwap
  rw [h.tk hs, kg_t]
  by_cases c1 : r (89 + 7 * s + 5) = -1
  · rw [if_pos ((h.off hR hs).mpr c1), if_pos c1]
    exact ⟨M, E, rfl, h, Op.rf'.le (by omega)⟩
  rw [if_neg (fun z => c1 ((h.off hR hs).mp z)), if_neg c1, h.tk ht, kg_t]
  by_cases c2 : r (89 + 7 * t + 5) = -1
  · rw [if_pos ((h.off hR ht).mpr c2), if_pos c2]
    exact ⟨M, E, rfl, h, Op.rf'.le (by omega)⟩
  rw [if_neg (fun z => c2 ((h.off hR ht).mp z)), if_neg c2]
  obtain ⟨b, q, k1⟩ := hR.seat hs c1
  obtain ⟨b2, q2, k2⟩ := hR.seat ht c2
  obtain ⟨M1, u1, g1⟩ := lw_more h hR hs ht k1 k2 hN
  rw [u1, Option.bind_some, kl_v]
  have h1 := h.gr g1
  have kb : kx (r (89 + 7 * s + 5)) = b := k1.kxb h5
  have kb2 : kx (r (89 + 7 * t + 5)) = b2 := k2.kxb h5
  rw [kb, kb2]
  obtain ⟨w1, w2, wR, vne⟩ := xc_seats hR hs ht hst k1 k2
  obtain ⟨tq1, tq2⟩ := xc_tq hR hs ht hst k1 k2
  have hb5 : b < 5 := by have := k1.1; omega
  have hb25 : b2 < 5 := by have := k2.1; omega
  have l1 := si_lt hb5 k1.q13
  have l2 := si_lt hb25 k2.q13
  have m1 := @si_ge b q
  have m2 := @si_ge b2 q2
  have n1 := si_le (b := b) k1.q13
  have n2 := si_le (b := b2) k2.q13
  have lim : ∀ c, c < 5 → xcR r s t b q b2 q2 (14 + 15 * c + 2) = r (14 + 15 * c + 2) := fun c hc => vne _ (by omega) (by omega) (by omega) (by omega) (by omega) (by omega)
  have main : ∀ y, y < nt → (y = s ∨ y = t) → ∃ M' E', F_L_against___31 N M1 (aT A s) (aT A t) (oh r nt t - oh r nt s) (aT A y) = some (if r (89 + 7 * y + 2) < kabs (oh r nt t - oh r nt s) then 3 else if tmu r b (tsw r nt s t) = 0 then (if tmu r b2 (tsw r nt t s) = 0 then 0 else 4) else 4, M') ∧ LW M' A E' r nb nt ∧ Op M1 M' 42 := by
    intro y hy hyst
    obtain ⟨⟨y1, y2, y3, y4, -⟩, -⟩ := h1.t y hy
    unfold F_L_against___31
    rw [y1, kg_t, y4]
    by_cases c3 : r (89 + 7 * y + 2) < kabs (oh r nt t - oh r nt s)
    · rw [if_pos c3, if_pos c3]
      exact ⟨M1, E, rfl, h1, Op.rf'.le (by omega)⟩
    rw [if_neg c3, if_neg c3]
    obtain ⟨M2, E2, u2, v2, o2⟩ := lw_exch h1 hR hs ht hst k1 k2 hN
    rw [u2, Option.bind_some]
    obtain ⟨gb2, e1, -, -⟩ := v2.seat wR hs w1
    obtain ⟨M3, u3, g3⟩ := lw_torque v2 wR gb2 hN
    have v3 := v2.gr g3
    obtain ⟨-, e1', -, -⟩ := v3.seat wR hs w1
    rw [v2.tk hs, kg_t, e1, v2.bk gb2, kg_t, u3, Option.bind_some]
    simp only [v3.tk hs, kg_t, e1', v3.bk gb2, (v3.b b2 gb2).1.2.2.2.2.1]
    rw [lim b2 hb25, tq2]
    have back : ∀ {M4 : kMem}, LW M4 A E2 (xcR r s t b q b2 q2) nb nt → ∃ M5 E5, F_L_exchange N M4 (aT A s) (aT A t) = some M5 ∧ LW M5 A E5 r nb nt ∧ Op M4 M5 14 := by
      intro M4 h4
      obtain ⟨M5, E5, x1, x2, x3⟩ := lw_exch h4 wR hs ht hst w1 w2 hN
      rw [xc_back hR hs ht hst k1 k2] at x2
      exact ⟨M5, E5, x1, x2, x3⟩
    by_cases c4 : r (14 + 15 * b2 + 2) < kabs (tsw r nt t s)
    · have t2 : ¬ tmu r b2 (tsw r nt t s) = 0 := by unfold tmu; rw [if_pos c4]; decide
      rw [if_pos c4, if_neg t2]
      unfold F_L_against___88
      obtain ⟨M5, E5, x1, x2, x3⟩ := back v3
      rw [x1, Option.bind_some, if_neg (by decide)]
      refine ⟨M5, E5, ?_, x2, ((o2.trans g3.op).trans x3).le (by omega)⟩
      split <;> rfl
    · have t2 : tmu r b2 (tsw r nt t s) = 0 := by unfold tmu; rw [if_neg c4]
      rw [if_neg c4, if_pos t2]
      obtain ⟨gb, f1, -, -⟩ := v3.seat wR ht w2
      obtain ⟨M4, u4, g4⟩ := lw_torque v3 wR gb hN
      have v4 := v3.gr g4
      obtain ⟨-, f1', -, -⟩ := v4.seat wR ht w2
      rw [v3.tk ht, kg_t, f1, v3.bk gb, kg_t, u4, Option.bind_some]
      simp only [v4.tk ht, kg_t, f1', v4.bk gb, (v4.b b gb).1.2.2.2.2.1]
      rw [lim b hb5, tq1]
      obtain ⟨M5, E5, x1, x2, x3⟩ := back v4
      by_cases c5 : r (14 + 15 * b + 2) < kabs (tsw r nt s t)
      · have t1 : ¬ tmu r b (tsw r nt s t) = 0 := by unfold tmu; rw [if_pos c5]; decide
        rw [if_pos c5, if_neg t1]
        unfold F_L_against___88
        rw [x1, Option.bind_some, if_neg (by decide)]
        exact ⟨M5, E5, rfl, x2, (((o2.trans g3.op).trans g4.op).trans x3).le (by omega)⟩
      · have t1 : tmu r b (tsw r nt s t) = 0 := by unfold tmu; rw [if_neg c5]
        rw [if_neg c5, if_pos t1, x1, Option.bind_some]
        simp only [if_true]
        exact ⟨M5, E5, rfl, x2, (((o2.trans g3.op).trans g4.op).trans x3).le (by omega)⟩
  by_cases c : 0 < oh r nt t - oh r nt s
  · rw [if_pos c]
    obtain ⟨M', E', x1, x2, x3⟩ := main s hs (Or.inl rfl)
    refine ⟨M', E', ?_, x2, (g1.op.trans x3).le (by omega)⟩
    rw [x1, if_pos c]
  · rw [if_neg c]
    obtain ⟨M', E', x1, x2, x3⟩ := main t ht (Or.inr rfl)
    refine ⟨M', E', ?_, x2, (g1.op.trans x3).le (by omega)⟩
    rw [x1, if_neg c]
end
