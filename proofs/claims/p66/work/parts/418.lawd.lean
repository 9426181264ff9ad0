section
variable {N : Nat} {M M' M1 M2 : kMem} {a s i j k k2 nb nt b t q : Nat} {A : kA} {E : Nat → Nat → Nat} {e' : Nat → Nat} {r r' : Nat → Int32}
theorem LW.rc (h : LW M A E r nb nt) (h5 : nb ≤ 5) (h24 : nt ≤ 24) (x y : Int32) : LW M A E (rcR r x y) nb nt := by
  refine h.cg (fun k hk => ?_) (fun b hb w hw => rcR_lo (by omega) (by omega)) (fun b hb q hq _ => ?_) (fun t ht w _ hw => rcR_lo (by omega) (by omega))
  · refine rcR_lo ?_ ?_
    · rintro rfl
      exact absurd hk (by decide)
    · simp only [List.mem_cons, List.not_mem_nil, or_false] at hk
      omega
  · have := si_lt (b := b) (q := q) (by omega) hq
    have := si_ge (b := b) (q := q)
    exact rcR_lo (by omega) (by omega)
theorem LW.off (h : LW M A E r nb nt) (hR : RI r nb nt) (ht : t < nt) : kR M (aT A t) 6 = 0 ↔ r (89 + 7 * t + 5) = -1 := by
  refine ⟨fun z => ?_, (h.t t ht).2.1⟩
  rcases hR.s.1 t ht with e | ⟨b, q, hs⟩
  · exact e.1
  · obtain ⟨g1, g2, -, -⟩ := h.seat hR ht hs
    rw [g2] at z
    have := (kt_le (h.bk g1)).1
    omega
theorem lw_17 (hN : 100 < N) (x1 : Int32) : ∀ (k i n : Nat) (M : kMem) (r : Nat → Int32), RI r nb nt → nt ≤ 10 → LW M A E r nb nt → i + k = nt → k < n → ∃ M', F_L_passes_17 N n M (aH A) x1 (nI i) = F_L_passes_74 N N M' (aH A) x1 0 ∧ LW M' A E (eaL nt k i r) nb nt ∧ Op M M' (7 * k)
  | k, i, 0, _, _, _, _, _, _, h1 => absurd h1 (Nat.not_lt_zero _)
  | 0, i, n + 1, M, r, hR, h10, h, hi, _ => by
    unfold F_L_passes_17
    rw [h.hk, kg_t, h.g.1.2.2, h.lt.1, kg_t, al_size h.lt, Option.bind_some, if_neg (by rw [nI_ltI (by omega) (by omega)]; omega)]
    exact ⟨M, rfl, h, Op.rf'⟩
  | k + 1, i, n + 1, M, r, hR, h10, h, hi, hn => by
    have ht : i < nt := by omega
    unfold F_L_passes_17
    rw [h.hk, kg_t, h.g.1.2.2, h.lt.1, kg_t, al_size h.lt, Option.bind_some, if_pos ((nI_ltI (by omega) (by omega)).mpr ht)]
    rw [kg_t, kg_t, al_get h.lt h10 ht, Option.bind_some, kor _ _ (h.tk ht), kg_t, h.tk ht, kg_t]
    show ∃ M', _ ∧ LW M' A E (eaL nt k (i + 1) (eaS r nt i)) nb nt ∧ _
    by_cases c : r (89 + 7 * i + 5) = -1
    · rw [if_pos ((h.off hR ht).mpr c), kl_v, nI_1, show eaS r nt i = r from if_pos c]
      obtain ⟨M', u1, u2, u3⟩ := lw_17 hN x1 k (i + 1) n M r hR h10 h (by omega) (by omega)
      exact ⟨M', u1, u2, u3.le (by omega)⟩
    · rw [if_neg (fun z => c ((h.off hR ht).mp z)), kg_t, kg_t, Option.bind_some, kor _ _ (h.tk ht), kg_t, kg_t]
      obtain ⟨M1, v1, v2, v3⟩ := lw_earns h hR ht c hN
      rw [v1, Option.bind_some, kl_v, nI_1]
      obtain ⟨M', u1, u2, u3⟩ := lw_17 hN x1 k (i + 1) n M1 _ (RI_eaS hR ht) h10 v2 (by omega) (by omega)
      exact ⟨M', u1, u2, (v3.trans u3).le (by omega)⟩
theorem lw_74 (hN : 100 < N) (x1 : Int32) : ∀ (k i n : Nat) (M : kMem) (r : Nat → Int32) (E : Nat → Nat → Nat), RI r nb nt → nt ≤ 10 → LW M A E r nb nt → i + k = nt → k < n → ∃ M' E', F_L_passes_74 N n M (aH A) x1 (nI i) = F_L_passes_155 N N M' (aH A) x1 0 ∧ LW M' A E' (agL k i r) nb nt ∧ Op M M' 0
  | k, i, 0, _, _, _, _, _, _, _, h1 => absurd h1 (Nat.not_lt_zero _)
  | 0, i, n + 1, M, r, E, hR, h10, h, hi, _ => by
    unfold F_L_passes_74
    rw [h.hk, kg_t, h.g.1.2.2, h.lt.1, kg_t, al_size h.lt, Option.bind_some, if_neg (by rw [nI_ltI (by omega) (by omega)]; omega)]
    exact ⟨M, E, rfl, h, Op.rf'⟩
  | k + 1, i, n + 1, M, r, E, hR, h10, h, hi, hn => by
    have ht : i < nt := by omega
    have h5 := hR.nb5
    have h24 := hR.nt24
    obtain ⟨⟨t1, t2, t3, t4, t5, t6, t7⟩, t8, t9⟩ := h.t i ht
    unfold F_L_passes_74
    rw [h.hk, kg_t, h.g.1.2.2, h.lt.1, kg_t, al_size h.lt, Option.bind_some, if_pos ((nI_ltI (by omega) (by omega)).mpr ht)]
    rw [kg_t, kg_t, al_get h.lt h10 ht, Option.bind_some, kor _ _ (h.tk ht), kg_t, t1, kg_t, t6]
    show ∃ M' E', _ ∧ LW M' A E' (agL k (i + 1) (agS r i)) nb nt ∧ _
    unfold agS
    by_cases c : r (89 + 7 * i + 4) = 0
    · rw [if_pos c, if_pos c, kl_v, nI_1]
      exact lw_74 hN x1 k (i + 1) n M r E hR h10 h (by omega) (by omega)
    · rw [if_neg c, if_neg c, kg_t, kg_t, kl_v, t5]
      have h1 := h.setT h24 h5 ht (j := 3) (w := 3) (Or.inr (Or.inr (Or.inl ⟨rfl, rfl⟩))) (r (89 + 7 * i + 3) + 1)
      have hR1 := RI_age hR (t := i) (r (89 + 7 * i + 3) + 1)
      have op1 : Op M (ksI M (aT A i) 3 (r (89 + 7 * i + 3) + 1)) 0 := Op.sI t1 (by decide)
      have k1 : kt (ksI M (aT A i) 3 (r (89 + 7 * i + 3) + 1)) (aH A) 30 = true := h.hk
      have kr : kI (ksI M (aT A i) 3 (r (89 + 7 * i + 3) + 1)) (aH A) 5 = r 3 := by
        rw [h1.g.2.2.2.2.1]
        exact setr_ne (by omega)
      rw [k1, kg_t, kr]
      by_cases c2 : r 3 < r (89 + 7 * i + 3) + 1
      · rw [if_pos c2, if_pos c2, show kt (ksI M (aT A i) 3 (r (89 + 7 * i + 3) + 1)) (aT A i) 32 = true from t1, kg_t]
        obtain ⟨M2, E2, v1, v2, v3⟩ := lw_risesS h1 hR1 ht hN
        rw [v1, Option.bind_some, v2.tk ht, kg_t, v2.hk, kg_t]
        obtain ⟨⟨-, -, -, w4, -, -, -⟩, -⟩ := v2.t i ht
        obtain ⟨M3, x1', x2, x3⟩ := lw_pays (N := N) v2 h24 h5 ht (kI M2 (aT A i) 2)
        rw [x1', Option.bind_some, x2.tk ht]
        show ∃ M' E', (kg true <| kl (ksI M3 (aT A i) 5 0) fun M22 => kl (nI i + 1) fun v23 => F_L_passes_74 N n M22 (aH A) x1 v23) = _ ∧ _
        rw [kg_t, kl_v, kl_v, nI_1]
        have h4 := (x2.setT h24 h5 ht (j := 5) (w := 4) (Or.inr (Or.inr (Or.inr ⟨rfl, rfl⟩))) 0).rc h5 h24 2 (nI i)
        have hp : ¬ setr r (89 + 7 * i + 3) (r (89 + 7 * i + 3) + 1) (89 + 7 * i + 4) = 0 := by
          rw [setr_ne (by omega)]
          exact c
        rw [w4] at h4
        have hR4 := RI_rt hR1 ht hp
        obtain ⟨M', E', u1, u2, u3⟩ := lw_74 hN x1 k (i + 1) n _ _ E2 hR4 h10 h4 (by omega) (by omega)
        exact ⟨M', E', u1, u2, (((op1.trans v3).trans x3).trans ((Op.sI (j := 5) (v := 0) (x2.tk ht) (by decide)).trans u3)).le (by omega)⟩
      · rw [if_neg c2, if_neg c2, kl_v, nI_1]
        obtain ⟨M', E', u1, u2, u3⟩ := lw_74 hN x1 k (i + 1) n _ _ E hR1 h10 h1 (by omega) (by omega)
        exact ⟨M', E', u1, u2, (op1.trans u3).le (by omega)⟩
theorem far_hi {u e : Nat} (he : r (si b (6 + e)) = nI (u + 1)) (hu : u < 24) (h1 : 1 ≤ e) : ∀ d, e ≤ d → (∀ e', e < e' → e' ≤ d → r (si b (6 + e')) = 0) → far r b true d = u
  | 0, h2, _ => by omega
  | d + 1, h2, h3 => by
    unfold far
    rw [if_pos rfl]
    by_cases z : e = d + 1
    · subst z
      rw [he, if_neg (nI_ne0 (by omega) (by omega)), kx_nI (by omega)]
      rfl
    · rw [if_pos (h3 (d + 1) (by omega) (by omega))]
      exact far_hi he hu h1 d (by omega) (fun e' x1 x2 => h3 e' x1 (by omega))
theorem far_lo {u e : Nat} (he : r (si b (6 - e)) = nI (u + 1)) (hu : u < 24) (h1 : 1 ≤ e) : ∀ d, e ≤ d → (∀ e', e < e' → e' ≤ d → r (si b (6 - e')) = 0) → far r b false d = u
  | 0, h2, _ => by omega
  | d + 1, h2, h3 => by
    unfold far
    have hf : ¬ (false = true) := by decide
    rw [if_neg hf]
    by_cases z : e = d + 1
    · subst z
      rw [he, if_neg (nI_ne0 (by omega) (by omega)), kx_nI (by omega)]
      rfl
    · rw [if_pos (h3 (d + 1) (by omega) (by omega))]
      exact far_lo he hu h1 d (by omega) (fun e' x1 x2 => h3 e' x1 (by omega))
theorem LW.farE (h : LW M A E r nb nt) (hR : RI r nb nt) (hb : b < nb) (hq : ¬ tqr r nt b = 0) : (∃ q, E b q ≠ 0) ∧ (∀ s, E b s ≠ 0 → (0 < tqr r nt b → ∀ p, E b p ≠ 0 → p ≤ s) → (¬ 0 < tqr r nt b → ∀ p, E b p ≠ 0 → s ≤ p) → fa r nt b < nt ∧ kR M (E b s) 1 = aT A (fa r nt b) ∧ st r nb (fa r nt b) b s) := by
  have h24 := hR.nt24
  obtain ⟨d, h1, h2, h3⟩ := heavy hR hb hq
  obtain ⟨a, s', l, ⟨ha1, ha6⟩, -, -, ha, -, -⟩ := hR.b b hb
  rw [ha, kx_nI (by omega)] at h2
  have hq0 : (if decide (0 < tqr r nt b) then 6 + d else 6 - d) < 13 ∧ (if decide (0 < tqr r nt b) then 6 + d else 6 - d) ≠ 6 := by split <;> omega
  have e0 : E b (if decide (0 < tqr r nt b) then 6 + d else 6 - d) ≠ 0 := fun z => h3 ((h.e0 hR hb hq0.1 hq0.2).mp z)
  refine ⟨⟨_, e0⟩, fun s hs m1 m2 => ?_⟩
  obtain ⟨s13, s6, u, hu, eu, su, vu⟩ := h.ent hR hb hs
  have hrng : 6 - a ≤ s ∧ s ≤ 6 + a := by
    obtain ⟨-, -, ⟨a2, g1, g2, g3, g4⟩, -⟩ := su
    have : a2 = a := (nI_eq (by omega) (by omega)).mp (g1.symm.trans ha)
    omega
  have efa : fa r nt b = u := by
    unfold fa
    rw [ha, kx_nI (by omega)]
    by_cases c : 0 < tqr r nt b
    · rw [decide_eq_true c]
      rw [decide_eq_true c, if_pos rfl] at e0
      have hge := m1 c _ e0
      have es : 6 + (s - 6) = s := by omega
      refine far_hi (e := s - 6) (by rw [es]; exact eu) (by omega) (by omega) a (by omega) (fun e' x1 x2 => ?_)
      refine (h.e0 hR hb (by omega) (by omega)).mp (Decidable.byContradiction fun z => ?_)
      have := m1 c _ z
      omega
    · rw [decide_eq_false c]
      rw [decide_eq_false c, if_neg (by decide)] at e0
      have hge := m2 c _ e0
      have es : 6 - (6 - s) = s := by omega
      refine far_lo (e := 6 - s) (by rw [es]; exact eu) (by omega) (by omega) a (by omega) (fun e' x1 x2 => ?_)
      refine (h.e0 hR hb (by omega) (by omega)).mp (Decidable.byContradiction fun z => ?_)
      have := m2 c _ z
      omega
  rw [efa]
  exact ⟨hu, vu, su⟩
/-- the falls from one board, and how the day goes on -/
theorem lw_182 (hN : 100 < N) (x1 : Int32) (k155 : kMem → Nat → Int32 → Int32 → Option (Int32 × kMem)) (hb : b < nb) : ∀ (d n : Nat) (M : kMem) (r : Nat → Int32) (E : Nat → Nat → Nat), RI r nb nt → LW M A E r nb nt → occ r b ≤ d → d < n → ∃ M' E', F_L_passes_182 N k155 n M (aH A) x1 (nI b) (aB A b) = k155 M' (aH A) x1 (nI b + 1) ∧ LW M' A E' (tpL nt b d r) nb nt ∧ RI (tpL nt b d r) nb nt ∧ Op M M' (17 * d + 7) := by
  intro d
  induction d with
  | zero =>
    intro n M r E hR h ho hn
    obtain ⟨n', rfl⟩ : ∃ n', n = n' + 1 := ⟨n - 1, by omega⟩
    have h0 := occ_0 hR hb (by omega)
    obtain ⟨M1, u1, g1⟩ := lw_torque h hR hb hN
    have h1 := h.gr g1
    unfold F_L_passes_182
    rw [h.bk hb, kg_t, u1, Option.bind_some]
    simp only [h1.bk hb, kg_t, (h1.b b hb).1.2.2.2.2.1]
    have hc : ¬ r (14 + 15 * b + 2) < kabs (tqr r nt b) := by
      intro z
      unfold tmu at h0
      rw [if_pos z] at h0
      exact absurd h0 (by decide)
    rw [if_neg hc, kl_v]
    exact ⟨M1, E, rfl, h1, hR, g1.op.le (by omega)⟩
  | succ d ih =>
    intro n M r E hR h ho hn
    obtain ⟨n', rfl⟩ : ∃ n', n = n' + 1 := ⟨n - 1, by omega⟩
    have h5 := hR.nb5
    have h24 := hR.nt24
    obtain ⟨M1, u1, g1⟩ := lw_torque h hR hb hN
    have h1 := h.gr g1
    unfold F_L_passes_182
    rw [h.bk hb, kg_t, u1, Option.bind_some]
    simp only [h1.bk hb, kg_t, (h1.b b hb).1.2.2.2.2.1]
    show ∃ M' E', _ ∧ LW M' A E' (if tmu r b (tqr r nt b) = 0 then r else tpL nt b d (tpS r (fa r nt b))) nb nt ∧ RI (if tmu r b (tqr r nt b) = 0 then r else tpL nt b d (tpS r (fa r nt b))) nb nt ∧ _
    by_cases hc : r (14 + 15 * b + 2) < kabs (tqr r nt b)
    · have hm : ¬ tmu r b (tqr r nt b) = 0 := by unfold tmu; rw [if_pos hc]; decide
      have hq : ¬ tqr r nt b = 0 := fun z => hm (by rw [z]; exact tmu_0 hR hb)
      rw [if_pos hc, if_neg hm]
      obtain ⟨M2, u2, g2⟩ := lw_torque h1 hR hb hN
      have h2 := h1.gr g2
      rw [u2, Option.bind_some]
      obtain ⟨⟨q0, hq0⟩, hfar⟩ := h2.farE hR hb hq
      have etm := (h2.b b hb).1.2.2.2.2.2
      have tmk := (h2.tm hb).k
      -- the rest behind the entry
      have rest : ∀ (M3 : kMem) (s : Nat), Gr M2 M3 3 → fa r nt b < nt → st r nb (fa r nt b) b s → ∃ M' E', F_L_passes_236 N k155 (fun M a0 x1 x2 a3 => F_L_passes_182 N k155 n' M a0 x1 x2 a3) M3 (aH A) x1 (nI b) (aB A b) (aT A (fa r nt b)) = k155 M' (aH A) x1 (nI b + 1) ∧ LW M' A E' (tpL nt b d (tpS r (fa r nt b))) nb nt ∧ RI (tpL nt b d (tpS r (fa r nt b))) nb nt ∧ Op M3 M' (17 * d + 7) := by
        intro M3 s g3 hu hs
        have h3 := h2.gr g3
        unfold F_L_passes_236
        obtain ⟨M4, E4, v1, v2, v3⟩ := lw_risesS h3 hR hu hN
        rw [h3.tk hu, kg_t, v1, Option.bind_some, v2.hk, kg_t, kg_t]
        obtain ⟨M5, w1, w2, w3⟩ := lw_pays (N := N) v2 h24 h5 hu (kI M4 (aH A) 6)
        rw [w1, Option.bind_some, w2.hk, kg_t, kg_t, kl_v, w2.g.2.2.2.2.2.2.2.2.2.2]
        have e4 : kI M4 (aH A) 6 = riS r (fa r nt b) 4 := v2.g.2.2.2.2.2.1
        rw [e4] at w2 ⊢
        have e12 : mvR (riS r (fa r nt b)) (89 + 7 * fa r nt b + 2) 5 (riS r (fa r nt b) 4) 12 = r 12 := by
          rw [mvR_ne (by omega) (by omega), riS_lo (by omega)]
        rw [e12]
        have h6 := w2.setH h5 (j := 11) (w := 12) (by omega) (r 12 + 1)
        have h7 : LW (ksI M5 (aH A) 11 (r 12 + 1)) A E4 (tpS r (fa r nt b)) nb nt := by
          refine (h6.rc h5 h24 1 (nI (fa r nt b))).cg (fun k hk => ?_) (fun c hc w hw => ?_) (fun c hc p hp _ => ?_) (fun u hu w _ hw => ?_)
          · unfold tpS tp0
            have k13 : k ≠ 13 ∧ k < 257 := by
              simp only [List.mem_cons, List.not_mem_nil, or_false] at hk
              omega
            rw [rcR_lo k13.1 k13.2]
            by_cases z : k = 12
            · rw [z, setr_eq, setr_eq]
            · rw [setr_ne z, setr_ne z, rcR_lo k13.1 k13.2]
          · unfold tpS tp0
            rw [rcR_lo (by omega) (by omega), setr_ne (by omega), setr_ne (by omega), rcR_lo (by omega) (by omega)]
          · have := si_lt (b := c) (q := p) (by omega) hp
            have := si_ge (b := c) (q := p)
            unfold tpS tp0
            rw [rcR_lo (by omega) (by omega), setr_ne (by omega), setr_ne (by omega), rcR_lo (by omega) (by omega)]
          · unfold tpS tp0
            rw [rcR_lo (by omega) (by omega), setr_ne (by omega), setr_ne (by omega), rcR_lo (by omega) (by omega)]
        have hR7 := RI_tpS hR hu hs
        have ho7 := occ_tpS hR hu hs
        obtain ⟨M', E', x1', x2, x3, x4⟩ := ih n' _ _ E4 hR7 h7 (by omega) (by omega)
        exact ⟨M', E', x1', x2, x3, ((v3.trans w3).trans ((Op.sI (j := 11) (v := r 12 + 1) w2.hk (by decide)).trans x4)).le (by omega)⟩
      by_cases c : 0 < tqr r nt b
      · rw [if_pos c]
        obtain ⟨M3, w, s, y1, y2, y3, y4, y5, y6⟩ := tm_last (h2.tm hb) hN hq0
        obtain ⟨hu, hv, hs⟩ := hfar s y5 (fun _ => y6) (fun z => absurd c z)
        simp only [h2.bk hb, kg_t, etm, tmk]
        rw [y1, Option.bind_some]
        unfold F_SE_getValue
        have h3 := h2.gr y4
        rw [y3, hv]
        simp only [y2, kg_t, Option.bind_some, h3.tk hu, Bool.or_true]
        obtain ⟨M', E', z1, z2, z3, z4⟩ := rest M3 s y4 hu hs
        exact ⟨M', E', z1, z2, z3, (((g1.trans g2).trans y4).op.trans z4).le (by omega)⟩
      · rw [if_neg c]
        obtain ⟨M3, w, s, y1, y2, y3, y4, y5, y6⟩ := tm_first (h2.tm hb) hN hq0
        obtain ⟨hu, hv, hs⟩ := hfar s y5 (fun z => absurd z c) (fun _ => y6)
        simp only [h2.bk hb, kg_t, etm, tmk]
        rw [y1, Option.bind_some]
        unfold F_SE_getValue
        have h3 := h2.gr y4
        rw [y3, hv]
        simp only [y2, kg_t, Option.bind_some, h3.tk hu, Bool.or_true]
        obtain ⟨M', E', z1, z2, z3, z4⟩ := rest M3 s y4 hu hs
        exact ⟨M', E', z1, z2, z3, (((g1.trans g2).trans y4).op.trans z4).le (by omega)⟩
    · have hm : tmu r b (tqr r nt b) = 0 := by unfold tmu; rw [if_neg hc]
      rw [if_neg hc, kl_v, if_pos hm]
      exact ⟨M1, E, rfl, h1, hR, g1.op.le (by omega)⟩
theorem lw_155 (hN : 100 < N) (x1 : Int32) : ∀ (k i n : Nat) (M : kMem) (r : Nat → Int32) (E : Nat → Nat → Nat), RI r nb nt → LW M A E r nb nt → i + k = nb → k < n → ∃ M' E', F_L_passes_155 N n M (aH A) x1 (nI i) = some (tbL nt k i r 12 - x1, M') ∧ LW M' A E' (tbL nt k i r) nb nt ∧ Op M M' (211 * k)
  | k, i, 0, _, _, _, _, _, _, h1 => absurd h1 (Nat.not_lt_zero _)
  | 0, i, n + 1, M, r, E, hR, h, hi, _ => by
    have h5 := hR.nb5
    unfold F_L_passes_155
    rw [h.hk, kg_t, h.g.1.2.1, h.lb.1, kg_t, al_size h.lb, Option.bind_some, if_neg (by rw [nI_ltI (by omega) (by omega)]; omega), kg_t, h.g.2.2.2.2.2.2.2.2.2.2]
    exact ⟨M, E, rfl, h, Op.rf'⟩
  | k + 1, i, n + 1, M, r, E, hR, h, hi, hn => by
    have h5 := hR.nb5
    have hb : i < nb := by omega
    unfold F_L_passes_155
    rw [h.hk, kg_t, h.g.1.2.1, h.lb.1, kg_t, al_size h.lb, Option.bind_some, if_pos ((nI_ltI (by omega) (by omega)).mpr hb), kg_t, kg_t, al_get h.lb (by omega) hb, Option.bind_some, kor _ _ (h.bk hb), kg_t]
    obtain ⟨M1, E1, u1, u2, u3, u4⟩ := lw_182 hN x1 (fun M a0 x1 x2 => F_L_passes_155 N n M a0 x1 x2) hb 12 N M r E hR h occ_12 (by omega)
    rw [u1, nI_1]
    obtain ⟨M', E', v1, v2, v3⟩ := lw_155 hN x1 k (i + 1) n M1 _ E1 u3 u2 (by omega) (by omega)
    exact ⟨M', E', v1, v2, (u4.trans v3).le (by omega)⟩
theorem lw_passes (h : LW M A E r nb nt) (hR : RI r nb nt) (h10 : nt ≤ 10) (hN : 100 < N) : ∃ M' E', F_L_passes N M (aH A) = some (dyR nb nt r 12 - r 12, M') ∧ LW M' A E' (dyR nb nt r) nb nt ∧ Op M M' 1300 := by
  have h5 := hR.nb5
  unfold F_L_passes
  rw [h.hk, kg_t, kg_t, kl_v, h.g.2.2.2.2.2.2.2.1]
  have h1 := h.setH h5 (j := 8) (w := 6) (by omega) (r 6 + 1)
  have hR1 := RI_6 hR (r 6 + 1)
  rw [h1.hk, kg_t, kl_v, h1.g.2.2.2.2.2.2.2.2.2.2, setr_ne (by omega)]
  obtain ⟨M2, u1, u2, u3⟩ := lw_17 hN (r 12) nt 0 N _ _ hR1 h10 h1 (by omega) (by omega)
  have hR2 := RI_eaL nt 0 _ hR1 (by omega)
  obtain ⟨M3, E3, v1, v2, v3⟩ := lw_74 hN (r 12) nt 0 N _ _ E hR2 h10 u2 (by omega) (by omega)
  have hR3 := RI_agL nt 0 _ hR2 (by omega)
  obtain ⟨M4, E4, w1, w2, w3⟩ := lw_155 hN (r 12) nb 0 N _ _ E3 hR3 v2 (by omega) (by omega)
  rw [show (0 : Int32) = nI 0 from rfl, u1, show (0 : Int32) = nI 0 from rfl, v1, show (0 : Int32) = nI 0 from rfl, w1]
  exact ⟨M4, E4, rfl, w2, ((((Op.sI (j := 8) (v := r 6 + 1) h.hk (by decide)).trans u3).trans v3).trans w3).le (by omega)⟩
end
