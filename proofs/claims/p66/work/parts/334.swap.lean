variable {Mb : SMem}
section
variable {N : Nat} {I : kInts} {L : kLngs} {r f : Nat → Int32} {nb nt m : Nat}
theorem RI_2si (h : RI r nb nt) {s t b q b2 q2 : Nat} (hs : s < nt) (ht : t < nt) (hst : s ≠ t) (k1 : st r nb s b q) (k2 : st r nb t b2 q2) : RI (siR (siR r s b2 q2) t b q) nb nt := by
  have h5 := h.nb5
  have h24 := h.nt24
  have hb := k1.1
  have hb2 := k2.1
  have hq := k1.q13
  have hq2 := k2.q13
  have l1 := si_lt (show b < 5 by omega) hq
  have l2 := si_lt (show b2 < 5 by omega) hq2
  have g1 := @si_ge b q
  have g2 := @si_ge b2 q2
  have u1 := si_le (b := b) hq
  have u2 := si_le (b := b2) hq2
  have hne : si b q ≠ si b2 q2 := fun z => by
    have e1 := k1.2.2.2.2.2
    have e2 := k2.2.2.2.2.2
    rw [z] at e1
    have := (nI_eq (by omega) (by omega)).mp (e1.symm.trans e2)
    omega
  have vne : ∀ k, k ≠ si b q → k ≠ si b2 q2 → k ≠ 89 + 7 * s + 5 → k ≠ 89 + 7 * s + 6 → k ≠ 89 + 7 * t + 5 → k ≠ 89 + 7 * t + 6 → siR (siR r s b2 q2) t b q k = r k := fun k a1 a2 a3 a4 a5 a6 => (siR_ne a1 a5 a6).trans (siR_ne a2 a3 a4)
  have vs : siR (siR r s b2 q2) t b q (si b2 q2) = nI (s + 1) := (siR_ne hne.symm (by omega) (by omega)).trans (siR_s (by omega) hq2)
  have vt : siR (siR r s b2 q2) t b q (si b q) = nI (t + 1) := siR_s (by omega) hq
  have vs5 : siR (siR r s b2 q2) t b q (89 + 7 * s + 5) = nI b2 := (siR_ne (by omega) (by omega) (by omega)).trans siR_5
  have vs6 : siR (siR r s b2 q2) t b q (89 + 7 * s + 6) = pz q2 := (siR_ne (by omega) (by omega) (by omega)).trans siR_6
  have varm : ∀ c, c < nb → siR (siR r s b2 q2) t b q (14 + 15 * c + 0) = r (14 + 15 * c + 0) := fun c hc => vne _ (by omega) (by omega) (by omega) (by omega) (by omega) (by omega)
  have n1 : st (siR (siR r s b2 q2) t b q) nb s b2 q2 := by
    obtain ⟨a1, a2, ⟨a, a3, a4⟩, a5, a6, a7⟩ := k2
    exact ⟨a1, a2, ⟨a, (varm b2 a1).trans a3, a4⟩, vs5, vs6, vs⟩
  have n2 : st (siR (siR r s b2 q2) t b q) nb t b q := by
    obtain ⟨a1, a2, ⟨a, a3, a4⟩, a5, a6, a7⟩ := k1
    exact ⟨a1, a2, ⟨a, (varm b a1).trans a3, a4⟩, siR_5, siR_6, vt⟩
  have hseat : ∀ u c p, u < nt → u ≠ s → u ≠ t → st r nb u c p → st (siR (siR r s b2 q2) t b q) nb u c p := by
    intro u c p hu hus hut h1
    have hc := h1.1
    have hp := h1.q13
    have l9 := si_lt (show c < 5 by omega) hp
    have d1 : si c p ≠ si b q := fun z => by
      obtain ⟨rfl, rfl⟩ := (si_inj hp h1.2.1 hq k1.2.1).mp z
      exact hus (st.own (by omega) (by omega) h1 k1)
    have d2 : si c p ≠ si b2 q2 := fun z => by
      obtain ⟨rfl, rfl⟩ := (si_inj hp h1.2.1 hq2 k2.2.1).mp z
      exact hut (st.own (by omega) (by omega) h1 k2)
    exact h1.cg (varm c hc) (vne _ d1 d2 (by omega) (by omega) (by omega) (by omega)) (vne _ (by omega) (by omega) (by omega) (by omega) (by omega) (by omega)) (vne _ (by omega) (by omega) (by omega) (by omega) (by omega) (by omega))
  refine ⟨h.g.cg (fun k hk => ?_), h.b.cg (fun c hc w hw => vne _ (by omega) (by omega) (by omega) (by omega) (by omega) (by omega)), fun u hu => ?_, ⟨fun u hu => ?_, fun c hc p hp h6 => ?_⟩, h.c.cg (vne _ (by omega) (by omega) (by omega) (by omega) (by omega) (by omega)) (fun u hu => vne _ (by omega) (by omega) (by omega) (by omega) (by omega) (by omega))⟩
  · simp only [List.mem_cons, List.not_mem_nil, or_false] at hk
    exact vne _ (by omega) (by omega) (by omega) (by omega) (by omega) (by omega)
  · rw [vne (89 + 7 * u + 1) (by omega) (by omega) (by omega) (by omega) (by omega) (by omega), vne (89 + 7 * u + 4) (by omega) (by omega) (by omega) (by omega) (by omega) (by omega), vne (89 + 7 * u + 2) (by omega) (by omega) (by omega) (by omega) (by omega) (by omega)]
    refine ⟨(h.t u hu).1, ?_⟩
    by_cases e1 : u = s
    · subst e1; exact Or.inl (h.pres hs k1)
    by_cases e2 : u = t
    · subst e2; exact Or.inl (h.pres ht k2)
    rw [vne (89 + 7 * u + 5) (by omega) (by omega) (by omega) (by omega) (by omega) (by omega)]
    exact (h.t u hu).2
  · by_cases e1 : u = s
    · subst e1; exact Or.inr ⟨b2, q2, n1⟩
    by_cases e2 : u = t
    · subst e2; exact Or.inr ⟨b, q, n2⟩
    rw [vne (89 + 7 * u + 5) (by omega) (by omega) (by omega) (by omega) (by omega) (by omega), vne (89 + 7 * u + 6) (by omega) (by omega) (by omega) (by omega) (by omega) (by omega)]
    exact (h.s.1 u hu).imp id (fun ⟨c, p, h1⟩ => ⟨c, p, hseat u c p hu e1 e2 h1⟩)
  · by_cases e1 : si c p = si b2 q2
    · obtain ⟨rfl, rfl⟩ := (si_inj hp h6 hq2 k2.2.1).mp e1
      exact Or.inr ⟨s, hs, vs, n1⟩
    by_cases e2 : si c p = si b q
    · obtain ⟨rfl, rfl⟩ := (si_inj hp h6 hq k1.2.1).mp e2
      exact Or.inr ⟨t, ht, vt, n2⟩
    have l9 := si_lt (show c < 5 by omega) hp
    rw [vne (si c p) e2 e1 (by omega) (by omega) (by omega) (by omega)]
    refine (h.s.2 c hc p hp h6).imp id (fun ⟨u, hu, e3, h1⟩ => ⟨u, hu, e3, hseat u c p hu (fun z => ?_) (fun z => ?_) h1⟩)
    · subst z
      obtain ⟨rfl, rfl⟩ := st.uniq h5 h1 k1
      exact e2 rfl
    · subst z
      obtain ⟨rfl, rfl⟩ := st.uniq h5 h1 k2
      exact e1 rfl
theorem aSwap_0 {s t : Nat} (h : aSwap r nt s t = 0) : ¬ r (89 + 7 * s + 5) = -1 ∧ ¬ r (89 + 7 * t + 5) = -1 ∧ ¬ r (89 + 7 * (if 0 < oh r nt t - oh r nt s then s else t) + 2) < kabs (oh r nt t - oh r nt s) := by
  unfold aSwap at h
  by_cases c1 : r (89 + 7 * s + 5) = -1
  · rw [if_pos c1] at h; exact absurd h (by decide)
  rw [if_neg c1] at h
  by_cases c2 : r (89 + 7 * t + 5) = -1
  · rw [if_pos c2] at h; exact absurd h (by decide)
  rw [if_neg c2] at h
  by_cases c3 : r (89 + 7 * (if 0 < oh r nt t - oh r nt s then s else t) + 2) < kabs (oh r nt t - oh r nt s)
  · rw [if_pos c3] at h; exact absurd h (by decide)
  exact ⟨c1, c2, c3⟩
theorem rise (h : RI r nb nt) {s t b q b2 q2 : Nat} (k1 : st r nb s b q) (k2 : st r nb t b2 q2) : (0 < oh r nt t - oh r nt s → nn (oh r nt t - oh r nt s) ∧ kabs (oh r nt t - oh r nt s) = oh r nt t - oh r nt s) ∧ (¬ 0 < oh r nt t - oh r nt s → nn (-(oh r nt t - oh r nt s)) ∧ kabs (oh r nt t - oh r nt s) = -(oh r nt t - oh r nt s)) := by
  obtain ⟨j, hj, e2⟩ := oh_rng (nt := nt) k1 h.nb5
  obtain ⟨i, hi, e3⟩ := oh_rng (nt := nt) k2 h.nb5
  have e : oh r nt t - oh r nt s = nI i - nI j := by rw [e2, e3]; grind
  rw [e]
  by_cases c : j < i
  · rw [pk_sub (by omega)]
    refine ⟨fun _ => ⟨nn_nI (by omega), if_pos (nI_pos' (by omega))⟩, fun z => absurd (nI_lt (a := 0) (by omega) (by omega)) z⟩
  · have e4 : nI i - nI j = -nI (j - i) := by rw [← pk_sub (a := j) (b := i) (by omega)]; grind
    rw [e4]
    have e5 : - -nI (j - i) = nI (j - i) := by grind
    rw [e5]
    have e6 : ¬ 0 < -nI (j - i) := by
      intro z
      rw [Int32.lt_iff_toInt_lt, sb_negT (by omega)] at z
      have : (0 : Int32).toInt = 0 := rfl
      omega
    refine ⟨fun z => absurd z e6, fun _ => ⟨nn_nI (by omega), ?_⟩⟩
    unfold kabs
    split
    · next z =>
      have e7 : -nI (j - i) = 0 := by grind
      rw [e7]
      grind
    · grind
theorem RI_swM (h : RI r nb nt) {s t b q b2 q2 : Nat} (hs : s < nt) (ht : t < nt) (hst : s ≠ t) (k1 : st r nb s b q) (k2 : st r nb t b2 q2) : RI (swM r nt s t) nb nt := by
  have hr := rise h k1 k2
  unfold swM
  split
  · next c => exact RI_mv h (cp_t h hs k1) (cp_t h ht k2) (by omega) (hr.1 c).1
  · next c => exact RI_mv h (cp_t h ht k2) (cp_t h hs k1) (by omega) (hr.2 c).1
theorem swM_ne {s t k : Nat} (h1 : k ≠ 89 + 7 * s + 2) (h2 : k ≠ 89 + 7 * t + 2) : swM r nt s t k = r k := by
  unfold swM
  split
  · exact mvR_ne h1 h2
  · exact mvR_ne h2 h1
theorem swM_st {s t u b q : Nat} (h5 : nb ≤ 5) (h : st r nb u b q) : st (swM r nt s t) nb u b q := by
  have hb := h.1
  have l1 := si_lt (show b < 5 by omega) h.q13
  exact h.cg (swM_ne (by omega) (by omega)) (swM_ne (by omega) (by omega)) (swM_ne (by omega) (by omega)) (swM_ne (by omega) (by omega))
theorem RI_sw (h : RI r nb nt) {s t b q b2 q2 : Nat} (hs : s < nt) (ht : t < nt) (hst : s ≠ t) (k1 : st r nb s b q) (k2 : st r nb t b2 q2) : RI (swR r nt s t b q b2 q2) nb nt :=
  RI_2si (RI_swM h hs ht hst k1 k2) hs ht hst (swM_st h.nb5 k1) (swM_st h.nb5 k2)
theorem cx_exch (hm : m ∈ mks) (hN : 100 < N) (h : RI r nb nt) (hi : RM I m r nb nt) {s t b q b2 q2 : Nat} (hs : s < nt) (ht : t < nt) (hst : s ≠ t) (k1 : st r nb s b q) (k2 : st r nb t b2 q2) (h0 : ¬ r (89 + 7 * (if 0 < oh r nt t - oh r nt s then s else t) + 2) < kabs (oh r nt t - oh r nt s)) : ∃ I', F_X4_exchangeSeats N (wm Mb I L) m (tr m s) (tr m t) = some (oh r nt t - oh r nt s, wm Mb I' L) ∧ RM I' m (swR r nt s t b q b2 q2) nb nt ∧ FR m I I' := by
  have h5 := h.nb5
  have h24 := h.nt24
  have ht' : t < 24 := by omega
  have hs' : s < 24 := by omega
  have hb := k1.1
  have hb2 := k2.1
  have q1 : tr m t = m + 17 + t := rfl
  have q2' : tr m s = m + 17 + s := rfl
  have hr := rise h k1 k2
  obtain ⟨-, e3, -, -, e6, e7⟩ := hi.tt t ht
  obtain ⟨-, s3, -, -, s6, s7⟩ := hi.tt s hs
  have b1 := RM_t2 (RM_t2 hi h5 h24 hs' (r (89 + 7 * s + 2) - (oh r nt t - oh r nt s))) h5 h24 ht' (r (89 + 7 * t + 2) + (oh r nt t - oh r nt s))
  have emv : setr (setr r (89 + 7 * s + 2) (r (89 + 7 * s + 2) - (oh r nt t - oh r nt s))) (89 + 7 * t + 2) (r (89 + 7 * t + 2) + (oh r nt t - oh r nt s)) = swM r nt s t := by
    unfold swM
    by_cases c : 0 < oh r nt t - oh r nt s
    · rw [if_pos c] at h0 ⊢
      rw [(hr.1 c).2] at h0
      unfold mvR
      rw [kmin_le h0, setr_ne (show 89 + 7 * t + 2 ≠ 89 + 7 * s + 2 by omega)]
    · rw [if_neg c] at h0 ⊢
      rw [(hr.2 c).2] at h0
      unfold mvR
      rw [kmin_le h0, setr_ne (show 89 + 7 * s + 2 ≠ 89 + 7 * t + 2 by omega), setr_comm (show 89 + 7 * s + 2 ≠ 89 + 7 * t + 2 by omega)]
      generalize oh r nt t - oh r nt s = d
      have z1 : r (89 + 7 * t + 2) - -d = r (89 + 7 * t + 2) + d := by grind
      have z2 : r (89 + 7 * s + 2) + -d = r (89 + 7 * s + 2) - d := by grind
      rw [z1, z2]
  rw [emv] at b1
  have f1 : FR m I (up (up I (tr m s) 3 (r (89 + 7 * s + 2) - (oh r nt t - oh r nt s))) (tr m t) 3 (r (89 + 7 * t + 2) + (oh r nt t - oh r nt s))) := (FR.rfl'.up (by omega) (by omega)).up (by omega) (by omega)
  obtain ⟨I1, a2, b2', f2⟩ := cx_seat (Mb := Mb) (N := N) (L := L) hm h5 h24 b1 hs' (show b2 < 5 by omega) k2.q13 k2.2.1
  obtain ⟨I2, a3, b3, f3⟩ := cx_seat (Mb := Mb) (N := N) (L := L) hm h5 h24 b2' ht' (show b < 5 by omega) k1.q13 k1.2.1
  refine ⟨I2, ?_, b3, (f1.trans f2).trans f3⟩
  have x1 : ∀ v, up I (tr m s) 3 v (tr m t) 3 = r (89 + 7 * t + 2) := fun v => (up_ne (Or.inl (by omega))).trans e3
  have x2 : ∀ v w, up (up I (tr m s) 3 v) (tr m t) 3 w (tr m t) 7 = pz q2 := fun v w => (up_ne (Or.inr (by decide))).trans ((up_ne (Or.inr (by decide))).trans (e7.trans k2.2.2.2.2.1))
  rw [k1.2.2.2.1] at s6
  rw [k2.2.2.2.1] at e6
  rw [k1.2.2.2.2.1] at s7
  unfold F_X4_exchangeSeats
  simp only [wm_kR, wm_kt, wm_kn, wm_kin, wm_kL, wm_kI, wm_ksI, wm_ksL, wm_kJ, wm_ksJ, kg_t, kl_v, Option.bind_some, mm_k hm, mm_bs hm, mm_bn hm, mm_ts hm, mm_tn hm, mm_e hm, mm_ek hm, tt_k hm ht', tt_k hm hs', s6, e6, cx_bn_in hm h hi hb, cx_bn_in hm h hi hb2, if_neg bd_ne0, cx_hu hm h hi hs k1 hN, cx_hu hm h hi ht k2 hN, s7, s3, x1, x2, a2, a3]
theorem RI_wage (h : RI r nb nt) {w : Nat} (hw : w ≤ 20) : RI (setr r 0 (nI w)) nb nt := by
  have h5 := h.nb5
  refine ⟨?_, h.b.cg (fun b hb w hw => setr_ne (by omega)), h.t.cg (fun s hs => ⟨setr_ne (by omega), setr_ne (by omega), setr_ne (by omega), fun _ => setr_ne (by omega)⟩), h.s.cg (fun b hb => setr_ne (by omega)) (fun b hb q hq h6 => ?_) (fun s hs => ⟨setr_ne (by omega), setr_ne (by omega)⟩), h.c.cg (setr_ne (by omega)) (fun s hs => setr_ne (by omega))⟩
  · obtain ⟨g1, g2, g3⟩ := h.g
    unfold RIg
    rw [setr_eq, setr_ne (show 1 ≠ 0 by decide), setr_ne (show 2 ≠ 0 by decide), setr_ne (show 3 ≠ 0 by decide), setr_ne (show 4 ≠ 0 by decide), setr_ne (show 7 ≠ 0 by decide), setr_ne (show 8 ≠ 0 by decide), setr_ne (show 13 ≠ 0 by decide)]
    exact ⟨g1, ⟨w, hw, rfl⟩, g3⟩
  · have h8 := @si_ge b q
    exact setr_ne (by omega)
end
