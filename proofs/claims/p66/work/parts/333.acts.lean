variable {Mb : SMem}
def buR (r : Nat → Int32) (nt t b q : Nat) : Nat → Int32 := setr (siR (riS (mvR r (89 + 7 * t + 2) 5 (prS r nt b (pz q))) t) t b q) 10 (r 10 + 1)
def seR (r : Nat → Int32) (nt s t : Nat) (u : Int32) : Nat → Int32 := setr (setr (setr (mvR r (89 + 7 * t + 2) (89 + 7 * s + 2) (u * uprS r nt s t)) (89 + 7 * s + 1) (r (89 + 7 * s + 1) - u)) (89 + 7 * t + 1) (r (89 + 7 * t + 1) + u)) 11 (r 11 + u)
def swM (r : Nat → Int32) (nt s t : Nat) : Nat → Int32 := if 0 < oh r nt t - oh r nt s then mvR r (89 + 7 * s + 2) (89 + 7 * t + 2) (oh r nt t - oh r nt s) else mvR r (89 + 7 * t + 2) (89 + 7 * s + 2) (-(oh r nt t - oh r nt s))
def swR (r : Nat → Int32) (nt s t b q b2 q2 : Nat) : Nat → Int32 := siR (siR (swM r nt s t) s b2 q2) t b q
section
variable {N : Nat} {I : kInts} {L : kLngs} {r f : Nat → Int32} {nb nt m : Nat}
theorem riS_z {t k : Nat} (h : r k = 0) (h1 : 14 ≤ k) (h2 : k < 89) : riS r t k = 0 := by
  unfold riS
  split
  · exact h
  · by_cases e : k = si (kx (r (89 + 7 * t + 5))) (kx (r (89 + 7 * t + 6) + 6))
    · unfold riR
      rw [setr_ne (by omega), setr_ne (by omega), e, setr_eq]
    · rw [riR_ne e (by omega) (by omega)]
      exact h
theorem riS_lo {t k : Nat} (h1 : k < 14) : riS r t k = r k := by
  unfold riS
  split
  · rfl
  · have h8 := @si_ge (kx (r (89 + 7 * t + 5))) (kx (r (89 + 7 * t + 6) + 6))
    exact riR_ne (by omega) (by omega) (by omega)
theorem kabs_pz : ∀ q, q < 13 → ∃ k, k ≤ 6 ∧ kabs (pz q) = nI k := by
  intro q hq
  unfold kabs
  by_cases h : q < 6
  · rw [if_neg (by rw [← pz_6]; have := (pz_lt (p := q) (q := 6) (by omega) (by omega)).mpr h; grind), pz_lo (by omega)]
    exact ⟨6 - q, by omega, by grind⟩
  · rw [if_pos (by rw [← pz_6]; have := mt (pz_lt (p := q) (q := 6) (by omega) (by omega)).mp h; grind), pz_hi (by omega)]
    exact ⟨q - 6, by omega, rfl⟩
theorem kmax_nI {a b : Nat} (ha : a < 2147483648) (hb : b < 2147483648) : kmax (nI a) (nI b) = nI (max a b) := by
  unfold kmax
  by_cases h : a < b
  · rw [if_pos (nI_lt h hb), Nat.max_eq_right (by omega)]
  · rw [if_neg (by rw [nI_ltI ha hb]; exact h), Nat.max_eq_left (by omega)]
theorem pr_num (h : RI r nb nt) {b q : Nat} (hq : q < 13) : ∃ k, k ≤ 200 ∧ prS r nt b (pz q) = nI k := by
  obtain ⟨v, hv, e1⟩ := h.g.2.2.1
  obtain ⟨a, ha, e2⟩ := kabs_pz q hq
  obtain ⟨k, hk, e3⟩ := tl_rng (r := r) b (tqr r nt b)
  obtain ⟨j, hj, e4⟩ := ht_tab q hq k hk
  unfold prS ht
  rw [e1, e2, e3, e4]
  have e5 : ∃ z, z ≤ 60 ∧ kmax 0 (nI j - 54) = nI z := by
    unfold kmax
    by_cases c : 54 < j
    · have e : nI j - 54 = nI (j - 54) := pk_sub (b := 54) (by omega)
      rw [e, if_pos (show (0 : Int32) < nI (j - 54) from nI_lt (a := 0) (by omega) (by omega))]
      exact ⟨j - 54, by omega, rfl⟩
    · have e : nI j - 54 = -nI (54 - j) := by
        have e0 : nI 54 - nI j = nI (54 - j) := pk_sub (by omega)
        rw [← e0, show nI 54 = 54 from rfl]
        grind
      rw [e, if_neg]
      · exact ⟨0, by omega, rfl⟩
      · intro z
        rw [Int32.lt_iff_toInt_lt, sb_negT (by omega)] at z
        have : (0 : Int32).toInt = 0 := rfl
        omega
  obtain ⟨z, hz, e6⟩ := e5
  rw [e6, nI_add, nI_add]
  exact ⟨_, by omega, rfl⟩
theorem kmin_le {x y : Int32} (h : ¬ y < x) : kmin x y = x := if_neg h
theorem aSeat_0 {t b q : Nat} (h : aSeat r nt t b q = 0) : ¬ r (89 + 7 * t + 4) = 0 ∧ r (si b q) = 0 ∧ ¬ r (89 + 7 * t + 2) < prS r nt b (pz q) := by
  unfold aSeat at h
  by_cases c1 : r (89 + 7 * t + 4) = 0
  · rw [if_pos c1] at h; exact absurd h (by decide)
  · rw [if_neg c1] at h
    by_cases c2 : r (si b q) = 0
    · rw [if_pos c2] at h
      by_cases c3 : r (89 + 7 * t + 2) < prS r nt b (pz q)
      · rw [if_pos c3] at h; exact absurd h (by decide)
      · exact ⟨c1, c2, c3⟩
    · rw [if_neg c2] at h; exact absurd h (by decide)
theorem RI_10 (h : RI r nb nt) {k : Nat} (hk : k = 9 ∨ k = 10 ∨ k = 11) (v : Int32) : RI (setr r k v) nb nt := by
  have h5 := h.nb5
  refine ⟨h.g.cg (fun k hk => ?_), h.b.cg (fun b hb w hw => setr_ne (by omega)), h.t.cg (fun s hs => ⟨setr_ne (by omega), setr_ne (by omega), setr_ne (by omega), fun _ => setr_ne (by omega)⟩), h.s.cg (fun b hb => setr_ne (by omega)) (fun b hb q hq h6 => ?_) (fun s hs => ⟨setr_ne (by omega), setr_ne (by omega)⟩), h.c.cg (setr_ne (by omega)) (fun s hs => setr_ne (by omega))⟩
  · simp only [List.mem_cons, List.not_mem_nil, or_false] at hk
    exact setr_ne (by omega)
  · have h8 := @si_ge b q
    exact setr_ne (by omega)
theorem RI_bu (h : RI r nb nt) {t b q a : Nat} (ht : t < nt) (hb : b < nb) (ha : r (14 + 15 * b + 0) = nI a) (ha6 : a ≤ 6) (h1 : 6 - a ≤ q) (h2 : q ≤ 6 + a) (h6 : q ≠ 6) (h0 : aSeat r nt t b q = 0) : RI (buR r nt t b q) nb nt := by
  have h5 := h.nb5
  have h24 := h.nt24
  obtain ⟨c1, c2, c3⟩ := aSeat_0 h0
  have hp : r (89 + 7 * t + 4) = 1 := (h.t t ht).2.resolve_right (fun z => c1 z.1)
  obtain ⟨k, hk, ek⟩ := pr_num (b := b) h (show q < 13 by omega)
  have q7 := si_lt (show b < 5 by omega) (show q < 13 by omega)
  have q8 := @si_ge b q
  have r1 := RI_mv h (i := 89 + 7 * t + 2) (j := 5) (c := prS r nt b (pz q)) (Or.inr ⟨t, ht, rfl, hp⟩) (Or.inl rfl) (by omega) (by rw [ek]; exact nn_nI (by omega))
  have r2 := RI_riS r1 ht
  have hu := riS_5 r1 ht
  have hp2 : riS (mvR r (89 + 7 * t + 2) 5 (prS r nt b (pz q))) t (89 + 7 * t + 4) = 1 := by
    rw [riS_ne r1 ht (by omega) (by omega) (by omega), mvR_ne (by omega) (by omega)]
    exact hp
  have ha2 : riS (mvR r (89 + 7 * t + 2) 5 (prS r nt b (pz q))) t (14 + 15 * b + 0) = nI a := by
    have e : mvR r (89 + 7 * t + 2) 5 (prS r nt b (pz q)) (14 + 15 * b + 0) = nI a := (mvR_ne (by omega) (by omega)).trans ha
    by_cases z : mvR r (89 + 7 * t + 2) 5 (prS r nt b (pz q)) (89 + 7 * t + 5) = -1
    · rw [riS_0 z]; exact e
    · obtain ⟨b', q', hs⟩ := r1.seat ht z
      have hb' := hs.1
      have q9 := @si_ge b' q'
      have q10 := si_le (b := b') hs.q13
      rw [hs.ris h5, riR_ne (by omega) (by omega) (by omega)]
      exact e
  have he2 : riS (mvR r (89 + 7 * t + 2) 5 (prS r nt b (pz q))) t (si b q) = 0 := riS_z ((mvR_ne (by omega) (by omega)).trans c2) (by omega) q7
  exact RI_10 (RI_si r2 ht hu.1 hp2 hb ha2 ha6 h1 h2 h6 he2) (Or.inr (Or.inl rfl)) _
theorem buR_10 {t b q : Nat} : siR (riS (mvR r (89 + 7 * t + 2) 5 (prS r nt b (pz q))) t) t b q 10 = r 10 := by
  have q8 := @si_ge b q
  rw [siR_ne (by omega) (by omega) (by omega), riS_lo (by decide), mvR_ne (by omega) (by omega)]
theorem cx_sells (hm : m ∈ mks) (hN : 100 < N) (h : RI r nb nt) (hi : RM I m r nb nt) {t b q : Nat} (ht : t < nt) (hb : b < nb) (hq : q < 13) (h6 : q ≠ 6) (h0 : aSeat r nt t b q = 0) : ∃ I', F_X4_sellSeat N (wm Mb I L) m (tr m t) (bd m b) (pz q) = some (prS r nt b (pz q), wm Mb I' L) ∧ RM I' m (buR r nt t b q) nb nt ∧ FR m I I' := by
  have h5 := h.nb5
  have h24 := h.nt24
  have ht' : t < 24 := by omega
  have hb' : b < 5 := by omega
  have q1 : tr m t = m + 17 + t := rfl
  obtain ⟨c1, c2, c3⟩ := aSeat_0 h0
  have hp : r (89 + 7 * t + 4) = 1 := (h.t t ht).2.resolve_right (fun z => c1 z.1)
  obtain ⟨k, hk, ek⟩ := pr_num (b := b) h hq
  have r1 := RI_mv h (i := 89 + 7 * t + 2) (j := 5) (c := prS r nt b (pz q)) (Or.inr ⟨t, ht, rfl, hp⟩) (Or.inl rfl) (by omega) (by rw [ek]; exact nn_nI (by omega))
  have b1 := RM_g1 (RM_t2 hi h5 h24 ht' (r (89 + 7 * t + 2) - prS r nt b (pz q))) h5 h24 (r 5 + prS r nt b (pz q))
  have emv : setr (setr r (89 + 7 * t + 2) (r (89 + 7 * t + 2) - prS r nt b (pz q))) 5 (r 5 + prS r nt b (pz q)) = mvR r (89 + 7 * t + 2) 5 (prS r nt b (pz q)) := by
    rw [mvR_p5 (by omega), kmin_le c3]
  rw [emv] at b1
  have f1 : FR m I (up (up I (tr m t) 3 (r (89 + 7 * t + 2) - prS r nt b (pz q))) m 1 (r 5 + prS r nt b (pz q))) := (FR.rfl'.up (by omega) (by omega)).up (by omega) (by omega)
  obtain ⟨I1, a2, b2, f2⟩ := cx_unseat (Mb := Mb) (N := N) (L := L) hm r1 b1 ht
  obtain ⟨I2, a3, b3, f3⟩ := cx_seat (Mb := Mb) (N := N) (L := L) hm h5 h24 b2 ht' hb' hq h6
  have b4 := RM_g8 b3 h5 h24 (r 10 + 1)
  refine ⟨_, ?_, b4, ((f1.trans f2).trans f3).up (by omega) (by omega)⟩
  obtain ⟨-, e3, -⟩ := hi.tt t ht
  have e1 : ∀ v, up I (tr m t) 3 v m 1 = r 5 := fun v => (up_ne (Or.inl (by omega))).trans hi.bank
  have e8 : I2 m 8 = r 10 := b3.g.2.2.2.2.2.2.2.2.1.trans buR_10
  unfold F_X4_sellSeat
  simp only [wm_kR, wm_kt, wm_kn, wm_kin, wm_kL, wm_kI, wm_ksI, wm_ksL, wm_kJ, wm_ksJ, kg_t, kl_v, Option.bind_some, mm_k hm, mm_bs hm, mm_bn hm, mm_ts hm, mm_tn hm, mm_e hm, mm_ek hm, tt_k hm ht', cx_pr hm h hi hb _ hN, e3, e1, a2, a3, e8]
theorem upr_num (h : RI r nb nt) {s t b q b2 q2 : Nat} (hs : st r nb s b q) (ht : st r nb t b2 q2) : ∃ k, (1 ≤ k ∧ k ≤ 300) ∧ uprS r nt s t = nI k := by
  obtain ⟨v, hv, e1⟩ := h.g.2.2.2.1
  obtain ⟨j, hj, e2⟩ := oh_rng (nt := nt) hs h.nb5
  obtain ⟨i, hi, e3⟩ := oh_rng (nt := nt) ht h.nb5
  unfold uprS
  rw [e1, e2, e3]
  have e4 : nI v + (nI i - 54) - (nI j - 54) = nI (v + i) - nI j := by rw [← nI_add]; grind
  rw [e4]
  by_cases c : j ≤ v + i
  · rw [pk_sub c, show (1 : Int32) = nI 1 from rfl, kmax_nI (by omega) (by omega)]
    exact ⟨_, by omega, rfl⟩
  · have := pk_sneg (a := v + i) (b := j) (by omega) (by omega)
    refine ⟨1, by omega, ?_⟩
    unfold kmax
    rw [if_neg]
    · rfl
    · intro z
      have h1 : (0 : Int32) < 1 := by decide
      grind
theorem aSale_0 {s t : Nat} {u : Int32} (h : aSale r nt s t u = 0) : ¬ r (89 + 7 * s + 5) = -1 ∧ ¬ r (89 + 7 * t + 5) = -1 ∧ ¬ r (89 + 7 * s + 1) - u < 1 ∧ ¬ 99 < r (89 + 7 * t + 1) + u ∧ ¬ r (89 + 7 * t + 2) < u * uprS r nt s t := by
  unfold aSale at h
  by_cases c1 : r (89 + 7 * s + 5) = -1
  · rw [if_pos c1] at h; exact absurd h (by decide)
  rw [if_neg c1] at h
  by_cases c2 : r (89 + 7 * t + 5) = -1
  · rw [if_pos c2] at h; exact absurd h (by decide)
  rw [if_neg c2] at h
  by_cases c3 : r (89 + 7 * s + 5) = r (89 + 7 * t + 5)
  · rw [if_pos c3] at h
    by_cases c4 : r (89 + 7 * s + 1) - u < 1
    · rw [if_pos c4] at h; exact absurd h (by decide)
    rw [if_neg c4] at h
    by_cases c5 : 99 < r (89 + 7 * t + 1) + u
    · rw [if_pos c5] at h; exact absurd h (by decide)
    rw [if_neg c5] at h
    by_cases c6 : r (89 + 7 * t + 2) < u * uprS r nt s t
    · rw [if_pos c6] at h; exact absurd h (by decide)
    exact ⟨c1, c2, c4, c5, c6⟩
  · rw [if_neg c3] at h; exact absurd h (by decide)
theorem RI_wt (h : RI r nb nt) {t w : Nat} (h1 : 1 ≤ w) (h2 : w ≤ 99) : RI (setr r (89 + 7 * t + 1) (nI w)) nb nt := by
  have h5 := h.nb5
  refine ⟨h.g.cg (fun k hk => ?_), h.b.cg (fun b hb w hw => setr_ne (by omega)), fun s hs => ?_, h.s.cg (fun b hb => setr_ne (by omega)) (fun b hb q hq h6 => ?_) (fun s hs => ⟨setr_ne (by omega), setr_ne (by omega)⟩), h.c.cg (setr_ne (by omega)) (fun s hs => setr_ne (by omega))⟩
  · simp only [List.mem_cons, List.not_mem_nil, or_false] at hk
    exact setr_ne (by omega)
  · rw [setr_ne (j := 89 + 7 * s + 4) (by omega), setr_ne (j := 89 + 7 * s + 5) (by omega), setr_ne (j := 89 + 7 * s + 2) (by omega)]
    refine ⟨?_, (h.t s hs).2⟩
    by_cases e : s = t
    · subst e
      exact ⟨w, ⟨h1, h2⟩, setr_eq⟩
    · rw [setr_ne (by omega)]
      exact (h.t s hs).1
  · have h7 := si_lt (show b < 5 by omega) hq
    exact setr_ne (by omega)
theorem RI_se (h : RI r nb nt) {s t U : Nat} (hs : s < nt) (ht : t < nt) (hst : s ≠ t) (hU1 : 1 ≤ U) (hU : U ≤ 50) (h0 : aSale r nt s t (nI U) = 0) : RI (seR r nt s t (nI U)) nb nt := by
  have h24 := h.nt24
  obtain ⟨c1, c2, c3, c4, c5⟩ := aSale_0 h0
  obtain ⟨b, q, k1⟩ := h.seat hs c1
  obtain ⟨b2, q2, k2⟩ := h.seat ht c2
  obtain ⟨k, hk, ek⟩ := upr_num h k1 k2
  obtain ⟨⟨w, hw, ew⟩, -⟩ := h.t s hs
  obtain ⟨⟨x, hx, ex⟩, -⟩ := h.t t ht
  have hUk : U * k ≤ 50 * 300 := Nat.mul_le_mul hU hk.2
  have hc : nn (nI U * uprS r nt s t) := by
    rw [ek, pk_mul]
    exact nn_nI (by omega)
  have r1 := RI_mv h (cp_t h ht k2) (cp_t h hs k1) (show 89 + 7 * t + 2 ≠ 89 + 7 * s + 2 by omega) hc
  have hUw : U < w := by
    by_cases z : U < w
    · exact z
    · exfalso
      apply c3
      rw [ew]
      by_cases z2 : U = w
      · rw [z2, pk_sub (Nat.le_refl _), Nat.sub_self]
        decide
      · have := pk_sneg (a := w) (b := U) (by omega) (by omega)
        have h1 : (0 : Int32) < 1 := by decide
        grind
  have hx2 : x + U ≤ 99 := by
    by_cases z : x + U ≤ 99
    · exact z
    · exfalso
      apply c4
      rw [ex, nI_add]
      exact nI_lt (a := 99) (by omega) (by omega)
  unfold seR
  rw [ew, pk_sub (by omega), ex, nI_add]
  exact RI_10 (RI_wt (RI_wt r1 (by omega) (by omega)) (by omega) hx2) (Or.inr (Or.inr rfl)) _
theorem cx_moveW (hm : m ∈ mks) (hN : 100 < N) (h : RI r nb nt) (hi : RM I m r nb nt) {s t : Nat} {u : Int32} (hs : s < nt) (ht : t < nt) (hst : s ≠ t) (h0 : aSale r nt s t u = 0) : ∃ I', F_X4_moveWeight N (wm Mb I L) m (tr m s) (tr m t) u = some (u * uprS r nt s t, wm Mb I' L) ∧ RM I' m (seR r nt s t u) nb nt ∧ FR m I I' := by
  have h5 := h.nb5
  have h24 := h.nt24
  have ht' : t < 24 := by omega
  have hs' : s < 24 := by omega
  have q1 : tr m t = m + 17 + t := rfl
  have q2 : tr m s = m + 17 + s := rfl
  obtain ⟨c1, c2, c3, c4, c5⟩ := aSale_0 h0
  obtain ⟨b, q, k1⟩ := h.seat hs c1
  obtain ⟨b2, q2, k2⟩ := h.seat ht c2
  obtain ⟨e2, e3, -⟩ := hi.tt t ht
  obtain ⟨s2, s3, -⟩ := hi.tt s hs
  have b1 := RM_g9 (RM_t1 (RM_t1 (RM_t2 (RM_t2 hi h5 h24 ht' (r (89 + 7 * t + 2) - u * uprS r nt s t)) h5 h24 hs' (r (89 + 7 * s + 2) + u * uprS r nt s t)) h5 h24 hs' (r (89 + 7 * s + 1) - u)) h5 h24 ht' (r (89 + 7 * t + 1) + u)) h5 h24 (r 11 + u)
  have emv : setr (setr r (89 + 7 * t + 2) (r (89 + 7 * t + 2) - u * uprS r nt s t)) (89 + 7 * s + 2) (r (89 + 7 * s + 2) + u * uprS r nt s t) = mvR r (89 + 7 * t + 2) (89 + 7 * s + 2) (u * uprS r nt s t) := by
    unfold mvR
    rw [kmin_le c5, setr_ne (show 89 + 7 * s + 2 ≠ 89 + 7 * t + 2 by omega)]
  rw [emv] at b1
  refine ⟨_, ?_, b1, ((((FR.rfl'.up (by omega) (by omega)).up (by omega) (by omega)).up (by omega) (by omega)).up (by omega) (by omega)).up (by omega) (by omega)⟩
  have hne : tr m s ≠ tr m t := by omega
  have x1 : ∀ v, up I (tr m t) 3 v (tr m s) 3 = r (89 + 7 * s + 2) := fun v => (up_ne (Or.inl hne)).trans s3
  have x2 : ∀ v w, up (up I (tr m t) 3 v) (tr m s) 3 w (tr m s) 2 = r (89 + 7 * s + 1) := fun v w => (up_ne (Or.inr (by decide))).trans ((up_ne (Or.inl hne)).trans s2)
  have x3 : ∀ v w z, up (up (up I (tr m t) 3 v) (tr m s) 3 w) (tr m s) 2 z (tr m t) 2 = r (89 + 7 * t + 1) := fun v w z => (up_ne (Or.inl hne.symm)).trans ((up_ne (Or.inl hne.symm)).trans ((up_ne (Or.inr (by decide))).trans e2))
  have x4 : ∀ v w z y, up (up (up (up I (tr m t) 3 v) (tr m s) 3 w) (tr m s) 2 z) (tr m t) 2 y m 9 = r 11 := fun v w z y => (up_ne (Or.inl (by omega))).trans ((up_ne (Or.inl (by omega))).trans ((up_ne (Or.inl (by omega))).trans ((up_ne (Or.inl (by omega))).trans hi.g.2.2.2.2.2.2.2.2.2.1)))
  unfold F_X4_moveWeight
  simp only [wm_kR, wm_kt, wm_kn, wm_kin, wm_kL, wm_kI, wm_ksI, wm_ksL, wm_kJ, wm_ksJ, kg_t, kl_v, Option.bind_some, mm_k hm, mm_bs hm, mm_bn hm, mm_ts hm, mm_tn hm, mm_e hm, mm_ek hm, tt_k hm ht', tt_k hm hs', cx_up hm h hi hs k1 ht k2 hN, e3, x1, x2, x3, x4]
end
