variable {Mb : SMem}
def eaS (r : Nat → Int32) (nt t : Nat) : Nat → Int32 := if r (89 + 7 * t + 5) = -1 then r else if 0 < r 0 + oh r nt t then mvR r 5 (89 + 7 * t + 2) (r 0 + oh r nt t) else mvR r (89 + 7 * t + 2) 5 (-(r 0 + oh r nt t))
def eaL (nt : Nat) : Nat → Nat → (Nat → Int32) → (Nat → Int32)
  | 0, _, r => r
  | k + 1, i, r => eaL nt k (i + 1) (eaS r nt i)
def rtR (r : Nat → Int32) (t : Nat) : Nat → Int32 := rcR (setr (mvR (riS r t) (89 + 7 * t + 2) 5 (riS r t (89 + 7 * t + 2))) (89 + 7 * t + 4) 0) 2 (nI t)
def agS (r : Nat → Int32) (t : Nat) : Nat → Int32 := if r (89 + 7 * t + 4) = 0 then r else if r 3 < r (89 + 7 * t + 3) + 1 then rtR (setr r (89 + 7 * t + 3) (r (89 + 7 * t + 3) + 1)) t else setr r (89 + 7 * t + 3) (r (89 + 7 * t + 3) + 1)
def agL : Nat → Nat → (Nat → Int32) → (Nat → Int32)
  | 0, _, r => r
  | k + 1, i, r => agL k (i + 1) (agS r i)
section
variable {N : Nat} {I : kInts} {L : kLngs} {r f : Nat → Int32} {nb nt m : Nat}
theorem kx_l0 : kx 0 = 0 := by decide
theorem kx_l1 : kx 1 = 1 := by decide
theorem kx_l2 : kx 2 = 2 := by decide
theorem kx_l3 : kx 3 = 3 := by decide
theorem kx_l4 : kx 4 = 4 := by decide
theorem kx_l5 : kx 5 = 5 := by decide
theorem kx_l6 : kx 6 = 6 := by decide
theorem kx_l7 : kx 7 = 7 := by decide
theorem kx_l8 : kx 8 = 8 := by decide
theorem kx_l9 : kx 9 = 9 := by decide
theorem kx_l10 : kx 10 = 10 := by decide
theorem kx_l11 : kx 11 = 11 := by decide
theorem kx_l12 : kx 12 = 12 := by decide
theorem kx_l13 : kx 13 = 13 := by decide
theorem tl_rng (b : Nat) (x : Int32) : ∃ k, k < 19 ∧ tl r b x = nI k - 9 := by
  unfold tl
  generalize x / r (14 + 15 * b + 1) = y
  have h9 : (9 : Int32).toInt = 9 := by decide
  have hm9 : (-9 : Int32).toInt = -9 := by decide
  have hk : ∀ k, k < 19 → (nI k - 9).toInt = (k : Int) - 9 := by decide
  have hr : -9 ≤ (kmax (-9) (kmin 9 y)).toInt ∧ (kmax (-9) (kmin 9 y)).toInt ≤ 9 := by
    unfold kmax kmin
    by_cases c1 : y < 9
    · rw [if_pos c1]
      rw [Int32.lt_iff_toInt_lt] at c1
      by_cases c2 : -9 < y
      · rw [if_pos c2]
        rw [Int32.lt_iff_toInt_lt] at c2
        omega
      · rw [if_neg c2]
        omega
    · rw [if_neg c1, if_pos (by decide)]
      omega
  refine ⟨((kmax (-9) (kmin 9 y)).toInt + 9).toNat, by omega, ?_⟩
  rw [← Int32.toInt_inj, hk _ (by omega)]
  omega
theorem ht_tab : ∀ q, q < 13 → ∀ k, k < 19 → ∃ j, j < 109 ∧ -pz q * (nI k - 9) = nI j - 54 := by
  have h : ∀ q : Nat, q < 13 → ∀ k : Nat, k < 19 → (54 - ((q : Int) - 6) * ((k : Int) - 9)).toNat < 109 ∧ -pz q * (nI k - 9) = nI (54 - ((q : Int) - 6) * ((k : Int) - 9)).toNat - 54 := by decide +kernel
  exact fun q hq k hk => ⟨_, h q hq k hk⟩
theorem oh_rng {t b q : Nat} (h : st r nb t b q) (h5 : nb ≤ 5) : ∃ j, j < 109 ∧ oh r nt t = nI j - 54 := by
  rw [oh_st h h5]
  unfold ht
  obtain ⟨k, hk, e⟩ := tl_rng (r := r) b (tqr r nt b)
  rw [e]
  exact ht_tab q h.q13 k hk
theorem inc_nn {v j : Nat} (hv : v ≤ 20) (hj : j < 109) : (0 < nI v + (nI j - 54) → nn (nI v + (nI j - 54))) ∧ (¬ 0 < nI v + (nI j - 54) → nn (-(nI v + (nI j - 54)))) := by
  have e : nI v + (nI j - 54) = nI (v + j) - nI 54 := by rw [← nI_add]; have : nI 54 = 54 := rfl; grind
  rw [e]
  by_cases h : 54 < v + j
  · have e2 : nI (v + j) - nI 54 = nI (v + j - 54) := pk_sub (by omega)
    rw [e2]
    refine ⟨fun _ => nn_nI (by omega), fun z => absurd (nI_lt (a := 0) (by omega) (by omega)) z⟩
  · have e2 : -(nI (v + j) - nI 54) = nI (54 - (v + j)) := by rw [← pk_sub (a := 54) (by omega)]; grind
    rw [e2]
    refine ⟨fun z => ?_, fun _ => nn_nI (by omega)⟩
    have e3 : nI (v + j) - nI 54 = -nI (54 - (v + j)) := by rw [← e2]; grind
    rw [e3] at z
    rw [Int32.lt_iff_toInt_lt, sb_negT (by omega)] at z
    have : (0 : Int32).toInt = 0 := rfl
    omega
theorem RI.inc (h : RI r nb nt) {t b q : Nat} (hs : st r nb t b q) : (0 < r 0 + oh r nt t → nn (r 0 + oh r nt t)) ∧ (¬ 0 < r 0 + oh r nt t → nn (-(r 0 + oh r nt t))) := by
  obtain ⟨j, hj, e⟩ := oh_rng (nt := nt) hs h.nb5
  obtain ⟨v, hv, e2⟩ := h.g.2.1
  rw [e, e2]
  exact inc_nn hv hj
theorem cp_t (h : RI r nb nt) {t b q : Nat} (ht : t < nt) (hs : st r nb t b q) : cp r nt (89 + 7 * t + 2) := Or.inr ⟨t, ht, rfl, h.pres ht hs⟩
theorem RI_eaS (h : RI r nb nt) {t : Nat} (ht : t < nt) : RI (eaS r nt t) nb nt := by
  unfold eaS
  split
  · exact h
  · next e =>
    obtain ⟨b, q, hs⟩ := h.seat ht e
    split
    · next c => exact RI_mv h (Or.inl rfl) (cp_t h ht hs) (by omega) ((h.inc hs).1 c)
    · next c => exact RI_mv h (cp_t h ht hs) (Or.inl rfl) (by omega) ((h.inc hs).2 c)
theorem RI_eaL : ∀ (k i : Nat) (r : Nat → Int32), RI r nb nt → i + k = nt → RI (eaL nt k i r) nb nt
  | 0, i, r, h, _ => h
  | k + 1, i, r, h, e => RI_eaL k (i + 1) _ (RI_eaS h (by omega)) (by omega)
theorem cx_p48 (hm : m ∈ mks) (k2 : kMem → Nat → Int32 → Option kMem) {i : Nat} (ht : i < 24) (y : Int32) : F_X4_payIncomes_48 N k2 (wm Mb I L) m (nI i) (tr m i) y = k2 (wm Mb (up (up I m 1 (I m 1 - y)) (tr m i) 3 (I (tr m i) 3 + y)) L) m (nI (i + 1)) := by
  unfold F_X4_payIncomes_48
  have e : up I m 1 (I m 1 - y) (tr m i) 3 = I (tr m i) 3 := up_ne (Or.inr (by decide))
  simp only [wm_kR, wm_kt, wm_kn, wm_kin, wm_kL, wm_kI, wm_ksI, wm_ksL, wm_kJ, wm_ksJ, kg_t, kl_v, Option.bind_some, mm_k hm, mm_bs hm, mm_bn hm, mm_ts hm, mm_tn hm, mm_e hm, mm_ek hm, tt_k hm ht, e, nI_1]
theorem cx_eaL (hm : m ∈ mks) (hN : 100 < N) : ∀ (k i n : Nat) (I : kInts) (r : Nat → Int32), RI r nb nt → RM I m r nb nt → i + k = nt → k < n → ∃ I', F_X4_payIncomes_2 N n (wm Mb I L) m (nI i) = some (wm Mb I' L) ∧ RM I' m (eaL nt k i r) nb nt ∧ FR m I I'
  | k, i, 0, I, r, _, _, _, h => absurd h (Nat.not_lt_zero _)
  | 0, i, n + 1, I, r, h, hi, e, _ => by
    have h24 := h.nt24
    refine ⟨I, ?_, hi, FR.rfl'⟩
    unfold F_X4_payIncomes_2
    simp (disch := omega) only [wm_kR, wm_kt, wm_kn, wm_kin, wm_kL, wm_kI, wm_ksI, wm_ksL, wm_kJ, wm_ksJ, kg_t, kl_v, Option.bind_some, mm_k hm, mm_bs hm, mm_bn hm, mm_ts hm, mm_tn hm, mm_e hm, mm_ek hm, hi.tc, h.r8, nI_ltP]
    rw [if_neg (by omega)]
  | k + 1, i, n + 1, I, r, h, hi, e, hn => by
    have h24 := h.nt24
    have h5 := h.nb5
    have hin : i < nt := by omega
    have ht : i < 24 := by omega
    have q1 : tr m i = m + 17 + i := rfl
    obtain ⟨-, e3, -⟩ := hi.tt i hin
    have key : ∀ y, setr (setr r 5 (r 5 - y)) (89 + 7 * i + 2) (r (89 + 7 * i + 2) + y) = eaS r nt i → ∃ I', F_X4_payIncomes_48 N (fun M a0 x1 => F_X4_payIncomes_2 N n M a0 x1) (wm Mb I L) m (nI i) (tr m i) y = some (wm Mb I' L) ∧ RM I' m (eaL nt (k + 1) i r) nb nt ∧ FR m I I' := by
      intro y hy
      rw [cx_p48 hm _ ht, hi.bank, e3]
      have h1 := RM_t2 (RM_g1 hi h5 h24 (r 5 - y)) h5 h24 ht (r (89 + 7 * i + 2) + y)
      rw [hy] at h1
      obtain ⟨I', a1, a2, a3⟩ := cx_eaL hm hN k (i + 1) n _ (eaS r nt i) (RI_eaS h hin) h1 (by omega) (by omega)
      exact ⟨I', a1, a2, ((FR.rfl'.up (by omega) (by omega)).up (by omega) (by omega)).trans a3⟩
    unfold F_X4_payIncomes_2
    simp (disch := omega) only [wm_kR, wm_kt, wm_kn, wm_kin, wm_kL, wm_kI, wm_ksI, wm_ksL, wm_kJ, wm_ksJ, kg_t, kl_v, Option.bind_some, mm_k hm, mm_bs hm, mm_bn hm, mm_ts hm, mm_tn hm, mm_e hm, mm_ek hm, tt_r hm ht, tt_k hm ht, kin_t hm ht, kx_nI, hi.tc, h.r8, nI_ltP, cx_inc hm h hi hin hN, hi.bank, e3]
    rw [if_pos hin]
    unfold eaS at key
    by_cases c : r (89 + 7 * i + 5) = -1
    · simp only [if_pos c, if_neg (show ¬ (0 : Int32) < 0 by decide)] at key ⊢
      refine key _ ?_
      have hp := nn0 (h.c.2.1 i hin)
      have e0 : -(kmin (-0) (r (89 + 7 * i + 2))) = 0 := by
        unfold kmin
        rw [if_neg (by grind)]
        decide
      rw [e0]
      rw [setr_same (k := 5) (by grind), setr_same (by grind)]
    · simp only [if_neg c] at key ⊢
      by_cases c2 : 0 < r 0 + oh r nt i
      · simp only [if_pos c2] at key ⊢
        refine key _ ?_
        rw [mvR_5p (by omega)]
      · simp only [if_neg c2] at key ⊢
        refine key _ ?_
        rw [mvR_p5 (by omega)]
        generalize kmin (-(r 0 + oh r nt i)) (r (89 + 7 * i + 2)) = d
        have z1 : r 5 - -d = r 5 + d := by grind
        have z2 : r (89 + 7 * i + 2) + -d = r (89 + 7 * i + 2) - d := by grind
        rw [z1, z2, setr_comm (by omega)]
theorem cx_earns (hm : m ∈ mks) (hN : 100 < N) (h : RI r nb nt) (hi : RM I m r nb nt) : ∃ I', F_X4_payIncomes N (wm Mb I L) m = some (wm Mb I' L) ∧ RM I' m (eaL nt nt 0 r) nb nt ∧ FR m I I' := by
  have h24 := h.nt24
  unfold F_X4_payIncomes
  exact cx_eaL hm hN nt 0 N I r h hi (by omega) (by omega)
theorem RI_age (h : RI r nb nt) {t : Nat} (v : Int32) : RI (setr r (89 + 7 * t + 3) v) nb nt := by
  have h5 := h.nb5
  refine ⟨h.g.cg (fun k hk => ?_), h.b.cg (fun b hb w hw => setr_ne (by omega)), h.t.cg (fun s hs => ⟨setr_ne (by omega), setr_ne (by omega), setr_ne (by omega), fun _ => setr_ne (by omega)⟩), h.s.cg (fun b hb => setr_ne (by omega)) (fun b hb q hq h6 => ?_) (fun s hs => ⟨setr_ne (by omega), setr_ne (by omega)⟩), h.c.cg (setr_ne (by omega)) (fun s hs => setr_ne (by omega))⟩
  · simp only [List.mem_cons, List.not_mem_nil, or_false] at hk
    exact setr_ne (by omega)
  · have h7 := si_lt (show b < 5 by omega) hq
    exact setr_ne (by omega)
theorem RI_out (h : RI r nb nt) {t : Nat} (h1 : r (89 + 7 * t + 5) = -1) (h2 : r (89 + 7 * t + 2) = 0) : RI (setr r (89 + 7 * t + 4) 0) nb nt := by
  have h5 := h.nb5
  refine ⟨h.g.cg (fun k hk => ?_), h.b.cg (fun b hb w hw => setr_ne (by omega)), fun s hs => ?_, h.s.cg (fun b hb => setr_ne (by omega)) (fun b hb q hq h6 => ?_) (fun s hs => ⟨setr_ne (by omega), setr_ne (by omega)⟩), h.c.cg (setr_ne (by omega)) (fun s hs => setr_ne (by omega))⟩
  · simp only [List.mem_cons, List.not_mem_nil, or_false] at hk
    exact setr_ne (by omega)
  · rw [setr_ne (j := 89 + 7 * s + 1) (by omega), setr_ne (j := 89 + 7 * s + 5) (by omega), setr_ne (j := 89 + 7 * s + 2) (by omega)]
    refine ⟨(h.t s hs).1, ?_⟩
    by_cases e : s = t
    · subst e
      exact Or.inr ⟨setr_eq, h1, h2⟩
    · rw [setr_ne (by omega)]
      exact (h.t s hs).2
  · have h7 := si_lt (show b < 5 by omega) hq
    exact setr_ne (by omega)
theorem mv_all (h : RIc r nt) (h24 : nt ≤ 24) {t : Nat} (ht : t < nt) : mvR r (89 + 7 * t + 2) 5 (r (89 + 7 * t + 2)) (89 + 7 * t + 2) = 0 := by
  obtain ⟨x, y, d, e1, e2, h1, h2, h3, h4, h6, e3, h7⟩ := mv_num h h24 (i := 89 + 7 * t + 2) (j := 5) (Or.inr ⟨t, ht, rfl⟩) (Or.inl rfl) (by omega) (h.2.1 t ht)
  rw [e3, setr_ne (by omega), setr_eq]
  have : kx (r (89 + 7 * t + 2)) = x := by rw [e1, kx_nI (by omega)]
  rw [h7 (by omega), this, Nat.sub_self]
  rfl
theorem RI_rt (h : RI r nb nt) {t : Nat} (ht : t < nt) (hp : ¬ r (89 + 7 * t + 4) = 0) : RI (rtR r t) nb nt := by
  have h24 := h.nt24
  have h1 := RI_riS h ht
  have hp1 : riS r t (89 + 7 * t + 4) = 1 := by
    rw [riS_ne h ht (by omega) (by omega) (by omega)]
    exact (h.t t ht).2.resolve_right (fun z => hp z.1)
  have hu := riS_5 h ht
  have h2 := RI_mv h1 (i := 89 + 7 * t + 2) (j := 5) (Or.inr ⟨t, ht, rfl, hp1⟩) (Or.inl rfl) (by omega) (h1.c.2.1 t ht)
  exact RI_rc (RI_out h2 ((mvR_ne (by omega) (by omega)).trans hu.1) (mv_all h1.c h24 ht)) 2 (nI t)
theorem RI_agS (h : RI r nb nt) {t : Nat} (ht : t < nt) : RI (agS r t) nb nt := by
  unfold agS
  split
  · exact h
  · next e =>
    split
    · refine RI_rt (RI_age h _) ht ?_
      rw [setr_ne (by omega)]
      exact e
    · exact RI_age h _
theorem RI_agL : ∀ (k i : Nat) (r : Nat → Int32), RI r nb nt → i + k = nt → RI (agL k i r) nb nt
  | 0, i, r, h, _ => h
  | k + 1, i, r, h, e => RI_agL k (i + 1) _ (RI_agS h (by omega)) (by omega)
theorem RM.day (h : RM I m r nb nt) : I m 0 = r 6 := h.g.1
theorem RM.ret (h : RM I m r nb nt) : I m 5 = r 3 := h.g.2.2.2.2.2.1
theorem cx_retire (hm : m ∈ mks) (hN : 100 < N) (h : RI r nb nt) (hi : RM I m r nb nt) {t : Nat} (ht : t < nt) (hp : ¬ r (89 + 7 * t + 4) = 0) : ∃ I', F_X4_retire N (wm Mb I L) m (tr m t) = some (wm Mb I' L) ∧ RM I' m (rtR r t) nb nt ∧ FR m I I' := by
  have h24 := h.nt24
  have h5 := h.nb5
  have ht' : t < 24 := by omega
  have q1 : tr m t = m + 17 + t := rfl
  have h1 := RI_riS h ht
  have hp1 : riS r t (89 + 7 * t + 4) = 1 := by
    rw [riS_ne h ht (by omega) (by omega) (by omega)]
    exact (h.t t ht).2.resolve_right (fun z => hp z.1)
  have hu := riS_5 h ht
  have h2 := RI_mv h1 (i := 89 + 7 * t + 2) (j := 5) (Or.inr ⟨t, ht, rfl, hp1⟩) (Or.inl rfl) (by omega) (h1.c.2.1 t ht)
  have h3 := RI_out h2 ((mvR_ne (by omega) (by omega)).trans hu.1) (mv_all h1.c h24 ht)
  obtain ⟨I1, a1, b1, c1⟩ := cx_unseat (Mb := Mb) (N := N) (L := L) hm h hi ht
  obtain ⟨I2, a2, b2, c2⟩ := cx_toBank (Mb := Mb) (N := N) (L := L) hm h5 h24 b1 ht (riS r t (89 + 7 * t + 2))
  have b3 := RM_t4 b2 h5 h24 ht' 0 (Or.inl rfl)
  have b4 := RM_ev b3 h3 2 (nI t)
  refine ⟨_, ?_, b4, ((c1.trans c2).up (by omega) (by omega)).trans FR_ev⟩
  unfold F_X4_retire
  have e1 := (b1.tt t ht).2.1
  have e5 : (wm Mb (up I2 (tr m t) 5 0) L) = wm Mb (up I2 (tr m t) 5 0) L := rfl
  have e6 := b3.day
  have e7 := b3.nu.2.1 t ht'
  have hb : ((0 : Int32) == 0 || (0 : Int32) == 1) = true := rfl
  simp only [a1, a2, wm_kR, wm_kt, wm_kn, wm_kin, wm_kL, wm_kI, wm_ksI, wm_ksL, wm_kJ, wm_ksJ, kg_t, kl_v, Option.bind_some, mm_k hm, mm_bs hm, mm_bn hm, mm_ts hm, mm_tn hm, mm_e hm, mm_ek hm, tt_k hm ht', e1, hb, Bool.and_self, e6, e7, cx_ev hm _ _ _ hN]
theorem cx_agL (hm : m ∈ mks) (hN : 100 < N) : ∀ (k i n : Nat) (I : kInts) (r : Nat → Int32), RI r nb nt → RM I m r nb nt → i + k = nt → k < n → ∃ I', F_X4_ageTraders_2 N n (wm Mb I L) m (nI i) = some (wm Mb I' L) ∧ RM I' m (agL k i r) nb nt ∧ FR m I I'
  | k, i, 0, I, r, _, _, _, h => absurd h (Nat.not_lt_zero _)
  | 0, i, n + 1, I, r, h, hi, e, _ => by
    have h24 := h.nt24
    refine ⟨I, ?_, hi, FR.rfl'⟩
    unfold F_X4_ageTraders_2
    simp (disch := omega) only [wm_kR, wm_kt, wm_kn, wm_kin, wm_kL, wm_kI, wm_ksI, wm_ksL, wm_kJ, wm_ksJ, kg_t, kl_v, Option.bind_some, mm_k hm, mm_bs hm, mm_bn hm, mm_ts hm, mm_tn hm, mm_e hm, mm_ek hm, hi.tc, h.r8, nI_ltP]
    rw [if_neg (by omega)]
  | k + 1, i, n + 1, I, r, h, hi, e, hn => by
    have h24 := h.nt24
    have h5 := h.nb5
    have hin : i < nt := by omega
    have ht : i < 24 := by omega
    have q1 : tr m i = m + 17 + i := rfl
    obtain ⟨-, -, e4, e5, -⟩ := hi.tt i hin
    have hA := RI_age h (t := i) (r (89 + 7 * i + 3) + 1)
    have bA := RM_t3 hi h5 h24 ht (r (89 + 7 * i + 3) + 1)
    have fA : FR m I (up I (tr m i) 4 (r (89 + 7 * i + 3) + 1)) := FR.rfl'.up (by omega) (by omega)
    have ret := bA.ret
    rw [setr_ne (show 3 ≠ 89 + 7 * i + 3 by omega)] at ret
    have hS := RI_agS h hin
    show ∃ I', _ ∧ RM I' m (agL k (i + 1) (agS r i)) nb nt ∧ _
    unfold F_X4_ageTraders_2
    simp (disch := omega) only [wm_kR, wm_kt, wm_kn, wm_kin, wm_kL, wm_kI, wm_ksI, wm_ksL, wm_kJ, wm_ksJ, kg_t, kl_v, Option.bind_some, mm_k hm, mm_bs hm, mm_bn hm, mm_ts hm, mm_tn hm, mm_e hm, mm_ek hm, tt_r hm ht, tt_k hm ht, kin_t hm ht, kx_nI, hi.tc, h.r8, nI_ltP, e4, e5, ret, up_eq, nI_1]
    rw [if_pos hin]
    unfold agS at hS ⊢
    by_cases c : r (89 + 7 * i + 4) = 0
    · simp only [if_pos c] at hS ⊢
      exact cx_agL hm hN k (i + 1) n I r hS hi (by omega) (by omega)
    · simp only [if_neg c] at hS ⊢
      by_cases c2 : r 3 < r (89 + 7 * i + 3) + 1
      · simp only [if_pos c2] at hS ⊢
        obtain ⟨I1, a1, b1, c1⟩ := cx_retire (Mb := Mb) (N := N) (L := L) hm hN hA bA hin (by rw [setr_ne (by omega)]; exact c)
        simp only [a1, wm_kR, wm_kt, wm_kn, wm_kin, wm_kL, wm_kI, wm_ksI, wm_ksL, wm_kJ, wm_ksJ, kg_t, kl_v, Option.bind_some]
        obtain ⟨I2, a2, b2, c2⟩ := cx_agL hm hN k (i + 1) n I1 _ hS b1 (by omega) (by omega)
        exact ⟨I2, a2, b2, (fA.trans c1).trans c2⟩
      · simp only [if_neg c2] at hS ⊢
        obtain ⟨I2, a2, b2, c2⟩ := cx_agL hm hN k (i + 1) n _ _ hS bA (by omega) (by omega)
        exact ⟨I2, a2, b2, fA.trans c2⟩
theorem cx_ages (hm : m ∈ mks) (hN : 100 < N) (h : RI r nb nt) (hi : RM I m r nb nt) : ∃ I', F_X4_ageTraders N (wm Mb I L) m = some (wm Mb I' L) ∧ RM I' m (agL nt 0 r) nb nt ∧ FR m I I' := by
  have h24 := h.nt24
  unfold F_X4_ageTraders
  exact cx_agL hm hN nt 0 N I r h hi (by omega) (by omega)
end
