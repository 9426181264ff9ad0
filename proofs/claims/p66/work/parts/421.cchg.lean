/-! the class's calls that change, over the row alone; what they leave of day, coins -/
variable {Mb : SMem}
def KP (nt : Nat) (r r' : Nat → Int32) : Prop := r' 9 = r 9 ∧ r' 6 = r 6 ∧ tot r' nt = tot r nt
def CI (I : kInts) (r : Nat → Int32) (nb nt : Nat) : Prop := (RI r nb nt ∧ r 9 = nI (tot r nt)) ∧ RM I 44 r nb nt ∧ (∀ m, m ∈ mks → Nu I m) ∧ (∃ nx u, nx < 8 ∧ u ≤ 8 ∧ I 126 1 = nI nx ∧ I 126 2 = nI u) ∧ ∃ n, n ≤ 800 ∧ I 2 1 = nI n
section
variable {N : Nat} {I I' : kInts} {L : kLngs} {r r' r2 : Nat → Int32} {nb nt s t b a q b2 q2 : Nat}
theorem KP.rf' : KP nt r r := ⟨rfl, rfl, rfl⟩
theorem KP.trans (h : KP nt r r') (h2 : KP nt r' r2) : KP nt r r2 := ⟨h2.1.trans h.1, h2.2.1.trans h.2.1, h2.2.2.trans h.2.2⟩
theorem KP.of (e : ∀ k, k = 5 ∨ k = 6 ∨ k = 9 ∨ (∃ t, t < nt ∧ k = 89 + 7 * t + 2) → r' k = r k) : KP nt r r' := by
  refine ⟨e 9 (by omega), e 6 (by omega), ?_⟩
  unfold tot
  rw [e 5 (by omega), sumN_congr (f := pu r) (fun i hi => by unfold pu; rw [e _ (Or.inr (Or.inr (Or.inr ⟨i, hi, rfl⟩)))])]
theorem KP_mv (h : RIc r nt) (h24 : nt ≤ 24) {i j : Nat} (hi : cl nt i) (hj : cl nt j) (hij : i ≠ j) {c : Int32} (hc : nn c) : KP nt r (mvR r i j c) := by
  obtain ⟨x, y, d, e1, e2, e3, e4, e5, e6, e7, e8, -⟩ := mv_num h h24 hi hj hij hc
  have ci : ∀ {i}, cl nt i → i ≠ 9 ∧ i ≠ 6 := fun {i} hi => by
    rcases hi with z | ⟨t, ht, z⟩ <;> omega
  have i9 := ci hi
  have j9 := ci hj
  refine ⟨mvR_ne (by omega) (by omega), mvR_ne (by omega) (by omega), ?_⟩
  rw [e8]
  have t1 := tot_set (nt := nt) (r := r) hi e1 (show x < 2147483648 by omega) (show x - d < 2147483648 by omega)
  have e9 : setr r i (nI (x - d)) j = nI y := (setr_ne (fun z => hij z.symm)).trans e2
  have t2 := tot_set (nt := nt) (r := setr r i (nI (x - d))) hj e9 (show y < 2147483648 by omega) (show y + d < 2147483648 by omega)
  omega
theorem KP_ris (hR : RI r nb nt) (ht : t < nt) : KP nt r (riS r t) := KP.of (fun k hk => riS_ne hR ht (by omega) (by omega) (by omega))
theorem KP_eaS (hR : RI r nb nt) (ht : t < nt) : KP nt r (eaS r nt t) := by
  have h24 := hR.nt24
  unfold eaS
  by_cases c : r (89 + 7 * t + 5) = -1
  · rw [if_pos c]; exact KP.rf'
  · rw [if_neg c]
    obtain ⟨b, q, hs⟩ := hR.seat ht c
    obtain ⟨i1, i2⟩ := hR.inc hs
    by_cases c2 : 0 < r 0 + oh r nt t
    · rw [if_pos c2]
      exact KP_mv hR.c h24 (Or.inl rfl) (Or.inr ⟨t, ht, rfl⟩) (by omega) (i1 c2)
    · rw [if_neg c2]
      exact KP_mv hR.c h24 (Or.inr ⟨t, ht, rfl⟩) (Or.inl rfl) (by omega) (i2 c2)
theorem KP_eaL : ∀ (k i : Nat) (r : Nat → Int32), RI r nb nt → i + k = nt → KP nt r (eaL nt k i r)
  | 0, _, _, _, _ => KP.rf'
  | k + 1, i, r, h, e => (KP_eaS h (by omega)).trans (KP_eaL k (i + 1) _ (RI_eaS h (by omega)) (by omega))
theorem KP_rc (h24 : nt ≤ 24) (x y : Int32) : KP nt r (rcR r x y) := KP.of (fun k hk => rcR_lo (by omega) (by omega))
theorem KP_set {k : Nat} {v : Int32} (h1 : k ≠ 5 ∧ k ≠ 6 ∧ k ≠ 9) (h2 : ∀ t, t < nt → k ≠ 89 + 7 * t + 2) : KP nt r (setr r k v) := KP.of (fun j hj => setr_ne (by
  rcases hj with z | z | z | ⟨t, ht, z⟩
  · omega
  · omega
  · omega
  · have := h2 t ht; omega))
theorem KP_agS (hR : RI r nb nt) (ht : t < nt) : KP nt r (agS r t) := by
  have h24 := hR.nt24
  unfold agS
  by_cases c : r (89 + 7 * t + 4) = 0
  · rw [if_pos c]; exact KP.rf'
  · rw [if_neg c]
    have k1 : KP nt r (setr r (89 + 7 * t + 3) (r (89 + 7 * t + 3) + 1)) := KP_set (by omega) (fun u hu => by omega)
    by_cases c2 : r 3 < r (89 + 7 * t + 3) + 1
    · rw [if_pos c2]
      have hR1 := RI_age hR (t := t) (r (89 + 7 * t + 3) + 1)
      have hR2 := RI_riS hR1 ht
      unfold rtR
      refine (((k1.trans (KP_ris hR1 ht)).trans (KP_mv hR2.c h24 (Or.inr ⟨t, ht, rfl⟩) (Or.inl rfl) (by omega) (hR2.c.2.1 t ht))).trans (KP_set (by omega) (fun u hu => by omega))).trans (KP_rc h24 _ _)
    · rw [if_neg c2]; exact k1
theorem KP_agL : ∀ (k i : Nat) (r : Nat → Int32), RI r nb nt → i + k = nt → KP nt r (agL k i r)
  | 0, _, _, _, _ => KP.rf'
  | k + 1, i, r, h, e => (KP_agS h (by omega)).trans (KP_agL k (i + 1) _ (RI_agS h (by omega)) (by omega))
theorem KP_tpS (hR : RI r nb nt) (ht : t < nt) (hs : st r nb t b q) : KP nt r (tpS r t) := by
  have h24 := hR.nt24
  have hR2 := RI_riS hR ht
  unfold tpS tp0
  exact (((KP_ris hR ht).trans (KP_mv hR2.c h24 (Or.inr ⟨t, ht, rfl⟩) (Or.inl rfl) (by omega) (nn_fine hR2))).trans (KP_rc h24 _ _)).trans (KP_set (by omega) (fun u hu => by omega))
theorem KP_tpL (hb : b < nb) : ∀ (k : Nat) (r : Nat → Int32), RI r nb nt → KP nt r (tpL nt b k r)
  | 0, _, _ => KP.rf'
  | k + 1, r, h => by
    show KP nt r (if tmu r b (tqr r nt b) = 0 then r else tpL nt b k (tpS r (fa r nt b)))
    by_cases c : tmu r b (tqr r nt b) = 0
    · rw [if_pos c]; exact KP.rf'
    · rw [if_neg c]
      obtain ⟨q, h1, h2⟩ := fa_st h hb c
      exact (KP_tpS h h1 h2).trans (KP_tpL hb k _ (RI_tpS h h1 h2))
theorem KP_tbL : ∀ (k i : Nat) (r : Nat → Int32), RI r nb nt → i + k = nb → KP nt r (tbL nt k i r)
  | 0, _, _, _, _ => KP.rf'
  | k + 1, i, r, h, e => (KP_tpL (by omega) 12 r h).trans (KP_tbL k (i + 1) _ (RI_tpL (by omega) 12 r h) (by omega))
theorem KP_dy (hR : RI r nb nt) : dyR nb nt r 9 = r 9 ∧ dyR nb nt r 6 = r 6 + 1 ∧ tot (dyR nb nt r) nt = tot r nt := by
  have hR1 := RI_6 hR (r 6 + 1)
  have hR2 := RI_eaL nt 0 _ hR1 (by omega)
  have hR3 := RI_agL nt 0 _ hR2 (by omega)
  have k1 := ((KP_eaL nt 0 _ hR1 (by omega)).trans (KP_agL nt 0 _ hR2 (by omega))).trans (KP_tbL nb 0 _ hR3 (by omega))
  have e : tot (setr r 6 (r 6 + 1)) nt = tot r nt := by
    unfold tot
    rw [setr_ne (show 5 ≠ 6 by decide), sumN_congr (f := pu r) (fun i hi => by unfold pu; rw [setr_ne (by omega)])]
  exact ⟨k1.1.trans (setr_ne (by decide)), k1.2.1.trans setr_eq, k1.2.2.trans e⟩
theorem KP_dyN : ∀ (k d : Nat) (r : Nat → Int32), RI r nb nt → r 6 = nI d → dyN nb nt k r 9 = r 9 ∧ dyN nb nt k r 6 = nI (d + k) ∧ tot (dyN nb nt k r) nt = tot r nt
  | 0, d, r, h, e => ⟨rfl, e, rfl⟩
  | k + 1, d, r, h, e => by
    obtain ⟨d1, d2, d3⟩ := KP_dy h
    obtain ⟨e1, e2, e3⟩ := KP_dyN k (d + 1) (dyR nb nt r) (RI_dyR h) (by rw [d2, e, nI_1])
    refine ⟨e1.trans d1, ?_, e3.trans d3⟩
    show dyN nb nt k (dyR nb nt r) 6 = _
    rw [e2]
    congr 1
    omega
theorem KP_bu (hR : RI r nb nt) (ht : t < nt) (hb : b < nb) (hq : q < 13) : KP nt r (buR r nt t b q) := by
  have h24 := hR.nt24
  have h5 := hR.nb5
  obtain ⟨k, hk, ek⟩ := pr_num hR (b := b) hq
  have hc : nn (prS r nt b (pz q)) := by rw [ek]; exact nn_nI (by omega)
  have l1 := si_lt (show b < 5 by omega) hq
  have l2 := @si_ge b q
  have k1 := KP_mv hR.c h24 (i := 89 + 7 * t + 2) (Or.inr ⟨t, ht, rfl⟩) (Or.inl rfl) (by omega) hc
  unfold buR
  have k2 : KP nt (mvR r (89 + 7 * t + 2) 5 (prS r nt b (pz q))) (riS (mvR r (89 + 7 * t + 2) 5 (prS r nt b (pz q))) t) := by
    refine KP.of (fun k hk => ?_)
    unfold riS
    split
    · rfl
    · next c =>
      have hs : ∃ b2 q2, st r nb t b2 q2 := hR.seat ht (by rw [mvR_ne (by omega) (by omega)] at c; exact c)
      obtain ⟨b2, q2, hs⟩ := hs
      have hb2 : b2 < 5 := by have := hs.1; omega
      have e1 : kx (mvR r (89 + 7 * t + 2) 5 (prS r nt b (pz q)) (89 + 7 * t + 5)) = b2 := by rw [mvR_ne (by omega) (by omega)]; exact hs.kxb h5
      have e2 : kx (mvR r (89 + 7 * t + 2) 5 (prS r nt b (pz q)) (89 + 7 * t + 6) + 6) = q2 := by
        rw [mvR_ne (by omega) (by omega), hs.2.2.2.2.1, pz_p6]
        exact kx_nI (by have := hs.q13; omega)
      rw [e1, e2]
      have m1 := si_lt hb2 hs.q13
      have m2 := @si_ge b2 q2
      exact riR_ne (by omega) (by omega) (by omega)
  exact ((k1.trans k2).trans (KP.of (fun k hk => siR_ne (by omega) (by omega) (by omega)))).trans (KP_set (by omega) (fun u hu => by omega))
theorem KP_se (hR : RI r nb nt) {u : Nat} (hs : s < nt) (ht : t < nt) (hst : s ≠ t) (hu : u ≤ 50) (k1 : st r nb s b q) (k2 : st r nb t b2 q2) : KP nt r (seR r nt s t (nI u)) := by
  have h24 := hR.nt24
  obtain ⟨k, hk, ek⟩ := upr_num hR k1 k2
  have hUk : u * k ≤ 50 * 300 := Nat.mul_le_mul hu hk.2
  have hc : nn (nI u * uprS r nt s t) := by
    rw [ek, pk_mul]
    exact nn_nI (by omega)
  unfold seR
  exact (((KP_mv hR.c h24 (Or.inr ⟨t, ht, rfl⟩) (Or.inr ⟨s, hs, rfl⟩) (by omega) hc).trans (KP_set (by omega) (fun u hu => by omega))).trans (KP_set (by omega) (fun u hu => by omega))).trans (KP_set (by omega) (fun u hu => by omega))
theorem KP_sw (hR : RI r nb nt) (hs : s < nt) (ht : t < nt) (hst : s ≠ t) (k1 : st r nb s b q) (k2 : st r nb t b2 q2) : KP nt r (swR r nt s t b q b2 q2) := by
  have h24 := hR.nt24
  have h5 := hR.nb5
  have hr := rise hR k1 k2
  have l1 := si_lt (show b < 5 by have := k1.1; omega) k1.q13
  have l2 := si_lt (show b2 < 5 by have := k2.1; omega) k2.q13
  have m1 := @si_ge b q
  have m2 := @si_ge b2 q2
  have kM : KP nt r (swM r nt s t) := by
    unfold swM
    split
    · next c => exact KP_mv hR.c h24 (Or.inr ⟨s, hs, rfl⟩) (Or.inr ⟨t, ht, rfl⟩) (by omega) (hr.1 c).1
    · next c => exact KP_mv hR.c h24 (Or.inr ⟨t, ht, rfl⟩) (Or.inr ⟨s, hs, rfl⟩) (by omega) (hr.2 c).1
  unfold swR
  exact kM.trans (KP.of (fun k hk => (siR_ne (by omega) (by omega) (by omega)).trans (siR_ne (by omega) (by omega) (by omega))))
/-- a change: recorded, then made in the market -/
theorem CI.chg (h : CI I r nb nt) (hN : 1000 < N) : ∃ I1, F_X3_record N (wm Mb I L) 126 44 = some (wm Mb I1 L) ∧ RM I1 44 r nb nt ∧ (∀ I2 r', FR 44 I1 I2 → RM I2 44 r' nb nt → RI r' nb nt → r' 9 = nI (tot r' nt) → CI I2 r' nb nt ∧ ∀ a j, 539 < a → I2 a j = I a j) := by
  obtain ⟨⟨hR, h9⟩, hM, hNu, ⟨nx, u, h8, hu, e1, e2⟩, n, hn, en⟩ := h
  obtain ⟨I1, a1, a2, a3, a4, a5, a6⟩ := cx_record (Mb := Mb) (N := N) (I := I) (L := L) h8 hu e1 e2 hNu hN
  have hx := hs_of h8
  have hM1 : RM I1 44 r nb nt := hM.cI hR.nb5 hR.nt24 (fun a j y1 y2 => a6 a j (by omega) (by omega))
  refine ⟨I1, a1, hM1, fun I2 r' hF hM2 hR2 h92 => ⟨⟨⟨hR2, h92⟩, hM2, fun m hm => ?_, ⟨(nx + 1) % 8, min (u + 1) 8, Nat.mod_lt _ (by decide), by omega, (hF 126 1 (by omega)).trans a4, (hF 126 2 (by omega)).trans a5⟩, n, hn, ?_⟩, fun a j ha => ?_⟩⟩
  · by_cases y : m = 44
    · rw [y]; exact hM2.nu
    · have hm' := hm
      simp only [mks, List.mem_cons, List.not_mem_nil, or_false] at hm'
      by_cases w : m = hs nx
      · rw [w]
        exact a3.kp (fun x j y1 y2 => hF x j (by omega))
      · refine (hNu m hm).kp (fun x j y1 y2 => ?_)
        rw [hF x j (by omega)]
        exact a6 x j (by omega) (by omega)
  · rw [hF 2 1 (by omega), a6 2 1 (by omega) (by omega)]
    exact en
  · rw [hF a j (by omega), a6 a j (by omega) (by omega)]
theorem cl_buySeat (h : CI I r nb nt) (ht : t < nt) (hb : b < nb) (ha : r (14 + 15 * b + 0) = nI a) (ha6 : a ≤ 6) (h1 : 6 - a ≤ q) (h2 : q ≤ 6 + a) (h6 : q ≠ 6) (h0 : aSeat r nt t b q = 0) (hN : 1000 < N) : ∃ I', F_X11_buySeat N (wm Mb I L) 1 (nI t) (nI b) (pz q) = some (prS r nt b (pz q), wm Mb I' L) ∧ CI I' (buR r nt t b q) nb nt ∧ ∀ a j, 539 < a → I' a j = I a j := by
  have hR := h.1.1
  have hM := h.2.1
  obtain ⟨I1, a1, a2, a3⟩ := h.chg (Mb := Mb) (L := L) hN
  obtain ⟨I2, b1, b2, b3⟩ := cx_sells (Mb := Mb) (N := N) (L := L) m169 (by omega) hR a2 ht hb (show q < 13 by omega) h6 h0
  have k := KP_bu hR ht hb (show q < 13 by omega)
  obtain ⟨c1, c2⟩ := a3 I2 _ b3 b2 (RI_bu hR ht hb ha ha6 h1 h2 h6 h0) (by rw [k.1, k.2.2]; exact h.1.2)
  refine ⟨I2, ?_, c1, c2⟩
  unfold F_X11_buySeat F_X11_requirePossible
  simp only [wm_kR, wm_kt, wm_kn, wm_kin, wm_kL, wm_kI, wm_ksI, wm_ksL, wm_kJ, wm_ksJ, kg_t, kl_v, Option.bind_some, x1k, x14, x16, t126, mm_k m169, c_exT hR hM ht, c_bws hR hM hb ha ha6 h1 h2 h6, cx_aSeat m169 hR hM ht hb ha ha6 h1 h2 h6 (show 100 < N by omega), h0, if_true, a1, b1]
theorem cl_sellWeight {u : Nat} (h : CI I r nb nt) (hs : s < nt) (ht : t < nt) (hst : s ≠ t) (hu1 : 1 ≤ u) (hu : u < 10) (h0 : aSale r nt s t (nI u) = 0) (hN : 1000 < N) : ∃ I', F_X11_sellWeight N (wm Mb I L) 1 (nI s) (nI t) (nI u) = some (nI u * uprS r nt s t, wm Mb I' L) ∧ CI I' (seR r nt s t (nI u)) nb nt ∧ ∀ a j, 539 < a → I' a j = I a j := by
  have hR := h.1.1
  have hM := h.2.1
  have h24 := hR.nt24
  obtain ⟨c1, c2, -, -, -⟩ := aSale_0 h0
  obtain ⟨b, q, k1⟩ := hR.seat hs c1
  obtain ⟨b2, q2, k2⟩ := hR.seat ht c2
  obtain ⟨I1, a1, a2, a3⟩ := h.chg (Mb := Mb) (L := L) hN
  obtain ⟨I2, b1, b2, b3⟩ := cx_moveW (Mb := Mb) (N := N) (L := L) m169 (by omega) hR a2 hs ht hst h0
  have k := KP_se hR hs ht hst (show u ≤ 50 by omega) k1 k2
  obtain ⟨d1, d2⟩ := a3 I2 _ b3 b2 (RI_se hR hs ht hst hu1 (by omega) h0) (by rw [k.1, k.2.2]; exact h.1.2)
  obtain ⟨g1, g2⟩ := u10 u hu hu1
  refine ⟨I2, ?_, d1, d2⟩
  unfold F_X11_sellWeight F_X11_requirePossible
  simp only [wm_kR, wm_kt, wm_kn, wm_kin, wm_kL, wm_kI, wm_ksI, wm_ksL, wm_kJ, wm_ksJ, kg_t, kl_v, Option.bind_some, x1k, x14, x16, t126, mm_k m169, c_exT hR hM hs, c_exT hR hM ht, c_dif _ (show s < 1000 by omega) (show t < 1000 by omega) hst, c_rng _ g1 g2, cx_aSale m169 hR hM hs ht (nI u) (show 100 < N by omega), h0, if_true, a1, b1]
theorem cl_swapSeats (h : CI I r nb nt) (hs : s < nt) (ht : t < nt) (hst : s ≠ t) (k1 : st r nb s b q) (k2 : st r nb t b2 q2) (h0 : aSwap r nt s t = 0) (hN : 1000 < N) : ∃ I', F_X11_swapSeats N (wm Mb I L) 1 (nI s) (nI t) = some (oh r nt t - oh r nt s, wm Mb I' L) ∧ CI I' (swR r nt s t b q b2 q2) nb nt ∧ ∀ a j, 539 < a → I' a j = I a j := by
  have hR := h.1.1
  have hM := h.2.1
  have h24 := hR.nt24
  obtain ⟨I1, a1, a2, a3⟩ := h.chg (Mb := Mb) (L := L) hN
  obtain ⟨I2, b1, b2, b3⟩ := cx_exch (Mb := Mb) (N := N) (L := L) m169 (by omega) hR a2 hs ht hst k1 k2 (aSwap_0 h0).2.2
  have k := KP_sw hR hs ht hst k1 k2
  obtain ⟨d1, d2⟩ := a3 I2 _ b3 b2 (RI_sw hR hs ht hst k1 k2) (by rw [k.1, k.2.2]; exact h.1.2)
  refine ⟨I2, ?_, d1, d2⟩
  unfold F_X11_swapSeats F_X11_requirePossible
  simp only [wm_kR, wm_kt, wm_kn, wm_kin, wm_kL, wm_kI, wm_ksI, wm_ksL, wm_kJ, wm_ksJ, kg_t, kl_v, Option.bind_some, x1k, x14, x16, t126, mm_k m169, c_exT hR hM hs, c_exT hR hM ht, c_dif _ (show s < 1000 by omega) (show t < 1000 by omega) hst, cx_aSwap m169 hR hM hs ht (show 100 < N by omega), h0, if_true, a1, b1]
theorem w20 : ∀ w, w ≤ 20 → ¬ nI w < 0 ∧ ¬ (20 : Int32) < nI w := by decide
theorem cl_setWage {w : Nat} (h : CI I r nb nt) (hw : w ≤ 20) (hN : 1000 < N) : ∃ I', F_X11_setWage N (wm Mb I L) 1 (nI w) = some (r 0, wm Mb I' L) ∧ CI I' (setr r 0 (nI w)) nb nt ∧ ∀ a j, 539 < a → I' a j = I a j := by
  have hR := h.1.1
  have hM := h.2.1
  obtain ⟨I1, a1, a2, a3⟩ := h.chg (Mb := Mb) (L := L) hN
  have b2 := RM_g2 a2 hR.nb5 hR.nt24 (nI w)
  have k : KP nt r (setr r 0 (nI w)) := KP_set (by omega) (fun u hu => by omega)
  obtain ⟨d1, d2⟩ := a3 (up I1 44 2 (nI w)) _ ((FR.rfl' (m := 44)).up (by omega) (by omega)) b2 (RI_wage hR hw) (by rw [k.1, k.2.2]; exact h.1.2)
  obtain ⟨g1, g2⟩ := w20 w hw
  refine ⟨_, ?_, d1, d2⟩
  unfold F_X11_setWage
  simp only [wm_kR, wm_kt, wm_kn, wm_kin, wm_kL, wm_kI, wm_ksI, wm_ksL, wm_kJ, wm_ksJ, kg_t, kl_v, Option.bind_some, x1k, x14, x16, t126, mm_k m169, c_rng _ g1 g2, a1, a2.g.2.2.1]
theorem d30 : ∀ D, 1 ≤ D ∧ D ≤ 6 → ¬ nI D < 1 ∧ ¬ (30 : Int32) < nI D := fun D h => by
  have : D = 1 ∨ D = 2 ∨ D = 3 ∨ D = 4 ∨ D = 5 ∨ D = 6 := by omega
  rcases this with rfl | rfl | rfl | rfl | rfl | rfl <;> decide
theorem cl_advance {D d : Nat} (h : CI I r nb nt) (hD : 1 ≤ D ∧ D ≤ 6) (hd : r 6 = nI d) (hd2 : d ≤ 1000) (hN : 1000 < N) : ∃ I', F_X11_advance N (wm Mb I L) 1 (nI D) = some (dyN nb nt D r 12 - r 12, wm Mb I' L) ∧ CI I' (dyN nb nt D r) nb nt ∧ ∀ a j, 539 < a → I' a j = I a j := by
  have hR := h.1.1
  have hM := h.2.1
  obtain ⟨I1, a1, a2, a3⟩ := h.chg (Mb := Mb) (L := L) hN
  obtain ⟨I2, b1, b2, b3⟩ := cx_days (Mb := Mb) (N := N) (L := L) m169 (by omega) hR a2 (show D ≤ 100 by omega)
  have k := KP_dyN D d r hR hd
  obtain ⟨d1, d2⟩ := a3 I2 _ b3 b2 (RI_dyN D r hR) (by rw [k.1, k.2.2]; exact h.1.2)
  obtain ⟨g1, g2⟩ := d30 D hD
  have hday : ¬ (9999 : Int32) < I 44 0 + nI D := by
    rw [hM.g.1, hd, nI_add, show (9999 : Int32) = nI 9999 from rfl, nI_ltI (by decide) (by omega)]
    omega
  refine ⟨I2, ?_, d1, d2⟩
  unfold F_X11_advance F_X4_allowsDays
  simp only [wm_kR, wm_kt, wm_kn, wm_kin, wm_kL, wm_kI, wm_ksI, wm_ksL, wm_kJ, wm_ksJ, kg_t, kl_v, Option.bind_some, x1k, x14, x16, t126, mm_k m169, c_rng _ g1 g2, if_neg hday, if_neg (show ¬ (1 : Int32) = 0 by decide), a1, b1]
end
