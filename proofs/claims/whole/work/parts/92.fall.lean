/-! daysUntilFall -/
/-- what a walk did to trader t: nothing, or it fell -/
def fB (t : Nat) (r f r' f' : Nat → Int32) : Prop := (f' t = f t ∧ r' (89 + 7 * t + 5) = r (89 + 7 * t + 5)) ∨ (f' t = 1 ∧ ¬ r (89 + 7 * t + 5) = -1 ∧ r' (89 + 7 * t + 5) = -1)
/-- the first of k days, after i days, at whose end t has fallen -/
def duf (nb nt t : Nat) : Nat → Nat → (Nat → Int32) → Int32
  | 0, _, _ => -1
  | k + 1, i, r => if r (89 + 7 * t + 5) = -1 then -1 else if dyR nb nt r (89 + 7 * t + 4) = 0 then duf nb nt t k (i + 1) (dyR nb nt r) else if dyR nb nt r (89 + 7 * t + 5) = -1 then nI (i + 1) else duf nb nt t k (i + 1) (dyR nb nt r)
section
variable {N : Nat} {I : kInts} {L : kLngs} {r f : Nat → Int32} {nb nt m t : Nat}
theorem duf_u : ∀ (k i : Nat) (r : Nat → Int32), r (89 + 7 * t + 5) = -1 → duf nb nt t k i r = -1
  | 0, _, _, _ => rfl
  | k + 1, i, r, h => by unfold duf; rw [if_pos h]
theorem fB_tr {r1 f1 r2 f2 : Nat → Int32} (h1 : fB t r f r1 f1) (h2 : fB t r1 f1 r2 f2) : fB t r f r2 f2 := by
  rcases h1 with ⟨a, b⟩ | ⟨a, b, c⟩
  · rcases h2 with ⟨d, e⟩ | ⟨d, e, g⟩
    · exact Or.inl ⟨d.trans a, e.trans b⟩
    · exact Or.inr ⟨d, by rw [← b]; exact e, g⟩
  · rcases h2 with ⟨d, e⟩ | ⟨d, e, g⟩
    · exact Or.inr ⟨d.trans a, b, e.trans c⟩
    · exact absurd c e
theorem fB_S (h : RI r nb nt) (ht : t < nt) {a b q : Nat} (ha : a < nt) (hs : st r nb a b q) : fB t r f (tpS r a) (setr f a 1) ∧ tpS r a (89 + 7 * t + 4) = r (89 + 7 * t + 4) := by
  have h5 := h.nb5
  have h24 := h.nt24
  have q7 := si_lt (show b < 5 from Nat.lt_of_lt_of_le hs.1 h5) hs.q13
  have q8 := @si_ge b q
  refine ⟨?_, tpS_lo h ha hs (by omega) (by omega) (by omega) (by omega) (by omega) (by omega) (by omega) (by omega)⟩
  by_cases e : t = a
  · subst e
    refine Or.inr ⟨setr_eq, ?_, ?_⟩
    · rw [hs.2.2.2.1]
      have := hs.1
      intro z
      have z2 := congrArg Int32.toInt z
      rw [nI_toInt (by omega)] at z2
      have : (-1 : Int32).toInt = -1 := by decide
      omega
    · unfold tpS tp0
      rw [setr_ne (by omega), rcR_lo (by omega) (by omega), mvR_ne (by omega) (by omega)]
      exact (riS_5 h ha).1
  · exact Or.inl ⟨setr_ne e, tpS_lo h ha hs (by omega) (by omega) (by omega) (by omega) (by omega) (by omega) (by omega) (by omega)⟩
theorem fB_tpL (ht : t < nt) {b : Nat} (hb : b < nb) : ∀ (k : Nat) (r f : Nat → Int32), RI r nb nt → fB t r f (tpL nt b k r) (tpF nt b k r f) ∧ tpL nt b k r (89 + 7 * t + 4) = r (89 + 7 * t + 4)
  | 0, r, f, _ => ⟨Or.inl ⟨rfl, rfl⟩, rfl⟩
  | k + 1, r, f, h => by
    unfold tpL tpF
    by_cases c : tmu r b (tqr r nt b) = 0
    · rw [if_pos c, if_pos c]
      exact ⟨Or.inl ⟨rfl, rfl⟩, rfl⟩
    · rw [if_neg c, if_neg c]
      obtain ⟨q, ha, hs⟩ := fa_st h hb c
      have h1 := fB_S (f := f) h ht ha hs
      have h2 := fB_tpL ht hb k (tpS r (fa r nt b)) (setr f (fa r nt b) 1) (RI_tpS h ha hs)
      exact ⟨fB_tr h1.1 h2.1, h2.2.trans h1.2⟩
theorem fB_tbL (ht : t < nt) : ∀ (k i : Nat) (r f : Nat → Int32), RI r nb nt → i + k = nb → fB t r f (tbL nt k i r) (tbF nt k i r f) ∧ tbL nt k i r (89 + 7 * t + 4) = r (89 + 7 * t + 4)
  | 0, _, r, f, _, _ => ⟨Or.inl ⟨rfl, rfl⟩, rfl⟩
  | k + 1, i, r, f, h, e => by
    have h1 := fB_tpL ht (show i < nb by omega) 12 r f h
    have h2 := fB_tbL ht k (i + 1) (tpL nt i 12 r) (tpF nt i 12 r f) (RI_tpL (by omega) 12 r h) (by omega)
    exact ⟨fB_tr h1.1 h2.1, h2.2.trans h1.2⟩
theorem eaS_45 {s : Nat} : eaS r nt s (89 + 7 * t + 4) = r (89 + 7 * t + 4) ∧ eaS r nt s (89 + 7 * t + 5) = r (89 + 7 * t + 5) := by
  unfold eaS
  split
  · exact ⟨rfl, rfl⟩
  · split
    · exact ⟨mvR_ne (by omega) (by omega), mvR_ne (by omega) (by omega)⟩
    · exact ⟨mvR_ne (by omega) (by omega), mvR_ne (by omega) (by omega)⟩
theorem eaL_45 : ∀ (k i : Nat) (r : Nat → Int32), eaL nt k i r (89 + 7 * t + 4) = r (89 + 7 * t + 4) ∧ eaL nt k i r (89 + 7 * t + 5) = r (89 + 7 * t + 5)
  | 0, _, _ => ⟨rfl, rfl⟩
  | k + 1, i, r => ⟨(eaL_45 k (i + 1) _).1.trans eaS_45.1, (eaL_45 k (i + 1) _).2.trans eaS_45.2⟩
/-- a birthday leaves a trader as it was, or retires it -/
def rtB (t : Nat) (r r' : Nat → Int32) : Prop := (r' (89 + 7 * t + 4) = r (89 + 7 * t + 4) ∧ r' (89 + 7 * t + 5) = r (89 + 7 * t + 5)) ∨ (r' (89 + 7 * t + 4) = 0 ∧ r' (89 + 7 * t + 5) = -1)
theorem riS_o (h : RI r nb nt) {s : Nat} (hs : s < nt) (e : t ≠ s) : riS r s (89 + 7 * t + 5) = r (89 + 7 * t + 5) := riS_ne h hs (by omega) (by omega) (by omega)
theorem agS_45 (h : RI r nb nt) (ht : t < nt) {s : Nat} (hs : s < nt) : rtB t r (agS r s) := by
  have h24 := h.nt24
  unfold agS
  split
  · exact Or.inl ⟨rfl, rfl⟩
  · split
    · have hA := RI_age h (t := s) (r (89 + 7 * s + 3) + 1)
      unfold rtR
      by_cases e : t = s
      · subst e
        refine Or.inr ⟨?_, ?_⟩
        · rw [rcR_lo (by omega) (by omega)]
          exact setr_eq
        · rw [rcR_lo (by omega) (by omega), setr_ne (by omega), mvR_ne (by omega) (by omega)]
          exact (riS_5 hA hs).1
      · refine Or.inl ⟨?_, ?_⟩
        · rw [rcR_lo (by omega) (by omega), setr_ne (by omega), mvR_ne (by omega) (by omega), riS_ne hA hs (by omega) (by omega) (by omega), setr_ne (by omega)]
        · rw [rcR_lo (by omega) (by omega), setr_ne (by omega), mvR_ne (by omega) (by omega), riS_ne hA hs (by omega) (by omega) (by omega), setr_ne (by omega)]
    · exact Or.inl ⟨setr_ne (by omega), setr_ne (by omega)⟩
theorem rtB_tr {r1 r2 : Nat → Int32} (h1 : rtB t r r1) (h2 : rtB t r1 r2) : rtB t r r2 := by
  rcases h2 with ⟨c, d⟩ | h2
  · rcases h1 with ⟨a, b⟩ | ⟨a, b⟩
    · exact Or.inl ⟨c.trans a, d.trans b⟩
    · exact Or.inr ⟨c.trans a, d.trans b⟩
  · exact Or.inr h2
theorem agL_45 (ht : t < nt) : ∀ (k i : Nat) (r : Nat → Int32), RI r nb nt → i + k = nt → rtB t r (agL k i r)
  | 0, _, _, _, _ => Or.inl ⟨rfl, rfl⟩
  | k + 1, i, r, h, e => rtB_tr (agS_45 h ht (by omega)) (agL_45 ht k (i + 1) _ (RI_agS h (by omega)) (by omega))
theorem mdR_45 (h : RI r nb nt) (ht : t < nt) : rtB t r (mdR nt r) := by
  have h1 := RI_6 h (r 6 + 1)
  have h2 := RI_eaL nt 0 _ h1 (by omega)
  have h3 := eaL_45 (nt := nt) (t := t) nt 0 (setr r 6 (r 6 + 1))
  have h4 := agL_45 ht nt 0 _ h2 (by omega)
  unfold mdR
  refine rtB_tr (Or.inl ⟨?_, ?_⟩) h4
  · rw [h3.1, setr_ne (by omega)]
  · rw [h3.2, setr_ne (by omega)]
/-- a day of one who isn't seated -/
theorem day_un (h : RI r nb nt) (ht : t < nt) (hu : r (89 + 7 * t + 5) = -1) : dyF nb nt r f t = f t ∧ dyR nb nt r (89 + 7 * t + 5) = -1 := by
  have h1 := mdR_45 h ht
  have h2 := (fB_tbL (f := f) ht nb 0 _ (RI_md h) (by omega)).1
  have h3 : mdR nt r (89 + 7 * t + 5) = -1 := by
    rcases h1 with ⟨-, b⟩ | ⟨-, b⟩
    · exact b.trans hu
    · exact b
  rcases h2 with ⟨a, b⟩ | ⟨a, b, c⟩
  · exact ⟨a, b.trans h3⟩
  · exact absurd h3 b
/-- a day of one who is seated -/
theorem day_se (h : RI r nb nt) (ht : t < nt) (hu : ¬ r (89 + 7 * t + 5) = -1) (hf : f t = 0) : (dyF nb nt r f t = 0 ∧ ¬ dyR nb nt r (89 + 7 * t + 4) = 0 ∧ ¬ dyR nb nt r (89 + 7 * t + 5) = -1) ∨ (dyF nb nt r f t = 1 ∧ ¬ dyR nb nt r (89 + 7 * t + 4) = 0 ∧ dyR nb nt r (89 + 7 * t + 5) = -1) ∨ (dyF nb nt r f t = 0 ∧ dyR nb nt r (89 + 7 * t + 4) = 0 ∧ dyR nb nt r (89 + 7 * t + 5) = -1) := by
  obtain ⟨b, q, hs⟩ := h.seat ht hu
  have hp := h.pres ht hs
  have h1 := mdR_45 h ht
  obtain ⟨h2, h4⟩ := fB_tbL (f := f) ht nb 0 _ (RI_md h) (by omega)
  have one : ¬ (1 : Int32) = 0 := by decide
  rcases h1 with ⟨a1, a2⟩ | ⟨a1, a2⟩
  · have e4 : ¬ dyR nb nt r (89 + 7 * t + 4) = 0 := by
      intro z
      have e : dyR nb nt r (89 + 7 * t + 4) = 1 := (h4.trans a1).trans hp
      rw [e] at z
      exact one z
    rcases h2 with ⟨c, d⟩ | ⟨c, d, g⟩
    · refine Or.inl ⟨c.trans hf, e4, ?_⟩
      intro z
      exact hu ((a2.symm.trans d.symm).trans z)
    · exact Or.inr (Or.inl ⟨c, e4, g⟩)
  · rcases h2 with ⟨c, d⟩ | ⟨c, d, g⟩
    · exact Or.inr (Or.inr ⟨c.trans hf, h4.trans a1, d.trans a2⟩)
    · exact absurd a2 d
/-! the loops -/
theorem rx_dufU (hN : 200 < N) (ht : t < nt) : ∀ (k i n : Nat) (r f : Nat → Int32), RI r nb nt → i + k = 100 → k < n → f t = 0 → r (89 + 7 * t + 5) = -1 → ∃ r' f' x', F_X12_daysUntilFall_37 N n (wm Mb (rf I r f) L) 540 (nI t) (nI i) = F_X12_daysUntilFall_62 N (wm Mb (rf I r' f') L) 540 (nI t) x' ∧ f' t = 0
  | k, i, 0, r, f, _, _, h, _, _ => absurd h (Nat.not_lt_zero _)
  | 0, i, n + 1, r, f, h, e, _, hf, hu => by
    refine ⟨r, f, nI i, ?_, hf⟩
    unfold F_X12_daysUntilFall_37
    rw [if_neg (by rw [show (100 : Int32) = nI 100 from rfl, nI_ltI (by omega) (by omega)]; omega)]
  | k + 1, i, n + 1, r, f, h, e, hn, hf, hu => by
    have h24 := h.nt24
    obtain ⟨d1, d2⟩ := day_un (f := f) h ht hu
    obtain ⟨r', f', x', a1, a2⟩ := rx_dufU hN ht k (i + 1) n (dyR nb nt r) (dyF nb nt r f) (RI_dyR h) (by omega) (by omega) (d1.trans hf) d2
    refine ⟨r', f', x', ?_, a2⟩
    rw [← a1, F_X12_daysUntilFall_37]
    rw [if_pos (show nI i < 100 from nI_lt (b := 100) (by omega) (by omega))]
    simp only [wm_kR, wm_kt, wm_kn, wm_kin, wm_kL, wm_kI, wm_ksI, wm_ksL, wm_kJ, wm_ksJ, kg_t, kl_v, Option.bind_some, sr_k, sr_0, sr_1, sr_2, sr_3, sr_4, sr_7, sr_8, sr_9, sr_26, sr_27, sr_28, kin_f (show t < 24 by omega), kx_nI (show t < 2147483648 by omega), rf_f, hf, if_true, rx_day1 (f := f) (show 100 < N by omega) h, nI_1]
theorem rx_duf (hN : 200 < N) (ht : t < nt) : ∀ (k i n : Nat) (r f : Nat → Int32), RI r nb nt → i + k = 100 → k < n → f t = 0 → ∃ r' f' x', F_X12_daysUntilFall_37 N n (wm Mb (rf I r f) L) 540 (nI t) (nI i) = F_X12_daysUntilFall_62 N (wm Mb (rf I r' f') L) 540 (nI t) x' ∧ duf nb nt t k i r = if f' t = 0 then -1 else x'
  | k, i, 0, r, f, _, _, h, _ => absurd h (Nat.not_lt_zero _)
  | 0, i, n + 1, r, f, h, e, _, hf => by
    refine ⟨r, f, nI i, ?_, ?_⟩
    · unfold F_X12_daysUntilFall_37
      rw [if_neg (by rw [show (100 : Int32) = nI 100 from rfl, nI_ltI (by omega) (by omega)]; omega)]
    · rw [if_pos hf]; rfl
  | k + 1, i, n + 1, r, f, h, e, hn, hf => by
    have h24 := h.nt24
    by_cases hu : r (89 + 7 * t + 5) = -1
    · obtain ⟨r', f', x', a1, a2⟩ := rx_dufU (I := I) (L := L) hN ht (k + 1) i (n + 1) r f h e hn hf hu
      exact ⟨r', f', x', a1, by rw [if_pos a2, duf_u _ _ _ hu]⟩
    · have st1 : F_X12_daysUntilFall_37 N (n + 1) (wm Mb (rf I r f) L) 540 (nI t) (nI i) = F_X12_daysUntilFall_37 N n (wm Mb (rf I (dyR nb nt r) (dyF nb nt r f)) L) 540 (nI t) (nI (i + 1)) := by
        rw [F_X12_daysUntilFall_37]
        rw [if_pos (show nI i < 100 from nI_lt (b := 100) (by omega) (by omega))]
        simp only [wm_kR, wm_kt, wm_kn, wm_kin, wm_kL, wm_kI, wm_ksI, wm_ksL, wm_kJ, wm_ksJ, kg_t, kl_v, Option.bind_some, sr_k, sr_0, sr_1, sr_2, sr_3, sr_4, sr_7, sr_8, sr_9, sr_26, sr_27, sr_28, kin_f (show t < 24 by omega), kx_nI (show t < 2147483648 by omega), rf_f, hf, if_true, rx_day1 (f := f) (show 100 < N by omega) h, nI_1]
      rcases day_se h ht hu hf with ⟨d1, d2, d3⟩ | ⟨d1, d2, d3⟩ | ⟨d1, d2, d3⟩
      · obtain ⟨r', f', x', a1, a2⟩ := rx_duf hN ht k (i + 1) n (dyR nb nt r) (dyF nb nt r f) (RI_dyR h) (by omega) (by omega) d1
        refine ⟨r', f', x', st1.trans a1, ?_⟩
        rw [← a2, duf, if_neg hu, if_neg d2, if_neg d3]
      · refine ⟨dyR nb nt r, dyF nb nt r f, nI (i + 1), st1.trans ?_, ?_⟩
        · cases n with
          | zero => omega
          | succ n =>
            rw [F_X12_daysUntilFall_37]
            by_cases c : nI (i + 1) < 100
            · rw [if_pos c]
              simp only [wm_kR, wm_kt, wm_kn, wm_kin, wm_kL, wm_kI, wm_ksI, wm_ksL, wm_kJ, wm_ksJ, kg_t, kl_v, Option.bind_some, sr_k, sr_0, sr_1, sr_2, sr_3, sr_4, sr_7, sr_8, sr_9, sr_26, sr_27, sr_28, kin_f (show t < 24 by omega), kx_nI (show t < 2147483648 by omega), rf_f, d1, if_neg one0]
            · rw [if_neg c]
        · rw [duf, if_neg hu, if_neg d2, if_pos d3, d1, if_neg (by decide)]
      · obtain ⟨r', f', x', a1, a2⟩ := rx_dufU (I := I) (L := L) hN ht k (i + 1) n (dyR nb nt r) (dyF nb nt r f) (RI_dyR h) (by omega) (by omega) d1 d3
        refine ⟨r', f', x', st1.trans a1, ?_⟩
        rw [if_pos a2, duf, if_neg hu, if_pos d2, duf_u _ _ _ d3]
theorem cx_duf (hm : m ∈ mks) (hN : 200 < N) (ht : t < nt) : ∀ (k i n : Nat) (I : kInts) (r : Nat → Int32), RI r nb nt → RM I m r nb nt → i + k = 100 → k < n → ∃ I', F_X4_passDaysUntilFall_2 N n (wm Mb I L) m (tr m t) (nI (i + 1)) = some (duf nb nt t k i r, wm Mb I' L) ∧ (∃ r', RM I' m r' nb nt) ∧ FR m I I'
  | k, i, 0, I, r, _, _, _, h => absurd h (Nat.not_lt_zero _)
  | 0, i, n + 1, I, r, h, hi, e, _ => by
    refine ⟨I, ?_, ⟨r, hi⟩, FR.rfl'⟩
    unfold F_X4_passDaysUntilFall_2
    rw [if_pos (show (100 : Int32) < nI (i + 1) from nI_lt (a := 100) (by omega) (by omega))]
    rfl
  | k + 1, i, n + 1, I, r, h, hi, e, hn => by
    have h24 := h.nt24
    obtain ⟨I1, a1, a2, a3⟩ := cx_days (N := N) (L := L) hm (by omega) h hi (D := 1) (by decide)
    have a2' : RM I1 m (dyR nb nt r) nb nt := a2
    obtain ⟨e2, e3, e4, e5⟩ := a2'.tt t ht
    unfold F_X4_passDaysUntilFall_2
    rw [if_neg (by rw [show (100 : Int32) = nI 100 from rfl, nI_ltI (by omega) (by omega)]; omega), if_neg (by exact tr_ne0)]
    unfold duf
    by_cases hu : r (89 + 7 * t + 5) = -1
    · refine ⟨I, ?_, ⟨r, hi⟩, FR.rfl'⟩
      simp only [wm_kR, wm_kt, wm_kn, wm_kin, wm_kL, wm_kI, wm_ksI, wm_ksL, wm_kJ, wm_ksJ, kg_t, kl_v, Option.bind_some, tt_k hm (show t < 24 by omega), cx_seated hm h24 hi ht, if_pos hu, if_true]
    · rw [show nI 1 = 1 from rfl] at a1
      obtain ⟨I2, b1, b2, b3⟩ := cx_duf hm hN ht k (i + 1) n I1 (dyR nb nt r) (RI_dyR h) a2' (by omega) (by omega)
      simp only [wm_kR, wm_kt, wm_kn, wm_kin, wm_kL, wm_kI, wm_ksI, wm_ksL, wm_kJ, wm_ksJ, kg_t, kl_v, Option.bind_some, tt_k hm (show t < 24 by omega), cx_seated hm h24 hi ht, if_neg hu, if_neg one0, mm_k hm, mm_bs hm, mm_bn hm, mm_ts hm, mm_tn hm, mm_e hm, mm_ek hm, a1, nI_1, cx_seated hm h24 a2' ht]
      have e5' : I1 (tr m t) 5 = dyR nb nt r (89 + 7 * t + 4) := e5.1
      rw [e5']
      by_cases c : dyR nb nt r (89 + 7 * t + 4) = 0
      · rw [if_pos c, if_pos c]
        exact ⟨I2, b1, b2, a3.trans b3⟩
      · rw [if_neg c, if_neg c]
        by_cases c2 : dyR nb nt r (89 + 7 * t + 5) = -1
        · refine ⟨I1, ?_, ⟨_, a2'⟩, a3⟩
          simp only [if_pos c2, if_true]
        · simp only [if_neg c2, if_neg one0]
          exact ⟨I2, b1, b2, a3.trans b3⟩
theorem sx_daysUntilFall (h : Rel I) (x : Int32) (hN : 5000 < N) : SameX [(1, 1)] (fun M => F_X11_daysUntilFall N M 1 x) (fun M => F_X12_daysUntilFall N M 540 x) I := by
  obtain ⟨nb, nt, hR, hM⟩ := h.2.2.1.row
  have h24 := hR.nt24
  intro L
  rcases num_cases x (show nt < 1000 by omega) with ⟨t, ht, rfl⟩ | hx
  · have k1 := tt_k m169 (show t < 24 by omega)
    have en : I (tr 44 t) 0 = nI t := hM.nu.2.1 t (by omega)
    have m258 : (85 : Nat) ∈ mks := by decide
    obtain ⟨I1, a1, a2, a3, a4⟩ := cx_copy (N := N) (I := I) (L := L) m258 m169 (by unfold ap; omega) (by omega) (h.2.2.2.1 _ m258) (h.2.2.2.1 _ m169)
    have hM1 := a2 _ nb nt hR.nb5 hR.nt24 hM
    obtain ⟨I2, b1, ⟨r2, b2⟩, b3⟩ := cx_duf (N := N) (L := L) m258 (by omega) ht 100 0 N I1 _ hR hM1 (by omega) (by omega)
    have a4' : ∀ a j, a < 85 ∨ 126 ≤ a → I2 a j = I a j := fun a j y => (b3 a j (by omega)).trans (a4 a j (by omega))
    refine ⟨.inl (duf nb nt t 100 0 (I 541)), I2, ?_, fun L' => ?_⟩
    · show F_X11_daysUntilFall N (wm Mb I L) 1 (nI t) = _
      unfold F_X11_daysUntilFall F_X4_passDaysUntilFall
      rw [show nI (0 + 1) = 1 from rfl] at b1
      simp only [wm_kR, wm_kt, wm_kn, wm_kin, wm_kL, wm_kI, wm_ksI, wm_ksL, wm_kJ, wm_ksJ, kg_t, kl_v, Option.bind_some, x1_t.1, x1_t.2.1, x1_t.2.2.2.2.2.2.2.1, cx_exT_in hR hM ht, kbx, k1, en, mm_k m258, a1, cx_tn_in m258 hR hM1 ht, b1]
    · have hr : tw6 I2 0 541 = I 541 := funext fun j => (tw_o (by omega)).trans (a4' _ _ (by omega))
      have hr2 : I2 541 = I 541 := funext fun j => a4' _ _ (by omega)
      have c := rx_copies (N := N) (I := tw6 I2 0) (L := L') (a := 541) (c := 542) (p := 0) (q := 0) s42 s43 (by decide) (by decide) (by decide) (by decide) (by decide) (by omega)
      rw [show nI 0 = 0 from rfl] at c
      let J := cpy (tw6 I2 0) 541 0 542 0 293
      have j1 : J 541 = I 541 := (funext fun j => cpy_out (Or.inl (by decide))).trans hr
      have hJ : up J 546 t 0 = rf J (I 541) (setr (J 546) t 0) := by
        have z := @rf_self J
        rw [j1] at z
        have z2 : up (rf J (I 541) (J 546)) 546 t 0 = rf J (I 541) (setr (J 546) t 0) := rf_uf t 0
        rw [z] at z2
        exact z2
      obtain ⟨r', f', x', d1, d2⟩ := rx_duf (N := N) (I := J) (L := L') (nb := nb) (by omega) ht 100 0 N (I 541) (setr (J 546) t 0) hR (by omega) (by omega) setr_eq
      let K := rf J r' f'
      have c2 := rx_copies (N := N) (I := K) (L := L') (a := 542) (c := 541) (p := 0) (q := 0) s43 s42 (by decide) (by decide) (by decide) (by decide) (by decide) (by omega)
      rw [show nI 0 = 0 from rfl] at c2
      have ef : cpy K 542 0 541 0 293 546 t = f' t := (cpy_out (Or.inl (by decide))).trans (rf_f t)
      have k2 : ∀ a j, a ≠ 541 → a ≠ 542 → a ≠ 546 → ¬ (a = 540 ∧ j = 6) → cpy K 542 0 541 0 293 a j = I2 a j := fun a j y1 y2 y3 y4 => (cpy_out (Or.inl y1)).trans ((rf_o j y1 y3).trans ((cpy_out (Or.inl y2)).trans (tw_o (by omega))))
      refine ⟨duf nb nt t 100 0 (I 541), cpy K 542 0 541 0 293, L', ?_, h.drf (fun a j y => (k2 a j (by omega) (by omega) (by omega) (by omega)).trans (a4' a j (by omega))) (fun k hk => ?_) (b2.nu.kp (fun a j y1 y2 => k2 a j (by omega) (by omega) (by omega) (by omega))), LF.rf', Or.inl ⟨rfl, ?_⟩⟩
      · show F_X12_daysUntilFall N (wm Mb I2 L') 540 (nI t) = _
        rw [show nI 0 = 0 from rfl] at d1
        have hJ' : up (cpy (tw6 I2 0) 541 0 542 0 293) 546 t 0 = rf J (I 541) (setr (J 546) t 0) := hJ
        unfold F_X12_daysUntilFall
        simp only [wm_kR, wm_kt, wm_kn, wm_kin, wm_kL, wm_kI, wm_ksI, wm_ksL, wm_kJ, wm_ksJ, kg_t, kl_v, Option.bind_some, sr_k, sr_0, sr_1, sr_2, sr_3, sr_4, sr_7, sr_8, sr_9, sr_26, sr_27, sr_28, tw_fd, rx_noT_in (I := I2) (nb := nb) (by rw [hr2]; exact hR) ht, if_true, c, kin_f (show t < 24 by omega), kx_nI (show t < 2147483648 by omega)]
        rw [hJ', show ((true : Bool) && ((0 : Int32) == 0 || (0 : Int32) == 1)) = true from rfl, kg_t, d1]
        unfold F_X12_daysUntilFall_62
        simp only [wm_kR, wm_kt, wm_kn, wm_kin, wm_kL, wm_kI, wm_ksI, wm_ksL, wm_kJ, wm_ksJ, kg_t, kl_v, Option.bind_some, sr_k, sr_0, sr_1, sr_2, sr_3, sr_4, sr_7, sr_8, sr_9, sr_26, sr_27, sr_28]
        rw [c2]
        simp only [wm_kR, wm_kt, wm_kn, wm_kin, wm_kL, wm_kI, wm_ksI, wm_ksL, wm_kJ, wm_ksJ, kg_t, kl_v, Option.bind_some, sr_k, sr_0, sr_1, sr_2, sr_3, sr_4, sr_7, sr_8, sr_9, sr_26, sr_27, sr_28, kin_f (show t < 24 by omega), kx_nI (show t < 2147483648 by omega), ef, d2]
        by_cases z : f' t = 0
        · simp only [if_pos z]
        · simp only [if_neg z]
      · rw [cpy_in (by omega), show 0 + (k - 0) = k by omega]
        show rf J r' f' 542 k = _
        rw [rf_o k (by decide) (by decide)]
        show cpy (tw6 I2 0) 541 0 542 0 293 542 k = _
        rw [cpy_in (by omega), show 0 + (k - 0) = k by omega, hr]
      · exact (cpy_out (Or.inl (by decide))).trans ((rf_o 6 (by decide) (by decide)).trans ((cpy_out (Or.inl (by decide))).trans tw_6))
  · refine ⟨.inr 1, I, ?_, fun L' => ⟨0, tw6 I 1, L', ?_, h.tw, LF.rf', Or.inr ⟨1, 1, rfl, by simp, tw_6⟩⟩⟩
    · show F_X11_daysUntilFall N (wm Mb I L) 1 x = _
      unfold F_X11_daysUntilFall
      simp only [wm_kR, wm_kt, wm_kn, wm_kin, wm_kL, wm_kI, wm_ksI, wm_ksL, wm_kJ, wm_ksJ, kg_t, kl_v, Option.bind_some, x1_t.1, cx_exT_out hR hM hx, kbx]
    · show F_X12_daysUntilFall N (wm Mb I L') 540 x = _
      unfold F_X12_daysUntilFall
      simp only [wm_kR, wm_kt, wm_kn, wm_kin, wm_kL, wm_kI, wm_ksI, wm_ksL, wm_kJ, wm_ksJ, kg_t, kl_v, Option.bind_some, sr_k, sr_0, sr_1, sr_2, sr_3, sr_4, sr_7, sr_8, sr_9, sr_26, sr_27, sr_28, tw_fd, rx_noT_out hR hx, if_neg one0]
end
