variable {Mb : SMem}
def tsw (r : Nat → Int32) (nt s t : Nat) : Int32 := tqr r nt (kx (r (89 + 7 * s + 5))) + r (89 + 7 * s + 6) * (r (89 + 7 * t + 1) - r (89 + 7 * s + 1)) + (if r (89 + 7 * s + 5) = r (89 + 7 * t + 5) then r (89 + 7 * t + 6) * (r (89 + 7 * s + 1) - r (89 + 7 * t + 1)) else 0)
def aSwap (r : Nat → Int32) (nt s t : Nat) : Int32 := if r (89 + 7 * s + 5) = -1 then 5 else if r (89 + 7 * t + 5) = -1 then 5 else if r (89 + 7 * (if 0 < oh r nt t - oh r nt s then s else t) + 2) < kabs (oh r nt t - oh r nt s) then 3 else if tmu r (kx (r (89 + 7 * s + 5))) (tsw r nt s t) = 0 then (if tmu r (kx (r (89 + 7 * t + 5))) (tsw r nt t s) = 0 then 0 else 4) else 4
section
variable {N : Nat} {I : kInts} {L : kLngs} {r f : Nat → Int32} {nb nt m b t q : Nat}
theorem bd_ne0 : ¬ bd m b = 0 := by unfold bd; omega
theorem tr_ne0 : ¬ tr m t = 0 := by unfold tr; omega
theorem cx_bn_in (hm : m ∈ mks) (hR : RI r nb nt) (hi : RM I m r nb nt) (hb : b < nb) : F_X4_boardNumbered N (wm Mb I L) m (nI b) = some (bd m b) := by
  have h5 := hR.nb5
  have hb' : b < 5 := by omega
  unfold F_X4_boardNumbered
  simp (disch := omega) only [wm_kR, wm_kt, wm_kn, wm_kin, wm_kL, wm_kI, wm_ksI, wm_ksL, wm_kJ, wm_ksJ, kg_t, kl_v, Option.bind_some, mm_k hm, mm_bs hm, mm_bn hm, mm_ts hm, mm_tn hm, mm_e hm, mm_ek hm, bb_r hm hb', kin_b hm hb', hi.bc, hR.r7, nI_lt0, ofN5, nI_ltP, kx_nI, hb, hb', if_true, if_false]
theorem cx_bn_out (hm : m ∈ mks) (hR : RI r nb nt) (hi : RM I m r nb nt) {x : Int32} (h : x < 0 ∨ nI nb ≤ x) : F_X4_boardNumbered N (wm Mb I L) m x = some 0 := by
  unfold F_X4_boardNumbered
  by_cases h0 : x < 0
  · rw [if_pos h0]
  · rw [if_neg h0]
    simp only [wm_kR, wm_kt, wm_kn, wm_kin, wm_kL, wm_kI, wm_ksI, wm_ksL, wm_kJ, wm_ksJ, kg_t, kl_v, Option.bind_some, mm_k hm, mm_bs hm, mm_bn hm, mm_ts hm, mm_tn hm, mm_e hm, mm_ek hm, hi.bc, hR.r7]
    rw [if_neg (Int32.not_lt.mpr (h.resolve_left h0))]
theorem cx_tn_in (hm : m ∈ mks) (hR : RI r nb nt) (hi : RM I m r nb nt) (ht : t < nt) : F_X4_traderNumbered N (wm Mb I L) m (nI t) = some (tr m t) := by
  have h5 := hR.nt24
  have ht' : t < 24 := by omega
  unfold F_X4_traderNumbered
  simp (disch := omega) only [wm_kR, wm_kt, wm_kn, wm_kin, wm_kL, wm_kI, wm_ksI, wm_ksL, wm_kJ, wm_ksJ, kg_t, kl_v, Option.bind_some, mm_k hm, mm_bs hm, mm_bn hm, mm_ts hm, mm_tn hm, mm_e hm, mm_ek hm, tt_r hm ht', kin_t hm ht', hi.tc, hR.r8, nI_lt0, ofN24, nI_ltP, kx_nI, ht, ht', if_true, if_false]
theorem cx_tn_out (hm : m ∈ mks) (hR : RI r nb nt) (hi : RM I m r nb nt) {x : Int32} (h : x < 0 ∨ nI nt ≤ x) : F_X4_traderNumbered N (wm Mb I L) m x = some 0 := by
  unfold F_X4_traderNumbered
  by_cases h0 : x < 0
  · rw [if_pos h0]
  · rw [if_neg h0]
    simp only [wm_kR, wm_kt, wm_kn, wm_kin, wm_kL, wm_kI, wm_ksI, wm_ksL, wm_kJ, wm_ksJ, kg_t, kl_v, Option.bind_some, mm_k hm, mm_bs hm, mm_bn hm, mm_ts hm, mm_tn hm, mm_e hm, mm_ek hm, hi.tc, hR.r8]
    rw [if_neg (Int32.not_lt.mpr (h.resolve_left h0))]
theorem cx_seated (hm : m ∈ mks) (h24 : nt ≤ 24) (hi : RM I m r nb nt) (ht : t < nt) : F_X10_isSeated N (wm Mb I L) (tr m t) = some (if r (89 + 7 * t + 5) = -1 then 0 else 1) := by
  have ht' : t < 24 := by omega
  unfold F_X10_isSeated
  simp only [wm_kR, wm_kt, wm_kn, wm_kin, wm_kL, wm_kI, wm_ksI, wm_ksL, wm_kJ, wm_ksJ, kg_t, kl_v, Option.bind_some, tt_k hm ht', (hi.tt t ht).2.2.2.2.1]
  split <;> rfl
theorem cx_tl (hm : m ∈ mks) (hR : RI r nb nt) (hi : RM I m r nb nt) (hb : b < nb) (x : Int32) : F_X0_tiltUnder N (wm Mb I L) (bd m b) x = some (tl r b x) := by
  obtain ⟨a, s, l, -, ⟨h1, h2⟩, -, -, h3, -⟩ := hR.b b hb
  have h5 := hR.nb5
  exact cx_tilt hm (by omega) (hi.bb b hb).2.1 h3 h1 h2 x
theorem cx_tm (hm : m ∈ mks) (hR : RI r nb nt) (hi : RM I m r nb nt) (hb : b < nb) (x : Int32) : F_X0_tipsUnder N (wm Mb I L) (bd m b) x = some (tmu r b x) := by
  have h5 := hR.nb5
  exact cx_tips hm (by omega) (hi.bb b hb).2.2.1 x
theorem cx_hu (hm : m ∈ mks) (hR : RI r nb nt) (hi : RM I m r nb nt) (ht : t < nt) (hs : st r nb t b q) (hN : 100 < N) : F_X4_heightUnder N (wm Mb I L) m (tr m t) = some (oh r nt t) := by
  have h5 := hR.nb5
  have h24 := hR.nt24
  have ht' : t < 24 := by omega
  have hb := hs.1
  have hb' : b < 5 := by omega
  obtain ⟨-, -, -, -, e6, e7⟩ := hi.tt t ht
  unfold F_X4_heightUnder
  simp only [wm_kR, wm_kt, wm_kn, wm_kin, wm_kL, wm_kI, wm_ksI, wm_ksL, wm_kJ, wm_ksJ, kg_t, kl_v, Option.bind_some, mm_k hm, mm_bs hm, mm_bn hm, mm_ts hm, mm_tn hm, mm_e hm, mm_ek hm, tt_k hm ht', e6, e7, hs.2.2.2.1, cx_bn_in hm hR hi hb]
  rw [if_neg bd_ne0]
  simp only [cx_tq hm hb' hR hi hN, wm_kR, wm_kt, wm_kn, wm_kin, wm_kL, wm_kI, wm_ksI, wm_ksL, wm_kJ, wm_ksJ, kg_t, kl_v, Option.bind_some, bb_k hm hb', cx_tl hm hR hi hb]
  rw [oh_st hs h5, hs.2.2.2.2.1]
  rfl
theorem cx_hu0 (hm : m ∈ mks) (hR : RI r nb nt) (hi : RM I m r nb nt) (ht : t < nt) (hs : r (89 + 7 * t + 5) = -1) : F_X4_heightUnder N (wm Mb I L) m (tr m t) = some 0 := by
  have h24 := hR.nt24
  have ht' : t < 24 := by omega
  unfold F_X4_heightUnder
  simp only [wm_kR, wm_kt, wm_kn, wm_kin, wm_kL, wm_kI, wm_ksI, wm_ksL, wm_kJ, wm_ksJ, kg_t, kl_v, Option.bind_some, mm_k hm, mm_bs hm, mm_bn hm, mm_ts hm, mm_tn hm, mm_e hm, mm_ek hm, tt_k hm ht', (hi.tt t ht).2.2.2.2.1, hs, cx_bn_out hm hR hi (Or.inl (show (-1 : Int32) < 0 by decide)), if_true]
theorem cx_inc (hm : m ∈ mks) (hR : RI r nb nt) (hi : RM I m r nb nt) (ht : t < nt) (hN : 100 < N) : F_X4_incomeFor N (wm Mb I L) m (tr m t) = some (if r (89 + 7 * t + 5) = -1 then 0 else r 0 + oh r nt t) := by
  have h24 := hR.nt24
  have ht' : t < 24 := by omega
  unfold F_X4_incomeFor
  simp only [wm_kR, wm_kt, wm_kn, wm_kin, wm_kL, wm_kI, wm_ksI, wm_ksL, wm_kJ, wm_ksJ, kg_t, kl_v, Option.bind_some, mm_k hm, mm_bs hm, mm_bn hm, mm_ts hm, mm_tn hm, mm_e hm, mm_ek hm, tt_k hm ht', cx_seated hm h24 hi ht, hi.wage]
  by_cases e : r (89 + 7 * t + 5) = -1
  · simp [e]
  · obtain ⟨b, q, hs⟩ := hR.seat ht e
    simp only [if_neg e, if_neg one0, cx_hu hm hR hi ht hs hN, wm_kR, wm_kt, wm_kn, wm_kin, wm_kL, wm_kI, wm_ksI, wm_ksL, wm_kJ, wm_ksJ, kg_t, kl_v, Option.bind_some]
theorem cx_up (hm : m ∈ mks) (hR : RI r nb nt) (hi : RM I m r nb nt) {t2 b2 q2 : Nat} (ht : t < nt) (hs : st r nb t b q) (ht2 : t2 < nt) (hs2 : st r nb t2 b2 q2) (hN : 100 < N) : F_X4_unitPrice N (wm Mb I L) m (tr m t) (tr m t2) = some (uprS r nt t t2) := by
  unfold F_X4_unitPrice
  simp only [wm_kR, wm_kt, wm_kn, wm_kin, wm_kL, wm_kI, wm_ksI, wm_ksL, wm_kJ, wm_ksJ, kg_t, kl_v, Option.bind_some, mm_k hm, mm_bs hm, mm_bn hm, mm_ts hm, mm_tn hm, mm_e hm, mm_ek hm, cx_hu hm hR hi ht hs hN, cx_hu hm hR hi ht2 hs2 hN, hi.wp]
  rfl
theorem cx_ho (hm : m ∈ mks) (hR : RI r nb nt) (hi : RM I m r nb nt) (hb : b < nb) (p : Int32) (hN : 100 < N) : F_X4_heightOn N (wm Mb I L) m (bd m b) p = some (ht r nt b p) := by
  have h5 := hR.nb5
  have hb' : b < 5 := by omega
  unfold F_X4_heightOn
  simp only [wm_kR, wm_kt, wm_kn, wm_kin, wm_kL, wm_kI, wm_ksI, wm_ksL, wm_kJ, wm_ksJ, kg_t, kl_v, Option.bind_some, mm_k hm, mm_bs hm, mm_bn hm, mm_ts hm, mm_tn hm, mm_e hm, mm_ek hm, bb_k hm hb', cx_tq hm hb' hR hi hN, cx_tl hm hR hi hb]
  rfl
theorem cx_pr (hm : m ∈ mks) (hR : RI r nb nt) (hi : RM I m r nb nt) (hb : b < nb) (p : Int32) (hN : 100 < N) : F_X4_priceOn N (wm Mb I L) m (bd m b) p = some (prS r nt b p) := by
  unfold F_X4_priceOn
  simp only [wm_kR, wm_kt, wm_kn, wm_kin, wm_kL, wm_kI, wm_ksI, wm_ksL, wm_kJ, wm_ksJ, kg_t, kl_v, Option.bind_some, mm_k hm, mm_bs hm, mm_bn hm, mm_ts hm, mm_tn hm, mm_e hm, mm_ek hm, cx_ho hm hR hi hb p hN, hi.base]
  rfl
theorem cx_tw (hm : m ∈ mks) (hR : RI r nb nt) (hi : RM I m r nb nt) (ht : t < nt) (hb : b < nb) (p : Int32) (hN : 100 < N) : F_X4_torqueAfterMove N (wm Mb I L) m (tr m t) (bd m b) p = some (twS r nt t b p) := by
  have h5 := hR.nb5
  have h24 := hR.nt24
  have hb' : b < 5 := by omega
  have ht' : t < 24 := by omega
  obtain ⟨e2, -, -, -, e6, e7⟩ := hi.tt t ht
  unfold F_X4_torqueAfterMove twS
  simp only [wm_kR, wm_kt, wm_kn, wm_kin, wm_kL, wm_kI, wm_ksI, wm_ksL, wm_kJ, wm_ksJ, kg_t, kl_v, Option.bind_some, mm_k hm, mm_bs hm, mm_bn hm, mm_ts hm, mm_tn hm, mm_e hm, mm_ek hm, bb_k hm hb', tt_k hm ht', cx_tq hm hb' hR hi hN, e2, e6, e7, hi.nu.1 b hb']
  split <;> rfl
theorem cx_free (hm : m ∈ mks) (hR : RI r nb nt) (hi : RM I m r nb nt) (hb : b < nb) {a : Nat} (ha : r (14 + 15 * b + 0) = nI a) (ha6 : a ≤ 6) (h1 : 6 - a ≤ q) (h2 : q ≤ 6 + a) (h6 : q ≠ 6) : F_X0_isFree N (wm Mb I L) (bd m b) (pz q) = some (if r (si b q) = 0 then 1 else 0) := by
  have h5 := hR.nb5
  have hb' : b < 5 := by omega
  obtain ⟨e1, -, -, e4, -⟩ := hi.bb b hb
  unfold F_X0_isFree
  simp only [wm_kR, wm_kt, wm_kn, wm_kin, wm_kL, wm_kI, wm_ksI, wm_ksL, wm_kJ, wm_ksJ, kg_t, kl_v, Option.bind_some, bb_k hm hb', cx_hasSeat hm hb' (e1.trans ha), if_pos (pos_in ha6 h1 h2 h6), if_neg one0, cx_own hm hb' (show q < 13 by omega), e4 q (by omega) h6]
  have e : (r (si b q) - 1 = -1) = (r (si b q) = 0) := by apply propext; constructor <;> intro z <;> grind
  simp only [e]
  split <;> rfl
theorem cx_free6 (hm : m ∈ mks) (hR : RI r nb nt) (hi : RM I m r nb nt) (hb : b < nb) : F_X0_isFree N (wm Mb I L) (bd m b) (pz 6) = some 0 := by
  have h5 := hR.nb5
  have hb' : b < 5 := by omega
  obtain ⟨e1, -, -, e4, -⟩ := hi.bb b hb
  obtain ⟨a, s, l, -, -, -, h3, -⟩ := hR.b b hb
  unfold F_X0_isFree
  simp only [wm_kR, wm_kt, wm_kn, wm_kin, wm_kL, wm_kI, wm_ksI, wm_ksL, wm_kJ, wm_ksJ, kg_t, kl_v, Option.bind_some, bb_k hm hb', cx_hasSeat hm hb' (e1.trans h3), pz_6]
  simp
theorem cx_aSeat (hm : m ∈ mks) (hR : RI r nb nt) (hi : RM I m r nb nt) (ht : t < nt) (hb : b < nb) {a : Nat} (ha : r (14 + 15 * b + 0) = nI a) (ha6 : a ≤ 6) (h1 : 6 - a ≤ q) (h2 : q ≤ 6 + a) (h6 : q ≠ 6) (hN : 100 < N) : F_X4_whyNotSeat N (wm Mb I L) m (tr m t) (bd m b) (pz q) = some (aSeat r nt t b q) := by
  have h5 := hR.nb5
  have h24 := hR.nt24
  have hb' : b < 5 := by omega
  have ht' : t < 24 := by omega
  obtain ⟨-, e3, -, e5, -, -⟩ := hi.tt t ht
  unfold F_X4_whyNotSeat aSeat
  simp only [wm_kR, wm_kt, wm_kn, wm_kin, wm_kL, wm_kI, wm_ksI, wm_ksL, wm_kJ, wm_ksJ, kg_t, kl_v, Option.bind_some, mm_k hm, mm_bs hm, mm_bn hm, mm_ts hm, mm_tn hm, mm_e hm, mm_ek hm, bb_k hm hb', tt_k hm ht', e3, e5, cx_free hm hR hi hb ha ha6 h1 h2 h6, cx_pr hm hR hi hb _ hN, cx_tw hm hR hi ht hb _ hN, cx_tm hm hR hi hb]
  by_cases c1 : r (89 + 7 * t + 4) = 0
  · rw [if_pos c1, if_pos c1]
  rw [if_neg c1, if_neg c1]
  by_cases c2 : r (si b q) = 0
  · rw [if_pos c2, if_neg one0]
    rw [if_pos c2]
    split
    · rfl
    · split <;> rfl
  · rw [if_neg c2, if_pos rfl, if_neg c2]
theorem cx_aSale (hm : m ∈ mks) (hR : RI r nb nt) (hi : RM I m r nb nt) {s : Nat} (hs : s < nt) (ht : t < nt) (u : Int32) (hN : 100 < N) : F_X4_whyNotSale N (wm Mb I L) m (tr m s) (tr m t) u = some (aSale r nt s t u) := by
  have h5 := hR.nb5
  have h24 := hR.nt24
  have ht' : t < 24 := by omega
  have hs' : s < 24 := by omega
  obtain ⟨e2, e3, -, e5, e6, e7⟩ := hi.tt t ht
  obtain ⟨s2, s3, -, s5, s6, s7⟩ := hi.tt s hs
  unfold F_X4_whyNotSale aSale
  by_cases c1 : r (89 + 7 * s + 5) = -1
  · simp only [wm_kR, wm_kt, wm_kn, wm_kin, wm_kL, wm_kI, wm_ksI, wm_ksL, wm_kJ, wm_ksJ, kg_t, kl_v, Option.bind_some, mm_k hm, mm_bs hm, mm_bn hm, mm_ts hm, mm_tn hm, mm_e hm, mm_ek hm, tt_k hm hs', s6, c1, cx_bn_out hm hR hi (Or.inl (show (-1 : Int32) < 0 by decide)), if_true]
  obtain ⟨b, q, h1⟩ := hR.seat hs c1
  have hb := h1.1
  have hb' : b < 5 := by omega
  have c3 := h1.2.2.2.1
  simp only [wm_kR, wm_kt, wm_kn, wm_kin, wm_kL, wm_kI, wm_ksI, wm_ksL, wm_kJ, wm_ksJ, kg_t, kl_v, Option.bind_some, mm_k hm, mm_bs hm, mm_bn hm, mm_ts hm, mm_tn hm, mm_e hm, mm_ek hm, tt_k hm hs', s6, c3, cx_bn_in hm hR hi hb, if_neg bd_ne0, tt_k hm ht', cx_seated hm h24 hi ht, e6, s2, e2, e3, e7, s7]
  rw [c3] at c1
  rw [if_neg c1]
  by_cases c2 : r (89 + 7 * t + 5) = -1
  · rw [if_pos c2, if_pos c2, if_pos rfl]
  obtain ⟨b2, q2, h2⟩ := hR.seat ht c2
  simp only [if_neg c2, if_neg one0, cx_up hm hR hi hs h1 ht h2 hN, cx_tq hm hb' hR hi hN, bb_k hm hb', cx_tm hm hR hi hb, wm_kR, wm_kt, wm_kn, wm_kin, wm_kL, wm_kI, wm_ksI, wm_ksL, wm_kJ, wm_ksJ, kg_t, kl_v, Option.bind_some, kx_nI (show b < 2147483648 by omega)]
  split
  · split
    · rfl
    · split
      · rfl
      · split
        · rfl
        · split <;> rfl
  · rfl
theorem neg_lt0 {x : Int32} (h : 0 < x) : -x < 0 := by
  rw [Int32.lt_iff_toInt_lt] at h ⊢
  have h0 : (0 : Int32).toInt = 0 := rfl
  have h1 := x.toInt_lt
  rw [Int32.toInt_neg]
  rw [h0] at h ⊢
  have : (-x.toInt).bmod (2 ^ 32) = -x.toInt := Int.bmod_eq_of_le (by omega) (by omega)
  omega
theorem nn0 {x : Int32} (h : nn x) : 0 ≤ x := by
  unfold nn at h
  rw [h]
  refine nI_0le ?_
  unfold kx Int32.toNatClampNeg
  have := x.toInt_lt
  omega
theorem cx_tsw (hm : m ∈ mks) (hR : RI r nb nt) (hi : RM I m r nb nt) {s b2 : Nat} (hs : s < nt) (ht : t < nt) (hb : b < nb) (x : Int32) (hx : x = tqr r nt b + (if r (89 + 7 * s + 5) = nI b then r (89 + 7 * s + 6) * (r (89 + 7 * t + 1) - r (89 + 7 * s + 1)) else 0) + (if r (89 + 7 * t + 5) = nI b then r (89 + 7 * t + 6) * (r (89 + 7 * s + 1) - r (89 + 7 * t + 1)) else 0)) (hN : 100 < N) : F_X4_tipsAfterSwap N (wm Mb I L) m (bd m b) (tr m s) (tr m t) = some (tmu r b x) := by
  have h5 := hR.nb5
  have h24 := hR.nt24
  have hb' : b < 5 := by omega
  have ht' : t < 24 := by omega
  have hs' : s < 24 := by omega
  obtain ⟨e2, e3, -, e5, e6, e7⟩ := hi.tt t ht
  obtain ⟨s2, s3, -, s5, s6, s7⟩ := hi.tt s hs
  have hz : ∀ y, (tmu r b y == 0 || tmu r b y == 1) = true := by
    intro y
    unfold tmu
    split <;> rfl
  unfold F_X4_tipsAfterSwap F_X4_tipsAfterSwap_37
  simp only [wm_kR, wm_kt, wm_kn, wm_kin, wm_kL, wm_kI, wm_ksI, wm_ksL, wm_kJ, wm_ksJ, kg_t, kl_v, Option.bind_some, mm_k hm, mm_bs hm, mm_bn hm, mm_ts hm, mm_tn hm, mm_e hm, mm_ek hm, bb_k hm hb', tt_k hm ht', tt_k hm hs', cx_tq hm hb' hR hi hN, e2, e6, e7, s2, s6, s7, hi.nu.1 b hb', cx_tm hm hR hi hb, hz]
  subst hx
  split <;> split <;> simp only [Int32.add_zero]
theorem cx_aSwap (hm : m ∈ mks) (hR : RI r nb nt) (hi : RM I m r nb nt) {s : Nat} (hs : s < nt) (ht : t < nt) (hN : 100 < N) : F_X4_whyNotSwap N (wm Mb I L) m (tr m s) (tr m t) = some (aSwap r nt s t) := by
  have h5 := hR.nb5
  have h24 := hR.nt24
  have ht' : t < 24 := by omega
  have hs' : s < 24 := by omega
  obtain ⟨e2, e3, -, e5, e6, e7⟩ := hi.tt t ht
  obtain ⟨s2, s3, -, s5, s6, s7⟩ := hi.tt s hs
  have ho := cx_bn_out (Mb := Mb) (N := N) (L := L) hm hR hi (Or.inl (show (-1 : Int32) < 0 by decide))
  unfold F_X4_whyNotSwap aSwap
  by_cases c1 : r (89 + 7 * s + 5) = -1
  · by_cases c2 : r (89 + 7 * t + 5) = -1
    · simp only [wm_kR, wm_kt, wm_kn, wm_kin, wm_kL, wm_kI, wm_ksI, wm_ksL, wm_kJ, wm_ksJ, kg_t, kl_v, Option.bind_some, mm_k hm, mm_bs hm, mm_bn hm, mm_ts hm, mm_tn hm, mm_e hm, mm_ek hm, tt_k hm hs', tt_k hm ht', s6, e6, c1, c2, ho, if_true]
    · obtain ⟨b2, q2, h2⟩ := hR.seat ht c2
      simp only [wm_kR, wm_kt, wm_kn, wm_kin, wm_kL, wm_kI, wm_ksI, wm_ksL, wm_kJ, wm_ksJ, kg_t, kl_v, Option.bind_some, mm_k hm, mm_bs hm, mm_bn hm, mm_ts hm, mm_tn hm, mm_e hm, mm_ek hm, tt_k hm hs', tt_k hm ht', s6, e6, c1, h2.2.2.2.1, ho, cx_bn_in hm hR hi h2.1, if_true]
  by_cases c2 : r (89 + 7 * t + 5) = -1
  · obtain ⟨b, q, h1⟩ := hR.seat hs c1
    have hb := h1.1
    rw [if_neg c1]
    simp only [wm_kR, wm_kt, wm_kn, wm_kin, wm_kL, wm_kI, wm_ksI, wm_ksL, wm_kJ, wm_ksJ, kg_t, kl_v, Option.bind_some, mm_k hm, mm_bs hm, mm_bn hm, mm_ts hm, mm_tn hm, mm_e hm, mm_ek hm, tt_k hm hs', tt_k hm ht', s6, e6, c2, h1.2.2.2.1, ho, cx_bn_in hm hR hi h1.1, if_true, if_neg bd_ne0]
  obtain ⟨b, q, h1⟩ := hR.seat hs c1
  obtain ⟨b2, q2, h2⟩ := hR.seat ht c2
  have hb := h1.1
  have hb2 := h2.1
  have k1 := h1.2.2.2.1
  have k2 := h2.2.2.2.1
  rw [if_neg c1, if_neg c2]
  simp only [wm_kR, wm_kt, wm_kn, wm_kin, wm_kL, wm_kI, wm_ksI, wm_ksL, wm_kJ, wm_ksJ, kg_t, kl_v, Option.bind_some, mm_k hm, mm_bs hm, mm_bn hm, mm_ts hm, mm_tn hm, mm_e hm, mm_ek hm, tt_k hm hs', tt_k hm ht', s6, e6, s3, e3, k1, k2, cx_bn_in hm hR hi hb, cx_bn_in hm hR hi hb2, if_neg bd_ne0, cx_hu hm hR hi hs h1 hN, cx_hu hm hR hi ht h2 hN, kx_nI (show b < 2147483648 by omega), kx_nI (show b2 < 2147483648 by omega)]
  have w1 := cx_tsw (Mb := Mb) (N := N) (L := L) hm hR hi (b2 := b) hs ht hb (tsw r nt s t) (by
    unfold tsw
    rw [k1, k2, if_pos rfl, kx_nI (show b < 2147483648 by omega)]
    by_cases hq : nI b = nI b2
    · rw [if_pos hq, if_pos hq.symm]
    · rw [if_neg hq, if_neg (fun z => hq z.symm)]) hN
  have w2 := cx_tsw (Mb := Mb) (N := N) (L := L) hm hR hi (b2 := b) hs ht hb2 (tsw r nt t s) (by
    unfold tsw
    rw [k1, k2, if_pos rfl, kx_nI (show b2 < 2147483648 by omega)]
    by_cases hq : nI b = nI b2
    · rw [if_pos hq, if_pos hq.symm]; grind
    · rw [if_neg hq, if_neg (fun z => hq z.symm)]; grind) hN
  simp only [w1, w2, wm_kR, wm_kt, wm_kn, wm_kin, wm_kL, wm_kI, wm_ksI, wm_ksL, wm_kJ, wm_ksJ, kg_t, kl_v, Option.bind_some]
  have n1 := nn0 (hR.c.2.1 s hs)
  have n2 := nn0 (hR.c.2.1 t ht)
  by_cases hp : 0 < oh r nt t - oh r nt s
  · have hn := neg_lt0 hp
    rw [if_pos hp, show kabs (oh r nt t - oh r nt s) = oh r nt t - oh r nt s from if_pos (by grind)]
    rw [if_neg (show ¬ r (89 + 7 * t + 2) < -(oh r nt t - oh r nt s) by grind)]
    split
    · rfl
    · split
      · split <;> rfl
      · rfl
  · rw [if_neg hp, if_neg (show ¬ r (89 + 7 * s + 2) < oh r nt t - oh r nt s by grind)]
    have hk : (r (89 + 7 * t + 2) < kabs (oh r nt t - oh r nt s)) = (r (89 + 7 * t + 2) < -(oh r nt t - oh r nt s)) := by
      unfold kabs
      split
      · have e0 : oh r nt t - oh r nt s = 0 := by grind
        rw [e0]; rfl
      · congr 1 <;> grind
    simp only [hk]
    split
    · rfl
    · split
      · split <;> rfl
      · rfl
end
