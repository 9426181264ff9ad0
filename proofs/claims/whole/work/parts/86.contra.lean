/-! contradictions: the coins, the weights on seats -/
def wOn (r : Nat → Int32) (b q : Nat) : Int32 := if r (si b q) = 0 then 0 else r (89 + 7 * kx (r (si b q) - 1) + 1)
def tdI (r : Nat → Int32) (b : Nat) : Nat → Nat → Int32 → Int32
  | 0, _, x => x
  | k + 1, p, x => tdI r b k (p + 1) (x + (wOn r b (6 + p) - wOn r b (6 - p)))
def tdO (r : Nat → Int32) (b : Nat) : Nat → Nat → Int32 → Int32
  | 0, _, x => x
  | k + 1, i, x => tdO r b k (i + 1) (tdI r b (k + 1) i x)
section
variable {N : Nat} {I : kInts} {L : kLngs} {r s f : Nat → Int32} {nb nt m : Nat}
theorem avP_sh (k : Nat) : ∀ (i : Nat) (x y : Int32), avP r k i (x + y) = avP r k i x + y := by
  induction k with
  | zero => intro i x y; rfl
  | succ k ih =>
    intro i x y
    show avP r k (i + 1) (x + y + r (89 + 7 * i + 2)) = avP r k (i + 1) (x + r (89 + 7 * i + 2)) + y
    rw [← ih]
    congr 1
    grind
theorem rx_avL (h24 : nt ≤ 24) (h8 : r 8 = nI nt) (k : Nat) : ∀ (i z : Nat) (x : Int32), i + k = nt → k < z → F_X12_allCoins_9 N (wm Mb (rf I r f) L) z 540 x (nI i) = some (avP r k i x) := by
  induction k with
  | zero =>
    intro i z x e hz
    obtain ⟨z, rfl⟩ : ∃ v, z = v + 1 := ⟨z - 1, by omega⟩
    unfold F_X12_allCoins_9
    simp (disch := omega) only [wm_kR, wm_kt, wm_kn, wm_kin, wm_kL, wm_kI, wm_ksI, wm_ksL, wm_kJ, wm_ksJ, kg_t, kl_v, Option.bind_some, sr_k, sr_0, sr_1, sr_2, sr_3, sr_4, sr_7, sr_8, sr_9, sr_26, sr_27, sr_28, kl_0, kl_1, kl_2, kl_3, kl_4, kl_5, kl_6, kl_7, kl_8, kl_9, kl_10, kl_11, kl_12, kl_13, kx_l0, kx_l1, kx_l2, kx_l3, kx_l4, kx_l5, kx_l6, kx_l7, kx_l8, kx_l9, kx_l10, kx_l11, kx_l12, kx_l13, rf_s, h8, nI_ltP]
    rw [if_neg (by omega)]
    rfl
  | succ k ih =>
    intro i z x e hz
    obtain ⟨z, rfl⟩ : ∃ v, z = v + 1 := ⟨z - 1, by omega⟩
    have h1 := ih (i + 1) z (x + r (89 + 7 * i + 2)) (by omega) (by omega)
    unfold F_X12_allCoins_9
    simp (disch := omega) only [wm_kR, wm_kt, wm_kn, wm_kin, wm_kL, wm_kI, wm_ksI, wm_ksL, wm_kJ, wm_ksJ, kg_t, kl_v, Option.bind_some, sr_k, sr_0, sr_1, sr_2, sr_3, sr_4, sr_7, sr_8, sr_9, sr_26, sr_27, sr_28, kl_0, kl_1, kl_2, kl_3, kl_4, kl_5, kl_6, kl_7, kl_8, kl_9, kl_10, kl_11, kl_12, kl_13, kx_l0, kx_l1, kx_l2, kx_l3, kx_l4, kx_l5, kx_l6, kx_l7, kx_l8, kx_l9, kx_l10, kx_l11, kx_l12, kx_l13, rf_s, h8, nI_ltP, rx_has2 (show i < 24 by omega), nI_1]
    rw [if_pos (by omega)]
    exact h1
theorem rx_av2 (hR : RI r nb nt) (hN : 100 < N) : F_X12_allCoins N (wm Mb (rf I r f) L) 540 = some (avP r nt 0 (r 5)) := by
  have h24 := hR.nt24
  have h1 := rx_avL (N := N) (I := I) (L := L) (f := f) h24 hR.r8 nt 0 N (r 5) (by omega) (by omega)
  unfold F_X12_allCoins
  simp only [wm_kR, wm_kt, wm_kn, wm_kin, wm_kL, wm_kI, wm_ksI, wm_ksL, wm_kJ, wm_ksJ, kg_t, kl_v, Option.bind_some, sr_k, sr_0, sr_1, sr_2, sr_3, sr_4, sr_7, sr_8, sr_9, sr_26, sr_27, sr_28, kl_0, kl_1, kl_2, kl_3, kl_4, kl_5, kl_6, kl_7, kl_8, kl_9, kl_10, kl_11, kl_12, kl_13, kx_l0, kx_l1, kx_l2, kx_l3, kx_l4, kx_l5, kx_l6, kx_l7, kx_l8, kx_l9, kx_l10, kx_l11, kx_l12, kx_l13, rf_s]
  exact h1
/-- the owner of a seat -/
theorem own_cases (hR : RI r nb nt) {b q : Nat} (hb : b < nb) (hq : q < 13) (h6 : q ≠ 6) : r (si b q) = 0 ∨ ∃ t, t < nt ∧ r (si b q) = nI (t + 1) ∧ r (si b q) - 1 = nI t ∧ st r nb t b q := by
  refine (hR.s.2 b hb q hq h6).imp id (fun ⟨t, ht, e, hs⟩ => ⟨t, ht, e, ?_, hs⟩)
  rw [e]
  show nI (t + 1) - nI 1 = nI t
  rw [pk_sub (by omega)]
  rfl
theorem rx_wOn (hR : RI r nb nt) {b q : Nat} (hb : b < nb) (hq : q < 13) (h6 : q ≠ 6) : F_X12_weightOn N (wm Mb (rf I r f) L) 540 (nI b) (pz q) = some (wOn r b q) := by
  have h5 := hR.nb5
  have h24 := hR.nt24
  have hons := rx_onS (N := N) (I := I) (L := L) (r := r) (f := f) (show b < 5 by omega) hq h6
  unfold F_X12_weightOn wOn
  rcases own_cases hR hb hq h6 with c | ⟨t, ht, e1, e2, e3⟩
  · simp only [wm_kR, wm_kt, wm_kn, wm_kin, wm_kL, wm_kI, wm_ksI, wm_ksL, wm_kJ, wm_ksJ, kg_t, kl_v, Option.bind_some, sr_k, sr_0, sr_1, sr_2, sr_3, sr_4, sr_7, sr_8, sr_9, sr_26, sr_27, sr_28, hons, c, show (0 : Int32) - 1 = -1 from rfl, if_true]
  · have hne : ¬ nI t = -1 := nI_ne1 (by omega)
    have hn0 : ¬ nI (t + 1) = 0 := nI_ne0 (by omega) (by omega)
    rw [e2] at hons
    simp only [wm_kR, wm_kt, wm_kn, wm_kin, wm_kL, wm_kI, wm_ksI, wm_ksL, wm_kJ, wm_ksJ, kg_t, kl_v, Option.bind_some, sr_k, sr_0, sr_1, sr_2, sr_3, sr_4, sr_7, sr_8, sr_9, sr_26, sr_27, sr_28, hons, e2, hne, if_false, rx_has1 (show t < 24 by omega), e1, hn0]
    rw [show nI (t + 1) - 1 = nI t by rw [← e1]; exact e2, kx_nI (by omega)]
theorem cx_wOn (hm : m ∈ mks) (hR : RI r nb nt) (hM : RM I m r nb nt) {b q : Nat} (hb : b < nb) (hq : q < 13) (h6 : q ≠ 6) : F_X4_weightOn N (wm Mb I L) m (bd m b) (pz q) = some (wOn r b q) := by
  have h5 := hR.nb5
  have h24 := hR.nt24
  have ho := cx_own (N := N) (I := I) (L := L) hm (show b < 5 by omega) hq
  rw [(hM.bb b hb).2.2.2.1 q hq h6] at ho
  unfold F_X4_weightOn wOn
  rcases own_cases hR hb hq h6 with c | ⟨t, ht, e1, e2, e3⟩
  · rw [c, show (0 : Int32) - 1 = -1 from rfl] at ho
    simp only [wm_kR, wm_kt, wm_kn, wm_kin, wm_kL, wm_kI, wm_ksI, wm_ksL, wm_kJ, wm_ksJ, kg_t, kl_v, Option.bind_some, mm_k hm, bb_k hm (show b < 5 by omega), ho, cx_tn_out hm hR hM (x := -1) (Or.inl (by decide)), if_true, c]
  · rw [e2] at ho
    have hn0 : ¬ nI (t + 1) = 0 := nI_ne0 (by omega) (by omega)
    simp only [wm_kR, wm_kt, wm_kn, wm_kin, wm_kL, wm_kI, wm_ksI, wm_ksL, wm_kJ, wm_ksJ, kg_t, kl_v, Option.bind_some, mm_k hm, bb_k hm (show b < 5 by omega), ho, cx_tn_in hm hR hM ht, tr_ne0, if_false, tt_k hm (show t < 24 by omega), (hM.tt t ht).1, e1, hn0]
    rw [show nI (t + 1) - 1 = nI t by rw [← e1]; exact e2, kx_nI (by omega)]
end
