/-! the class's calls that look, over the row alone -/
variable {Mb : SMem}
section
variable {N : Nat} {I : kInts} {L : kLngs} {r : Nat → Int32} {nb nt t b a q : Nat}
theorem x1k : kt Mb 1 11 = true := sh_x.1
theorem x10 : kR Mb 1 0 = 2 := sh_x.2.1
theorem x12 : kR Mb 1 2 = 6 := sh_x.2.2.2.1
theorem x14 : kR Mb 1 4 = 44 := sh_x.2.2.2.2.2.1
theorem x15 : kR Mb 1 5 = 85 := sh_x.2.2.2.2.2.2.1
theorem x16 : kR Mb 1 6 = 126 := sh_x.2.2.2.2.2.2.2.1
theorem x18 : kR Mb 1 8 = 457 := sh_x.2.2.2.2.2.2.2.2.2
theorem t28 : kt Mb 2 8 = true := (kt_of (n := 2) 2 (by decide)).1
theorem t126 : kt Mb 126 3 = true := (kt_of (n := 3) 126 (by decide)).1
theorem t6k : kt Mb 6 9 = true := (kt_of (n := 8) 6 (by decide)).1
theorem c_exT (hR : RI r nb nt) (hM : RM I 44 r nb nt) (ht : t < nt) : F_X11_existingTrader N (wm Mb I L) 1 (nI t) = some (tr 44 t) := by
  unfold F_X11_existingTrader
  simp only [wm_kR, wm_kt, wm_kn, wm_kin, wm_kL, wm_kI, wm_ksI, wm_ksL, wm_kJ, wm_ksJ, kg_t, kl_v, Option.bind_some, x1k, x14, mm_k m169, cx_tn_in m169 hR hM ht, tr_ne0, if_false]
theorem c_exB (hR : RI r nb nt) (hM : RM I 44 r nb nt) (hb : b < nb) : F_X11_existingBoard N (wm Mb I L) 1 (nI b) = some (bd 44 b) := by
  unfold F_X11_existingBoard
  simp only [wm_kR, wm_kt, wm_kn, wm_kin, wm_kL, wm_kI, wm_ksI, wm_ksL, wm_kJ, wm_ksJ, kg_t, kl_v, Option.bind_some, x1k, x14, mm_k m169, cx_bn_in m169 hR hM hb, bd_ne0, if_false]
theorem c_bws (hR : RI r nb nt) (hM : RM I 44 r nb nt) (hb : b < nb) (ha : r (14 + 15 * b + 0) = nI a) (ha6 : a ≤ 6) (h1 : 6 - a ≤ q) (h2 : q ≤ 6 + a) (h6 : q ≠ 6) : F_X11_boardWithSeat N (wm Mb I L) 1 (nI b) (pz q) = some (bd 44 b) := by
  have h5 := hR.nb5
  have hb' : b < 5 := by omega
  unfold F_X11_boardWithSeat
  simp only [wm_kR, wm_kt, wm_kn, wm_kin, wm_kL, wm_kI, wm_ksI, wm_ksL, wm_kJ, wm_ksJ, kg_t, kl_v, Option.bind_some, x1k, c_exB hR hM hb, bb_k m169 hb', cx_hasSeat m169 hb' ((hM.bb b hb).1.trans ha), if_pos (pos_in ha6 h1 h2 h6), if_neg one0]
theorem cl_day (hM : RM I 44 r nb nt) : F_X11_day N (wm Mb I L) 1 = some (r 6) := by
  unfold F_X11_day
  simp only [wm_kR, wm_kt, wm_kn, wm_kin, wm_kL, wm_kI, wm_ksI, wm_ksL, wm_kJ, wm_ksJ, kg_t, kl_v, Option.bind_some, x1k, x14, mm_k m169, hM.g.1]
theorem cl_bank (hM : RM I 44 r nb nt) : F_X11_bank N (wm Mb I L) 1 = some (r 5) := by
  unfold F_X11_bank
  simp only [wm_kR, wm_kt, wm_kn, wm_kin, wm_kL, wm_kI, wm_ksI, wm_ksL, wm_kJ, wm_ksJ, kg_t, kl_v, Option.bind_some, x1k, x14, mm_k m169, hM.g.2.1]
theorem cl_seatsSold (hM : RM I 44 r nb nt) : F_X11_seatsSold N (wm Mb I L) 1 = some (r 10) := by
  unfold F_X11_seatsSold
  simp only [wm_kR, wm_kt, wm_kn, wm_kin, wm_kL, wm_kI, wm_ksI, wm_ksL, wm_kJ, wm_ksJ, kg_t, kl_v, Option.bind_some, x1k, x14, mm_k m169, hM.g.2.2.2.2.2.2.2.2.1]
theorem cl_weightSold (hM : RM I 44 r nb nt) : F_X11_weightSold N (wm Mb I L) 1 = some (r 11) := by
  unfold F_X11_weightSold
  simp only [wm_kR, wm_kt, wm_kn, wm_kin, wm_kL, wm_kI, wm_ksI, wm_ksL, wm_kJ, wm_ksJ, kg_t, kl_v, Option.bind_some, x1k, x14, mm_k m169, hM.g.2.2.2.2.2.2.2.2.2.1]
theorem cl_fallCount (hM : RM I 44 r nb nt) : F_X11_fallCount N (wm Mb I L) 1 = some (r 12) := by
  unfold F_X11_fallCount
  simp only [wm_kR, wm_kt, wm_kn, wm_kin, wm_kL, wm_kI, wm_ksI, wm_ksL, wm_kJ, wm_ksJ, kg_t, kl_v, Option.bind_some, x1k, x14, mm_k m169, hM.g.2.2.2.2.2.2.2.2.2.2.1]
theorem cl_weightOf (hR : RI r nb nt) (hM : RM I 44 r nb nt) (ht : t < nt) : F_X11_weightOf N (wm Mb I L) 1 (nI t) = some (r (89 + 7 * t + 1)) := by
  have h24 := hR.nt24
  unfold F_X11_weightOf
  simp only [wm_kR, wm_kt, wm_kn, wm_kin, wm_kL, wm_kI, wm_ksI, wm_ksL, wm_kJ, wm_ksJ, kg_t, kl_v, Option.bind_some, x1k, c_exT hR hM ht, tt_k m169 (show t < 24 by omega), (hM.tt t ht).1]
theorem cl_purseOf (hR : RI r nb nt) (hM : RM I 44 r nb nt) (ht : t < nt) : F_X11_purseOf N (wm Mb I L) 1 (nI t) = some (r (89 + 7 * t + 2)) := by
  have h24 := hR.nt24
  unfold F_X11_purseOf
  simp only [wm_kR, wm_kt, wm_kn, wm_kin, wm_kL, wm_kI, wm_ksI, wm_ksL, wm_kJ, wm_ksJ, kg_t, kl_v, Option.bind_some, x1k, c_exT hR hM ht, tt_k m169 (show t < 24 by omega), (hM.tt t ht).2.1]
theorem cl_ageOf (hR : RI r nb nt) (hM : RM I 44 r nb nt) (ht : t < nt) : F_X11_ageOf N (wm Mb I L) 1 (nI t) = some (r (89 + 7 * t + 3)) := by
  have h24 := hR.nt24
  unfold F_X11_ageOf
  simp only [wm_kR, wm_kt, wm_kn, wm_kin, wm_kL, wm_kI, wm_ksI, wm_ksL, wm_kJ, wm_ksJ, kg_t, kl_v, Option.bind_some, x1k, c_exT hR hM ht, tt_k m169 (show t < 24 by omega), (hM.tt t ht).2.2.1]
theorem cl_boardOf (hR : RI r nb nt) (hM : RM I 44 r nb nt) (ht : t < nt) : F_X11_boardOf N (wm Mb I L) 1 (nI t) = some (r (89 + 7 * t + 5)) := by
  have h24 := hR.nt24
  unfold F_X11_boardOf
  simp only [wm_kR, wm_kt, wm_kn, wm_kin, wm_kL, wm_kI, wm_ksI, wm_ksL, wm_kJ, wm_ksJ, kg_t, kl_v, Option.bind_some, x1k, c_exT hR hM ht, tt_k m169 (show t < 24 by omega), (hM.tt t ht).2.2.2.2.1]
theorem cl_positionOf (hR : RI r nb nt) (hM : RM I 44 r nb nt) (ht : t < nt) : F_X11_positionOf N (wm Mb I L) 1 (nI t) = some (r (89 + 7 * t + 6)) := by
  have h24 := hR.nt24
  unfold F_X11_positionOf
  simp only [wm_kR, wm_kt, wm_kn, wm_kin, wm_kL, wm_kI, wm_ksI, wm_ksL, wm_kJ, wm_ksJ, kg_t, kl_v, Option.bind_some, x1k, c_exT hR hM ht, tt_k m169 (show t < 24 by omega), (hM.tt t ht).2.2.2.2.2]
theorem cl_isPresent (hR : RI r nb nt) (hM : RM I 44 r nb nt) (ht : t < nt) : F_X11_isPresent N (wm Mb I L) 1 (nI t) = some (r (89 + 7 * t + 4)) := by
  have h24 := hR.nt24
  have hz : (r (89 + 7 * t + 4) == 0 || r (89 + 7 * t + 4) == 1) = true := by
    rcases (hR.t t ht).2 with e | ⟨e, -⟩ <;> rw [e] <;> rfl
  unfold F_X11_isPresent
  simp only [wm_kR, wm_kt, wm_kn, wm_kin, wm_kL, wm_kI, wm_ksI, wm_ksL, wm_kJ, wm_ksJ, kg_t, kl_v, Option.bind_some, x1k, c_exT hR hM ht, tt_k m169 (show t < 24 by omega), (hM.tt t ht).2.2.2.1, hz]
theorem cl_incomeOf (hR : RI r nb nt) (hM : RM I 44 r nb nt) (ht : t < nt) (hN : 100 < N) : F_X11_incomeOf N (wm Mb I L) 1 (nI t) = some (if r (89 + 7 * t + 5) = -1 then 0 else r 0 + oh r nt t) := by
  unfold F_X11_incomeOf
  simp only [wm_kR, wm_kt, wm_kn, wm_kin, wm_kL, wm_kI, wm_ksI, wm_ksL, wm_kJ, wm_ksJ, kg_t, kl_v, Option.bind_some, x1k, x14, mm_k m169, c_exT hR hM ht, cx_inc m169 hR hM ht hN]
theorem cl_torque (hR : RI r nb nt) (hM : RM I 44 r nb nt) (hb : b < nb) (hN : 100 < N) : F_X11_torque N (wm Mb I L) 1 (nI b) = some (tqr r nt b) := by
  have h5 := hR.nb5
  unfold F_X11_torque
  simp only [wm_kR, wm_kt, wm_kn, wm_kin, wm_kL, wm_kI, wm_ksI, wm_ksL, wm_kJ, wm_ksJ, kg_t, kl_v, Option.bind_some, x1k, x14, mm_k m169, c_exB hR hM hb, cx_tq m169 (show b < 5 by omega) hR hM hN]
theorem cl_tilt (hR : RI r nb nt) (hM : RM I 44 r nb nt) (hb : b < nb) (hN : 100 < N) : F_X11_tilt N (wm Mb I L) 1 (nI b) = some (tl r b (tqr r nt b)) := by
  have h5 := hR.nb5
  unfold F_X11_tilt
  simp only [wm_kR, wm_kt, wm_kn, wm_kin, wm_kL, wm_kI, wm_ksI, wm_ksL, wm_kJ, wm_ksJ, kg_t, kl_v, Option.bind_some, x1k, x14, mm_k m169, c_exB hR hM hb, cx_tq m169 (show b < 5 by omega) hR hM hN, bb_k m169 (show b < 5 by omega), cx_tl m169 hR hM hb]
theorem cl_seatOwner (hR : RI r nb nt) (hM : RM I 44 r nb nt) (hb : b < nb) (ha : r (14 + 15 * b + 0) = nI a) (ha6 : a ≤ 6) (h1 : 6 - a ≤ q) (h2 : q ≤ 6 + a) (h6 : q ≠ 6) : F_X11_seatOwner N (wm Mb I L) 1 (nI b) (pz q) = some (r (si b q) - 1) := by
  have h5 := hR.nb5
  unfold F_X11_seatOwner
  simp only [wm_kR, wm_kt, wm_kn, wm_kin, wm_kL, wm_kI, wm_ksI, wm_ksL, wm_kJ, wm_ksJ, kg_t, kl_v, Option.bind_some, x1k, c_bws hR hM hb ha ha6 h1 h2 h6, bb_k m169 (show b < 5 by omega), cx_own m169 (show b < 5 by omega) (show q < 13 by omega), (hM.bb b hb).2.2.2.1 q (by omega) h6]
theorem cl_seatHeight (hR : RI r nb nt) (hM : RM I 44 r nb nt) (hb : b < nb) (ha : r (14 + 15 * b + 0) = nI a) (ha6 : a ≤ 6) (h1 : 6 - a ≤ q) (h2 : q ≤ 6 + a) (h6 : q ≠ 6) (hN : 100 < N) : F_X11_seatHeight N (wm Mb I L) 1 (nI b) (pz q) = some (ht r nt b (pz q)) := by
  unfold F_X11_seatHeight
  simp only [wm_kR, wm_kt, wm_kn, wm_kin, wm_kL, wm_kI, wm_ksI, wm_ksL, wm_kJ, wm_ksJ, kg_t, kl_v, Option.bind_some, x1k, x14, mm_k m169, c_bws hR hM hb ha ha6 h1 h2 h6, cx_ho m169 hR hM hb (pz q) hN]
theorem cl_seatPrice (hR : RI r nb nt) (hM : RM I 44 r nb nt) (hb : b < nb) (ha : r (14 + 15 * b + 0) = nI a) (ha6 : a ≤ 6) (h1 : 6 - a ≤ q) (h2 : q ≤ 6 + a) (h6 : q ≠ 6) (hN : 100 < N) : F_X11_seatPrice N (wm Mb I L) 1 (nI b) (pz q) = some (prS r nt b (pz q)) := by
  unfold F_X11_seatPrice
  simp only [wm_kR, wm_kt, wm_kn, wm_kin, wm_kL, wm_kI, wm_ksI, wm_ksL, wm_kJ, wm_ksJ, kg_t, kl_v, Option.bind_some, x1k, x14, mm_k m169, c_bws hR hM hb ha ha6 h1 h2 h6, cx_pr m169 hR hM hb (pz q) hN]
theorem cl_whySeat (hR : RI r nb nt) (hM : RM I 44 r nb nt) (ht : t < nt) (hb : b < nb) (ha : r (14 + 15 * b + 0) = nI a) (ha6 : a ≤ 6) (h1 : 6 - a ≤ q) (h2 : q ≤ 6 + a) (h6 : q ≠ 6) (hN : 100 < N) : F_X11_reasonAgainstSeat N (wm Mb I L) 1 (nI t) (nI b) (pz q) = some (aSeat r nt t b q) := by
  unfold F_X11_reasonAgainstSeat
  simp only [wm_kR, wm_kt, wm_kn, wm_kin, wm_kL, wm_kI, wm_ksI, wm_ksL, wm_kJ, wm_ksJ, kg_t, kl_v, Option.bind_some, x1k, x14, mm_k m169, c_exT hR hM ht, c_bws hR hM hb ha ha6 h1 h2 h6, cx_aSeat m169 hR hM ht hb ha ha6 h1 h2 h6 hN]
theorem c_rng (M : kMem) {x lo hi : Int32} (h1 : ¬ x < lo) (h2 : ¬ hi < x) : F_X11_requireRange N M x lo hi = some M := by
  unfold F_X11_requireRange
  rw [if_neg h1, if_neg h2]
theorem c_dif (M : kMem) {s t : Nat} (hs : s < 1000) (ht : t < 1000) (h : s ≠ t) : F_X11_requireDifferent N M (nI s) (nI t) = some M := by
  unfold F_X11_requireDifferent
  rw [if_neg (nI_ne hs ht h)]
theorem u10 : ∀ u, u < 10 → 1 ≤ u → ¬ nI u < 1 ∧ ¬ (50 : Int32) < nI u := by decide
theorem cl_whySale {s u : Nat} (hR : RI r nb nt) (hM : RM I 44 r nb nt) (hs : s < nt) (ht : t < nt) (hst : s ≠ t) (hu : u < 10) (hu1 : 1 ≤ u) (hN : 100 < N) : F_X11_reasonAgainstSale N (wm Mb I L) 1 (nI s) (nI t) (nI u) = some (aSale r nt s t (nI u), wm Mb I L) := by
  have h24 := hR.nt24
  obtain ⟨g1, g2⟩ := u10 u hu hu1
  unfold F_X11_reasonAgainstSale
  simp only [wm_kR, wm_kt, wm_kn, wm_kin, wm_kL, wm_kI, wm_ksI, wm_ksL, wm_kJ, wm_ksJ, kg_t, kl_v, Option.bind_some, x1k, x14, mm_k m169, c_exT hR hM hs, c_exT hR hM ht, c_dif _ (show s < 1000 by omega) (show t < 1000 by omega) hst, c_rng _ g1 g2, cx_aSale m169 hR hM hs ht (nI u) hN]
theorem cl_whySwap {s : Nat} (hR : RI r nb nt) (hM : RM I 44 r nb nt) (hs : s < nt) (ht : t < nt) (hst : s ≠ t) (hN : 100 < N) : F_X11_reasonAgainstSwap N (wm Mb I L) 1 (nI s) (nI t) = some (aSwap r nt s t, wm Mb I L) := by
  have h24 := hR.nt24
  unfold F_X11_reasonAgainstSwap
  simp only [wm_kR, wm_kt, wm_kn, wm_kin, wm_kL, wm_kI, wm_ksI, wm_ksL, wm_kJ, wm_ksJ, kg_t, kl_v, Option.bind_some, x1k, x14, mm_k m169, c_exT hR hM hs, c_exT hR hM ht, c_dif _ (show s < 1000 by omega) (show t < 1000 by omega) hst, cx_aSwap m169 hR hM hs ht hN]
/-! the sum of a board by its places -/
theorem wOn_gq (hR : RI r nb nt) (hb : b < nb) (hq : q < 13) (h6 : q ≠ 6) : pz q * wOn r b q = gq r b q := by
  have h24 := hR.nt24
  unfold wOn gq
  rw [if_neg h6]
  rcases own_cases hR hb hq h6 with c | ⟨t, ht, e1, e2, e3⟩
  · rw [if_pos c, if_pos c, Int32.mul_zero]
  · have hn0 : ¬ nI (t + 1) = 0 := nI_ne0 (by omega) (by omega)
    rw [e2, e1, if_neg hn0, if_neg hn0, kx_nI (by omega), kx_nI (by omega)]
    rfl
def dW (r : Nat → Int32) (b p : Nat) : Int32 := wOn r b (6 + p) - wOn r b (6 - p)
theorem tdI_eq : ∀ (k p : Nat) (x : Int32), tdI r b k p x = x + sumI (fun i => dW r b (p + i)) k
  | 0, p, x => by show x = x + 0; rw [Int32.add_zero]
  | k + 1, p, x => by
    show tdI r b k (p + 1) (x + dW r b p) = _
    rw [tdI_eq k, sumI_front]
    rw [show (fun i => dW r b (p + (i + 1))) = fun i => dW r b (p + 1 + i) from funext fun i => by congr 1; omega]
    rw [Int32.add_assoc]
    rfl
theorem tdO_eq : ∀ (k i : Nat) (x : Int32), 1 ≤ i → tdO r b k i x = x + sumI (fun j => nI (j + 1) * dW r b (i + j)) k
  | 0, i, x, _ => by show x = x + 0; rw [Int32.add_zero]
  | k + 1, i, x, h => by
    show tdO r b k (i + 1) (tdI r b (k + 1) i x) = _
    rw [tdO_eq k (i + 1) _ (by omega), tdI_eq, sumI_front, sumI_front]
    rw [show (fun j => dW r b (i + (j + 1))) = fun j => dW r b (i + 1 + j) from funext fun j => by congr 1; omega]
    rw [show (fun j => nI (j + 1 + 1) * dW r b (i + (j + 1))) = fun j => nI (j + 1) * dW r b (i + 1 + j) + dW r b (i + 1 + j) from funext fun j => by
      rw [show i + (j + 1) = i + 1 + j by omega, show nI (j + 1 + 1) = nI (j + 1) + 1 from (nI_1 (a := j + 1)).symm]
      grind]
    rw [sumI_add]
    rw [show nI (0 + 1) = 1 from rfl]
    show _ = x + (1 * dW r b i + _)
    grind
theorem sumI_neg (f : Nat → Int32) : ∀ n, sumI (fun i => -f i) n = -sumI f n
  | 0 => by show (0 : Int32) = -0; decide
  | n + 1 => by
    show sumI (fun i => -f i) n + -f n = -(sumI f n + f n)
    rw [sumI_neg f n]
    grind
theorem sumI_rev (f : Nat → Int32) : ∀ n, sumI (fun i => f (n - 1 - i)) n = sumI f n
  | 0 => rfl
  | n + 1 => by
    rw [sumI_front]
    show f n + sumI (fun i => f (n - (i + 1))) n = sumI f n + f n
    rw [show (fun i => f (n - (i + 1))) = fun i => f (n - 1 - i) from funext fun i => by congr 1; omega, sumI_rev f n, Int32.add_comm]
theorem tdO_tq (hR : RI r nb nt) (hb : b < nb) (ha : r (14 + 15 * b + 0) = nI a) (ha6 : a ≤ 6) : tdO r b a 1 0 = tqr r nt b := by
  have h24 := hR.nt24
  rw [tdO_eq a 1 0 (by omega), Int32.zero_add, ← tq_swap hR.s hb hR.nb5 h24 ha ha6]
  have e1 : sumI (fun i => gq r b (6 - a + i)) (2 * a + 1) = sumI (fun i => gq r b (6 - a + i)) a + sumI (fun i => gq r b (6 - a + (a + i))) (a + 1) := by
    rw [show 2 * a + 1 = a + (a + 1) by omega, sumI_sh]
  rw [e1, sumI_front]
  have e6 : gq r b (6 - a + (a + 0)) = 0 := by
    rw [show 6 - a + (a + 0) = 6 by omega]
    unfold gq
    rw [if_pos rfl]
  rw [e6, Int32.zero_add]
  have e2 : sumI (fun j => nI (j + 1) * dW r b (1 + j)) a = sumI (fun j => gq r b (6 - a + (a + (j + 1)))) a + sumI (fun j => gq r b (6 - (1 + j))) a := by
    rw [← sumI_add]
    refine sumI_congr (fun j hj => ?_)
    unfold dW
    have w1 := wOn_gq hR hb (q := 6 + (1 + j)) (by omega) (by omega)
    have w2 := wOn_gq hR hb (q := 6 - (1 + j)) (by omega) (by omega)
    rw [← pz_a] at w1
    rw [← pz_na (by omega)] at w2
    rw [show 6 - a + (a + (j + 1)) = 6 + (1 + j) by omega, ← w1, ← w2, show 1 + j = j + 1 by omega]
    grind
  have e3 : sumI (fun j => gq r b (6 - (1 + j))) a = sumI (fun i => gq r b (6 - a + i)) a := by
    rw [← sumI_rev (fun i => gq r b (6 - a + i)) a]
    refine sumI_congr (fun j hj => ?_)
    show gq r b (6 - (1 + j)) = gq r b (6 - a + (a - 1 - j))
    congr 1
    omega
  rw [e2, e3, Int32.add_comm]
theorem cnA_0 (hR : RI r nb nt) : ∀ (k i : Nat) (x : Int32), i + k = nb → cnA r nt k i x = x
  | 0, _, _, _ => rfl
  | k + 1, i, x, h => by
    show cnA r nt k (i + 1) (x + kabs (tqr r nt i - tdO r i (kx (r (14 + 15 * i + 0))) 1 0)) = x
    obtain ⟨a, s, l, ha, -, -, ea, -⟩ := hR.b i (by omega)
    rw [ea, kx_nI (by omega), tdO_tq hR (by omega) ea ha.2]
    have z : x + kabs (tqr r nt i - tqr r nt i) = x := by
      have : tqr r nt i - tqr r nt i = 0 := by grind
      rw [this]
      show x + (if (0 : Int32) ≤ 0 then 0 else 0 - 0) = x
      rw [if_pos (by decide), Int32.add_zero]
    rw [z]
    exact cnA_0 hR k (i + 1) x (by omega)
theorem avP_tot (hR : RI r nb nt) : ∀ (k i : Nat) (x : Nat), i + k = nt → avP r k i (nI (x + sumN (pu r) i)) = nI (x + sumN (pu r) nt)
  | 0, i, x, h => by
    show nI (x + sumN (pu r) i) = _
    rw [show i = nt by omega]
  | k + 1, i, x, h => by
    show avP r k (i + 1) (nI (x + sumN (pu r) i) + r (89 + 7 * i + 2)) = _
    have e : r (89 + 7 * i + 2) = nI (pu r i) := hR.c.2.1 i (by omega)
    rw [e, nI_add]
    have z := avP_tot hR k (i + 1) x (by omega)
    rw [show x + sumN (pu r) (i + 1) = x + sumN (pu r) i + pu r i from (Nat.add_assoc _ _ _).symm] at z
    exact z
theorem cl_contra (hR : RI r nb nt) (hM : RM I 44 r nb nt) (h9 : r 9 = nI (tot r nt)) (hN : 100 < N) : F_X11_contradictions N (wm Mb I L) 1 = some 0 := by
  have h5 := hR.nb5
  have h24 := hR.nt24
  have z1 := cx_avP (Mb := Mb) (N := N) (L := L) m169 hR hM nt 0 N 0 (by omega) (by omega)
  have z2 := avP_tot hR nt 0 0 (by omega)
  rw [show nI (0 + sumN (pu r) 0) = 0 from rfl, Nat.zero_add] at z2
  rw [z2, show nI 0 = 0 from rfl] at z1
  have z3 := cx_cnL (Mb := Mb) (N := N) (L := L) m169 hR hM hN nb 0 N 0 (by omega) (by omega)
  rw [cnA_0 hR nb 0 0 (by omega), show nI 0 = 0 from rfl] at z3
  have e5 : r 5 = nI (kx (r 5)) := hR.c.1
  have e0 : nI (tot r nt) - nI (sumN (pu r) nt) - r 5 = 0 := by
    have : nI (tot r nt) = nI (kx (r 5)) + nI (sumN (pu r) nt) := by
      rw [nI_add]
      rfl
    rw [this, ← e5]
    grind
  unfold F_X11_contradictions F_X4_countContradictions F_X4_coinsInPurses
  simp only [wm_kR, wm_kt, wm_kn, wm_kin, wm_kL, wm_kI, wm_ksI, wm_ksL, wm_kJ, wm_ksJ, kg_t, kl_v, Option.bind_some, x1k, x14, mm_k m169, z1, hM.g.2.2.2.2.2.2.2.1, hM.g.2.1, h9, e0]
  rw [show kabs 0 = 0 by decide, z3, Option.bind_some]
end
