/-! bestSeat -/
def scS (r : Nat → Int32) (nt t b : Nat) (p : Int32) : Int32 := -p * tl r b (twS r nt t b p)
def bpA (r : Nat → Int32) (nt t b : Nat) : Nat → Nat → Int32 → Int32
  | 0, _, x => x
  | k + 1, q, x => if q = 6 ∨ ¬ aSeat r nt t b q = 0 then bpA r nt t b k (q + 1) x else if x = 0 then bpA r nt t b k (q + 1) (pz q) else if scS r nt t b x < scS r nt t b (pz q) then bpA r nt t b k (q + 1) (pz q) else bpA r nt t b k (q + 1) x
section
variable {N : Nat} {I : kInts} {L : kLngs} {r s f : Nat → Int32} {nb nt m : Nat}
theorem cx_bpL (hm : m ∈ mks) (hR : RI r nb nt) (hM : RM I m r nb nt) {t b a : Nat} (ht : t < nt) (hb : b < nb) (ra : r (14 + 15 * b + 0) = nI a) (ha : a ≤ 6) (hN : 100 < N) (k : Nat) : ∀ (q z : Nat) (x y : Int32), q + k = 7 + a → 6 - a ≤ q → k < z → (x = 0 ∨ y = scS r nt t b x) → F_X4_mostPayingSeat_12 N (wm Mb I L) z m (tr m t) (bd m b) x y (pz q) = some (bpA r nt t b k q x) := by
  have h5 := hR.nb5
  have hb' : b < 5 := by omega
  have e1 : I (bd m b) 1 = pz (6 + a) := ((hM.bb b hb).1.trans ra).trans (pz_a (a := a))
  induction k with
  | zero =>
    intro q z x y e h1 hz hxy
    obtain ⟨z, rfl⟩ : ∃ v, z = v + 1 := ⟨z - 1, by omega⟩
    unfold F_X4_mostPayingSeat_12
    simp only [wm_kR, wm_kt, wm_kn, wm_kin, wm_kL, wm_kI, wm_ksI, wm_ksL, wm_kJ, wm_ksJ, kg_t, kl_v, Option.bind_some, bb_k hm hb', e1]
    rw [if_pos ((pz_lt (by omega) (by omega)).mpr (by omega))]
    rfl
  | succ k ih =>
    intro q z x y e h1 hz hxy
    obtain ⟨z, rfl⟩ : ∃ v, z = v + 1 := ⟨z - 1, by omega⟩
    unfold F_X4_mostPayingSeat_12 bpA
    simp only [wm_kR, wm_kt, wm_kn, wm_kin, wm_kL, wm_kI, wm_ksI, wm_ksL, wm_kJ, wm_ksJ, kg_t, kl_v, Option.bind_some, bb_k hm hb', mm_k hm, e1, pz_s, cx_tw hm hR hM ht hb _ hN, cx_tl hm hR hM hb]
    rw [if_neg (fun y => by have := (pz_lt (by omega) (by omega)).mp y; omega)]
    by_cases c6 : q = 6
    · rw [if_pos (Or.inl c6), c6, cx_free6 hm hR hM hb]
      simp only [Option.bind_some, if_true]
      exact ih 7 z x y (by omega) (by omega) (by omega) hxy
    · rw [cx_free hm hR hM hb ra ha h1 (by omega) c6]
      by_cases c1 : r (si b q) = 0
      · simp only [c1, if_true, Option.bind_some, if_neg one0, cx_aSeat hm hR hM ht hb ra ha h1 (show q ≤ 6 + a by omega) c6 hN]
        by_cases c2 : aSeat r nt t b q = 0
        · have hn : ¬ (q = 6 ∨ ¬ aSeat r nt t b q = 0) := fun y => y.elim c6 (fun y => y c2)
          rw [if_neg hn]
          simp only [c2, if_true]
          by_cases c3 : x = 0
          · simp only [c3, if_true]
            exact ih (q + 1) z _ _ (by omega) (by omega) (by omega) (Or.inr rfl)
          · have hy := hxy.resolve_left c3
            simp only [c3, if_false, hy]
            by_cases c4 : scS r nt t b x < scS r nt t b (pz q)
            · have c4' : scS r nt t b x < -pz q * tl r b (twS r nt t b (pz q)) := c4
              simp only [c4, c4', if_true]
              exact ih (q + 1) z _ _ (by omega) (by omega) (by omega) (Or.inr rfl)
            · have c4' : ¬ scS r nt t b x < -pz q * tl r b (twS r nt t b (pz q)) := c4
              simp only [c4, c4', if_false]
              exact ih (q + 1) z _ _ (by omega) (by omega) (by omega) (Or.inr rfl)
        · rw [if_pos (Or.inr c2)]
          simp only [c2, if_false]
          exact ih (q + 1) z x y (by omega) (by omega) (by omega) hxy
      · rw [if_pos (Or.inr (fun y => c1 (aSeat_0 y).2.1))]
        simp only [c1, if_false, Option.bind_some, if_true]
        exact ih (q + 1) z x y (by omega) (by omega) (by omega) hxy
theorem rx_incOn (hR : RI r nb nt) {t b : Nat} (ht : t < nt) (hb : b < nb) (p : Int32) (hN : 100 < N) : F_X12_incomeOn N (wm Mb (rf I r f) L) 540 (nI t) (nI b) p = some (r 0 + scS r nt t b p) := by
  unfold F_X12_incomeOn
  simp only [wm_kR, wm_kt, wm_kn, wm_kin, wm_kL, wm_kI, wm_ksI, wm_ksL, wm_kJ, wm_ksJ, kg_t, kl_v, Option.bind_some, sr_k, sr_0, sr_1, sr_2, sr_3, sr_4, sr_7, sr_8, sr_9, sr_26, sr_27, sr_28, kl_0, kl_1, kl_2, kl_3, kl_4, kl_5, kl_6, kl_7, kl_8, kl_9, kl_10, kl_11, kl_12, kl_13, kx_l0, kx_l1, kx_l2, kx_l3, kx_l4, kx_l5, kx_l6, kx_l7, kx_l8, kx_l9, kx_l10, kx_l11, kx_l12, kx_l13, rf_s, rx_tw hR ht hb _ hN, rx_tilt hR hb]
  unfold scS
  congr 1
  grind
theorem sc_rng {t b q : Nat} (hq : q < 13) : ∃ j, j < 109 ∧ scS r nt t b (pz q) = nI j - 54 := by
  unfold scS
  obtain ⟨k, hk, e⟩ := tl_rng (r := r) b (twS r nt t b (pz q))
  rw [e]
  exact ht_tab q hq k hk
theorem inc_cmp {v j1 j2 : Nat} (hv : v ≤ 20) (h1 : j1 < 109) (h2 : j2 < 109) : (nI v + (nI j1 - 54) < nI v + (nI j2 - 54)) = (nI j1 - 54 < nI j2 - 54) := by
  have hk : ∀ k, k < 129 → (nI k - 54).toInt = (k : Int) - 54 := by decide
  have e : ∀ j, j < 109 → (nI v + (nI j - 54)).toInt = ((v + j : Nat) : Int) - 54 := by
    intro j hj
    have : nI v + (nI j - 54) = nI (v + j) - 54 := by rw [← nI_add]; grind
    rw [this]
    exact hk _ (by omega)
  apply propext
  rw [Int32.lt_iff_toInt_lt, Int32.lt_iff_toInt_lt, e _ h1, e _ h2, hk _ (by omega), hk _ (by omega)]
  omega
theorem rx_bpL (hR : RI r nb nt) {t b a : Nat} (ht : t < nt) (hb : b < nb) (ra : r (14 + 15 * b + 0) = nI a) (ha : a ≤ 6) (hN : 100 < N) (k : Nat) : ∀ (q z : Nat) (x : Int32), q + k = 7 + a → 6 - a ≤ q → k < z → (x = 0 ∨ ∃ q', q' < 13 ∧ x = pz q') → F_X12_bestSeat_34 N z (wm Mb (rf I r f) L) 540 (nI t) (nI b) x (pz q) = some (bpA r nt t b k q x, wm Mb (rf I r f) L) := by
  have h5 := hR.nb5
  have hb' : b < 5 := by omega
  have hob := rx_ofB0 (N := N) (I := I) (L := L) (r := r) (f := f) hb'
  rw [ra, pz_a (a := a)] at hob
  obtain ⟨-, ⟨v, hv, e0⟩, -⟩ := hR.g
  induction k with
  | zero =>
    intro q z x e h1 hz hx
    obtain ⟨z, rfl⟩ : ∃ v, z = v + 1 := ⟨z - 1, by omega⟩
    unfold F_X12_bestSeat_34
    simp only [wm_kR, wm_kt, wm_kn, wm_kin, wm_kL, wm_kI, wm_ksI, wm_ksL, wm_kJ, wm_ksJ, kg_t, kl_v, Option.bind_some, sr_k, sr_0, sr_1, sr_2, sr_3, sr_4, sr_7, sr_8, sr_9, sr_26, sr_27, sr_28, hob]
    rw [if_pos ((pz_lt (by omega) (by omega)).mpr (by omega))]
    rfl
  | succ k ih =>
    intro q z x e h1 hz hx
    obtain ⟨z, rfl⟩ : ∃ v, z = v + 1 := ⟨z - 1, by omega⟩
    unfold F_X12_bestSeat_34 bpA
    simp only [wm_kR, wm_kt, wm_kn, wm_kin, wm_kL, wm_kI, wm_ksI, wm_ksL, wm_kJ, wm_ksJ, kg_t, kl_v, Option.bind_some, sr_k, sr_0, sr_1, sr_2, sr_3, sr_4, sr_7, sr_8, sr_9, sr_26, sr_27, sr_28, hob]
    rw [if_neg (fun y => by have := (pz_lt (by omega) (by omega)).mp y; omega)]
    have e0' : (pz q = 0) = (q = 6) := propext (pz_eq0 (by omega))
    unfold F_X12_bestSeat_65 F_X12_bestSeat_66
    by_cases c6 : q = 6
    · rw [if_pos (Or.inl c6)]
      simp only [e0', c6, if_true, pz_s]
      exact ih 7 z x (by omega) (by omega) (by omega) hx
    · simp only [e0', c6, if_false, rx_aSeat hR ht hb (show q < 13 by omega) c6 hN, Option.bind_some, false_or]
      by_cases c2 : aSeat r nt t b q = 0
      · simp only [c2, not_true, if_true, if_false, if_neg one0, pz_s]
        by_cases c3 : x = 0
        · simp only [c3, if_true]
          exact ih (q + 1) z _ (by omega) (by omega) (by omega) (Or.inr ⟨q, by omega, rfl⟩)
        · obtain ⟨q', hq', ex⟩ := hx.resolve_left c3
          obtain ⟨j1, y1, z1⟩ := sc_rng (r := r) (nt := nt) (t := t) (b := b) hq'
          obtain ⟨j2, y2, z2⟩ := sc_rng (r := r) (nt := nt) (t := t) (b := b) (show q < 13 by omega)
          have ecm : (r 0 + scS r nt t b x < r 0 + scS r nt t b (pz q)) = (scS r nt t b x < scS r nt t b (pz q)) := by
            rw [ex, z1, z2, e0]
            exact inc_cmp hv y1 y2
          simp only [c3, if_false, wm_kR, wm_kt, wm_kn, wm_kin, wm_kL, wm_kI, wm_ksI, wm_ksL, wm_kJ, wm_ksJ, kg_t, kl_v, Option.bind_some, sr_k, sr_0, sr_1, sr_2, sr_3, sr_4, sr_7, sr_8, sr_9, sr_26, sr_27, sr_28, rx_incOn hR ht hb _ hN, ecm]
          by_cases c4 : scS r nt t b x < scS r nt t b (pz q)
          · simp only [c4, if_true]
            exact ih (q + 1) z _ (by omega) (by omega) (by omega) (Or.inr ⟨q, by omega, rfl⟩)
          · simp only [c4, if_false]
            exact ih (q + 1) z _ (by omega) (by omega) (by omega) hx
      · simp only [c2, not_false_eq_true, if_true, if_false, pz_s]
        exact ih (q + 1) z x (by omega) (by omega) (by omega) hx
theorem sx_bestSeat (h : Rel I) (w x : Int32) (hN : 100 < N) : SameX [(1, 1)] (fun M => F_X11_bestSeat N M 1 w x) (fun M => F_X12_bestSeat N M 540 w x) I := by
  obtain ⟨nb, nt, hR, hM⟩ := h.2.2.1.row
  have h5 := hR.nb5
  have h24 := hR.nt24
  intro L
  rcases num_cases w (show nt < 1000 by omega) with ⟨t, ht, rfl⟩ | hw
  · rcases num_cases x (show nb < 1000 by omega) with ⟨b, hb, rfl⟩ | hx
    · obtain ⟨a, s', l, ha, -, -, ra, -⟩ := hR.b b hb
      refine ⟨.inl (bpA (I 541) nt t b (2 * a + 1) (6 - a) 0), I, ?_, fun L' => ⟨bpA (I 541) nt t b (2 * a + 1) (6 - a) 0, tw6 I 0, L', ?_, h.tw, LF.rf', Or.inl ⟨rfl, tw_6⟩⟩⟩
      · show F_X11_bestSeat N (wm Mb I L) 1 (nI t) (nI b) = _
        have z := cx_bpL (N := N) (L := L) m169 hR hM ht hb ra (by omega) hN (2 * a + 1) (6 - a) N 0 0 (by omega) (by omega) (by omega) (Or.inl rfl)
        rw [← pz_na (show a ≤ 6 by omega)] at z
        unfold F_X11_bestSeat F_X4_mostPayingSeat
        simp only [wm_kR, wm_kt, wm_kn, wm_kin, wm_kL, wm_kI, wm_ksI, wm_ksL, wm_kJ, wm_ksJ, kg_t, kl_v, Option.bind_some, x1_t.1, x1_t.2.1, mm_k m169, cx_exT_in hR hM ht, cx_exB_in hR hM hb, kbx, bb_k m169 (show b < 5 by omega), (hM.bb b hb).1, ra, z]
      · show F_X12_bestSeat N (wm Mb I L') 540 (nI t) (nI b) = _
        have z := rx_bpL (N := N) (I := tw6 I 0) (L := L') (f := I 546) hR ht hb ra (by omega) hN (2 * a + 1) (6 - a) N 0 (by omega) (by omega) (by omega) (Or.inl rfl)
        have hob := rx_ofB0 (N := N) (I := tw6 I 0) (L := L') (r := I 541) (f := I 546) (show b < 5 by omega)
        rw [tw_rf] at z hob
        rw [← pz_na (show a ≤ 6 by omega)] at z
        rw [ra] at hob
        unfold F_X12_bestSeat
        simp only [wm_kR, wm_kt, wm_kn, wm_kin, wm_kL, wm_kI, wm_ksI, wm_ksL, wm_kJ, wm_ksJ, kg_t, kl_v, Option.bind_some, sr_k, sr_0, sr_1, sr_2, sr_3, sr_4, sr_7, sr_8, sr_9, sr_26, sr_27, sr_28, tw_fd, rx_noT_in hR ht, rx_noB_in hR hb, if_true, hob, z]
    · refine ⟨.inr 1, I, ?_, fun L' => ⟨0, tw6 I 1, L', ?_, h.tw, LF.rf', Or.inr ⟨1, 1, rfl, by simp, tw_6⟩⟩⟩
      · show F_X11_bestSeat N (wm Mb I L) 1 (nI t) x = _
        unfold F_X11_bestSeat
        simp only [wm_kR, wm_kt, wm_kn, wm_kin, wm_kL, wm_kI, wm_ksI, wm_ksL, wm_kJ, wm_ksJ, kg_t, kl_v, Option.bind_some, x1_t.1, cx_exT_in hR hM ht, cx_exB_out hR hM hx, kbx]
      · show F_X12_bestSeat N (wm Mb I L') 540 (nI t) x = _
        unfold F_X12_bestSeat
        simp only [wm_kR, wm_kt, wm_kn, wm_kin, wm_kL, wm_kI, wm_ksI, wm_ksL, wm_kJ, wm_ksJ, kg_t, kl_v, Option.bind_some, sr_k, sr_0, sr_1, sr_2, sr_3, sr_4, sr_7, sr_8, sr_9, sr_26, sr_27, sr_28, tw_fd, rx_noT_in hR ht, rx_noB_out hR hx, if_true, if_neg one0]
  · refine ⟨.inr 1, I, ?_, fun L' => ⟨0, tw6 I 1, L', ?_, h.tw, LF.rf', Or.inr ⟨1, 1, rfl, by simp, tw_6⟩⟩⟩
    · show F_X11_bestSeat N (wm Mb I L) 1 w x = _
      unfold F_X11_bestSeat
      simp only [wm_kR, wm_kt, wm_kn, wm_kin, wm_kL, wm_kI, wm_ksI, wm_ksL, wm_kJ, wm_ksJ, kg_t, kl_v, Option.bind_some, x1_t.1, cx_exT_out hR hM hw, kbx]
    · show F_X12_bestSeat N (wm Mb I L') 540 w x = _
      unfold F_X12_bestSeat
      simp only [wm_kR, wm_kt, wm_kn, wm_kin, wm_kL, wm_kI, wm_ksI, wm_ksL, wm_kJ, wm_ksJ, kg_t, kl_v, Option.bind_some, sr_k, sr_0, sr_1, sr_2, sr_3, sr_4, sr_7, sr_8, sr_9, sr_26, sr_27, sr_28, tw_fd, rx_noT_out hR hw, if_neg one0]
end
