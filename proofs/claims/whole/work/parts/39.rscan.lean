/-! the reference scans a token -/
def rkd (b : Nat) : Nat := if b = 59 ∨ b = 40 ∨ b = 41 then 3 else 4
/-- the reference's kind of token j -/
def rK (n : Nat) (T : Nat → Nat) (j : Nat) : Nat := if tK n T j = 4 then 0 else if tK n T j = 3 then rkd (T (tS n T j)) else tK n T j
def tL (n : Nat) (T : Nat → Nat) (j : Nat) : Nat := tP n T (j + 1) - tS n T j
/-- the reference stands at token j -/
def RJ (I : kInts) (L : kLngs) (n : Nat) (T : Nat → Nat) (j : Nat) : Prop := I 540 12 = nI (tP n T (j + 1)) ∧ I 540 13 = nI (tS n T j) ∧ I 540 14 = nI (rK n T j) ∧ (tK n T j = 2 → I 540 15 = nI (nv T (tS n T j) (tL n T j))) ∧ (tK n T j = 1 → L 540 20 = lN (wv T (tS n T j) (tL n T j)))
/-- what a scan leaves alone -/
def SF (I I' : kInts) : Prop := ∀ a j, ¬ (a = 540 ∧ 12 ≤ j ∧ j ≤ 15) → I' a j = I a j
def LF (L L' : kLngs) : Prop := ∀ a j, ¬ (a = 540 ∧ j = 20) → L' a j = L a j
section
variable {N : Nat} {I : kInts} {L : kLngs} {n : Nat} {T : Nat → Nat}
theorem SF.up {I' : kInts} {j : Nat} {v : Int32} (h : SF I I') (h1 : 12 ≤ j) (h2 : j ≤ 15) : SF I (up I' 540 j v) := fun a i hn => (up_ne (by omega)).trans (h a i hn)
theorem SF.rf' : SF I I := fun _ _ _ => rfl
theorem LF.rf' : LF L L := fun _ _ _ => rfl
theorem LF.up {L' : kLngs} {v : Int64} (h : LF L L') : LF L (upL L' 540 20 v) := fun a j hn => (if_neg hn).trans (h a j hn)
theorem upL_eq {a j : Nat} {v : Int64} : upL L a j v a j = v := if_pos ⟨rfl, rfl⟩
theorem SF.trans {I1 I2 : kInts} (h : SF I I1) (h2 : SF I1 I2) : SF I I2 := fun a j hn => (h2 a j hn).trans (h a j hn)
theorem LF.trans {L1 L2 : kLngs} (h : LF L L1) (h2 : LF L1 L2) : LF L L2 := fun a j hn => (h2 a j hn).trans (h a j hn)
theorem RT.sf {I' : kInts} (h : RT I n T) (hs : SF I I') : RT I' n T := ⟨(hs _ _ (by omega)).trans h.1, fun k hk => (hs _ _ (by omega)).trans (h.2 k hk)⟩
theorem wv_s (b l : Nat) : wv T b (l + 1) = if l < 12 then 32 * wv T b l + (T (b + l) - 96) else wv T b l := rfl
theorem rx_see (hT : RT I n T) (h800 : n ≤ 800) {i : Nat} (hi : i ≤ n) : F_X12_see N (wm Mb I L) 540 (nI i) = some (if i < n then nI (T i) else -1) := by
  unfold F_X12_see
  simp (disch := omega) only [wm_kR, wm_kt, wm_kn, wm_kin, wm_kL, wm_kI, wm_ksI, wm_ksL, wm_kJ, wm_ksJ, kg_t, kl_v, Option.bind_some, sr_k, sr_0, sr_1, sr_2, sr_3, sr_4, sr_7, sr_8, sr_9, sr_26, sr_27, sr_28, hT.1, nI_ltP]
  by_cases c : i < n
  · rw [if_pos c, if_pos c, kg_of _ (kin_x (by omega)), kx_nI (by omega), hT.2 i c]
  · rw [if_neg c, if_neg c]
theorem rx_small (M : kMem) {b : Nat} (hb : b ≤ 255) : F_X12_isSmall N M (nI b) = some (if kd b = 1 then 1 else 0) := by
  unfold F_X12_isSmall
  rw [show (97 : Int64) = (nI 97).toInt64 from rfl, show (122 : Int64) = (nI 122).toInt64 from rfl, in_ok]
  simp (disch := omega) only [nI_ltP, Option.bind_some]
  by_cases c1 : b < 97
  · rw [if_pos c1, if_neg (fun z => by have := kd_1 z; omega)]
    rfl
  · rw [if_neg c1]
    by_cases c2 : 122 < b
    · rw [if_pos c2, if_neg (fun z => by have := kd_1 z; omega)]
      rfl
    · rw [if_neg c2, if_pos (kd_is1 (by omega))]
      rfl
theorem rx_small1 (M : kMem) : F_X12_isSmall N M (-1) = some 0 := by
  unfold F_X12_isSmall
  rw [show (97 : Int64) = (97 : Int32).toInt64 from rfl, show (122 : Int64) = (122 : Int32).toInt64 from rfl, in_ok, if_pos (by decide)]
  rfl
theorem kd_is2 {b : Nat} (h : 48 ≤ b ∧ b ≤ 57) : kd b = 2 := by
  unfold kd
  rw [if_neg (by omega), if_pos h]
theorem rx_digit (M : kMem) {b : Nat} (hb : b ≤ 255) : F_X12_isDigit N M (nI b) = some (if kd b = 2 then 1 else 0) := by
  unfold F_X12_isDigit
  rw [show (48 : Int64) = (nI 48).toInt64 from rfl, show (57 : Int64) = (nI 57).toInt64 from rfl, in_ok]
  simp (disch := omega) only [nI_ltP, Option.bind_some]
  by_cases c1 : b < 48
  · rw [if_pos c1, if_neg (fun z => by have := kd_2 z; omega)]
    rfl
  · rw [if_neg c1]
    by_cases c2 : 57 < b
    · rw [if_pos c2, if_neg (fun z => by have := kd_2 z; omega)]
      rfl
    · rw [if_neg c2, if_pos (kd_is2 (by omega))]
      rfl
theorem rx_digit1 (M : kMem) : F_X12_isDigit N M (-1) = some 0 := by
  unfold F_X12_isDigit
  rw [show (48 : Int64) = (48 : Int32).toInt64 from rfl, show (57 : Int64) = (57 : Int32).toInt64 from rfl, in_ok, if_pos (by decide)]
  rfl
theorem wv_le (hB : ∀ k, 1 ≤ T k ∧ T k ≤ 255) {s : Nat} : ∀ l, (∀ i, i < l → 97 ≤ T (s + i) ∧ T (s + i) ≤ 122) → wv T s l < 1152921504606846976
  | 0, _ => by show 0 < 1152921504606846976; decide
  | l + 1, h => by
    have hp : ∀ l, (∀ i, i < l → 97 ≤ T (s + i) ∧ T (s + i) ≤ 122) → wv T s l < 32 ^ (min l 12) := by
      intro l
      induction l with
      | zero => intro _; show 0 < 32 ^ 0; decide
      | succ l ih =>
        intro h
        have h1 := ih (fun i hi => h i (by omega))
        have h2 := h l (by omega)
        unfold wv
        by_cases c : l < 12
        · rw [if_pos c, Nat.min_eq_left (by omega)]
          rw [Nat.min_eq_left (by omega)] at h1
          rw [Nat.pow_succ]
          omega
        · rw [if_neg c, Nat.min_eq_right (by omega)]
          rw [Nat.min_eq_right (by omega)] at h1
          exact h1
    have h3 := hp (l + 1) h
    have h4 : 32 ^ (min (l + 1) 12) ≤ 32 ^ 12 := Nat.pow_le_pow_right (by decide) (Nat.min_le_right _ _)
    have h5 : 32 ^ 12 = 1152921504606846976 := by decide
    omega
/-- a word -/
theorem rx_scanW (hO : okT n T) {s : Nat} : ∀ (k l z : Nat) (I : kInts) (L : kLngs), RT I n T → I 540 12 = nI (s + l) → I 540 13 = nI s → L 540 20 = lN (wv T s l) → s + l + k = n → (∀ i, i < l → 97 ≤ T (s + i) ∧ T (s + i) ≤ 122) → k < z → ∃ I' L', F_X12_scan_81 N z (wm Mb I L) 540 = some (wm Mb I' L') ∧ SF I I' ∧ LF L L' ∧ I' 540 13 = nI s ∧ I' 540 14 = 1 ∧ I' 540 12 = nI (runs n T 1 (s + l)) ∧ L' 540 20 = lN (wv T s (runs n T 1 (s + l) - s))
  | k, l, 0, I, L, _, _, _, _, _, _, h => absurd h (Nat.not_lt_zero _)
  | k, l, z + 1, I, L, hT, h12, h13, hL, e, hw, hz => by
    have h800 := hO.1
    have hb := hO.2 (s + l)
    have e13 : ∀ v, up I 540 14 v 540 13 = nI s := fun v => (up_ne (Or.inr (by decide))).trans h13
    unfold F_X12_scan_81
    simp only [wm_kR, wm_kt, wm_kn, wm_kin, wm_kL, wm_kI, wm_ksI, wm_ksL, wm_kJ, wm_ksJ, kg_t, kl_v, Option.bind_some, sr_k, sr_0, sr_1, sr_2, sr_3, sr_4, sr_7, sr_8, sr_9, sr_26, sr_27, sr_28, h12, rx_see hT h800 (show s + l ≤ n by omega)]
    by_cases c : s + l < n
    · rw [if_pos c]
      simp only [rx_small _ hb.2, wm_kR, wm_kt, wm_kn, wm_kin, wm_kL, wm_kI, wm_ksI, wm_ksL, wm_kJ, wm_ksJ, kg_t, kl_v, Option.bind_some]
      by_cases c2 : kd (T (s + l)) = 1
      · rw [if_pos c2, if_neg one0, h13]
        have em : nI (s + l) - nI s = nI l := by rw [pk_sub (by omega)]; congr 1; omega
        have hk1 := kd_1 c2
        have hw' : ∀ i, i < l + 1 → 97 ≤ T (s + i) ∧ T (s + i) ≤ 122 := by
          intro i hi
          by_cases y : i = l
          · subst y; exact hk1
          · exact hw i (by omega)
        have hr : runs n T 1 (s + l) = runs n T 1 (s + (l + 1)) := runs_step c c2
        have hwl := wv_le hO.2 l hw
        cases k with
        | zero => omega
        | succ k =>
        rw [em, show (12 : Int32) = nI 12 from rfl]
        have hsf : SF I (up I 540 12 (nI (s + (l + 1)))) := SF.rf'.up (by decide) (by decide)
        have h12' : up I 540 12 (nI (s + (l + 1))) 540 12 = nI (s + (l + 1)) := up_eq
        have h13' : up I 540 12 (nI (s + (l + 1))) 540 13 = nI s := (up_ne (Or.inr (by decide))).trans h13
        by_cases c3 : l < 12
        · rw [if_pos (nI_lt c3 (by omega))]
          simp only [wm_kR, wm_kt, wm_kn, wm_kin, wm_kL, wm_kI, wm_ksI, wm_ksL, wm_kJ, wm_ksJ, kg_t, kl_v, Option.bind_some, if_true, h12, if_pos c, nI_1]
          have ew : 32 * L 540 20 + (nI (T (s + l))).toInt64 - 96 = lN (wv T s (l + 1)) := by
            rw [hL, nI_l (by omega), show (32 : Int64) = lN 32 from rfl, show (96 : Int64) = lN 96 from rfl, lN_mul, lN_add, lN_sub (by omega), wv_s, if_pos c3]
            congr 1
            omega
          rw [ew]
          obtain ⟨I', L', a1, a2, a3, a4, a5, a6, a7⟩ := rx_scanW hO k (l + 1) z (up I 540 12 (nI (s + (l + 1)))) (upL L 540 20 (lN (wv T s (l + 1)))) (hT.sf hsf) h12' h13' upL_eq (by omega) hw' (by omega)
          refine ⟨I', L', ?_, hsf.trans a2, LF.rf'.up.trans a3, a4, a5, by rw [hr]; exact a6, by rw [hr]; exact a7⟩
          exact a1
        · rw [if_neg (by rw [nI_ltI (by omega) (by omega)]; exact c3)]
          have ew : L 540 20 = lN (wv T s (l + 1)) := by
            rw [hL, wv_s, if_neg c3]
          have eL : upL L 540 20 (L 540 20) = L := by
            funext a j
            unfold upL
            split
            · next h => rw [h.1, h.2]
            · rfl
          simp only [wm_kR, wm_kt, wm_kn, wm_kin, wm_kL, wm_kI, wm_ksI, wm_ksL, wm_kJ, wm_ksJ, kg_t, kl_v, Option.bind_some, eL, h12, nI_1]
          obtain ⟨I', L', a1, a2, a3, a4, a5, a6, a7⟩ := rx_scanW hO k (l + 1) z (up I 540 12 (nI (s + (l + 1)))) L (hT.sf hsf) h12' h13' ew (by omega) hw' (by omega)
          exact ⟨I', L', a1, hsf.trans a2, a3, a4, a5, by rw [hr]; exact a6, by rw [hr]; exact a7⟩
      · have hr : runs n T 1 (s + l) = s + l := runs_stop (fun y => c2 y.2)
        rw [if_neg c2, if_pos rfl, hr, show s + l - s = l by omega]
        exact ⟨_, L, rfl, SF.rf'.up (by decide) (by decide), LF.rf', e13 _, up_eq, (up_ne (Or.inr (by decide))).trans h12, hL⟩
    · have hr : runs n T 1 (s + l) = s + l := runs_stop (fun y => c y.1)
      rw [if_neg c]
      simp only [rx_small1, wm_kR, wm_kt, wm_kn, wm_kin, wm_kL, wm_kI, wm_ksI, wm_ksL, wm_kJ, wm_ksJ, kg_t, kl_v, Option.bind_some, if_true]
      rw [hr, show s + l - s = l by omega]
      exact ⟨_, L, rfl, SF.rf'.up (by decide) (by decide), LF.rf', e13 _, up_eq, (up_ne (Or.inr (by decide))).trans h12, hL⟩
/-- a number -/
theorem rx_scanN (hO : okT n T) {s : Nat} : ∀ (k l z : Nat) (I : kInts), RT I n T → I 540 12 = nI (s + l) → I 540 13 = nI s → I 540 15 = nI (nv T s l) → s + l + k = n → k < z → ∃ I', F_X12_scan_175 N z (wm Mb I L) 540 = some (wm Mb I' L) ∧ SF I I' ∧ I' 540 13 = nI s ∧ I' 540 14 = 2 ∧ I' 540 12 = nI (runs n T 2 (s + l)) ∧ I' 540 15 = nI (nv T s (runs n T 2 (s + l) - s))
  | k, l, 0, I, _, _, _, _, _, h => absurd h (Nat.not_lt_zero _)
  | k, l, z + 1, I, hT, h12, h13, h15, e, hz => by
    have h800 := hO.1
    have hb := hO.2 (s + l)
    have hnv := nv_le T s (fun i => (hO.2 i).2) l
    unfold F_X12_scan_175
    simp only [wm_kR, wm_kt, wm_kn, wm_kin, wm_kL, wm_kI, wm_ksI, wm_ksL, wm_kJ, wm_ksJ, kg_t, kl_v, Option.bind_some, sr_k, sr_0, sr_1, sr_2, sr_3, sr_4, sr_7, sr_8, sr_9, sr_26, sr_27, sr_28, h12, rx_see hT h800 (show s + l ≤ n by omega)]
    by_cases c : s + l < n
    · rw [if_pos c]
      simp only [rx_digit _ hb.2, wm_kR, wm_kt, wm_kn, wm_kin, wm_kL, wm_kI, wm_ksI, wm_ksL, wm_kJ, wm_ksJ, kg_t, kl_v, Option.bind_some]
      by_cases c2 : kd (T (s + l)) = 2
      · rw [if_pos c2, if_neg one0, h15]
        have hk2 := kd_2 c2
        have hr : runs n T 2 (s + l) = runs n T 2 (s + (l + 1)) := runs_step c c2
        cases k with
        | zero => omega
        | succ k =>
        rw [show (999999 : Int32) = nI 999999 from rfl]
        by_cases c3 : 999999 < nv T s l
        · rw [if_pos (nI_lt c3 (by omega))]
          have e15 : nv T s (l + 1) = nv T s l := by
            show (if _ then _ else _) = _
            rw [if_pos c3]
          have e1 : ∀ v, up I 540 15 v 540 12 = nI (s + l) := fun v => (up_ne (Or.inr (by decide))).trans h12
          simp only [wm_kR, wm_kt, wm_kn, wm_kin, wm_kL, wm_kI, wm_ksI, wm_ksL, wm_kJ, wm_ksJ, kg_t, kl_v, Option.bind_some, sr_k, sr_0, sr_1, sr_2, sr_3, sr_4, sr_7, sr_8, sr_9, sr_26, sr_27, sr_28, up_same h15, h12, nI_1]
          have hsf : SF I (up I 540 12 (nI (s + (l + 1)))) := SF.rf'.up (by decide) (by decide)
          obtain ⟨I', a1, a2, a3, a4, a5, a6⟩ := rx_scanN hO k (l + 1) z (up I 540 12 (nI (s + (l + 1)))) (hT.sf hsf) up_eq ((up_ne (Or.inr (by decide))).trans h13) ((up_ne (Or.inr (by decide))).trans (by rw [h15, e15])) (by omega) (by omega)
          exact ⟨I', a1, hsf.trans a2, a3, a4, by rw [hr]; exact a5, by rw [hr]; exact a6⟩
        · rw [if_neg (by rw [nI_ltI (by omega) (by omega)]; exact c3)]
          have e15 : 10 * nI (nv T s l) + nI (T (s + l)) - 48 = nI (nv T s (l + 1)) := by
            rw [show (10 : Int32) = nI 10 from rfl, show (48 : Int32) = nI 48 from rfl, pk_mul, nI_add, pk_sub (by omega)]
            have : nv T s (l + 1) = 10 * nv T s l + (T (s + l) - 48) := by
              show (if _ then _ else _) = _
              rw [if_neg c3]
            rw [this]
            congr 1
            omega
          have e1 : ∀ v, up I 540 15 v 540 12 = nI (s + l) := fun v => (up_ne (Or.inr (by decide))).trans h12
          simp only [wm_kR, wm_kt, wm_kn, wm_kin, wm_kL, wm_kI, wm_ksI, wm_ksL, wm_kJ, wm_ksJ, kg_t, kl_v, Option.bind_some, sr_k, sr_0, sr_1, sr_2, sr_3, sr_4, sr_7, sr_8, sr_9, sr_26, sr_27, sr_28, if_pos c, h15, e15, e1, nI_1]
          have hsf : SF I (up (up I 540 15 (nI (nv T s (l + 1)))) 540 12 (nI (s + (l + 1)))) := (SF.rf'.up (by decide) (by decide)).up (by decide) (by decide)
          obtain ⟨I', a1, a2, a3, a4, a5, a6⟩ := rx_scanN hO k (l + 1) z _ (hT.sf hsf) up_eq ((up_ne (Or.inr (by decide))).trans ((up_ne (Or.inr (by decide))).trans h13)) ((up_ne (Or.inr (by decide))).trans up_eq) (by omega) (by omega)
          exact ⟨I', a1, hsf.trans a2, a3, a4, by rw [hr]; exact a5, by rw [hr]; exact a6⟩
      · have hr : runs n T 2 (s + l) = s + l := runs_stop (fun y => c2 y.2)
        rw [if_neg c2, if_pos rfl, hr, show s + l - s = l by omega]
        exact ⟨_, rfl, SF.rf'.up (by decide) (by decide), (up_ne (Or.inr (by decide))).trans h13, up_eq, (up_ne (Or.inr (by decide))).trans h12, (up_ne (Or.inr (by decide))).trans h15⟩
    · have hr : runs n T 2 (s + l) = s + l := runs_stop (fun y => c y.1)
      rw [if_neg c]
      simp only [rx_digit1, wm_kR, wm_kt, wm_kn, wm_kin, wm_kL, wm_kI, wm_ksI, wm_ksL, wm_kJ, wm_ksJ, kg_t, kl_v, Option.bind_some, if_true]
      rw [hr, show s + l - s = l by omega]
      exact ⟨_, rfl, SF.rf'.up (by decide) (by decide), (up_ne (Or.inr (by decide))).trans h13, up_eq, (up_ne (Or.inr (by decide))).trans h12, (up_ne (Or.inr (by decide))).trans h15⟩
theorem kd_sp {b : Nat} (h : b = 32 ∨ b = 10) : kd b = 0 := by rcases h with rfl | rfl <;> rfl
/-- from place q, behind spaces, to token j -/
theorem rx_scan0 (hO : okT n T) (j : Nat) (hN : 1000 < N) : ∀ (k q z : Nat) (I : kInts), RT I n T → I 540 12 = nI q → q + k = n → sk n T q = tS n T j → k < z → ∃ I' L', F_X12_scan_0 N z (wm Mb I L) 540 = some (wm Mb I' L') ∧ SF I I' ∧ LF L L' ∧ RJ I' L' n T j
  | k, q, 0, I, _, _, _, _, h => absurd h (Nat.not_lt_zero _)
  | k, q, z + 1, I, hT, h12, e, hs, hz => by
    have h800 := hO.1
    have hb := hO.2 q
    unfold F_X12_scan_0
    simp only [wm_kR, wm_kt, wm_kn, wm_kin, wm_kL, wm_kI, wm_ksI, wm_ksL, wm_kJ, wm_ksJ, kg_t, kl_v, Option.bind_some, sr_k, sr_0, sr_1, sr_2, sr_3, sr_4, sr_7, sr_8, sr_9, sr_26, sr_27, sr_28, h12, rx_see hT h800 (show q ≤ n by omega)]
    have e12 : up I 540 13 (nI q) 540 12 = nI q := (up_ne (Or.inr (by decide))).trans h12
    have hsf13 : SF I (up I 540 13 (nI q)) := SF.rf'.up (by decide) (by decide)
    have hT13 := hT.sf hsf13
    by_cases c : q < n
    · cases k with
      | zero => omega
      | succ k =>
      simp only [if_pos c, e12, rx_see hT13 h800 (show q ≤ n by omega), rx_small _ hb.2, rx_digit _ hb.2, wm_kR, wm_kt, wm_kn, wm_kin, wm_kL, wm_kI, wm_ksI, wm_ksL, wm_kJ, wm_ksJ, kg_t, kl_v, Option.bind_some, nI_1]
      have goon : kd (T q) = 0 → ∃ I' L', F_X12_scan_0 N z (wm Mb (up I 540 12 (nI (q + 1))) L) 540 = some (wm Mb I' L') ∧ SF I I' ∧ LF L L' ∧ RJ I' L' n T j := by
        intro hk
        have hsf : SF I (up I 540 12 (nI (q + 1))) := SF.rf'.up (by decide) (by decide)
        have hs' : sk n T (q + 1) = tS n T j := by
          rw [← hs]
          exact (runs_step c hk).symm
        obtain ⟨I', L', a1, a2, a3, a4⟩ := rx_scan0 hO j hN k (q + 1) z _ (hT.sf hsf) up_eq (by omega) hs' (by omega)
        exact ⟨I', L', a1, hsf.trans a2, a3, a4⟩
      rw [show (32 : Int32) = nI 32 from rfl, show (10 : Int32) = nI 10 from rfl]
      simp (disch := omega) only [nI_eqI]
      by_cases c1 : T q = 32
      · rw [if_pos c1]
        exact goon (kd_sp (Or.inl c1))
      rw [if_neg c1]
      by_cases c2 : T q = 10
      · rw [if_pos c2]
        exact goon (kd_sp (Or.inr c2))
      rw [if_neg c2, if_neg (nI_ne1 (by omega))]
      have hk0 : kd (T q) ≠ 0 := by
        unfold kd
        split
        · decide
        · split
          · decide
          · rw [if_neg (by omega)]; decide
      have hq : tS n T j = q := by
        rw [← hs]
        exact runs_stop (fun y => hk0 y.2)
      have hKj : tK n T j = kd (T q) := by rw [tK_kd (by omega), hq]
      by_cases c3 : kd (T q) = 1
      · rw [if_pos c3, if_neg one0]
        obtain ⟨I', L', a1, a2, a3, a4, a5, a6, a7⟩ := rx_scanW (N := N) hO (s := q) (k + 1) 0 N (up I 540 13 (nI q)) (upL L 540 20 0) hT13 e12 up_eq upL_eq (by omega) (fun i hi => absurd hi (Nat.not_lt_zero _)) (by omega)
        have hP : tP n T (j + 1) = runs n T 1 (q + 0) := by
          rw [tP_1 (by omega), hq, hKj, c3, Nat.add_zero]
          exact (runs_step c c3).symm
        refine ⟨I', L', ?_, hsf13.trans a2, LF.rf'.up.trans a3, ?_, by rw [hq]; exact a4, ?_, fun y => by omega, fun _ => ?_⟩
        · exact a1
        · rw [hP]; exact a6
        · unfold rK
          rw [hKj, c3]
          exact a5
        · unfold tL
          rw [hP, hq]
          exact a7
      rw [if_neg c3, if_pos rfl]
      by_cases c4 : kd (T q) = 2
      · rw [if_pos c4, if_neg one0]
        have hsf15 : SF I (up (up I 540 13 (nI q)) 540 15 0) := hsf13.up (by decide) (by decide)
        obtain ⟨I', a1, a2, a4, a5, a6, a7⟩ := rx_scanN (N := N) (L := L) hO (s := q) (k + 1) 0 N (up (up I 540 13 (nI q)) 540 15 0) (hT.sf hsf15) ((up_ne (Or.inr (by decide))).trans e12) ((up_ne (Or.inr (by decide))).trans up_eq) up_eq (by omega) (by omega)
        have hP : tP n T (j + 1) = runs n T 2 (q + 0) := by
          rw [tP_1 (by omega), hq, hKj, c4, Nat.add_zero]
          exact (runs_step c c4).symm
        refine ⟨I', L, ?_, hsf15.trans a2, LF.rf', ?_, by rw [hq]; exact a4, ?_, fun _ => ?_, fun y => by omega⟩
        · exact a1
        · rw [hP]; exact a6
        · unfold rK
          rw [hKj, c4]
          exact a5
        · unfold tL
          rw [hP, hq]
          exact a7
      rw [if_neg c4, if_pos rfl]
      have hk3 : kd (T q) = 3 := by
        have := kd_lt (T q)
        omega
      have hP : tP n T (j + 1) = q + 1 := by rw [tP_3 (by omega), hq]
      have hfin : ∀ x, x = rkd (T q) → RJ (up (up (up I 540 13 (nI q)) 540 14 (nI x)) 540 12 (nI (q + 1))) L n T j := by
        intro x hx
        refine ⟨by rw [up_eq, hP], by rw [up_ne (Or.inr (by decide)), up_ne (Or.inr (by decide)), up_eq, hq], ?_, fun y => by omega, fun y => by omega⟩
        rw [up_ne (Or.inr (by decide)), up_eq]
        unfold rK
        rw [if_neg (by omega), if_pos (by omega), hq, hx]
      have hsfx : ∀ x, SF I (up (up (up I 540 13 (nI q)) 540 14 x) 540 12 (nI (q + 1))) := fun x => (hsf13.up (by decide) (by decide)).up (by decide) (by decide)
      have e2 : ∀ x, up (up I 540 13 (nI q)) 540 14 x 540 12 = nI q := fun x => (up_ne (Or.inr (by decide))).trans e12
      have h268 : F_X12_scan_268 N (wm Mb (up I 540 13 (nI q)) L) 540 540 = some (wm Mb (up (up (up I 540 13 (nI q)) 540 14 (nI 3)) 540 12 (nI (q + 1))) L) := by
        unfold F_X12_scan_268
        simp only [wm_kR, wm_kt, wm_kn, wm_kin, wm_kL, wm_kI, wm_ksI, wm_ksL, wm_kJ, wm_ksJ, kg_t, kl_v, Option.bind_some, sr_k, sr_0, sr_1, sr_2, sr_3, sr_4, sr_7, sr_8, sr_9, sr_26, sr_27, sr_28, e2, nI_1]
        rfl
      rw [show (59 : Int32) = nI 59 from rfl, show (40 : Int32) = nI 40 from rfl, show (41 : Int32) = nI 41 from rfl]
      simp (disch := omega) only [nI_eqI, e2, h268, nI_1]
      by_cases d1 : T q = 59
      · rw [if_pos d1]
        exact ⟨_, L, rfl, hsfx _, LF.rf', hfin 3 (by unfold rkd; rw [if_pos (Or.inl d1)])⟩
      rw [if_neg d1]
      by_cases d2 : T q = 40
      · rw [if_pos d2]
        exact ⟨_, L, rfl, hsfx _, LF.rf', hfin 3 (by unfold rkd; rw [if_pos (Or.inr (Or.inl d2))])⟩
      rw [if_neg d2]
      by_cases d3 : T q = 41
      · rw [if_pos d3]
        exact ⟨_, L, rfl, hsfx _, LF.rf', hfin 3 (by unfold rkd; rw [if_pos (Or.inr (Or.inr d3))])⟩
      rw [if_neg d3]
      exact ⟨_, L, rfl, hsfx _, LF.rf', hfin 4 (by unfold rkd; rw [if_neg (by omega)])⟩
    · have hq : q = n := by omega
      simp only [if_neg c, e12, rx_see hT13 h800 (show q ≤ n by omega), wm_kR, wm_kt, wm_kn, wm_kin, wm_kL, wm_kI, wm_ksI, wm_ksL, wm_kJ, wm_ksJ, kg_t, kl_v, Option.bind_some]
      rw [if_neg (show ¬ (-1 : Int32) = 32 by decide), if_neg (show ¬ (-1 : Int32) = 10 by decide), if_pos trivial]
      have hS : tS n T j = n := by
        rw [← hs, hq]
        exact runs_stop (fun y => by omega)
      have hK : tK n T j = 4 := tK_4 (by omega)
      refine ⟨_, L, rfl, hsf13.up (by decide) (by decide), LF.rf', ?_, ?_, ?_, fun y => by omega, fun y => by omega⟩
      · rw [up_ne (Or.inr (by decide)), e12, (tP_4 hK).1, hq]
      · rw [up_ne (Or.inr (by decide)), up_eq, hS, hq]
      · rw [up_eq]
        unfold rK
        rw [if_pos hK]
        rfl
theorem rx_scan (hO : okT n T) (j : Nat) (hN : 1000 < N) (hT : RT I n T) (h12 : I 540 12 = nI (tP n T j)) : ∃ I' L', F_X12_scan N (wm Mb I L) 540 = some (wm Mb I' L') ∧ SF I I' ∧ LF L L' ∧ RJ I' L' n T j := by
  have h1 := tP_le (n := n) (T := T) j
  have h2 := hO.1
  unfold F_X12_scan
  exact rx_scan0 hO j hN (n - tP n T j) (tP n T j) N I hT h12 (by omega) rfl (by omega)
end
