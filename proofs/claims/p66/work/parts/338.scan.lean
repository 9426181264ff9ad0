variable {Mb : SMem}
def CT (I : kInts) (n : Nat) (T : Nat → Nat) : Prop := I 2 1 = nI n ∧ ∀ k, k < n → I 3 k = nI (T k)
def RT (I : kInts) (n : Nat) (T : Nat → Nat) : Prop := I 540 11 = nI n ∧ ∀ k, k < n → I 548 k = nI (T k)
def okT (n : Nat) (T : Nat → Nat) : Prop := n ≤ 800 ∧ ∀ k, 1 ≤ T k ∧ T k ≤ 255
def TA (I : kInts) (n : Nat) (T : Nat → Nat) (c : Nat) : Prop := I 6 4 = nI (c + 1) ∧ c ≤ 800 ∧ tK n T c = 4 ∧ (∀ j, j < c → tK n T j ≠ 4) ∧ ∀ j, j ≤ c → I 7 j = nI (tK n T j) ∧ I 8 j = nI (tS n T j) ∧ I 9 j = nI (tP n T (j + 1))
def TI (I : kInts) (n : Nat) (T : Nat → Nat) (i c pv : Nat) : Prop := I 6 4 = nI c ∧ c ≤ i ∧ (∀ j, j < c → tK n T j ≠ 4 ∧ I 7 j = nI (tK n T j) ∧ I 8 j = nI (tS n T j)) ∧ ((pv = 0 ∨ pv = 3) ∧ (∀ j, j < c → I 9 j = nI (tP n T (j + 1))) ∧ sk n T (tP n T c) = sk n T i ∨ (pv = 1 ∨ pv = 2) ∧ ∃ d, c = d + 1 ∧ (∀ j, j < d → I 9 j = nI (tP n T (j + 1))) ∧ I 9 d = nI i ∧ tP n T c = runs n T pv i)
section
variable {N : Nat} {I : kInts} {L : kLngs} {n : Nat} {T : Nat → Nat}
theorem s6 : kt Mb 6 9 = true ∧ kR Mb 6 0 = 2 ∧ kR Mb 6 1 = 7 ∧ kR Mb 6 2 = 8 ∧ kR Mb 6 3 = 9 := ⟨(kt_of (n := 8) 6 (by decide)).1, kR_of 6 0 (by decide), kR_of 6 1 (by decide), kR_of 6 2 (by decide), kR_of 6 3 (by decide)⟩
theorem s2 : kt Mb 2 8 = true ∧ kR Mb 2 0 = 3 := ⟨(kt_of (n := 2) 2 (by decide)).1, kR_of 2 0 (by decide)⟩
theorem s4 : kt Mb 4 8 = true ∧ kR Mb 4 0 = 5 := ⟨(kt_of (n := 2) 4 (by decide)).1, kR_of 4 0 (by decide)⟩
theorem s3 : kt Mb 3 13 = true ∧ kn Mb 3 = 800 := sh_a.1 3 (by decide)
theorem s7 : kt Mb 7 13 = true ∧ kn Mb 7 = 801 := sh_a.2.1 7 (by decide)
theorem s8 : kt Mb 8 13 = true ∧ kn Mb 8 = 801 := sh_a.2.1 8 (by decide)
theorem s9 : kt Mb 9 13 = true ∧ kn Mb 9 = 801 := sh_a.2.1 9 (by decide)
theorem kin_3 {i : Nat} (h : i < 800) : kin Mb 3 13 (nI i) = true := kin_nI s3.1 s3.2 h (by decide)
theorem kin_7 {i : Nat} (h : i < 801) : kin Mb 7 13 (nI i) = true := kin_nI s7.1 s7.2 h (by decide)
theorem kin_8 {i : Nat} (h : i < 801) : kin Mb 8 13 (nI i) = true := kin_nI s8.1 s8.2 h (by decide)
theorem kin_9 {i : Nat} (h : i < 801) : kin Mb 9 13 (nI i) = true := kin_nI s9.1 s9.2 h (by decide)
theorem cx_byte (hT : CT I n T) (h800 : n ≤ 800) {i : Nat} (hi : i < n) : F_X8_byteAt N (wm Mb I L) 2 (nI i) = some (nI (T i)) := by
  unfold F_X8_byteAt
  simp (disch := omega) only [wm_kR, wm_kt, wm_kn, wm_kin, wm_kL, wm_kI, wm_ksI, wm_ksL, wm_kJ, wm_ksJ, kg_t, kl_v, Option.bind_some, s2.1, s2.2, s3.1, s3.2, hT.1, ofNnI, nI_lt0, nI_ltP, if_false, kin_3, kx_nI, hT.2 i hi]
  rw [if_pos hi, if_pos (by omega)]
theorem nle {a b : Nat} (ha : a < 2147483648) (hb : b < 2147483648) : (nI a < nI b) = (a < b) := nI_ltP ha hb
theorem kd_is1 {b : Nat} (h : 97 ≤ b ∧ b ≤ 122) : kd b = 1 := if_pos h
theorem cx_let (M : kMem) {b : Nat} (hb : b ≤ 255) : F_X11_isLetter N M (nI b) = some (if kd b = 1 then 1 else 0) := by
  unfold F_X11_isLetter
  rw [show (97 : Int32) = nI 97 from rfl, show (122 : Int32) = nI 122 from rfl]
  simp (disch := omega) only [nI_ltP]
  by_cases c1 : b < 97
  · rw [if_pos c1, if_neg (fun z => by have := kd_1 z; omega)]
  · rw [if_neg c1]
    by_cases c2 : 122 < b
    · rw [if_pos c2, if_neg (fun z => by have := kd_1 z; omega)]
    · rw [if_neg c2, if_pos (kd_is1 (by omega))]
theorem cx_kind (M : kMem) {b : Nat} (hb : b ≤ 255) : F_X9_kindOf N M (nI b) = some (nI (kd b)) := by
  unfold F_X9_kindOf F_X11_isDigit
  simp only [cx_let M hb, Option.bind_some]
  rw [show (48 : Int32) = nI 48 from rfl, show (57 : Int32) = nI 57 from rfl, show (32 : Int32) = nI 32 from rfl, show (10 : Int32) = nI 10 from rfl]
  simp (disch := omega) only [nI_ltP, nI_eqI]
  by_cases c1 : kd b = 1
  · rw [if_pos c1, if_neg one0, c1]; rfl
  · rw [if_neg c1, if_pos rfl]
    have hk : kd b = if 48 ≤ b ∧ b ≤ 57 then 2 else if b = 32 ∨ b = 10 then 0 else 3 := by
      unfold kd at c1 ⊢
      by_cases z : 97 ≤ b ∧ b ≤ 122
      · rw [if_pos z] at c1; exact absurd rfl c1
      · rw [if_neg z]
    rw [hk]
    by_cases c2 : b < 48
    · rw [if_pos c2, if_neg (show ¬ (48 ≤ b ∧ b ≤ 57) by omega)]
      simp only [Option.bind_some, if_true]
      by_cases c3 : b = 32
      · rw [if_pos c3, if_pos (Or.inl c3)]; rfl
      · rw [if_neg c3]
        by_cases c4 : b = 10
        · rw [if_pos c4, if_pos (Or.inr c4)]; rfl
        · rw [if_neg c4, if_neg (by omega)]; rfl
    · rw [if_neg c2]
      by_cases c3 : 57 < b
      · rw [if_pos c3, if_neg (show ¬ (48 ≤ b ∧ b ≤ 57) by omega), if_neg (show ¬ (b = 32 ∨ b = 10) by omega)]
        simp only [Option.bind_some, if_true]
        rw [if_neg (by omega), if_neg (by omega)]; rfl
      · rw [if_neg c3, if_pos (show 48 ≤ b ∧ b ≤ 57 by omega)]
        simp only [Option.bind_some, if_neg one0]; rfl
theorem cx_add9 {c : Nat} (h : I 6 4 = nI c) (hc : c ≤ 800) (x y z : Int32) : F_X9_add N (wm Mb I L) 6 x y z = some (wm Mb (up (up (up (up I 7 c x) 8 c y) 9 c z) 6 4 (nI (c + 1))) L) := by
  have e1 : up I 7 c x 6 4 = nI c := (up_ne (Or.inl (by decide))).trans h
  have e2 : up (up I 7 c x) 8 c y 6 4 = nI c := (up_ne (Or.inl (by decide))).trans e1
  have e3 : up (up (up I 7 c x) 8 c y) 9 c z 6 4 = nI c := (up_ne (Or.inl (by decide))).trans e2
  unfold F_X9_add
  simp (disch := omega) only [wm_kR, wm_kt, wm_kn, wm_kin, wm_kL, wm_kI, wm_ksI, wm_ksL, wm_kJ, wm_ksJ, kg_t, kl_v, Option.bind_some, s6.1, s6.2.1, s6.2.2.1, s6.2.2.2.1, s6.2.2.2.2, s7.1, s7.2, h, e1, e2, e3, ofNnI, nI_ltP, kin_7, kin_8, kin_9, kx_nI, nI_1]
  rw [if_pos (by omega)]
theorem cx_beginL (hO : okT n T) (k : Nat) : ∀ (i z c pv : Nat) (I : kInts), CT I n T → TI I n T i c pv → pv < 4 → i + k = n → k < z → ∃ I' c', F_X9_begin_24 N z (wm Mb I L) 6 (nI pv) (nI i) = some (wm Mb I' L) ∧ TA I' n T c' ∧ (∀ a j, a < 6 ∨ 9 < a ∨ a = 6 ∧ j ≠ 4 → I' a j = I a j) := by
  obtain ⟨h800, hB⟩ := hO
  induction k with
  | zero =>
    intro i z c pv I hT hI hpv e hz
    cases z with
    | zero => omega
    | succ z =>
      obtain ⟨g1, g2, g3, g4⟩ := hI
      have hc : tS n T c = n := by
        rcases g4 with ⟨-, -, g6⟩ | ⟨g5, d, g6, g7, g8, g9⟩
        · have h1 : n ≤ sk n T i := by have := sk_ge (n := n) (T := T) (p := i); omega
          have h2 := tS_le (n := n) (T := T) c
          show sk n T (tP n T c) = n
          unfold tS at h2
          omega
        · have h1 : n ≤ tP n T c := by rw [g9]; have := runs_ge (n := n) (T := T) (k := pv) (p := i); omega
          have h2 := sk_ge (n := n) (T := T) (p := tP n T c)
          have h3 := tS_le (n := n) (T := T) c
          unfold tS at h3 ⊢
          omega
      have hk : tK n T c = 4 := tK_4 (by omega)
      have hp := (tP_4 hk).1
      refine ⟨up (up (up (up I 7 c (nI 4)) 8 c (nI n)) 9 c (nI n)) 6 4 (nI (c + 1)), c, ?_, ⟨up_eq, by omega, hk, fun j hj => (g3 j hj).1, fun j hj => ?_⟩, fun a j h => ?_⟩
      · unfold F_X9_begin_24
        simp (disch := omega) only [wm_kR, wm_kt, wm_kn, wm_kin, wm_kL, wm_kI, wm_ksI, wm_ksL, wm_kJ, wm_ksJ, kg_t, kl_v, Option.bind_some, s6.1, s6.2.1, s2.1, hT.1, nI_ltP, cx_add9 g1 (show c ≤ 800 by omega)]
        rw [if_neg (by omega)]
        rfl
      · by_cases z : j = c
        · subst z
          rw [up_ne (Or.inl (by decide)), up_ne (Or.inl (by decide)), up_ne (Or.inl (by decide)), up_eq, up_ne (Or.inl (by decide)), up_ne (Or.inl (by decide)), up_eq, up_ne (Or.inl (by decide)), up_eq, hk, hc, hp]
          exact ⟨rfl, rfl, rfl⟩
        · rw [up_ne (Or.inl (by decide)), up_ne (Or.inl (by decide)), up_ne (Or.inl (by decide)), up_ne (Or.inr z), up_ne (Or.inl (by decide)), up_ne (Or.inl (by decide)), up_ne (Or.inr z), up_ne (Or.inl (by decide)), up_ne (Or.inl (by decide)), up_ne (Or.inr z), up_ne (Or.inl (by decide)), up_ne (Or.inl (by decide))]
          refine ⟨(g3 j (by omega)).2.1, (g3 j (by omega)).2.2, ?_⟩
          rcases g4 with ⟨-, g5, -⟩ | ⟨g5, d, g6, g7, g8, g9⟩
          · exact g5 j (by omega)
          · by_cases y : j = d
            · subst y
              rw [g8, ← g6, g9, runs_stop (by omega)]
            · exact g7 j (by omega)
      · rw [up_ne (by omega), up_ne (by omega), up_ne (by omega), up_ne (by omega)]
  | succ k ih =>
    intro i z c pv I hT hI hpv e hz
    cases z with
    | zero => omega
    | succ z =>
      have hi : i < n := by omega
      have hb := hB i
      have hkl := kd_lt (T i)
      -- one more token, from a closed place
      have step : ∀ I2 : kInts, CT I2 n T → I2 6 4 = nI c → c ≤ i → (∀ j, j < c → tK n T j ≠ 4 ∧ I2 7 j = nI (tK n T j) ∧ I2 8 j = nI (tS n T j)) → (∀ j, j < c → I2 9 j = nI (tP n T (j + 1))) → sk n T (tP n T c) = sk n T i → ∃ I' c', F_X9_begin_72 N (fun M a0 x1 x2 => F_X9_begin_24 N z M a0 x1 x2) (wm Mb I2 L) 6 (nI i) (nI (kd (T i))) = some (wm Mb I' L) ∧ TA I' n T c' ∧ (∀ a j, a < 6 ∨ 9 < a ∨ a = 6 ∧ j ≠ 4 → I' a j = I2 a j) := by
        intro I2 hT2 q1 q2 q3 q4 q5
        unfold F_X9_begin_72
        by_cases c0 : kd (T i) = 0
        · rw [c0, if_pos (show nI 0 = 0 from rfl)]
          obtain ⟨I', c', a1, a2, a3⟩ := ih (i + 1) z c 0 I2 hT2 ⟨q1, by omega, q3, Or.inl ⟨Or.inl rfl, q4, by
            rw [q5]
            show runs n T 0 i = runs n T 0 (i + 1)
            exact runs_step hi c0⟩⟩ (by decide) (by omega) (by omega)
          refine ⟨I', c', ?_, a2, a3⟩
          simp only [kl_v, nI_1]
          exact a1
        · rw [if_neg (show ¬ nI (kd (T i)) = 0 from nI_ne0 (by omega) (by omega))]
          have hski : sk n T i = i := runs_stop (fun z => c0 z.2)
          have hS : tS n T c = i := q5.trans hski
          have hKc : tK n T c = kd (T i) := by rw [tK_kd (by omega), hS]
          have hnext : ∀ pv', pv' = kd (T i) → TI (up (up (up (up I2 7 c (nI (kd (T i)))) 8 c (nI i)) 9 c (nI (i + 1))) 6 4 (nI (c + 1))) n T (i + 1) (c + 1) pv' := by
            intro pv' hpv'
            refine ⟨up_eq, by omega, fun j hj => ?_, ?_⟩
            · by_cases y : j = c
              · subst y
                rw [up_ne (Or.inl (by decide)), up_ne (Or.inl (by decide)), up_ne (Or.inl (by decide)), up_eq, up_ne (Or.inl (by decide)), up_ne (Or.inl (by decide)), up_eq, hKc, hS]
                exact ⟨by omega, rfl, rfl⟩
              · rw [up_ne (Or.inl (by decide)), up_ne (Or.inl (by decide)), up_ne (Or.inl (by decide)), up_ne (Or.inr y), up_ne (Or.inl (by decide)), up_ne (Or.inl (by decide)), up_ne (Or.inr y), up_ne (Or.inl (by decide))]
                exact q3 j (by omega)
            · have hold : ∀ j, j < c → up (up (up (up I2 7 c (nI (kd (T i)))) 8 c (nI i)) 9 c (nI (i + 1))) 6 4 (nI (c + 1)) 9 j = nI (tP n T (j + 1)) := by
                intro j hj
                rw [up_ne (Or.inl (by decide)), up_ne (Or.inr (by omega)), up_ne (Or.inl (by decide)), up_ne (Or.inl (by decide))]
                exact q4 j hj
              have hnew : up (up (up (up I2 7 c (nI (kd (T i)))) 8 c (nI i)) 9 c (nI (i + 1))) 6 4 (nI (c + 1)) 9 c = nI (i + 1) := by
                rw [up_ne (Or.inl (by decide)), up_eq]
              by_cases c3 : kd (T i) = 3
              · have hP : tP n T (c + 1) = i + 1 := by rw [tP_3 (by omega), hS]
                refine Or.inl ⟨Or.inr (by omega), fun j hj => ?_, by rw [hP]⟩
                by_cases y : j = c
                · subst y; rw [hnew, hP]
                · exact hold j (by omega)
              · refine Or.inr ⟨by omega, c, rfl, hold, hnew, ?_⟩
                rw [tP_1 (by omega), hS, hKc, hpv']
          obtain ⟨I', c', a1, a2, a3⟩ := ih (i + 1) z (c + 1) (kd (T i)) _ ⟨by rw [up_ne (Or.inl (by decide)), up_ne (Or.inl (by decide)), up_ne (Or.inl (by decide)), up_ne (Or.inl (by decide))]; exact hT2.1, fun j hj => by rw [up_ne (Or.inl (by decide)), up_ne (Or.inl (by decide)), up_ne (Or.inl (by decide)), up_ne (Or.inl (by decide))]; exact hT2.2 j hj⟩ (hnext _ rfl) hkl (by omega) (by omega)
          refine ⟨I', c', ?_, a2, fun a j h => (a3 a j h).trans (by rw [up_ne (by omega), up_ne (by omega), up_ne (by omega), up_ne (by omega)])⟩
          simp only [wm_kR, wm_kt, wm_kn, wm_kin, wm_kL, wm_kI, wm_ksI, wm_ksL, wm_kJ, wm_ksJ, kg_t, kl_v, Option.bind_some, s6.1, nI_1, cx_add9 q1 (show c ≤ 800 by omega)]
          exact a1
      obtain ⟨g1, g2, g3, g4⟩ := hI
      unfold F_X9_begin_24
      simp (disch := omega) only [wm_kR, wm_kt, wm_kn, wm_kin, wm_kL, wm_kI, wm_ksI, wm_ksL, wm_kJ, wm_ksJ, kg_t, kl_v, Option.bind_some, s6.1, s6.2.1, s2.1, hT.1, nI_ltP, cx_byte hT h800 hi, cx_kind _ hb.2, nI_eqI]
      rw [if_pos hi]
      rcases g4 with ⟨g5, g6, g7⟩ | ⟨g5, d, g6, g7, g8, g9⟩
      · have st := step I hT g1 g2 g3 g6 g7
        by_cases y : kd (T i) = pv
        · rw [if_pos y, if_neg (show ¬ nI (kd (T i)) = 1 by rw [show (1 : Int32) = nI 1 from rfl, nI_eq (by omega) (by omega)]; omega), if_neg (show ¬ nI (kd (T i)) = 2 by rw [show (2 : Int32) = nI 2 from rfl, nI_eq (by omega) (by omega)]; omega)]
          exact st
        · rw [if_neg y]
          exact st
      · by_cases y : kd (T i) = pv
        · -- the token grows
          have hlen : F_X9_begin_62 N (fun M a0 x1 x2 => F_X9_begin_24 N z M a0 x1 x2) (wm Mb I L) 6 (nI i) (nI (kd (T i))) = F_X9_begin_24 N z (wm Mb (up I 9 d (nI (i + 1))) L) 6 (nI pv) (nI (i + 1)) := by
            have em : nI c - 1 = nI d := by rw [g6, nI_pred]
            unfold F_X9_begin_62 F_X9_lengthen
            rw [y]
            simp (disch := omega) only [wm_kR, wm_kt, wm_kn, wm_kin, wm_kL, wm_kI, wm_ksI, wm_ksL, wm_kJ, wm_ksJ, kg_t, kl_v, Option.bind_some, s6.1, s6.2.2.2.2, g1, em, kin_9, kx_nI, nI_1]
            rw [if_pos (show (0 : Int32) < nI c from nI_lt (a := 0) (by omega) (by omega))]
            rfl
          obtain ⟨I', c', a1, a2, a3⟩ := ih (i + 1) z c pv (up I 9 d (nI (i + 1))) ⟨(up_ne (Or.inl (by decide))).trans hT.1, fun j hj => (up_ne (Or.inl (by decide))).trans (hT.2 j hj)⟩ ⟨(up_ne (Or.inl (by decide))).trans g1, by omega, fun j hj => by rw [up_ne (Or.inl (by decide)), up_ne (Or.inl (by decide))]; exact g3 j hj, Or.inr ⟨g5, d, g6, fun j hj => (up_ne (Or.inr (by omega))).trans (g7 j hj), up_eq, by rw [g9]; exact runs_step hi y⟩⟩ hpv (by omega) (by omega)
          refine ⟨I', c', ?_, a2, fun a j h => (a3 a j h).trans (up_ne (by omega))⟩
          rw [if_pos y]
          rcases g5 with g5 | g5
          · rw [if_pos (show nI (kd (T i)) = 1 by rw [y, g5]; rfl), hlen]
            exact a1
          · rw [if_neg (show ¬ nI (kd (T i)) = 1 by rw [y, g5]; decide), if_pos (show nI (kd (T i)) = 2 by rw [y, g5]; rfl), hlen]
            exact a1
        · rw [if_neg y]
          have hs : runs n T pv i = i := runs_stop (fun z => y z.2)
          rw [hs] at g9
          exact step I hT g1 g2 g3 (fun j hj => by
            by_cases w : j = d
            · subst w; rw [g8, ← g6, g9]
            · exact g7 j (by omega)) (by rw [g9])
theorem cx_begin (hO : okT n T) (hT : CT I n T) (hN : 1000 < N) : ∃ I' c, F_X9_begin N (wm Mb I L) 6 = some (wm Mb I' L) ∧ TA I' n T c ∧ I' 6 5 = 0 ∧ I' 6 6 = 0 ∧ I' 6 7 = -1 ∧ (∀ a j, a < 6 ∨ 9 < a → I' a j = I a j) := by
  have h800 := hO.1
  obtain ⟨I', c, a1, a2, a3⟩ := cx_beginL (Mb := Mb) (N := N) (L := L) hO n 0 N 0 0 (up (up (up (up I 6 6 0) 6 7 (-1)) 6 5 0) 6 4 0) ⟨by rw [up_ne (Or.inl (by decide)), up_ne (Or.inl (by decide)), up_ne (Or.inl (by decide)), up_ne (Or.inl (by decide))]; exact hT.1, fun j hj => by rw [up_ne (Or.inl (by decide)), up_ne (Or.inl (by decide)), up_ne (Or.inl (by decide)), up_ne (Or.inl (by decide))]; exact hT.2 j hj⟩ ⟨up_eq, by omega, fun j hj => absurd hj (Nat.not_lt_zero _), Or.inl ⟨Or.inl rfl, fun j hj => absurd hj (Nat.not_lt_zero _), rfl⟩⟩ (by decide) (by omega) (by omega)
  refine ⟨I', c, ?_, a2, ?_, ?_, ?_, fun a j h => (a3 a j (by omega)).trans (by rw [up_ne (by omega), up_ne (by omega), up_ne (by omega), up_ne (by omega)])⟩
  · unfold F_X9_begin
    simp only [wm_kR, wm_kt, wm_kn, wm_kin, wm_kL, wm_kI, wm_ksI, wm_ksL, wm_kJ, wm_ksJ, kg_t, kl_v, Option.bind_some, s6.1]
    exact a1
  · rw [a3 6 5 (by omega), up_ne (Or.inr (by decide)), up_eq]
  · rw [a3 6 6 (by omega), up_ne (Or.inr (by decide)), up_ne (Or.inr (by decide)), up_ne (Or.inr (by decide)), up_eq]
  · rw [a3 6 7 (by omega), up_ne (Or.inr (by decide)), up_ne (Or.inr (by decide)), up_eq]
end
