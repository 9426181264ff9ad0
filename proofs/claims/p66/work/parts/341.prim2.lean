variable {Mb : SMem}
def KW (s len : Nat) (bs : Nat → Nat) (w : Nat) : Prop := (1 ≤ len ∧ len < 12) ∧ F_J0_length s = some (nI len) ∧ (∀ k, k < len → F_J0_charAt s (nI k) = some (nI (bs k))) ∧ (∀ k, k < len → 97 ≤ bs k ∧ bs k ≤ 122) ∧ codeN (fun k => bs k - 96) len = w
def kwL (s : Nat) : List Nat := (kSbyt.getD s []).map kx
theorem kw_of (s w : Nat) (h : ((decide (1 ≤ (kwL s).length) && decide ((kwL s).length < 12)) && (decide (F_J0_length s = some (nI (kwL s).length)) && ((List.range (kwL s).length).all (fun k => decide (F_J0_charAt s (nI k) = some (nI ((kwL s).getD k 0))) && (decide (97 ≤ (kwL s).getD k 0) && decide ((kwL s).getD k 0 ≤ 122))) && decide (codeN (fun k => (kwL s).getD k 0 - 96) (kwL s).length = w)))) = true) : KW s (kwL s).length (fun k => (kwL s).getD k 0) w := by
  simp only [Bool.and_eq_true, decide_eq_true_eq, List.all_eq_true, List.mem_range] at h
  obtain ⟨h1, h2, h3, h4⟩ := h
  exact ⟨h1, h2, fun k hk => (h3 k hk).1, fun k hk => (h3 k hk).2, h4⟩
theorem kw_market : KW 3 (kwL 3).length (fun k => (kwL 3).getD k 0) 437857460 := kw_of 3 437857460 (by decide +kernel)
theorem kw_board : KW 4 (kwL 4).length (fun k => (kwL 4).getD k 0) 2590276 := kw_of 4 2590276 (by decide +kernel)
theorem kw_trader : KW 5 (kwL 5).length (fun k => (kwL 5).getD k 0) 690000050 := kw_of 5 690000050 (by decide +kernel)
theorem kw_seat : KW 6 (kwL 6).length (fun k => (kwL 6).getD k 0) 627764 := kw_of 6 627764 (by decide +kernel)
theorem kw_left : KW 7 (kwL 7).length (fun k => (kwL 7).getD k 0) 398548 := kw_of 7 398548 (by decide +kernel)
theorem kw_right : KW 8 (kwL 8).length (fun k => (kwL 8).getD k 0) 19176724 := kw_of 8 19176724 (by decide +kernel)
section
variable {N : Nat} {I : kInts} {L : kLngs} {n c : Nat} {T : Nat → Nat} {σ : sg}
theorem tL_pos {j : Nat} (h : tS n T j < n) : 1 ≤ tL n T j := by
  have := tP_gt h
  unfold tL
  omega
theorem tL_end {j : Nat} : tS n T j + tL n T j = tP n T (j + 1) := by
  have h1 : tS n T j ≤ tP n T (j + 1) := tE_ge
  unfold tL
  omega
theorem tok_let {j i : Nat} (h : tK n T j = 1) (hi : i < tL n T j) : tS n T j + i < n ∧ 97 ≤ T (tS n T j + i) ∧ T (tS n T j + i) ≤ 122 := by
  have e := @tL_end n T j
  obtain ⟨h1, h2⟩ := tok_all h (Or.inl rfl) (show tS n T j ≤ tS n T j + i by omega) (by omega)
  exact ⟨h1, kd_1 h2⟩
theorem tok_dig {j i : Nat} (h : tK n T j = 2) (hi : i < tL n T j) : tS n T j + i < n ∧ 48 ≤ T (tS n T j + i) ∧ T (tS n T j + i) ≤ 57 := by
  have e := @tL_end n T j
  obtain ⟨h1, h2⟩ := tok_all h (Or.inr rfl) (show tS n T j ≤ tS n T j + i by omega) (by omega)
  exact ⟨h1, kd_2 h2⟩
theorem cx_wordL {s len w j : Nat} {bs : Nat → Nat} (hK : KW s len bs w) (h : CS I n T c (.inl j)) (h1 : tK n T j = 1) (hl : tL n T j = len) : ∀ (k i z : Nat), i + k = len → k < z → F_X9_atWord_38 N (wm Mb I L) z 6 s (nI i) = some (if sameL bs (fun q => T (tS n T j + q)) k i then 1 else 0)
  | k, i, 0, _, hz => absurd hz (Nat.not_lt_zero _)
  | 0, i, z + 1, e, _ => by
    have h9 := hK.1
    unfold F_X9_atWord_38
    simp (disch := omega) only [hK.2.1, wm_kR, wm_kt, wm_kn, wm_kin, wm_kL, wm_kI, wm_ksI, wm_ksL, wm_kJ, wm_ksJ, kg_t, kl_v, Option.bind_some, nI_ltP]
    rw [if_neg (by omega)]
    rfl
  | k + 1, i, z + 1, e, hz => by
    have ih := cx_wordL hK h h1 hl k (i + 1) z (by omega) (by omega)
    have h9 := hK.1
    obtain ⟨⟨h0, hT, h3, h4, h5, h6, h7⟩, g1, g2, g3, g4⟩ := h
    have h800 := h0.1
    obtain ⟨t1, t2, t3⟩ := tok_let h1 (show i < tL n T j by omega)
    have hb := hK.2.2.2.1 i (by omega)
    unfold F_X9_atWord_38 sameL
    simp (disch := omega) only [hK.2.1, hK.2.2.1 i (by omega), wm_kR, wm_kt, wm_kn, wm_kin, wm_kL, wm_kI, wm_ksI, wm_ksL, wm_kJ, wm_ksJ, kg_t, kl_v, Option.bind_some, nI_ltP, s6.1, s6.2.1, s6.2.2.2.1, s2.1, g1, kin_8, kx_nI, (h7 j g2).2.1, nI_add, cx_byte hT h800 t1, nI_eqI, nI_1]
    rw [if_pos (by omega)]
    by_cases cc : bs i = T (tS n T j + i)
    · rw [if_pos cc, ih]
      have : (bs i == T (tS n T j + i)) = true := by simpa using cc
      rw [this, Bool.true_and]
    · rw [if_neg cc]
      have : (bs i == T (tS n T j + i)) = false := by simpa using cc
      rw [this]
      rfl
theorem cx_atWord {s len w : Nat} {bs : Nat → Nat} (hK : KW s len bs w) (h : CS I n T c σ) (hN : 1000 < N) : F_X9_atWord N (wm Mb I L) 6 s = some (if qs σ (isW n T w) then 1 else 0) := by
  have hat := cx_at (Mb := Mb) (N := N) (L := L) h 1 (by decide)
  rw [show nI 1 = 1 from rfl] at hat
  unfold F_X9_atWord
  simp only [wm_kR, wm_kt, wm_kn, wm_kin, wm_kL, wm_kI, wm_ksI, wm_ksL, wm_kJ, wm_ksJ, kg_t, kl_v, Option.bind_some, s6.1, hat]
  cases σ with
  | inr x => rfl
  | inl j =>
    have hw : tK n T j = 1 → tL n T j = len → F_X9_atWord_38 N (wm Mb I L) N 6 s (nI 0) = some (if sameL bs (fun q => T (tS n T j + q)) len 0 then 1 else 0) := fun h1 hl => cx_wordL (N := N) (L := L) hK h h1 hl len 0 N (by omega) (by have := hK.1; omega)
    have h9 := hK.1
    have h0 := h.1.1
    have h4 : c ≤ 800 := h.1.2.2.2.1
    have h7 : ∀ j, j ≤ c → I 7 j = nI (tK n T j) ∧ I 8 j = nI (tS n T j) ∧ I 9 j = nI (tP n T (j + 1)) := h.1.2.2.2.2.2.2
    have g1 : I 6 5 = nI j := h.2.1
    have g2 : j ≤ c := h.2.2.1
    have h800 := h0.1
    have hP := tP_le (n := n) (T := T) (j + 1)
    have e := @tL_end n T j
    unfold qs isW
    by_cases c1 : tK n T j = 1
    · have hlw : ∀ i, i < tL n T j → 97 ≤ T (tS n T j + i) ∧ T (tS n T j + i) ≤ 122 := fun i hi => (tok_let c1 hi).2
      simp (disch := omega) only [wm_kR, wm_kt, wm_kn, wm_kin, wm_kL, wm_kI, wm_ksI, wm_ksL, wm_kJ, wm_ksJ, kg_t, kl_v, Option.bind_some, s6.1, s6.2.2.2.1, s6.2.2.2.2, hK.2.1, c1, decide_true, if_true, if_neg one0, g1, kin_8, kin_9, kx_nI, (h7 j g2).2.1, (h7 j g2).2.2, Bool.true_and]
      have em : nI (tP n T (j + 1)) - nI (tS n T j) = nI (tL n T j) := pk_sub (by omega)
      simp (disch := omega) only [em, nI_eqI]
      by_cases c2 : len = tL n T j
      · rw [if_pos c2, show (0 : Int32) = nI 0 from rfl, hw c1 c2.symm]
        have hcode : wv T (tS n T j) (tL n T j) = codeN (fun k => T (tS n T j + k) - 96) len := by rw [wv_code (by omega), ← c2]
        have hiff : sameL bs (fun q => T (tS n T j + q)) len 0 = true ↔ wv T (tS n T j) (tL n T j) = w := by
          rw [hcode, ← hK.2.2.2.2, sameL_iff]
          constructor
          · intro hh
            exact code_cong (fun k hk => by show T (tS n T j + k) - 96 = bs k - 96; rw [hh k (Nat.zero_le _) (by omega)])
          · intro hh k _ hk
            have hk' : k < len := by omega
            have i1 := (code_inj (fun k hk => by have := hlw k (by omega); show 1 ≤ T (tS n T j + k) - 96 ∧ T (tS n T j + k) - 96 ≤ 26; omega) (fun k hk => by have := hK.2.2.2.1 k hk; show 1 ≤ bs k - 96 ∧ bs k - 96 ≤ 26; omega) hh).2 k hk'
            have i2 := hlw k (by omega)
            have i3 := hK.2.2.2.1 k hk'
            show bs k = T (tS n T j + k)
            have i1' : T (tS n T j + k) - 96 = bs k - 96 := i1
            omega
        have hlt : decide (tL n T j < 12) = true := by simp; omega
        rw [hlt, Bool.true_and]
        by_cases c3 : sameL bs (fun q => T (tS n T j + q)) len 0 = true
        · rw [if_pos c3, if_pos (by simpa using hiff.mp c3)]
        · rw [if_neg c3, if_neg (by simpa using fun z => c3 (hiff.mpr z))]
          rfl
      · rw [if_neg c2]
        by_cases c4 : tL n T j < 12
        · rw [if_neg]
          simp only [c4, decide_true, Bool.true_and, decide_eq_true_eq]
          rw [wv_code (by omega), ← hK.2.2.2.2]
          intro hh
          exact c2 (code_inj (fun k hk => by have := hlw k (by omega); show 1 ≤ T (tS n T j + k) - 96 ∧ T (tS n T j + k) - 96 ≤ 26; omega) (fun k hk => by have := hK.2.2.2.1 k hk; show 1 ≤ bs k - 96 ∧ bs k - 96 ≤ 26; omega) hh).1.symm
        · simp [c4]
    · simp [c1]
theorem n_pred (p : Nat) : nI p - 1 < nI p ∨ 2147483648 ≤ p := by
  by_cases h : p < 2147483648
  · left
    rw [Int32.lt_iff_toInt_lt, Int32.toInt_sub, nI_toInt h]
    have e1 : (1 : Int32).toInt = 1 := by decide
    rw [e1, Int.bmod_eq_of_le (by omega) (by omega)]
    omega
  · right; omega
theorem cx_betweenL (hO : okT n T) (hT : CT I n T) {p l : Nat} (hl : l ≤ 6) (hp : p + l ≤ n) : ∀ (i z : Nat), i ≤ l → i < z → (∀ q, i ≤ q → q < l → kd (T (p + q)) = 1) → F_X8_nameBetween_17 N (wm Mb I L) z 2 (nI p) (lN (pkN (fun q => T (p + q) - 96) (l - i) i)) (nI (p + i) - 1) = some (if ∀ q, q < l → kd (T (p + q)) = 1 then lN (pkN (fun q => T (p + q) - 96) l 0) else 0)
  | _, 0, _, h, _ => absurd h (Nat.not_lt_zero _)
  | 0, z + 1, _, _, hq => by
    have h800 := hO.1
    unfold F_X8_nameBetween_17
    rw [if_pos (show nI (p + 0) - 1 < nI p from (n_pred p).resolve_right (by omega)), if_pos (fun q hq2 => hq q (Nat.zero_le _) hq2)]
    rfl
  | i + 1, z + 1, hi, hz, hq => by
    have h800 := hO.1
    have hB := hO.2 (p + i)
    have ih := cx_betweenL hO hT hl hp i z (by omega) (by omega)
    have em : nI (p + (i + 1)) - 1 = nI (p + i) := by
      show nI (p + (i + 1)) - nI 1 = nI (p + i)
      rw [pk_sub (by omega)]
      rfl
    unfold F_X8_nameBetween_17
    rw [em, if_neg (by rw [nI_ltI (by omega) (by omega)]; omega)]
    simp only [wm_kR, wm_kt, wm_kn, wm_kin, wm_kL, wm_kI, wm_ksI, wm_ksL, wm_kJ, wm_ksJ, kg_t, kl_v, Option.bind_some, s2.1, cx_byte hT h800 (show p + i < n by omega), cx_let _ hB.2]
    by_cases c1 : kd (T (p + i)) = 1
    · have hk := kd_1 c1
      have hq2 : ∀ q, i ≤ q → q < l → kd (T (p + q)) = 1 := fun q h1 h2 => by
        by_cases y : q = i
        · rw [y]; exact c1
        · exact hq q (by omega) h2
      have hP := pkN_48 (f := fun q => T (p + q) - 96) (k := l - (i + 1)) (i := i + 1) (by omega) (fun j h1 h2 => by
        have := kd_1 (hq j h1 (by omega))
        show 1 ≤ T (p + j) - 96 ∧ T (p + j) - 96 ≤ 26
        omega)
      simp only [c1, if_true, if_neg one0]
      rw [pkN_shl _ _ (by omega) (by omega)]
      have e5 : 256 * pkN (fun q => T (p + q) - 96) (l - (i + 1)) (i + 1) + T (p + i) = pkN (fun q => T (p + q) - 96) (l - i) i := by
        rw [show l - i = (l - (i + 1)) + 1 by omega, pkN_s]
        show _ = 96 + (T (p + i) - 96) + _
        omega
      have e6 : nI (p + i) + (-1) = nI (p + i) - 1 := by grind
      rw [e5, e6]
      exact ih hq2
    · simp only [c1, if_false, if_true]
      rw [if_neg (fun z => c1 (z i (by omega)))]
theorem cx_between (hO : okT n T) (hT : CT I n T) {p l : Nat} (hp : p + l ≤ n) (hN : 1000 < N) : F_X8_nameBetween N (wm Mb I L) 2 (nI p) (nI (p + l)) = some (if 1 ≤ l ∧ l ≤ 6 ∧ ∀ q, q < l → kd (T (p + q)) = 1 then lN (pkN (fun q => T (p + q) - 96) l 0) else 0) := by
  have h800 := hO.1
  have em : nI (p + l) - nI p = nI l := by rw [pk_sub (by omega)]; congr 1; omega
  unfold F_X8_nameBetween
  rw [em]
  by_cases c2 : 6 < l
  · rw [if_pos (show (6 : Int32) < nI l from nI_lt (a := 6) c2 (by omega)), if_neg (by omega)]
  · rw [if_neg (show ¬ (6 : Int32) < nI l from nI_nlt (b := l) (a := 6) (by omega) (by decide))]
    have h := cx_betweenL (Mb := Mb) (N := N) (I := I) (L := L) hO hT (show l ≤ 6 by omega) hp l N (Nat.le_refl _) (by omega) (fun q h1 h2 => absurd h2 (by omega))
    rw [Nat.sub_self] at h
    unfold kl
    refine Eq.trans h ?_
    by_cases c1 : l = 0
    · subst c1
      rw [if_pos (fun q hq => absurd hq (Nat.not_lt_zero _)), if_neg (by omega)]
      rfl
    · by_cases c3 : ∀ q, q < l → kd (T (p + q)) = 1
      · rw [if_pos c3, if_pos ⟨by omega, by omega, c3⟩]
      · rw [if_neg c3, if_neg (fun z => c3 z.2.2)]
theorem read_nmV {p l : Nat} (hl : 1 ≤ l ∧ l ≤ 6 ∧ ∀ q, q < l → kd (T (p + q)) = 1) : nmV (lN (pkN (fun q => T (p + q) - 96) l 0)) (nI (wv T p l)) := by
  refine ⟨l, fun q => T (p + q) - 96, ⟨hl.1, hl.2.1⟩, fun k hk => ?_, rfl, by rw [wv_code (by omega)]⟩
  have := kd_1 (hl.2.2 k hk)
  show 1 ≤ T (p + k) - 96 ∧ T (p + k) - 96 ≤ 26
  omega
theorem cx_takeName (h : CS I n T c σ) (hN : 1000 < N) : ∃ I' v, F_X9_takeName N (wm Mb I L) 6 = some (v, wm Mb I' L) ∧ CS I' n T c (stp n T σ (fun j => if isM n T j then 0 else 1)) ∧ CF I I' ∧ (∀ j, σ = .inl j → isM n T j = true → nmV v (nmc n T j)) ∧ ∃ q, nmZ v q := by
  have fin0 : ∀ J, CS J n T c σ → (∀ j, σ = .inl j → isM n T j = false) → ∃ I', F_X9_takeIf N (wm Mb J L) 6 0 = some (wm Mb I' L) ∧ CS I' n T c (stp n T σ (fun j => if isM n T j then 0 else 1)) ∧ CF J I' := by
    intro J hJ hno
    obtain ⟨I', a1, a2, a3⟩ := cx_takeNo (Mb := Mb) (N := N) (L := L) hJ
    refine ⟨I', a1, ?_, a3⟩
    cases σ with
    | inr x => exact a2
    | inl j =>
      unfold stp
      simp only [hno j rfl]
      exact a2
  unfold F_X9_takeName
  have hat := cx_at (Mb := Mb) (N := N) (L := L) h 1 (by decide)
  rw [show nI 1 = 1 from rfl] at hat
  simp only [wm_kR, wm_kt, wm_kn, wm_kin, wm_kL, wm_kI, wm_ksI, wm_ksL, wm_kJ, wm_ksJ, kg_t, kl_v, Option.bind_some, s6.1, hat]
  have z0 : (lg_cmp (0 : Int64) 0 = 0) = True := by rw [lgc0]; exact eq_self _
  by_cases hq : qs σ (fun j => decide (tK n T j = 1)) = true
  · cases σ with
    | inr x => cases hq
    | inl j =>
      have c1 : tK n T j = 1 := of_decide_eq_true hq
      rw [hq, if_pos rfl, if_neg one0]
      obtain ⟨⟨h0, hT, hta⟩, g1, g2, g3, g4⟩ := id h
      obtain ⟨h3, h4, h5, h6, h7⟩ := id hta
      have h800 := h0.1
      have hP := tP_le (n := n) (T := T) (j + 1)
      have e := @tL_end n T j
      have a1 := cx_between (Mb := Mb) (N := N) (L := L) h0 hT (show tS n T j + tL n T j ≤ n by omega) hN
      rw [e] at a1
      simp (disch := omega) only [wm_kR, wm_kt, wm_kn, wm_kin, wm_kL, wm_kI, wm_ksI, wm_ksL, wm_kJ, wm_ksJ, kg_t, kl_v, Option.bind_some, s6.1, s6.2.1, s6.2.2.2.1, s6.2.2.2.2, g1, kin_8, kin_9, kx_nI, (h7 j g2).2.1, (h7 j g2).2.2, s2.1, a1]
      by_cases b2 : 1 ≤ tL n T j ∧ tL n T j ≤ 6 ∧ ∀ q, q < tL n T j → kd (T (tS n T j + q)) = 1
      · rw [if_pos b2]
        have hM : isM n T j = true := by
          unfold isM
          simp only [Bool.and_eq_true, decide_eq_true_eq]
          exact ⟨c1, b2.2.1⟩
        obtain ⟨I', d1, d2, d3⟩ := cx_takeYes (Mb := Mb) (N := N) (L := L) h (fun i hi => by cases hi; omega)
        have hn : nmV (lN (pkN (fun q => T (tS n T j + q) - 96) (tL n T j) 0)) (nmc n T j) := read_nmV b2
        refine ⟨I', _, ?_, ?_, d3, fun i hi _ => by cases hi; exact hn, ⟨_, hn.z⟩⟩
        · unfold F_X9_takeName_37
          simp only [wm_kR, wm_kt, wm_kn, wm_kin, wm_kL, wm_kI, wm_ksI, wm_ksL, wm_kJ, wm_ksJ, kg_t, kl_v, Option.bind_some, lgc0, hn.ne, if_false, s6.1, d1]
        · unfold stp
          simp only [hM, if_true]
          exact d2
      · rw [if_neg b2]
        have hM : isM n T j = false := by
          cases hz : isM n T j with
          | false => rfl
          | true =>
            exfalso
            unfold isM at hz
            simp only [Bool.and_eq_true, decide_eq_true_eq] at hz
            exact b2 ⟨tL_pos (tS_lt (by omega)), hz.2, fun q hq' => kd_is1 (tok_let c1 hq').2⟩
        obtain ⟨I', d1, d2, d3⟩ := fin0 I h (fun i hi => by cases hi; exact hM)
        refine ⟨I', 0, ?_, d2, d3, fun i hi hm => ?_, ⟨0, nmZ_0⟩⟩
        · unfold F_X9_takeName_37
          simp only [wm_kR, wm_kt, wm_kn, wm_kin, wm_kL, wm_kI, wm_ksI, wm_ksL, wm_kJ, wm_ksJ, kg_t, kl_v, Option.bind_some, z0, if_true, s6.1, d1]
        · cases hi
          rw [hM] at hm
          cases hm
  · have hf : qs σ (fun j => decide (tK n T j = 1)) = false := by simpa using hq
    have hno : ∀ j, σ = .inl j → isM n T j = false := by
      intro j hj
      subst hj
      unfold isM
      have : decide (tK n T j = 1) = false := hf
      rw [this]
      rfl
    obtain ⟨I', d1, d2, d3⟩ := fin0 I h hno
    rw [hf]
    refine ⟨I', 0, ?_, d2, d3, fun i hi hm => ?_, ⟨0, nmZ_0⟩⟩
    · unfold F_X9_takeName_37
      simp only [Bool.false_eq_true, if_false, if_true, z0, s6.1, d1, wm_kR, wm_kt, wm_kn, wm_kin, wm_kL, wm_kI, wm_ksI, wm_ksL, wm_kJ, wm_ksJ, kg_t, kl_v, Option.bind_some]
    · rw [hno i hi] at hm
      cases hm
end
