variable {Mb : SMem}
def sdC (n : Nat) (T : Nat → Nat) (j : Nat) : Nat := if isW n T 398548 j || isW n T 19176724 j then 0 else 1
def sdV (n : Nat) (T : Nat → Nat) (σ : sg) : Int32 := if qs σ (isW n T 398548) then -1 else 1
def enS (n : Nat) (T : Nat → Nat) (σ : sg) : sg := match σ with
  | .inl j => if tK n T j = 4 then .inl j else .inr (1, tS n T j)
  | .inr x => .inr x
def goS (σ : sg) : sg := match σ with
  | .inl j => .inl (j + 1)
  | .inr x => .inr x
def rdV (n : Nat) (T : Nat → Nat) (lo h : Nat) (σ : sg) : Int32 := match σ with
  | .inl j => if cN n T lo h j = 0 then nI (nuv n T j) else nI lo
  | .inr _ => nI lo
section
variable {N : Nat} {I : kInts} {L : kLngs} {n c : Nat} {T : Nat → Nat} {σ : sg}
theorem nv_s (b l : Nat) : nv T b (l + 1) = if 999999 < nv T b l then nv T b l else 10 * nv T b l + (T (b + l) - 48) := rfl
theorem cx_valL {j : Nat} (h : CS I n T c (.inl j)) (h2 : tK n T j = 2) : ∀ (k l z : Nat), l + k = tL n T j → k < z → F_X9_valueHere_12 N (wm Mb I L) z 6 (nI (min 1000000 (nv T (tS n T j) l))) (nI (tS n T j + l)) = some (nI (min 1000000 (nuv n T j)))
  | k, l, 0, _, hz => absurd hz (Nat.not_lt_zero _)
  | 0, l, z + 1, e, _ => by
    have h0 := h.1.1
    have h800 := h0.1
    have h4 : c ≤ 800 := h.1.2.2.2.1
    have h7 : ∀ j, j ≤ c → I 7 j = nI (tK n T j) ∧ I 8 j = nI (tS n T j) ∧ I 9 j = nI (tP n T (j + 1)) := h.1.2.2.2.2.2.2
    have g1 : I 6 5 = nI j := h.2.1
    have g2 : j ≤ c := h.2.2.1
    have hP := tP_le (n := n) (T := T) (j + 1)
    have ee := @tL_end n T j
    unfold F_X9_valueHere_12
    simp (disch := omega) only [wm_kR, wm_kt, wm_kn, wm_kin, wm_kL, wm_kI, wm_ksI, wm_ksL, wm_kJ, wm_ksJ, kg_t, kl_v, Option.bind_some, s6.1, s6.2.2.2.2, g1, kin_9, kx_nI, (h7 j g2).2.2, nI_ltP]
    rw [if_neg (by omega)]
    have : l = tL n T j := by omega
    rw [this]
    rfl
  | k + 1, l, z + 1, e, hz => by
    have ih := cx_valL h h2 k (l + 1) z (by omega) (by omega)
    have h0 := h.1.1
    have hT := h.1.2.1
    have h800 := h0.1
    have h4 : c ≤ 800 := h.1.2.2.2.1
    have h7 : ∀ j, j ≤ c → I 7 j = nI (tK n T j) ∧ I 8 j = nI (tS n T j) ∧ I 9 j = nI (tP n T (j + 1)) := h.1.2.2.2.2.2.2
    have g1 : I 6 5 = nI j := h.2.1
    have g2 : j ≤ c := h.2.2.1
    have hP := tP_le (n := n) (T := T) (j + 1)
    have ee := @tL_end n T j
    obtain ⟨t1, t2, t3⟩ := tok_dig h2 (show l < tL n T j by omega)
    have hnv := nv_le T (tS n T j) (fun i => (h0.2 i).2) l
    unfold F_X9_valueHere_12
    simp (disch := omega) only [wm_kR, wm_kt, wm_kn, wm_kin, wm_kL, wm_kI, wm_ksI, wm_ksL, wm_kJ, wm_ksJ, kg_t, kl_v, Option.bind_some, s6.1, s6.2.1, s6.2.2.2.2, s2.1, g1, kin_9, kx_nI, (h7 j g2).2.2, nI_ltP, cx_byte hT h800 t1, nI_1]
    rw [if_pos (by omega)]
    have em : nI (min 1000000 (nv T (tS n T j) l)) * 10 + nI (T (tS n T j + l)) - 48 = nI (min 1000000 (nv T (tS n T j) l) * 10 + (T (tS n T j + l) - 48)) := by
      rw [show (10 : Int32) = nI 10 from rfl, show (48 : Int32) = nI 48 from rfl, pk_mul, nI_add, pk_sub (by omega)]
      congr 1
      omega
    rw [em, show (1000000 : Int32) = nI 1000000 from rfl, kmin_nI (by omega) (by omega)]
    have e2 : min 1000000 (min 1000000 (nv T (tS n T j) l) * 10 + (T (tS n T j + l) - 48)) = min 1000000 (nv T (tS n T j) (l + 1)) := by
      rw [nv_s]
      split <;> omega
    rw [e2]
    exact ih
theorem cx_val {j : Nat} (h : CS I n T c (.inl j)) (h2 : tK n T j = 2) (hN : 1000 < N) : F_X9_valueHere N (wm Mb I L) 6 = some (nI (min 1000000 (nuv n T j))) := by
  have h800 := h.1.1.1
  have h4 : c ≤ 800 := h.1.2.2.2.1
  have h7 : ∀ j, j ≤ c → I 7 j = nI (tK n T j) ∧ I 8 j = nI (tS n T j) ∧ I 9 j = nI (tP n T (j + 1)) := h.1.2.2.2.2.2.2
  have g1 : I 6 5 = nI j := h.2.1
  have g2 : j ≤ c := h.2.2.1
  have hP := tP_le (n := n) (T := T) (j + 1)
  have ee := @tL_end n T j
  have hL := cx_valL (Mb := Mb) (N := N) (L := L) h h2 (tL n T j) 0 N (by omega) (by omega)
  unfold F_X9_valueHere
  simp (disch := omega) only [wm_kR, wm_kt, wm_kn, wm_kin, wm_kL, wm_kI, wm_ksI, wm_ksL, wm_kJ, wm_ksJ, kg_t, kl_v, Option.bind_some, s6.1, s6.2.2.2.1, g1, kin_8, kx_nI, (h7 j g2).2.1]
  exact hL
theorem cx_num41 {x4 : Int32} {b : Bool} {σ2 : sg} (h : ∃ I', F_X9_takeIf N (wm Mb I L) 6 (if b then 1 else 0) = some (wm Mb I' L) ∧ CS I' n T c σ2 ∧ CF I I') : ∃ I', F_X9_takeNumber_41 N (wm Mb I L) 6 (if b then 1 else 0) x4 = some ((if okS σ2 then x4 else -1), wm Mb I' L) ∧ CS I' n T c σ2 ∧ CF I I' := by
  obtain ⟨I', a1, a2, a3⟩ := h
  refine ⟨I', ?_, a2, a3⟩
  unfold F_X9_takeNumber_41
  simp only [a1, wm_kR, wm_kt, wm_kn, wm_kin, wm_kL, wm_kI, wm_ksI, wm_ksL, wm_kJ, wm_ksJ, kg_t, kl_v, Option.bind_some, s6.1]
  cases σ2 with
  | inl j =>
    have := a2.2.2.2.1
    simp only [this, if_true]
    rfl
  | inr x =>
    obtain ⟨g1, g2, -⟩ := a2.2
    have hne : ¬ I' 6 6 = 0 := by rw [g1]; exact nI_ne0 (by omega) (by omega)
    simp only [hne, if_false]
    rfl
theorem cx_number (h : CS I n T c σ) {lo hh : Nat} {x2 : Int32} (hlo : lo ≤ 100000) (hhi : hh ≤ 100000) (hx : x2 = nI hh - 1) (hN : 1000 < N) : ∃ I', F_X9_takeNumber N (wm Mb I L) 6 (nI lo) x2 = some (nuV n T lo hh σ, wm Mb I' L) ∧ CS I' n T c (stp n T σ (cN n T lo hh)) ∧ CF I I' := by
  have hat := cx_at (Mb := Mb) (N := N) (L := L) h 2 (by decide)
  rw [show nI 2 = 2 from rfl] at hat
  unfold F_X9_takeNumber
  simp only [wm_kR, wm_kt, wm_kn, wm_kin, wm_kL, wm_kI, wm_ksI, wm_ksL, wm_kJ, wm_ksJ, kg_t, kl_v, Option.bind_some, s6.1, hat]
  cases σ with
  | inr x =>
    have hq : qs (.inr x) (fun j => decide (tK n T j = 2)) = false := rfl
    rw [hq]
    simp only [Bool.false_eq_true, if_false, if_true]
    unfold F_X9_takeNumber_18
    rw [if_pos rfl]
    obtain ⟨I', a1, a2, a3⟩ := cx_num41 (Mb := Mb) (b := false) (x4 := -1) (cx_takeNo (N := N) (L := L) h)
    exact ⟨I', a1, a2, a3⟩
  | inl j =>
    by_cases c2 : tK n T j = 2
    · have hq : qs (.inl j) (fun j => decide (tK n T j = 2)) = true := by simp [qs, c2]
      rw [hq]
      simp only [if_true, if_neg one0, cx_val h c2 hN, Option.bind_some]
      have hnv : nuv n T j ≤ 10000300 := nv_le T _ (fun i => (h.1.1.2 i).2) _
      have hc1 : (x2 < nI (min 1000000 (nuv n T j))) = ¬ (nuv n T j < hh) := by
        rw [hx]
        apply propext
        by_cases z : hh = 0
        · subst z
          rw [show nI 0 - 1 = -1 by decide]
          refine ⟨fun _ => by omega, fun _ => ?_⟩
          have := nI_0le (a := min 1000000 (nuv n T j)) (by omega)
          have h1 : (-1 : Int32) < 0 := by decide
          grind
        · rw [show nI hh - 1 = nI (hh - 1) from pk_sub (b := 1) (by omega), nI_ltI (by omega) (by omega)]
          omega
      have hc2 : (nI (min 1000000 (nuv n T j)) < nI lo) = ¬ (lo ≤ nuv n T j) := by
        rw [nI_ltP (by omega) (by omega)]
        apply propext
        omega
      unfold F_X9_takeNumber_18
      rw [if_neg one0]
      simp only [hc1, hc2]
      -- refused for its size
      have bad : (¬ (lo ≤ nuv n T j ∧ nuv n T j < hh)) → ∃ I', F_X9_takeNumber_36 N (wm Mb I L) 6 1 (nI (min 1000000 (nuv n T j))) = some (nuV n T lo hh (.inl j), wm Mb I' L) ∧ CS I' n T c (stp n T (.inl j) (cN n T lo hh)) ∧ CF I I' := by
        intro hb
        have hcn : cN n T lo hh j = 2 := by unfold cN; rw [if_pos c2, if_neg hb]
        obtain ⟨I1, a1, a2, a3⟩ := cx_refuse (Mb := Mb) (N := N) (L := L) h (e := 2) (by decide)
        rw [show nI 2 = 2 from rfl] at a1
        obtain ⟨I', b1, b2, b3⟩ := cx_num41 (Mb := Mb) (b := true) (x4 := nI (min 1000000 (nuv n T j))) (cx_takeYes (N := N) (L := L) a2 (fun i hi => by cases hi))
        refine ⟨I', ?_, ?_, a3.trans b3⟩
        · unfold F_X9_takeNumber_36
          simp only [wm_kR, wm_kt, wm_kn, wm_kin, wm_kL, wm_kI, wm_ksI, wm_ksL, wm_kJ, wm_ksJ, kg_t, kl_v, Option.bind_some, s6.1, a1]
          have b1' : F_X9_takeNumber_41 N (wm Mb I1 L) 6 1 (nI (min 1000000 (nuv n T j))) = _ := b1
          rw [b1']
          unfold nuV
          simp only [hcn]
          rfl
        · unfold stp
          simp only [hcn]
          exact b2
      by_cases d1 : lo ≤ nuv n T j
      · rw [if_neg (fun z => z d1)]
        by_cases d2 : nuv n T j < hh
        · rw [if_neg (fun z => z d2)]
          have hcn : cN n T lo hh j = 0 := by unfold cN; rw [if_pos c2, if_pos ⟨d1, d2⟩]
          obtain ⟨I', b1, b2, b3⟩ := cx_num41 (Mb := Mb) (b := true) (x4 := nI (min 1000000 (nuv n T j))) (cx_takeYes (N := N) (L := L) h (fun i hi => by cases hi; omega))
          refine ⟨I', ?_, ?_, b3⟩
          · have b1' : F_X9_takeNumber_41 N (wm Mb I L) 6 1 (nI (min 1000000 (nuv n T j))) = _ := b1
            rw [b1']
            unfold nuV
            simp only [hcn, if_true]
            rw [Nat.min_eq_right (by omega)]
            rfl
          · unfold stp
            simp only [hcn, if_true]
            exact b2
        · rw [if_pos d2]
          exact bad (fun z => d2 z.2)
      · rw [if_pos d1]
        exact bad (fun z => d1 z.1)
    · have hq : qs (.inl j) (fun j => decide (tK n T j = 2)) = false := by simp [qs, c2]
      have hcn : cN n T lo hh j = 1 := by unfold cN; rw [if_neg c2]
      rw [hq]
      simp only [Bool.false_eq_true, if_false, if_true]
      unfold F_X9_takeNumber_18
      rw [if_pos rfl]
      obtain ⟨I', a1, a2, a3⟩ := cx_num41 (Mb := Mb) (b := false) (x4 := -1) (cx_takeNo (N := N) (L := L) h)
      refine ⟨I', ?_, ?_, a3⟩
      · have a1' : F_X9_takeNumber_41 N (wm Mb I L) 6 0 (-1) = _ := a1
        rw [a1']
        unfold nuV
        simp only [hcn]
        rfl
      · unfold stp
        simp only [hcn]
        exact a2
theorem isW_4 {w j : Nat} (h : isW n T w j = true) : tK n T j = 1 := by
  unfold isW at h
  simp only [Bool.and_eq_true, decide_eq_true_eq] at h
  exact h.1
theorem cx_side (h : CS I n T c σ) (hN : 1000 < N) : ∃ I', F_X9_takeSide N (wm Mb I L) 6 = some (sdV n T σ, wm Mb I' L) ∧ CS I' n T c (stp n T σ (sdC n T)) ∧ CF I I' := by
  have w1 := cx_atWord (Mb := Mb) (N := N) (L := L) kw_left h hN
  have w2 := cx_atWord (Mb := Mb) (N := N) (L := L) kw_right h hN
  obtain ⟨I', a1, a2, a3⟩ := cx_takeIf (Mb := Mb) (N := N) (L := L) h (p := fun j => isW n T 398548 j || isW n T 19176724 j) (fun j hj => by
    rcases Bool.or_eq_true _ _ ▸ hj with z | z
    · have := isW_4 z; omega
    · have := isW_4 z; omega)
  have h14 : ∀ y, F_X9_takeSide_14 N (wm Mb I L) 6 y = some (y, wm Mb I' L) := by
    intro y
    unfold F_X9_takeSide_14
    simp only [wm_kR, wm_kt, wm_kn, wm_kin, wm_kL, wm_kI, wm_ksI, wm_ksL, wm_kJ, wm_ksJ, kg_t, kl_v, Option.bind_some, s6.1, w1, w2]
    cases σ with
    | inr x =>
      have a1' : F_X9_takeIf N (wm Mb I L) 6 0 = some (wm Mb I' L) := a1
      simp only [qs, Bool.false_eq_true, if_false, if_true, a1', wm_kR, wm_kt, wm_kn, wm_kin, wm_kL, wm_kI, wm_ksI, wm_ksL, wm_kJ, wm_ksJ, kg_t, kl_v, Option.bind_some]
    | inl j =>
      simp only [qs] at a1 ⊢
      by_cases z1 : isW n T 398548 j = true
      · simp only [z1, Bool.true_or, if_true, if_neg one0] at a1 ⊢
        simp only [a1, wm_kR, wm_kt, wm_kn, wm_kin, wm_kL, wm_kI, wm_ksI, wm_ksL, wm_kJ, wm_ksJ, kg_t, kl_v, Option.bind_some]
      · have z1' : isW n T 398548 j = false := by simpa using z1
        by_cases z2 : isW n T 19176724 j = true
        · simp only [z1', z2, Bool.false_or, if_true, if_neg one0, Bool.false_eq_true, if_false] at a1 ⊢
          simp only [a1, wm_kR, wm_kt, wm_kn, wm_kin, wm_kL, wm_kI, wm_ksI, wm_ksL, wm_kJ, wm_ksJ, kg_t, kl_v, Option.bind_some]
        · have z2' : isW n T 19176724 j = false := by simpa using z2
          simp only [z1', z2', Bool.false_or, if_true, Bool.false_eq_true, if_false] at a1 ⊢
          simp only [a1, wm_kR, wm_kt, wm_kn, wm_kin, wm_kL, wm_kI, wm_ksI, wm_ksL, wm_kJ, wm_ksJ, kg_t, kl_v, Option.bind_some]
  refine ⟨I', ?_, a2, a3⟩
  unfold F_X9_takeSide sdV
  simp only [wm_kR, wm_kt, wm_kn, wm_kin, wm_kL, wm_kI, wm_ksI, wm_ksL, wm_kJ, wm_ksJ, kg_t, kl_v, Option.bind_some, s6.1, w1, h14]
  by_cases z : qs σ (isW n T 398548) = true
  · rw [z]; rfl
  · have z' : qs σ (isW n T 398548) = false := by simpa using z
    rw [z']; rfl
theorem cx_takeEnd (h : CS I n T c σ) : ∃ I', F_X9_takeEnd N (wm Mb I L) 6 = some (wm Mb I' L) ∧ CS I' n T c (enS n T σ) ∧ CF I I' := by
  have hat := cx_at (Mb := Mb) (N := N) (L := L) h 4 (by decide)
  rw [show nI 4 = 4 from rfl] at hat
  obtain ⟨I', a1, a2, a3⟩ := cx_refuse (Mb := Mb) (N := N) (L := L) h (e := 1) (by decide)
  rw [show nI 1 = 1 from rfl] at a1
  unfold F_X9_takeEnd
  simp only [wm_kR, wm_kt, wm_kn, wm_kin, wm_kL, wm_kI, wm_ksI, wm_ksL, wm_kJ, wm_ksJ, kg_t, kl_v, Option.bind_some, s6.1, hat]
  cases σ with
  | inr x =>
    refine ⟨I', ?_, a2, a3⟩
    simp only [qs, Bool.false_eq_true, if_false, if_true, a1, wm_kR, wm_kt, wm_kn, wm_kin, wm_kL, wm_kI, wm_ksI, wm_ksL, wm_kJ, wm_ksJ, kg_t, kl_v, Option.bind_some]
  | inl j =>
    unfold enS qs
    by_cases z : tK n T j = 4
    · refine ⟨I, ?_, ?_, CF.rf'⟩
      · simp only [z, decide_true, if_true, if_neg one0]
      · simp only [z, if_true]; exact h
    · refine ⟨I', ?_, ?_, a3⟩
      · simp only [z, decide_false, Bool.false_eq_true, if_false, if_true, a1, wm_kR, wm_kt, wm_kn, wm_kin, wm_kL, wm_kI, wm_ksI, wm_ksL, wm_kJ, wm_ksJ, kg_t, kl_v, Option.bind_some]
      · simp only [z, if_false]; exact a2
theorem RS.sg {I' : kInts} {L' : kLngs} (h : RS I L n T σ) (e : ∀ a j, a = 540 ∧ (11 ≤ j ∧ j ≤ 17) ∨ a = 548 → I' a j = I a j) (eL : L' 540 20 = L 540 20) : RS I' L' n T σ := by
  obtain ⟨⟨h0, h1, h2⟩, h3⟩ := h
  refine ⟨⟨h0, (e _ _ (by omega)).trans h1, fun k hk => (e _ _ (by omega)).trans (h2 k hk)⟩, ?_⟩
  cases σ with
  | inl j =>
    obtain ⟨⟨g1, g2, g3, g4, g5⟩, g6⟩ := h3
    exact ⟨⟨(e _ _ (by omega)).trans g1, (e _ _ (by omega)).trans g2, (e _ _ (by omega)).trans g3, fun z => (e _ _ (by omega)).trans (g4 z), fun z => eL.trans (g5 z)⟩, (e _ _ (by omega)).trans g6⟩
  | inr x =>
    obtain ⟨g1, g2, g3⟩ := h3
    exact ⟨(e _ _ (by omega)).trans g1, g2, (e _ _ (by omega)).trans g3⟩
theorem RT.sg {I' : kInts} (h : RT I n T) (hs : SG I I') : RT I' n T := ⟨(hs _ _ (by omega)).trans h.1, fun k hk => (hs _ _ (by omega)).trans (h.2 k hk)⟩
theorem rkd_3 {b : Nat} : rkd b = 3 ↔ (b = 59 ∨ b = 40 ∨ b = 41) := by
  unfold rkd
  split
  · simp_all
  · simp_all
theorem rK_le (j : Nat) : rK n T j ≤ 4 := by
  unfold rK
  split
  · omega
  · split
    · unfold rkd; split <;> omega
    · unfold tK at *
      split
      · have := kd_lt (T (tS n T j)); omega
      · omega
theorem rK_1 {j : Nat} : rK n T j = 1 ↔ tK n T j = 1 := by
  unfold rK
  by_cases c1 : tK n T j = 4
  · rw [if_pos c1]; omega
  · rw [if_neg c1]
    by_cases c2 : tK n T j = 3
    · rw [if_pos c2]
      unfold rkd
      split <;> omega
    · rw [if_neg c2]
theorem rK_2 {j : Nat} : rK n T j = 2 ↔ tK n T j = 2 := by
  unfold rK
  by_cases c1 : tK n T j = 4
  · rw [if_pos c1]; omega
  · rw [if_neg c1]
    by_cases c2 : tK n T j = 3
    · rw [if_pos c2]
      unfold rkd
      split <;> omega
    · rw [if_neg c2]
theorem rK_0 {j : Nat} : rK n T j = 0 ↔ tK n T j = 4 := by
  unfold rK
  by_cases c1 : tK n T j = 4
  · rw [if_pos c1]; omega
  · rw [if_neg c1]
    by_cases c2 : tK n T j = 3
    · rw [if_pos c2]
      unfold rkd
      split <;> omega
    · rw [if_neg c2]
      have : tK n T j = 1 ∨ tK n T j = 2 ∨ tK n T j = 3 := tK_pos (tS_lt c1)
      omega
theorem rK_3 {j : Nat} : rK n T j = 3 ↔ tK n T j = 3 ∧ (T (tS n T j) = 59 ∨ T (tS n T j) = 40 ∨ T (tS n T j) = 41) := by
  unfold rK
  by_cases c1 : tK n T j = 4
  · rw [if_pos c1]; omega
  · rw [if_neg c1]
    by_cases c2 : tK n T j = 3
    · rw [if_pos c2, rkd_3]
      exact ⟨fun z => ⟨c2, z⟩, fun z => z.2⟩
    · rw [if_neg c2]
      exact ⟨fun z => absurd z c2, fun z => absurd z.1 c2⟩
theorem wv_tok {j : Nat} (hO : okT n T) (h : tK n T j = 1) : wv T (tS n T j) (tL n T j) < 1152921504606846976 := wv_le hO.2 _ (fun i hi => (tok_let h hi).2)
end
