/-! the class's numbers, sides, ends; the reference's steps -/
def sdC (n : Nat) (T : Nat → Nat) (j : Nat) : Nat := if isW n T 398548 j || isW n T 19176724 j then 0 else 1
def sdV (n : Nat) (T : Nat → Nat) (σ : sg) : Int32 := if qs σ (isW n T 398548) then -1 else 1
def enS (n : Nat) (T : Nat → Nat) (σ : sg) : sg := match σ with
  | .inl j => if tK n T j = 4 then .inl j else .inr (1, tS n T j)
  | .inr x => .inr x
def goS (σ : sg) : sg := match σ with
  | .inl j => .inl (j + 1)
  | .inr x => .inr x
/-- a number read: the reference's answer -/
def rdV (n : Nat) (T : Nat → Nat) (lo h : Nat) (σ : sg) : Int32 := match σ with
  | .inl j => if cN n T lo h j = 0 then nI (nuv n T j) else nI lo
  | .inr _ => nI lo
section
variable {N : Nat} {I : kInts} {L : kLngs} {n c : Nat} {T : Nat → Nat} {σ : sg}
theorem nv_s (b l : Nat) : nv T b (l + 1) = if 999999 < nv T b l then nv T b l else 10 * nv T b l + (T (b + l) - 48) := rfl
theorem cx_valL {j : Nat} (h : CS I n T c (.inl j)) (h2 : tK n T j = 2) : ∀ (k l z : Nat), l + k = tL n T j → k < z → F_X9_valueHere_12 N (wm Mb I L) z 6 (nI (min 1000000 (nv T (tS n T j) l))) (nI (tS n T j + l)) = some (nI (min 1000000 (nuv n T j)))
  | k, l, 0, _, hz => absurd hz (Nat.not_lt_zero _)
  | 0, l, z + 1, e, _ => by
    have h0 := h.1.1
    have h800 := h0.1
    have h4 : c ≤ 800 := h.1.2.2.2.1
    have h7 : ∀ j, j ≤ c → I 7 j = nI (tK n T j) ∧ I 8 j = nI (tS n T j) ∧ I 9 j = nI (tP n T (j + 1)) := h.1.2.2.2.2.2.2
    have g1 : I 6 5 = nI j := h.2.1
    have g2 : j ≤ c := h.2.2.1
    have hP := tP_le (n := n) (T := T) (j + 1)
    have ee := @tL_end n T j
    unfold F_X9_valueHere_12
    simp (disch := omega) only [wm_kR, wm_kt, wm_kn, wm_kin, wm_kL, wm_kI, wm_ksI, wm_ksL, wm_kJ, wm_ksJ, kg_t, kl_v, Option.bind_some, s6.1, s6.2.2.2.2, g1, kin_9, kx_nI, (h7 j g2).2.2, nI_ltP]
    rw [if_neg (by omega)]
    have : l = tL n T j := by omega
    rw [this]
    rfl
  | k + 1, l, z + 1, e, hz => by
    have ih := cx_valL h h2 k (l + 1) z (by omega) (by omega)
    have h0 := h.1.1
    have hT := h.1.2.1
    have h800 := h0.1
    have h4 : c ≤ 800 := h.1.2.2.2.1
    have h7 : ∀ j, j ≤ c → I 7 j = nI (tK n T j) ∧ I 8 j = nI (tS n T j) ∧ I 9 j = nI (tP n T (j + 1)) := h.1.2.2.2.2.2.2
    have g1 : I 6 5 = nI j := h.2.1
    have g2 : j ≤ c := h.2.2.1
    have hP := tP_le (n := n) (T := T) (j + 1)
    have ee := @tL_end n T j
    obtain ⟨t1, t2, t3⟩ := tok_dig h2 (show l < tL n T j by omega)
    have hnv := nv_le T (tS n T j) (fun i => (h0.2 i).2) l
    unfold F_X9_valueHere_12
    simp (disch := omega) only [wm_kR, wm_kt, wm_kn, wm_kin, wm_kL, wm_kI, wm_ksI, wm_ksL, wm_kJ, wm_ksJ, kg_t, kl_v, Option.bind_some, s6.1, s6.2.1, s6.2.2.2.2, s2.1, g1, kin_9, kx_nI, (h7 j g2).2.2, nI_ltP, cx_byte hT h800 t1, nI_1]
    rw [if_pos (by omega)]
    have em : nI (min 1000000 (nv T (tS n T j) l)) * 10 + nI (T (tS n T j + l)) - 48 = nI (min 1000000 (nv T (tS n T j) l) * 10 + (T (tS n T j + l) - 48)) := by
      rw [show (10 : Int32) = nI 10 from rfl, show (48 : Int32) = nI 48 from rfl, pk_mul, nI_add, pk_sub (by omega)]
      congr 1
      omega
    rw [em, show (1000000 : Int32) = nI 1000000 from rfl, kmin_nI (by omega) (by omega)]
    have e2 : min 1000000 (min 1000000 (nv T (tS n T j) l) * 10 + (T (tS n T j + l) - 48)) = min 1000000 (nv T (tS n T j) (l + 1)) := by
      rw [nv_s]
      split <;> omega
    rw [e2]
    exact ih
theorem cx_val {j : Nat} (h : CS I n T c (.inl j)) (h2 : tK n T j = 2) (hN : 1000 < N) : F_X9_valueHere N (wm Mb I L) 6 = some (nI (min 1000000 (nuv n T j))) := by
  have h800 := h.1.1.1
  have h4 : c ≤ 800 := h.1.2.2.2.1
  have h7 : ∀ j, j ≤ c → I 7 j = nI (tK n T j) ∧ I 8 j = nI (tS n T j) ∧ I 9 j = nI (tP n T (j + 1)) := h.1.2.2.2.2.2.2
  have g1 : I 6 5 = nI j := h.2.1
  have g2 : j ≤ c := h.2.2.1
  have hP := tP_le (n := n) (T := T) (j + 1)
  have ee := @tL_end n T j
  have hL := cx_valL (N := N) (L := L) h h2 (tL n T j) 0 N (by omega) (by omega)
  unfold F_X9_valueHere
  simp (disch := omega) only [wm_kR, wm_kt, wm_kn, wm_kin, wm_kL, wm_kI, wm_ksI, wm_ksL, wm_kJ, wm_ksJ, kg_t, kl_v, Option.bind_some, s6.1, s6.2.2.2.1, g1, kin_8, kx_nI, (h7 j g2).2.1]
  exact hL
theorem cx_num41 {x4 : Int32} {b : Bool} {σ2 : sg} (h : ∃ I', F_X9_takeIf N (wm Mb I L) 6 (if b then 1 else 0) = some (wm Mb I' L) ∧ CS I' n T c σ2 ∧ CF I I') : ∃ I', F_X9_takeNumber_41 N (wm Mb I L) 6 (if b then 1 else 0) x4 = some ((if okS σ2 then x4 else -1), wm Mb I' L) ∧ CS I' n T c σ2 ∧ CF I I' := by
  obtain ⟨I', a1, a2, a3⟩ := h
  refine ⟨I', ?_, a2, a3⟩
  unfold F_X9_takeNumber_41
  simp only [a1, wm_kR, wm_kt, wm_kn, wm_kin, wm_kL, wm_kI, wm_ksI, wm_ksL, wm_kJ, wm_ksJ, kg_t, kl_v, Option.bind_some, s6.1]
  cases σ2 with
  | inl j =>
    have := a2.2.2.2.1
    simp only [this, if_true]
    rfl
  | inr x =>
    obtain ⟨g1, g2, -⟩ := a2.2
    have hne : ¬ I' 6 6 = 0 := by rw [g1]; exact nI_ne0 (by omega) (by omega)
    simp only [hne, if_false]
    rfl
/-- the class takes a number -/
theorem cx_number (h : CS I n T c σ) {lo hh : Nat} {x2 : Int32} (hlo : lo ≤ 100000) (hhi : hh ≤ 100000) (hx : x2 = nI hh - 1) (hN : 1000 < N) : ∃ I', F_X9_takeNumber N (wm Mb I L) 6 (nI lo) x2 = some (nuV n T lo hh σ, wm Mb I' L) ∧ CS I' n T c (stp n T σ (cN n T lo hh)) ∧ CF I I' := by
  have hat := cx_at (N := N) (L := L) h 2 (by decide)
  rw [show nI 2 = 2 from rfl] at hat
  unfold F_X9_takeNumber
  simp only [wm_kR, wm_kt, wm_kn, wm_kin, wm_kL, wm_kI, wm_ksI, wm_ksL, wm_kJ, wm_ksJ, kg_t, kl_v, Option.bind_some, s6.1, hat]
  cases σ with
  | inr x =>
    have hq : qs (.inr x) (fun j => decide (tK n T j = 2)) = false := rfl
    rw [hq]
    simp only [Bool.false_eq_true, if_false, if_true]
    unfold F_X9_takeNumber_18
    rw [if_pos rfl]
    obtain ⟨I', a1, a2, a3⟩ := cx_num41 (b := false) (x4 := -1) (cx_takeNo (N := N) (L := L) h)
    exact ⟨I', a1, a2, a3⟩
  | inl j =>
    by_cases c2 : tK n T j = 2
    · have hq : qs (.inl j) (fun j => decide (tK n T j = 2)) = true := by simp [qs, c2]
      rw [hq]
      simp only [if_true, if_neg one0, cx_val h c2 hN, Option.bind_some]
      have hnv : nuv n T j ≤ 10000300 := nv_le T _ (fun i => (h.1.1.2 i).2) _
      have hc1 : (x2 < nI (min 1000000 (nuv n T j))) = ¬ (nuv n T j < hh) := by
        rw [hx]
        apply propext
        by_cases z : hh = 0
        · subst z
          rw [show nI 0 - 1 = -1 by decide]
          refine ⟨fun _ => by omega, fun _ => ?_⟩
          have := nI_0le (a := min 1000000 (nuv n T j)) (by omega)
          have h1 : (-1 : Int32) < 0 := by decide
          grind
        · rw [show nI hh - 1 = nI (hh - 1) from pk_sub (b := 1) (by omega), nI_ltI (by omega) (by omega)]
          omega
      have hc2 : (nI (min 1000000 (nuv n T j)) < nI lo) = ¬ (lo ≤ nuv n T j) := by
        rw [nI_ltP (by omega) (by omega)]
        apply propext
        omega
      unfold F_X9_takeNumber_18
      rw [if_neg one0]
      simp only [hc1, hc2]
      -- refused for its size
      have bad : (¬ (lo ≤ nuv n T j ∧ nuv n T j < hh)) → ∃ I', F_X9_takeNumber_36 N (wm Mb I L) 6 1 (nI (min 1000000 (nuv n T j))) = some (nuV n T lo hh (.inl j), wm Mb I' L) ∧ CS I' n T c (stp n T (.inl j) (cN n T lo hh)) ∧ CF I I' := by
        intro hb
        have hcn : cN n T lo hh j = 2 := by unfold cN; rw [if_pos c2, if_neg hb]
        obtain ⟨I1, a1, a2, a3⟩ := cx_refuse (N := N) (L := L) h (e := 2) (by decide)
        rw [show nI 2 = 2 from rfl] at a1
        obtain ⟨I', b1, b2, b3⟩ := cx_num41 (b := true) (x4 := nI (min 1000000 (nuv n T j))) (cx_takeYes (N := N) (L := L) a2 (fun i hi => by cases hi))
        refine ⟨I', ?_, ?_, a3.trans b3⟩
        · unfold F_X9_takeNumber_36
          simp only [wm_kR, wm_kt, wm_kn, wm_kin, wm_kL, wm_kI, wm_ksI, wm_ksL, wm_kJ, wm_ksJ, kg_t, kl_v, Option.bind_some, s6.1, a1]
          have b1' : F_X9_takeNumber_41 N (wm Mb I1 L) 6 1 (nI (min 1000000 (nuv n T j))) = _ := b1
          rw [b1']
          unfold nuV
          simp only [hcn]
          rfl
        · unfold stp
          simp only [hcn]
          exact b2
      by_cases d1 : lo ≤ nuv n T j
      · rw [if_neg (fun z => z d1)]
        by_cases d2 : nuv n T j < hh
        · rw [if_neg (fun z => z d2)]
          have hcn : cN n T lo hh j = 0 := by unfold cN; rw [if_pos c2, if_pos ⟨d1, d2⟩]
          obtain ⟨I', b1, b2, b3⟩ := cx_num41 (b := true) (x4 := nI (min 1000000 (nuv n T j))) (cx_takeYes (N := N) (L := L) h (fun i hi => by cases hi; omega))
          refine ⟨I', ?_, ?_, b3⟩
          · have b1' : F_X9_takeNumber_41 N (wm Mb I L) 6 1 (nI (min 1000000 (nuv n T j))) = _ := b1
            rw [b1']
            unfold nuV
            simp only [hcn, if_true]
            rw [Nat.min_eq_right (by omega)]
            rfl
          · unfold stp
            simp only [hcn, if_true]
            exact b2
        · rw [if_pos d2]
          exact bad (fun z => d2 z.2)
      · rw [if_pos d1]
        exact bad (fun z => d1 z.1)
    · have hq : qs (.inl j) (fun j => decide (tK n T j = 2)) = false := by simp [qs, c2]
      have hcn : cN n T lo hh j = 1 := by unfold cN; rw [if_neg c2]
      rw [hq]
      simp only [Bool.false_eq_true, if_false, if_true]
      unfold F_X9_takeNumber_18
      rw [if_pos rfl]
      obtain ⟨I', a1, a2, a3⟩ := cx_num41 (b := false) (x4 := -1) (cx_takeNo (N := N) (L := L) h)
      refine ⟨I', ?_, ?_, a3⟩
      · have a1' : F_X9_takeNumber_41 N (wm Mb I L) 6 0 (-1) = _ := a1
        rw [a1']
        unfold nuV
        simp only [hcn]
        rfl
      · unfold stp
        simp only [hcn]
        exact a2
theorem isW_4 {w j : Nat} (h : isW n T w j = true) : tK n T j = 1 := by
  unfold isW at h
  simp only [Bool.and_eq_true, decide_eq_true_eq] at h
  exact h.1
theorem cx_side (h : CS I n T c σ) (hN : 1000 < N) : ∃ I', F_X9_takeSide N (wm Mb I L) 6 = some (sdV n T σ, wm Mb I' L) ∧ CS I' n T c (stp n T σ (sdC n T)) ∧ CF I I' := by
  have w1 := cx_atWord (N := N) (L := L) kw_left h hN
  have w2 := cx_atWord (N := N) (L := L) kw_right h hN
  obtain ⟨I', a1, a2, a3⟩ := cx_takeIf (N := N) (L := L) h (p := fun j => isW n T 398548 j || isW n T 19176724 j) (fun j hj => by
    rcases Bool.or_eq_true _ _ ▸ hj with z | z
    · have := isW_4 z; omega
    · have := isW_4 z; omega)
  have h14 : ∀ y, F_X9_takeSide_14 N (wm Mb I L) 6 y = some (y, wm Mb I' L) := by
    intro y
    unfold F_X9_takeSide_14
    simp only [wm_kR, wm_kt, wm_kn, wm_kin, wm_kL, wm_kI, wm_ksI, wm_ksL, wm_kJ, wm_ksJ, kg_t, kl_v, Option.bind_some, s6.1, w1, w2]
    cases σ with
    | inr x =>
      have a1' : F_X9_takeIf N (wm Mb I L) 6 0 = some (wm Mb I' L) := a1
      simp only [qs, Bool.false_eq_true, if_false, if_true, a1', wm_kR, wm_kt, wm_kn, wm_kin, wm_kL, wm_kI, wm_ksI, wm_ksL, wm_kJ, wm_ksJ, kg_t, kl_v, Option.bind_some]
    | inl j =>
      simp only [qs] at a1 ⊢
      by_cases z1 : isW n T 398548 j = true
      · simp only [z1, Bool.true_or, if_true, if_neg one0] at a1 ⊢
        simp only [a1, wm_kR, wm_kt, wm_kn, wm_kin, wm_kL, wm_kI, wm_ksI, wm_ksL, wm_kJ, wm_ksJ, kg_t, kl_v, Option.bind_some]
      · have z1' : isW n T 398548 j = false := by simpa using z1
        by_cases z2 : isW n T 19176724 j = true
        · simp only [z1', z2, Bool.false_or, if_true, if_neg one0, Bool.false_eq_true, if_false] at a1 ⊢
          simp only [a1, wm_kR, wm_kt, wm_kn, wm_kin, wm_kL, wm_kI, wm_ksI, wm_ksL, wm_kJ, wm_ksJ, kg_t, kl_v, Option.bind_some]
        · have z2' : isW n T 19176724 j = false := by simpa using z2
          simp only [z1', z2', Bool.false_or, if_true, Bool.false_eq_true, if_false] at a1 ⊢
          simp only [a1, wm_kR, wm_kt, wm_kn, wm_kin, wm_kL, wm_kI, wm_ksI, wm_ksL, wm_kJ, wm_ksJ, kg_t, kl_v, Option.bind_some]
  refine ⟨I', ?_, a2, a3⟩
  unfold F_X9_takeSide sdV
  simp only [wm_kR, wm_kt, wm_kn, wm_kin, wm_kL, wm_kI, wm_ksI, wm_ksL, wm_kJ, wm_ksJ, kg_t, kl_v, Option.bind_some, s6.1, w1, h14]
  by_cases z : qs σ (isW n T 398548) = true
  · rw [z]; rfl
  · have z' : qs σ (isW n T 398548) = false := by simpa using z
    rw [z']; rfl
theorem cx_takeEnd (h : CS I n T c σ) : ∃ I', F_X9_takeEnd N (wm Mb I L) 6 = some (wm Mb I' L) ∧ CS I' n T c (enS n T σ) ∧ CF I I' := by
  have hat := cx_at (N := N) (L := L) h 4 (by decide)
  rw [show nI 4 = 4 from rfl] at hat
  obtain ⟨I', a1, a2, a3⟩ := cx_refuse (N := N) (L := L) h (e := 1) (by decide)
  rw [show nI 1 = 1 from rfl] at a1
  unfold F_X9_takeEnd
  simp only [wm_kR, wm_kt, wm_kn, wm_kin, wm_kL, wm_kI, wm_ksI, wm_ksL, wm_kJ, wm_ksJ, kg_t, kl_v, Option.bind_some, s6.1, hat]
  cases σ with
  | inr x =>
    refine ⟨I', ?_, a2, a3⟩
    simp only [qs, Bool.false_eq_true, if_false, if_true, a1, wm_kR, wm_kt, wm_kn, wm_kin, wm_kL, wm_kI, wm_ksI, wm_ksL, wm_kJ, wm_ksJ, kg_t, kl_v, Option.bind_some]
  | inl j =>
    unfold enS qs
    by_cases z : tK n T j = 4
    · refine ⟨I, ?_, ?_, CF.rf'⟩
      · simp only [z, decide_true, if_true, if_neg one0]
      · simp only [z, if_true]; exact h
    · refine ⟨I', ?_, ?_, a3⟩
      · simp only [z, decide_false, Bool.false_eq_true, if_false, if_true, a1, wm_kR, wm_kt, wm_kn, wm_kin, wm_kL, wm_kI, wm_ksI, wm_ksL, wm_kJ, wm_ksJ, kg_t, kl_v, Option.bind_some]
      · simp only [z, if_false]; exact a2
/-! the reference -/
theorem RS.sg {I' : kInts} {L' : kLngs} (h : RS I L n T σ) (e : ∀ a j, a = 540 ∧ (11 ≤ j ∧ j ≤ 17) ∨ a = 548 → I' a j = I a j) (eL : L' 540 20 = L 540 20) : RS I' L' n T σ := by
  obtain ⟨⟨h0, h1, h2⟩, h3⟩ := h
  refine ⟨⟨h0, (e _ _ (by omega)).trans h1, fun k hk => (e _ _ (by omega)).trans (h2 k hk)⟩, ?_⟩
  cases σ with
  | inl j =>
    obtain ⟨⟨g1, g2, g3, g4, g5⟩, g6⟩ := h3
    exact ⟨⟨(e _ _ (by omega)).trans g1, (e _ _ (by omega)).trans g2, (e _ _ (by omega)).trans g3, fun z => (e _ _ (by omega)).trans (g4 z), fun z => eL.trans (g5 z)⟩, (e _ _ (by omega)).trans g6⟩
  | inr x =>
    obtain ⟨g1, g2, g3⟩ := h3
    exact ⟨(e _ _ (by omega)).trans g1, g2, (e _ _ (by omega)).trans g3⟩
theorem RT.sg {I' : kInts} (h : RT I n T) (hs : SG I I') : RT I' n T := ⟨(hs _ _ (by omega)).trans h.1, fun k hk => (hs _ _ (by omega)).trans (h.2 k hk)⟩
theorem rx_must (h : RS I L n T σ) (b : Bool) {e : Nat} (he : 1 ≤ e ∧ e ≤ 5) : ∃ I', F_X12_must N (wm Mb I L) 540 (if b then 1 else 0) (nI e) = some (wm Mb I' L) ∧ RS I' L n T (if b then σ else ers n T σ e) ∧ SG I I' := by
  unfold F_X12_must
  cases σ with
  | inr x =>
    obtain ⟨g1, g2, g3⟩ := h.2
    refine ⟨I, ?_, ?_, SG.rf'⟩
    · simp only [wm_kR, wm_kt, wm_kn, wm_kin, wm_kL, wm_kI, wm_ksI, wm_ksL, wm_kJ, wm_ksJ, kg_t, kl_v, Option.bind_some, sr_k, sr_0, sr_1, sr_2, sr_3, sr_4, sr_7, sr_8, sr_9, sr_26, sr_27, sr_28, g1]
      rw [if_neg (nI_ne0 (by omega) (by omega))]
    · cases b <;> exact h
  | inl j =>
    obtain ⟨h0, ⟨g1, g2, g3, g4, g5⟩, g6⟩ := h
    cases b with
    | true =>
      refine ⟨I, ?_, ⟨h0, ⟨g1, g2, g3, g4, g5⟩, g6⟩, SG.rf'⟩
      simp only [wm_kR, wm_kt, wm_kn, wm_kin, wm_kL, wm_kI, wm_ksI, wm_ksL, wm_kJ, wm_ksJ, kg_t, kl_v, Option.bind_some, sr_k, sr_0, sr_1, sr_2, sr_3, sr_4, sr_7, sr_8, sr_9, sr_26, sr_27, sr_28, g6, if_true, if_neg one0]
    | false =>
      have hs : SG I (up (up I 540 16 (nI e)) 540 17 (nI (tS n T j))) := (SG.rf'.up (by decide) (by decide)).up (by decide) (by decide)
      have e13 : up I 540 16 (nI e) 540 13 = nI (tS n T j) := (up_ne (Or.inr (by decide))).trans g2
      refine ⟨_, ?_, ⟨⟨h0.1, h0.2.sg hs⟩, (up_ne (Or.inr (by decide))).trans up_eq, he, up_eq⟩, hs⟩
      simp only [wm_kR, wm_kt, wm_kn, wm_kin, wm_kL, wm_kI, wm_ksI, wm_ksL, wm_kJ, wm_ksJ, kg_t, kl_v, Option.bind_some, sr_k, sr_0, sr_1, sr_2, sr_3, sr_4, sr_7, sr_8, sr_9, sr_26, sr_27, sr_28, g6, if_true, Bool.false_eq_true, if_false, e13]
theorem rx_goes (h : RS I L n T σ) (hN : 1000 < N) : ∃ I' L', F_X12_goesOn N (wm Mb I L) 540 = some (wm Mb I' L') ∧ RS I' L' n T (goS σ) ∧ SG I I' ∧ LF L L' := by
  unfold F_X12_goesOn
  cases σ with
  | inr x =>
    obtain ⟨g1, g2, g3⟩ := h.2
    refine ⟨I, L, ?_, h, SG.rf', LF.rf'⟩
    simp only [wm_kR, wm_kt, wm_kn, wm_kin, wm_kL, wm_kI, wm_ksI, wm_ksL, wm_kJ, wm_ksJ, kg_t, kl_v, Option.bind_some, sr_k, sr_0, sr_1, sr_2, sr_3, sr_4, sr_7, sr_8, sr_9, sr_26, sr_27, sr_28, g1]
    rw [if_neg (nI_ne0 (by omega) (by omega))]
  | inl j =>
    obtain ⟨⟨h0, hT⟩, ⟨g1, g2, g3, g4, g5⟩, g6⟩ := h
    obtain ⟨I', L', a1, a2, a3, a4⟩ := rx_scan (N := N) (L := L) h0 (j + 1) hN hT g1
    refine ⟨I', L', ?_, ⟨⟨h0, hT.sf a2⟩, a4, (a2 _ _ (by omega)).trans g6⟩, a2.g, a3⟩
    simp only [wm_kR, wm_kt, wm_kn, wm_kin, wm_kL, wm_kI, wm_ksI, wm_ksL, wm_kJ, wm_ksJ, kg_t, kl_v, Option.bind_some, sr_k, sr_0, sr_1, sr_2, sr_3, sr_4, sr_7, sr_8, sr_9, sr_26, sr_27, sr_28, g6, if_true, a1]
theorem rkd_3 {b : Nat} : rkd b = 3 ↔ (b = 59 ∨ b = 40 ∨ b = 41) := by
  unfold rkd
  split
  · simp_all
  · simp_all
theorem rK_le (j : Nat) : rK n T j ≤ 4 := by
  unfold rK
  split
  · omega
  · split
    · unfold rkd; split <;> omega
    · unfold tK at *
      split
      · have := kd_lt (T (tS n T j)); omega
      · omega
theorem rK_1 {j : Nat} : rK n T j = 1 ↔ tK n T j = 1 := by
  unfold rK
  by_cases c1 : tK n T j = 4
  · rw [if_pos c1]; omega
  · rw [if_neg c1]
    by_cases c2 : tK n T j = 3
    · rw [if_pos c2]
      unfold rkd
      split <;> omega
    · rw [if_neg c2]
theorem rK_2 {j : Nat} : rK n T j = 2 ↔ tK n T j = 2 := by
  unfold rK
  by_cases c1 : tK n T j = 4
  · rw [if_pos c1]; omega
  · rw [if_neg c1]
    by_cases c2 : tK n T j = 3
    · rw [if_pos c2]
      unfold rkd
      split <;> omega
    · rw [if_neg c2]
theorem rK_0 {j : Nat} : rK n T j = 0 ↔ tK n T j = 4 := by
  unfold rK
  by_cases c1 : tK n T j = 4
  · rw [if_pos c1]; omega
  · rw [if_neg c1]
    by_cases c2 : tK n T j = 3
    · rw [if_pos c2]
      unfold rkd
      split <;> omega
    · rw [if_neg c2]
      have : tK n T j = 1 ∨ tK n T j = 2 ∨ tK n T j = 3 := tK_pos (tS_lt c1)
      omega
theorem rK_3 {j : Nat} : rK n T j = 3 ↔ tK n T j = 3 ∧ (T (tS n T j) = 59 ∨ T (tS n T j) = 40 ∨ T (tS n T j) = 41) := by
  unfold rK
  by_cases c1 : tK n T j = 4
  · rw [if_pos c1]; omega
  · rw [if_neg c1]
    by_cases c2 : tK n T j = 3
    · rw [if_pos c2, rkd_3]
      exact ⟨fun z => ⟨c2, z⟩, fun z => z.2⟩
    · rw [if_neg c2]
      exact ⟨fun z => absurd z c2, fun z => absurd z.1 c2⟩
theorem wv_tok {j : Nat} (hO : okT n T) (h : tK n T j = 1) : wv T (tS n T j) (tL n T j) < 1152921504606846976 := wv_le hO.2 _ (fun i hi => (tok_let h hi).2)
theorem rx_isW (h : RS I L n T σ) {w : Nat} (hw : w < 1152921504606846976) : F_X12_isWord N (wm Mb I L) 540 (lN w) = some (if qs σ (isW n T w) then 1 else 0) := by
  unfold F_X12_isWord
  cases σ with
  | inr x =>
    obtain ⟨g1, g2, g3⟩ := h.2
    simp only [wm_kR, wm_kt, wm_kn, wm_kin, wm_kL, wm_kI, wm_ksI, wm_ksL, wm_kJ, wm_ksJ, kg_t, kl_v, Option.bind_some, sr_k, sr_0, sr_1, sr_2, sr_3, sr_4, sr_7, sr_8, sr_9, sr_26, sr_27, sr_28, g1]
    rw [if_neg (nI_ne0 (by omega) (by omega))]
    rfl
  | inl j =>
    obtain ⟨⟨h0, hT⟩, ⟨g1, g2, g3, g4, g5⟩, g6⟩ := h
    have h800 := h0.1
    have hP := tP_le (n := n) (T := T) (j + 1)
    have ee := @tL_end n T j
    have hr := @rK_le n T j
    have em : nI (tP n T (j + 1)) - nI (tS n T j) = nI (tL n T j) := pk_sub (by omega)
    unfold qs isW
    simp (disch := omega) only [wm_kR, wm_kt, wm_kn, wm_kin, wm_kL, wm_kI, wm_ksI, wm_ksL, wm_kJ, wm_ksJ, kg_t, kl_v, Option.bind_some, sr_k, sr_0, sr_1, sr_2, sr_3, sr_4, sr_7, sr_8, sr_9, sr_26, sr_27, sr_28, g6, if_true, g1, g2, g3, em, show (1 : Int32) = nI 1 from rfl, show (12 : Int32) = nI 12 from rfl, nI_eqI, nI_ltP, rK_1]
    by_cases c1 : tK n T j = 1
    · rw [if_pos c1]
      by_cases c2 : tL n T j < 12
      · rw [if_pos c2, g5 c1]
        have hwv := wv_tok h0 c1
        have hlc : (lg_cmp (lN (wv T (tS n T j) (tL n T j))) (lN w) = 0) = (wv T (tS n T j) (tL n T j) = w) := by
          unfold lg_cmp
          apply propext
          simp only [gt_iff_lt]
          have l1 := pk_lLT (a := w) (b := wv T (tS n T j) (tL n T j)) (by omega) (by omega)
          have l2 := pk_lEQ (a := wv T (tS n T j) (tL n T j)) (b := w) (by omega) (by omega)
          by_cases d1 : w < wv T (tS n T j) (tL n T j)
          · rw [if_pos (l1.mpr d1)]
            exact ⟨fun z => absurd z (by decide), fun z => by omega⟩
          · rw [if_neg (fun z => d1 (l1.mp z))]
            by_cases d2 : wv T (tS n T j) (tL n T j) = w
            · rw [if_pos (l2.mpr d2)]
              exact ⟨fun _ => d2, fun _ => rfl⟩
            · rw [if_neg (fun z => d2 (l2.mp z))]
              exact ⟨fun z => absurd z (by decide), fun z => absurd z d2⟩
        simp only [hlc, c1, c2, decide_true, Bool.true_and, decide_eq_true_eq]
        split <;> rfl
      · simp only [c2, if_false, decide_false, Bool.false_and, Bool.and_false, Bool.false_eq_true]
    · simp only [c1, if_false, decide_false, Bool.false_and, Bool.false_eq_true]
theorem rx_isG (h : RS I L n T σ) {ch : Nat} (hch : ch = 59 ∨ ch = 40 ∨ ch = 41) : F_X12_isSign N (wm Mb I L) 540 (nI ch) = some (if qs σ (isG n T ch) then 1 else 0) := by
  unfold F_X12_isSign
  cases σ with
  | inr x =>
    obtain ⟨g1, g2, g3⟩ := h.2
    simp only [wm_kR, wm_kt, wm_kn, wm_kin, wm_kL, wm_kI, wm_ksI, wm_ksL, wm_kJ, wm_ksJ, kg_t, kl_v, Option.bind_some, sr_k, sr_0, sr_1, sr_2, sr_3, sr_4, sr_7, sr_8, sr_9, sr_26, sr_27, sr_28, g1]
    rw [if_neg (nI_ne0 (by omega) (by omega))]
    rfl
  | inl j =>
    obtain ⟨⟨h0, hT⟩, ⟨g1, g2, g3, g4, g5⟩, g6⟩ := h
    have h800 := h0.1
    have hr := @rK_le n T j
    have hb := h0.2 (tS n T j)
    unfold qs isG
    simp (disch := omega) only [wm_kR, wm_kt, wm_kn, wm_kin, wm_kL, wm_kI, wm_ksI, wm_ksL, wm_kJ, wm_ksJ, kg_t, kl_v, Option.bind_some, sr_k, sr_0, sr_1, sr_2, sr_3, sr_4, sr_7, sr_8, sr_9, sr_26, sr_27, sr_28, g6, if_true, g2, g3, show (3 : Int32) = nI 3 from rfl, nI_eqI, rK_3]
    by_cases c1 : tK n T j = 3
    · have hS := tS_lt (n := n) (T := T) (j := j) (by omega)
      simp (disch := omega) only [kin_x, kx_nI, hT.2 _ hS, wm_kR, wm_kt, wm_kn, wm_kin, wm_kL, wm_kI, wm_ksI, wm_ksL, wm_kJ, wm_ksJ, kg_t, kl_v, Option.bind_some, nI_eqI, c1, true_and, decide_true, Bool.true_and, decide_eq_true_eq]
      by_cases c2 : T (tS n T j) = ch
      · rw [if_pos (by omega), if_pos c2, if_pos c2]
      · by_cases c3 : T (tS n T j) = 59 ∨ T (tS n T j) = 40 ∨ T (tS n T j) = 41
        · rw [if_pos c3, if_neg c2, if_neg c2]
        · rw [if_neg c3, if_neg c2]
    · rw [if_neg (fun z => c1 z.1)]
      simp only [c1, decide_false, Bool.false_and, Bool.false_eq_true, if_false]
/-- the reference reads a number -/
theorem rx_reads (h : RS I L n T σ) {lo hh : Nat} {x2 : Int32} (hlo : lo ≤ 100000) (hhi : hh ≤ 100000) (hx : x2 = nI hh - 1) (hN : 1000 < N) : ∃ I' L', F_X12_reads N (wm Mb I L) 540 (nI lo) x2 = some (rdV n T lo hh σ, wm Mb I' L') ∧ RS I' L' n T (stp n T σ (cN n T lo hh)) ∧ SG I I' ∧ LF L L' := by
  have h14 : ∀ b : Bool, (∀ j, σ = .inl j → (b = true ↔ tK n T j = 2)) → ∃ I' L', F_X12_reads_14 N (wm Mb I L) 540 (nI lo) x2 540 (if b then 1 else 0) = some (rdV n T lo hh σ, wm Mb I' L') ∧ RS I' L' n T (stp n T σ (cN n T lo hh)) ∧ SG I I' ∧ LF L L' := by
    intro b hb
    obtain ⟨I1, a1, a2, a3⟩ := rx_must (N := N) h b (e := 1) (by decide)
    rw [show nI 1 = 1 from rfl] at a1
    have hin : ∃ b2 : Bool, (∀ M, F_X12_in N M (I1 540 15).toInt64 (nI lo).toInt64 x2.toInt64 = some (if b2 then 1 else 0)) ∧ (∀ j, σ = .inl j → tK n T j = 2 → (b2 = true ↔ lo ≤ nuv n T j ∧ nuv n T j < hh)) := by
      refine ⟨decide (¬ I1 540 15 < nI lo ∧ ¬ x2 < I1 540 15), fun M => ?_, fun j hj hk => ?_⟩
      · rw [in_ok]
        by_cases d1 : I1 540 15 < nI lo
        · simp [d1]
        · by_cases d2 : x2 < I1 540 15 <;> simp [d1, d2]
      · subst hj
        have hbt : b = true := (hb j rfl).mpr hk
        subst hbt
        have h15 : I1 540 15 = nI (nuv n T j) := a2.2.1.2.2.2.1 hk
        have hnv : nuv n T j ≤ 10000300 := nv_le T _ (fun i => (h.1.1.2 i).2) _
        rw [h15, decide_eq_true_eq, nI_ltI (by omega) (by omega), hx]
        by_cases z : hh = 0
        · subst z
          rw [show nI 0 - 1 = -1 by decide]
          have h1 : (-1 : Int32) < 0 := by decide
          have h2 := nI_0le (a := nuv n T j) (by omega)
          have h3 : (-1 : Int32) < nI (nuv n T j) := by grind
          simp [h3]
        · rw [show nI hh - 1 = nI (hh - 1) from pk_sub (b := 1) (by omega), nI_ltI (by omega) (by omega)]
          omega
    obtain ⟨b2, hb2, hb3⟩ := hin
    obtain ⟨I2, c1, c2, c3⟩ := rx_must (N := N) a2 b2 (e := 2) (by decide)
    rw [show nI 2 = 2 from rfl] at c1
    obtain ⟨I3, L3, d1, d2, d3, d4⟩ := rx_goes (N := N) c2 hN
    have hfin : goS (if b2 then (if b then σ else ers n T σ 1) else ers n T (if b then σ else ers n T σ 1) 2) = stp n T σ (cN n T lo hh) := by
      cases σ with
      | inr x => cases b <;> cases b2 <;> rfl
      | inl j =>
        unfold stp cN
        by_cases hk : tK n T j = 2
        · have hbt : b = true := (hb j rfl).mpr hk
          subst hbt
          by_cases hr : lo ≤ nuv n T j ∧ nuv n T j < hh
          · have : b2 = true := (hb3 j rfl hk).mpr hr
            subst this
            simp [hk, hr, goS]
          · have : b2 = false := by
              cases hz : b2 with
              | false => rfl
              | true => exact absurd ((hb3 j rfl hk).mp hz) hr
            subst this
            simp [hk, hr, goS, ers]
        · have hbf : b = false := by
            cases hz : b with
            | false => rfl
            | true => exact absurd ((hb j rfl).mp hz) hk
          subst hbf
          cases b2 <;> simp [hk, goS, ers]
    rw [hfin] at d2
    refine ⟨I3, L3, ?_, d2, (a3.trans c3).trans d3, d4⟩
    unfold F_X12_reads_14
    simp only [wm_kR, wm_kt, wm_kn, wm_kin, wm_kL, wm_kI, wm_ksI, wm_ksL, wm_kJ, wm_ksJ, kg_t, kl_v, Option.bind_some, sr_k, sr_0, sr_1, sr_2, sr_3, sr_4, sr_7, sr_8, sr_9, sr_26, sr_27, sr_28, a1, hb2, c1, d1]
    have hv : (if I3 540 16 = 0 then some (I2 540 15, wm Mb I3 L3) else some (nI lo, wm Mb I3 L3)) = some (rdV n T lo hh σ, wm Mb I3 L3) := by
      cases hs : stp n T σ (cN n T lo hh) with
      | inr x =>
        rw [hs] at d2
        obtain ⟨g1, g2, -⟩ := d2.2
        rw [g1, if_neg (nI_ne0 (by omega) (by omega))]
        cases σ with
        | inr y => rfl
        | inl j =>
          unfold stp at hs
          unfold rdV
          by_cases z : cN n T lo hh j = 0
          · simp [z] at hs
          · simp [z]
      | inl i =>
        rw [hs] at d2
        have g1 := d2.2.2
        rw [g1, if_pos rfl]
        cases σ with
        | inr y => cases hs
        | inl j =>
          unfold stp at hs
          unfold rdV
          by_cases z : cN n T lo hh j = 0
          · simp only [z, if_true]
            have hk : tK n T j = 2 := by
              unfold cN at z
              by_cases y : tK n T j = 2
              · exact y
              · rw [if_neg y] at z; cases z
            have hr : lo ≤ nuv n T j ∧ nuv n T j < hh := by
              unfold cN at z
              rw [if_pos hk] at z
              by_cases y : lo ≤ nuv n T j ∧ nuv n T j < hh
              · exact y
              · rw [if_neg y] at z; cases z
            have hbt : b = true := (hb j rfl).mpr hk
            have hbt2 : b2 = true := (hb3 j rfl hk).mpr hr
            subst hbt
            subst hbt2
            have h15 : I2 540 15 = nI (nuv n T j) := c2.2.1.2.2.2.1 hk
            rw [h15]
          · simp [z] at hs
    exact hv
  unfold F_X12_reads
  simp only [wm_kR, wm_kt, wm_kn, wm_kin, wm_kL, wm_kI, wm_ksI, wm_ksL, wm_kJ, wm_ksJ, kg_t, kl_v, Option.bind_some, sr_k, sr_0, sr_1, sr_2, sr_3, sr_4, sr_7, sr_8, sr_9, sr_26, sr_27, sr_28]
  by_cases c1 : I 540 14 = 2
  · simp only [c1, if_true]
    exact h14 true (fun j hj => by
      subst hj
      have g3 := h.2.1.2.2.1
      have hr := @rK_le n T j
      rw [g3] at c1
      have : rK n T j = 2 := (nI_eq (by omega) (by omega)).mp (show nI (rK n T j) = nI 2 from c1)
      exact ⟨fun _ => rK_2.mp this, fun _ => rfl⟩)
  · simp only [c1, if_false]
    exact h14 false (fun j hj => by
      subst hj
      have g3 := h.2.1.2.2.1
      exact ⟨fun z => (by cases z), fun z => by
        exfalso
        apply c1
        rw [g3, rK_2.mpr z]
        rfl⟩)
end
