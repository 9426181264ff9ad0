/-! the reference reads a command's words -/
def aJoin (N : Nat) (M : kMem) (v2 v4 v6 : Int32) : Option kMem :=
    kg (kt M 540 12) <|
    kg (kin M (kR M 540 0) 13 8) <|
    if (kI M (kR M 540 0) (kx 8)) < 24 then (
      kg (kt M 540 12) <| (F_X12_traderNamed N M 540 v2).bind fun r12 =>
      if r12 = (-1) then (
        F_X12_joinText_55 N M 540 v2 v4 v6 1) else
      F_X12_joinText_54 N M 540 v2 v4 v6) else
    F_X12_joinText_54 N M 540 v2 v4 v6
def aBuy (N : Nat) (M : kMem) (r2 v4 v7 : Int32) : Option kMem :=
    if r2 = (-1) then (
      F_X12_buyText_75 N M 540 r2 v4 v7) else
    kg (kt M 540 12) <|
    kg (kin M (kR M 540 0) 13 7) <|
    if v4 < (kI M (kR M 540 0) (kx 7)) then (
      kg (kt M 540 12) <| (F_X12_isPosition N M 540 v4 v7).bind fun r13 =>
      if r13 = 0 then (
        F_X12_buyText_75 N M 540 r2 v4 v7) else
      kg (kt M 540 12) <| (F_X12_againstSeat N M 540 r2 v4 v7).bind fun r14 =>
      if r14 = 0 then (
        F_X12_buyText_76 N M 540 r2 v4 v7 1) else
      F_X12_buyText_75 N M 540 r2 v4 v7) else
    F_X12_buyText_75 N M 540 r2 v4 v7
def aLeave (N : Nat) (M : kMem) (r2 : Int32) : Option kMem :=
    if r2 = (-1) then (
      F_X12_leaveText_33 N M 540 r2) else
    kg (kt M 540 12) <| (F_X12_isSeated N M 540 r2).bind fun r8 =>
    if r8 = 0 then (
      F_X12_leaveText_33 N M 540 r2) else
    F_X12_leaveText_34 N M 540 r2 1
def aPair (N : Nat) (M : kMem) (x1 x3 x4 y0 : Int32) : Option kMem :=
    if x3 = (-1) then (
      F_X12_pairText_88 N M 540 x1 x3 x4 y0) else
    if x4 = (-1) then (
      F_X12_pairText_88 N M 540 x1 x3 x4 y0) else
    if x1 = 0 then (
      kg (kt M 540 12) <| (F_X12_againstSwap N M 540 x3 x4).bind fun r14 =>
      F_X12_pairText_81 N M 540 x1 x3 x4 y0 r14) else
    kg (kt M 540 12) <| (F_X12_againstSale N M 540 x3 x4 y0).bind fun r15 =>
    F_X12_pairText_81 N M 540 x1 x3 x4 y0 r15
def aWhole (N : Nat) (M : kMem) (x1 y0 : Int32) : Option kMem :=
    if x1 = 0 then (
      kg (kt M 540 12) <|
      kg (kin M (kR M 540 0) 13 6) <|
      if (9999 : Int32) < ((kI M (kR M 540 0) (kx 6)) + y0) then (
        F_X12_wholeText_53 N M 540 x1 y0 0) else
      F_X12_wholeText_48 N M 540 x1 y0) else
    F_X12_wholeText_48 N M 540 x1 y0
/-- what reading the words of a command of kind k at token j gives; A: what is done then -/
def RDW (F : Option kMem) (A : kMem → Option kMem) (I : kInts) (L : kLngs) (n : Nat) (T : Nat → Nat) (k j : Nat) : Prop := ∃ I' L', RS I' L' n T (wlk n T (lsT n T k) (.inl j)) ∧ SG I I' ∧ LF L L' ∧ (I 540 21 = 0 ∨ okS (wlk n T (lsT n T k) (.inl j)) = false → F = some (wm Mb I' L')) ∧ (¬ I 540 21 = 0 → I 540 22 = 0 → okS (wlk n T (lsT n T k) (.inl j)) = true → F = A (wm Mb I' L'))
section
variable {N : Nat} {I : kInts} {L : kLngs} {n c i j k nb nt : Nat} {T : Nat → Nat} {σ : sg}
theorem RS_16 (h : RS I L n T σ) : (I 540 16 = 0) = (okS σ = true) := by
  cases σ with
  | inl j => exact propext ⟨fun _ => rfl, fun _ => RS_ok h⟩
  | inr x => exact propext ⟨fun z => absurd z (RS_err h), fun z => by cases z⟩
theorem rx_act (h : RS I L n T σ) : F_X12_isActive N (wm Mb I L) 540 = some (if I 540 21 = 0 then 0 else if okS σ = true then if I 540 22 = 0 then 1 else 0 else 0) := by
  unfold F_X12_isActive
  by_cases c1 : I 540 21 = 0
  · simp only [wm_kR, wm_kt, wm_kn, wm_kin, wm_kL, wm_kI, wm_ksI, wm_ksL, wm_kJ, wm_ksJ, kg_t, kl_v, Option.bind_some, sr_k, sr_0, sr_1, sr_2, sr_3, sr_4, sr_7, sr_8, sr_9, sr_26, sr_27, sr_28, if_pos c1]
  · by_cases c2 : okS σ = true
    · by_cases c3 : I 540 22 = 0
      · simp only [wm_kR, wm_kt, wm_kn, wm_kin, wm_kL, wm_kI, wm_ksI, wm_ksL, wm_kJ, wm_ksJ, kg_t, kl_v, Option.bind_some, sr_k, sr_0, sr_1, sr_2, sr_3, sr_4, sr_7, sr_8, sr_9, sr_26, sr_27, sr_28, RS_16 h, if_neg c1, if_pos c2, c3, if_true]
      · simp only [wm_kR, wm_kt, wm_kn, wm_kin, wm_kL, wm_kI, wm_ksI, wm_ksL, wm_kJ, wm_ksJ, kg_t, kl_v, Option.bind_some, sr_k, sr_0, sr_1, sr_2, sr_3, sr_4, sr_7, sr_8, sr_9, sr_26, sr_27, sr_28, RS_16 h, if_neg c1, if_pos c2, c3, if_false]
    · simp only [wm_kR, wm_kt, wm_kn, wm_kin, wm_kL, wm_kI, wm_ksI, wm_ksL, wm_kJ, wm_ksJ, kg_t, kl_v, Option.bind_some, sr_k, sr_0, sr_1, sr_2, sr_3, sr_4, sr_7, sr_8, sr_9, sr_26, sr_27, sr_28, RS_16 h, if_neg c1, if_neg c2]
theorem rx_isNm (h : RS I L n T σ) : ∃ v : Int32, F_X12_isNameHere N (wm Mb I L) 540 = some v ∧ ∀ i, σ = .inl i → v = if isM n T i then 1 else 0 := by
  cases σ with
  | inl i => exact ⟨_, rx_isName h, fun q e => by cases e; rfl⟩
  | inr x =>
    unfold F_X12_isNameHere
    by_cases c1 : I 540 14 = 1
    · by_cases c2 : 6 < I 540 12 - I 540 13
      · simp only [wm_kR, wm_kt, wm_kn, wm_kin, wm_kL, wm_kI, wm_ksI, wm_ksL, wm_kJ, wm_ksJ, kg_t, kl_v, Option.bind_some, sr_k, sr_0, sr_1, sr_2, sr_3, sr_4, sr_7, sr_8, sr_9, sr_26, sr_27, sr_28, if_pos c1, c2, if_true]
        exact ⟨0, rfl, fun q e => by cases e⟩
      · simp only [wm_kR, wm_kt, wm_kn, wm_kin, wm_kL, wm_kI, wm_ksI, wm_ksL, wm_kJ, wm_ksJ, kg_t, kl_v, Option.bind_some, sr_k, sr_0, sr_1, sr_2, sr_3, sr_4, sr_7, sr_8, sr_9, sr_26, sr_27, sr_28, if_pos c1, c2, if_false]
        exact ⟨1, rfl, fun q e => by cases e⟩
    · simp only [wm_kR, wm_kt, wm_kn, wm_kin, wm_kL, wm_kI, wm_ksI, wm_ksL, wm_kJ, wm_ksJ, kg_t, kl_v, Option.bind_some, sr_k, sr_0, sr_1, sr_2, sr_3, sr_4, sr_7, sr_8, sr_9, sr_26, sr_27, sr_28, if_neg c1]
      exact ⟨0, rfl, fun q e => by cases e⟩
theorem rx_ers {x : Nat × Nat} (h : RS I L n T (.inr x)) (v e : Int32) : F_X12_must N (wm Mb I L) 540 v e = some (wm Mb I L) := re_must (RS_err h) v e
theorem isM_1 (h : isM n T j = true) : tK n T j = 1 := by
  unfold isM at h
  rw [Bool.and_eq_true] at h
  exact of_decide_eq_true h.1
theorem rx_lw {i : Nat} (h : RS I L n T (.inl i)) (hm : tK n T i = 1) : (L 540 20).toInt32 = nmc n T i := by
  have := h.2.1.2.2.2.2 hm
  rw [this, lN_i32]
  rfl
theorem rx_nameT (h : RS I L n T σ) (hN : 1000 < N) : ∃ v I' L', F_X12_nameText N (wm Mb I L) 540 = some (v, wm Mb I' L') ∧ RS I' L' n T (stp n T σ (cMn n T)) ∧ SG I I' ∧ LF L L' ∧ ∀ i, σ = .inl i → cMn n T i = 0 → v = nmc n T i := by
  cases σ with
  | inr x =>
    obtain ⟨v, h1, -⟩ := rx_isNm (N := N) h
    refine ⟨0, I, L, ?_, h, SG.rf', LF.rf', fun i e => by cases e⟩
    unfold F_X12_nameText
    simp only [wm_kR, wm_kt, wm_kn, wm_kin, wm_kL, wm_kI, wm_ksI, wm_ksL, wm_kJ, wm_ksJ, kg_t, kl_v, Option.bind_some, sr_k, sr_0, sr_1, sr_2, sr_3, sr_4, sr_7, sr_8, sr_9, sr_26, sr_27, sr_28, h1, rx_ers h, re_good (RS_err h), if_true, re_goes (RS_err h)]
  | inl i =>
    have h1 := rx_isName (N := N) h
    by_cases c : isM n T i = true
    · obtain ⟨I1, L1, a1, a2, a3, a4⟩ := rx_goes (N := N) h hN
      refine ⟨nmc n T i, I1, L1, ?_, ?_, a3, a4, fun q e _ => by cases e; rfl⟩
      · rw [if_pos c] at h1
        unfold F_X12_nameText
        simp only [wm_kR, wm_kt, wm_kn, wm_kin, wm_kL, wm_kI, wm_ksI, wm_ksL, wm_kJ, wm_ksJ, kg_t, kl_v, Option.bind_some, sr_k, sr_0, sr_1, sr_2, sr_3, sr_4, sr_7, sr_8, sr_9, sr_26, sr_27, sr_28, h1, rx_mustT, rx_good (RS_ok h), if_neg one0, rx_lw h (isM_1 c), a1]
      · rw [stp_0 (by unfold cMn; rw [if_pos c])]
        exact a2
    · obtain ⟨I1, a1, a2, a3⟩ := rx_mustF (N := N) h (e := 1) (by decide)
      rw [show nI 1 = 1 from rfl] at a1
      have ec : cMn n T i = 1 := by unfold cMn; rw [if_neg c]
      refine ⟨0, I1, L, ?_, ?_, a3, LF.rf', fun q e z => by cases e; rw [ec] at z; cases z⟩
      · rw [if_neg c] at h1
        unfold F_X12_nameText
        simp only [wm_kR, wm_kt, wm_kn, wm_kin, wm_kL, wm_kI, wm_ksI, wm_ksL, wm_kJ, wm_ksJ, kg_t, kl_v, Option.bind_some, sr_k, sr_0, sr_1, sr_2, sr_3, sr_4, sr_7, sr_8, sr_9, sr_26, sr_27, sr_28, h1, a1, re_good (RS_err a2), if_true, re_goes (RS_err a2)]
      · rw [stp_e (by rw [ec]; decide), ec]
        exact a2
theorem rx_otherN {x : Int32} (h : RS I L n T σ) (hx : ∀ i, σ = .inl i → x = nmc n T (i - 1)) (hN : 1000 < N) : ∃ v I' L', F_X12_otherName N (wm Mb I L) 540 x = some (v, wm Mb I' L') ∧ RS I' L' n T (stp n T σ (cOt n T)) ∧ SG I I' ∧ LF L L' ∧ ∀ i, σ = .inl i → cOt n T i = 0 → v = nmc n T i := by
  cases σ with
  | inr y =>
    obtain ⟨v, h1, -⟩ := rx_isNm (N := N) h
    obtain ⟨v2, I', L', a1, a2, a3, a4, a5⟩ := rx_nameT h hN
    refine ⟨v2, I', L', ?_, a2, a3, a4, fun i e => by cases e⟩
    unfold F_X12_otherName
    simp only [wm_kR, wm_kt, wm_kn, wm_kin, wm_kL, wm_kI, wm_ksI, wm_ksL, wm_kJ, wm_ksJ, kg_t, kl_v, Option.bind_some, sr_k, sr_0, sr_1, sr_2, sr_3, sr_4, sr_7, sr_8, sr_9, sr_26, sr_27, sr_28, h1, rx_ers h, re_good (RS_err h), if_true, a1]
  | inl i =>
    have h1 := rx_isName (N := N) h
    by_cases c : isM n T i = true
    · rw [if_pos c] at h1
      have hx' := hx i rfl
      by_cases e : nmc n T i = nmc n T (i - 1)
      · have ec : cOt n T i = 3 := by unfold cOt; rw [if_pos c, if_pos e]
        obtain ⟨I1, a1, a2, a3⟩ := rx_mustF (N := N) h (e := 3) (by decide)
        rw [show nI 3 = 3 from rfl] at a1
        obtain ⟨v2, I', L', b1, b2, b3, b4, b5⟩ := rx_nameT a2 hN
        refine ⟨v2, I', L', ?_, ?_, a3.trans b3, b4, fun q z y => by cases z; rw [ec] at y; cases y⟩
        · unfold F_X12_otherName
          simp only [wm_kR, wm_kt, wm_kn, wm_kin, wm_kL, wm_kI, wm_ksI, wm_ksL, wm_kJ, wm_ksJ, kg_t, kl_v, Option.bind_some, sr_k, sr_0, sr_1, sr_2, sr_3, sr_4, sr_7, sr_8, sr_9, sr_26, sr_27, sr_28, h1, rx_mustT, rx_good (RS_ok h), if_neg one0, rx_lw h (isM_1 c), hx', if_pos e, a1, b1]
        · rw [stp_e (by rw [ec]; decide), ec]
          exact b2
      · have ec : cOt n T i = 0 := by unfold cOt; rw [if_pos c, if_neg e]
        have em : cMn n T i = 0 := by unfold cMn; rw [if_pos c]
        obtain ⟨v2, I', L', b1, b2, b3, b4, b5⟩ := rx_nameT h hN
        refine ⟨v2, I', L', ?_, ?_, b3, b4, fun q z y => by cases z; exact b5 i rfl em⟩
        · unfold F_X12_otherName
          simp only [wm_kR, wm_kt, wm_kn, wm_kin, wm_kL, wm_kI, wm_ksI, wm_ksL, wm_kJ, wm_ksJ, kg_t, kl_v, Option.bind_some, sr_k, sr_0, sr_1, sr_2, sr_3, sr_4, sr_7, sr_8, sr_9, sr_26, sr_27, sr_28, h1, rx_mustT, rx_good (RS_ok h), if_neg one0, rx_lw h (isM_1 c), hx', if_neg e, b1]
        · rw [stp_0 ec]
          rw [stp_0 em] at b2
          exact b2
    · rw [if_neg c] at h1
      have ec : cOt n T i = 1 := by unfold cOt; rw [if_neg c]
      obtain ⟨I1, a1, a2, a3⟩ := rx_mustF (N := N) h (e := 1) (by decide)
      rw [show nI 1 = 1 from rfl] at a1
      obtain ⟨v2, I', L', b1, b2, b3, b4, b5⟩ := rx_nameT a2 hN
      refine ⟨v2, I', L', ?_, ?_, a3.trans b3, b4, fun q z y => by cases z; rw [ec] at y; cases y⟩
      · unfold F_X12_otherName
        simp only [wm_kR, wm_kt, wm_kn, wm_kin, wm_kL, wm_kI, wm_ksI, wm_ksL, wm_kJ, wm_ksJ, kg_t, kl_v, Option.bind_some, sr_k, sr_0, sr_1, sr_2, sr_3, sr_4, sr_7, sr_8, sr_9, sr_26, sr_27, sr_28, h1, a1, re_good (RS_err a2), if_true, rx_mustT, b1]
      · rw [stp_e (by rw [ec]; decide), ec]
        exact b2
theorem rx_sideG (h : RS I L n T σ) (hN : 1000 < N) : ∃ v I' L', F_X12_sideText N (wm Mb I L) 540 = some (v, wm Mb I' L') ∧ RS I' L' n T (stp n T σ (sdC n T)) ∧ SG I I' ∧ LF L L' ∧ ∀ i, σ = .inl i → sdC n T i = 0 → v = sdV n T (.inl i) := by
  cases σ with
  | inr x => exact ⟨0, I, L, re_side (RS_err h), h, SG.rf', LF.rf', fun i e => by cases e⟩
  | inl i =>
    obtain ⟨I', L', a1, a2, a3, a4⟩ := rx_side (N := N) h hN
    exact ⟨_, I', L', a1, a2, a3, a4, fun q e z => by cases e; rw [if_pos z]⟩
theorem SG_21 {I' : kInts} (h : SG I I') {x : Nat} (hx : 18 ≤ x) : I' 540 x = I 540 x := h _ _ (by omega)
/-- the trader of a name, or -1: the memory as it is -/
theorem rx_nmd2 {r : Nat → Int32} (hR : RI r nb nt) (e : I 541 = r) (hN : 1000 < N) (v : Int32) : F_X12_traderNamed N (wm Mb I L) 540 v = some (rOf (fnd r nt v)) := by
  have h := rx_named (N := N) (I := I) (L := L) (f := I 546) hR.nt24 hR.r8 v (by omega)
  rw [← e, rf_self] at h
  rw [← e]
  exact h
end
