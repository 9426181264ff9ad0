variable {Mb : SMem}
abbrev sg : Type := Nat ⊕ (Nat × Nat)
def stp (n : Nat) (T : Nat → Nat) (σ : sg) (cond : Nat → Nat) : sg := match σ with
  | .inl j => if cond j = 0 then .inl (j + 1) else .inr (cond j, tS n T j)
  | .inr x => .inr x
def ers (n : Nat) (T : Nat → Nat) (σ : sg) (e : Nat) : sg := match σ with
  | .inl j => .inr (e, tS n T j)
  | .inr x => .inr x
def isW (n : Nat) (T : Nat → Nat) (w : Nat) (j : Nat) : Bool := decide (tK n T j = 1) && (decide (tL n T j < 12) && decide (wv T (tS n T j) (tL n T j) = w))
def isG (n : Nat) (T : Nat → Nat) (ch : Nat) (j : Nat) : Bool := decide (tK n T j = 3) && decide (T (tS n T j) = ch)
def isM (n : Nat) (T : Nat → Nat) (j : Nat) : Bool := decide (tK n T j = 1) && decide (tL n T j ≤ 6)
def nuv (n : Nat) (T : Nat → Nat) (j : Nat) : Nat := nv T (tS n T j) (tL n T j)
def nmc (n : Nat) (T : Nat → Nat) (j : Nat) : Int32 := nI (wv T (tS n T j) (tL n T j))
def cW (n : Nat) (T : Nat → Nat) (w : Nat) (j : Nat) : Nat := if isW n T w j then 0 else 1
def cG (n : Nat) (T : Nat → Nat) (ch : Nat) (j : Nat) : Nat := if isG n T ch j then 0 else 1
def cN (n : Nat) (T : Nat → Nat) (lo h : Nat) (j : Nat) : Nat := if tK n T j = 2 then (if lo ≤ nuv n T j ∧ nuv n T j < h then 0 else 2) else 1
def qs (σ : sg) (p : Nat → Bool) : Bool := match σ with
  | .inl j => p j
  | .inr _ => false
def okS (σ : sg) : Bool := match σ with
  | .inl _ => true
  | .inr _ => false
def nuV (n : Nat) (T : Nat → Nat) (lo h : Nat) (σ : sg) : Int32 := match σ with
  | .inl j => if cN n T lo h j = 0 then nI (nuv n T j) else -1
  | .inr _ => -1
def CS (I : kInts) (n : Nat) (T : Nat → Nat) (c : Nat) (σ : sg) : Prop := (okT n T ∧ CT I n T ∧ TA I n T c) ∧ match σ with
  | .inl j => I 6 5 = nI j ∧ j ≤ c ∧ I 6 6 = 0 ∧ I 6 7 = -1
  | .inr x => I 6 6 = nI x.1 ∧ (1 ≤ x.1 ∧ x.1 ≤ 5) ∧ I 6 7 = nI x.2 ∧ x.2 ≤ 800
def CF (I I' : kInts) : Prop := ∀ a j, ¬ (a = 6 ∧ 5 ≤ j ∧ j ≤ 7) → I' a j = I a j
def RS (I : kInts) (L : kLngs) (n : Nat) (T : Nat → Nat) (σ : sg) : Prop := (okT n T ∧ RT I n T) ∧ match σ with
  | .inl j => RJ I L n T j ∧ I 540 16 = 0
  | .inr x => I 540 16 = nI x.1 ∧ (1 ≤ x.1 ∧ x.1 ≤ 5) ∧ I 540 17 = nI x.2
def SG (I I' : kInts) : Prop := ∀ a j, ¬ (a = 540 ∧ 12 ≤ j ∧ j ≤ 17) → I' a j = I a j
section
variable {N : Nat} {I : kInts} {L : kLngs} {n c : Nat} {T : Nat → Nat} {σ : sg}
theorem CF.rf' : CF I I := fun _ _ _ => rfl
theorem CF.trans {I1 I2 : kInts} (h : CF I I1) (h2 : CF I1 I2) : CF I I2 := fun a j hn => (h2 a j hn).trans (h a j hn)
theorem CF.up {I' : kInts} {j : Nat} {v : Int32} (h : CF I I') (h1 : 5 ≤ j) (h2 : j ≤ 7) : CF I (up I' 6 j v) := fun a i hn => (up_ne (by omega)).trans (h a i hn)
theorem SG.rf' : SG I I := fun _ _ _ => rfl
theorem SG.trans {I1 I2 : kInts} (h : SG I I1) (h2 : SG I1 I2) : SG I I2 := fun a j hn => (h2 a j hn).trans (h a j hn)
theorem SG.up {I' : kInts} {j : Nat} {v : Int32} (h : SG I I') (h1 : 12 ≤ j) (h2 : j ≤ 17) : SG I (up I' 540 j v) := fun a i hn => (up_ne (by omega)).trans (h a i hn)
theorem SF.g {I' : kInts} (h : SF I I') : SG I I' := fun a j hn => h a j (by omega)
theorem CS.fr {I' : kInts} (h : CS I n T c σ) (e : ∀ a j, a = 2 ∨ a = 3 ∨ 6 ≤ a ∧ a ≤ 9 → I' a j = I a j) : CS I' n T c σ := by
  obtain ⟨⟨h0, ⟨h1, h2⟩, h3, h4, h5, h6, h7⟩, h8⟩ := h
  refine ⟨⟨h0, ⟨(e _ _ (by omega)).trans h1, fun k hk => (e _ _ (by omega)).trans (h2 k hk)⟩, (e _ _ (by omega)).trans h3, h4, h5, h6, fun j hj => ?_⟩, ?_⟩
  · rw [e 7 j (by omega), e 8 j (by omega), e 9 j (by omega)]
    exact h7 j hj
  · cases σ with
    | inl j =>
      show I' 6 5 = _ ∧ _ ∧ I' 6 6 = _ ∧ I' 6 7 = _
      rw [e 6 5 (by omega), e 6 6 (by omega), e 6 7 (by omega)]
      exact h8
    | inr x =>
      show I' 6 6 = _ ∧ _ ∧ I' 6 7 = _ ∧ _
      rw [e 6 6 (by omega), e 6 7 (by omega)]
      exact h8
theorem TA.cf {I' : kInts} (h : TA I n T c) (e : CF I I') : TA I' n T c := by
  obtain ⟨h3, h4, h5, h6, h7⟩ := h
  refine ⟨(e _ _ (by omega)).trans h3, h4, h5, h6, fun j hj => ?_⟩
  rw [e 7 j (by omega), e 8 j (by omega), e 9 j (by omega)]
  exact h7 j hj
theorem CT.cf {I' : kInts} (h : CT I n T) (e : CF I I') : CT I' n T := ⟨(e _ _ (by omega)).trans h.1, fun k hk => (e _ _ (by omega)).trans (h.2 k hk)⟩
theorem ne5 : ¬ (nI 0 = 1) := by decide
theorem cx_at (h : CS I n T c σ) (k : Nat) (hk : k ≤ 4) : F_X9_at N (wm Mb I L) 6 (nI k) = some (if qs σ (fun j => decide (tK n T j = k)) then 1 else 0) := by
  obtain ⟨⟨h0, h1, h3, h4, h5, h6, h7⟩, h8⟩ := h
  have h800 := h0.1
  unfold F_X9_at
  cases σ with
  | inl j =>
    obtain ⟨g1, g2, g3, g4⟩ := h8
    have hkj : tK n T j ≤ 4 := by
      unfold tK
      split
      · have := kd_lt (T (tS n T j)); omega
      · exact Nat.le_refl _
    simp (disch := omega) only [wm_kR, wm_kt, wm_kn, wm_kin, wm_kL, wm_kI, wm_ksI, wm_ksL, wm_kJ, wm_ksJ, kg_t, kl_v, Option.bind_some, s6.1, s6.2.2.1, g1, g3, h3, nI_ltP, kin_7, kx_nI, (h7 j g2).1, nI_eqI, if_true]
    rw [if_pos (by omega)]
    show _ = some (if decide (tK n T j = k) = true then 1 else 0)
    simp only [decide_eq_true_eq]
    split <;> rfl
  | inr x =>
    obtain ⟨g1, g2, g3, g4⟩ := h8
    simp only [wm_kR, wm_kt, wm_kn, wm_kin, wm_kL, wm_kI, wm_ksI, wm_ksL, wm_kJ, wm_ksJ, kg_t, kl_v, Option.bind_some, s6.1, g1]
    rw [if_neg (nI_ne0 (by omega) (by omega))]
    rfl
theorem cx_failAt (h : CS I n T c σ) {i e : Nat} (he : 1 ≤ e ∧ e ≤ 5) (hi : i ≤ c) : ∃ I', F_X9_failAt N (wm Mb I L) 6 (nI i) (nI e) = some (wm Mb I' L) ∧ CS I' n T c (match σ with | .inl _ => .inr (e, tS n T i) | .inr x => .inr x) ∧ CF I I' := by
  obtain ⟨⟨h0, h1, hta⟩, h8⟩ := h
  obtain ⟨h3, h4, h5, h6, h7⟩ := id hta
  have h800 := h0.1
  have hS := tS_le (n := n) (T := T) i
  unfold F_X9_failAt
  cases σ with
  | inl j =>
    obtain ⟨g1, g2, g3, g4⟩ := h8
    have e8 : up I 6 6 (nI e) 8 i = nI (tS n T i) := (up_ne (Or.inl (by decide))).trans (h7 i hi).2.1
    have hcf : CF I (up (up I 6 6 (nI e)) 6 7 (nI (tS n T i))) := (CF.rf'.up (by decide) (by decide)).up (by decide) (by decide)
    refine ⟨_, ?_, ⟨⟨h0, h1.cf hcf, hta.cf hcf⟩, ?_⟩, hcf⟩
    · simp (disch := omega) only [wm_kR, wm_kt, wm_kn, wm_kin, wm_kL, wm_kI, wm_ksI, wm_ksL, wm_kJ, wm_ksJ, kg_t, kl_v, Option.bind_some, s6.1, s6.2.2.2.1, g3, h3, nI_lt0, nI_ltP, if_true, if_false, kin_8, kx_nI, e8]
      rw [if_pos (by omega)]
    · exact ⟨(up_ne (Or.inr (by decide))).trans up_eq, he, up_eq, by show tS n T i ≤ 800; omega⟩
  | inr x =>
    obtain ⟨g1, g2, g3, g4⟩ := h8
    refine ⟨I, ?_, ⟨⟨h0, h1, hta⟩, g1, g2, g3, g4⟩, CF.rf'⟩
    simp only [wm_kR, wm_kt, wm_kn, wm_kin, wm_kL, wm_kI, wm_ksI, wm_ksL, wm_kJ, wm_ksJ, kg_t, kl_v, Option.bind_some, s6.1, g1]
    rw [if_neg (nI_ne0 (by omega) (by omega))]
theorem cx_refuse (h : CS I n T c σ) {e : Nat} (he : 1 ≤ e ∧ e ≤ 5) : ∃ I', F_X9_refuse N (wm Mb I L) 6 (nI e) = some (wm Mb I' L) ∧ CS I' n T c (ers n T σ e) ∧ CF I I' := by
  unfold F_X9_refuse
  cases σ with
  | inl j =>
    obtain ⟨I', a1, a2, a3⟩ := cx_failAt (Mb := Mb) (N := N) (L := L) h he h.2.2.1
    refine ⟨I', ?_, a2, a3⟩
    simp only [wm_kR, wm_kt, wm_kn, wm_kin, wm_kL, wm_kI, wm_ksI, wm_ksL, wm_kJ, wm_ksJ, kg_t, kl_v, Option.bind_some, s6.1, h.2.1, a1]
  | inr x =>
    refine ⟨I, ?_, h, CF.rf'⟩
    obtain ⟨g1, g2, -⟩ := h.2
    unfold F_X9_failAt
    simp only [wm_kR, wm_kt, wm_kn, wm_kin, wm_kL, wm_kI, wm_ksI, wm_ksL, wm_kJ, wm_ksJ, kg_t, kl_v, Option.bind_some, s6.1, g1]
    rw [if_neg (nI_ne0 (by omega) (by omega))]
    rfl
theorem cx_refuseT (h : CS I n T c σ) {e : Nat} (he : 1 ≤ e ∧ e ≤ 5) (h1 : ∀ j, σ = .inl j → 1 ≤ j) : ∃ I', F_X9_refuseTaken N (wm Mb I L) 6 (nI e) = some (wm Mb I' L) ∧ CS I' n T c (match σ with | .inl j => .inr (e, tS n T (j - 1)) | .inr x => .inr x) ∧ CF I I' := by
  unfold F_X9_refuseTaken
  cases σ with
  | inl j =>
    have hj := h1 j rfl
    have hjc := h.2.2.1
    obtain ⟨I', a1, a2, a3⟩ := cx_failAt (Mb := Mb) (N := N) (L := L) h he (show j - 1 ≤ c by omega)
    refine ⟨I', ?_, a2, a3⟩
    have em : nI j - 1 = nI (j - 1) := pk_sub (b := 1) hj
    simp only [wm_kR, wm_kt, wm_kn, wm_kin, wm_kL, wm_kI, wm_ksI, wm_ksL, wm_kJ, wm_ksJ, kg_t, kl_v, Option.bind_some, s6.1, h.2.1, em, a1]
  | inr x =>
    refine ⟨I, ?_, h, CF.rf'⟩
    obtain ⟨g1, g2, -⟩ := h.2
    unfold F_X9_failAt
    simp only [wm_kR, wm_kt, wm_kn, wm_kin, wm_kL, wm_kI, wm_ksI, wm_ksL, wm_kJ, wm_ksJ, kg_t, kl_v, Option.bind_some, s6.1, g1]
    rw [if_neg (nI_ne0 (by omega) (by omega))]
    rfl
theorem cx_takeNo (h : CS I n T c σ) : ∃ I', F_X9_takeIf N (wm Mb I L) 6 0 = some (wm Mb I' L) ∧ CS I' n T c (ers n T σ 1) ∧ CF I I' := by
  obtain ⟨I', a1, a2, a3⟩ := cx_refuse (Mb := Mb) (N := N) (L := L) h (e := 1) (by decide)
  refine ⟨I', ?_, a2, a3⟩
  unfold F_X9_refuse at a1
  unfold F_X9_takeIf
  rw [if_pos rfl]
  exact a1
theorem cx_takeYes (h : CS I n T c σ) (h4 : ∀ j, σ = .inl j → tK n T j ≠ 4) : ∃ I', F_X9_takeIf N (wm Mb I L) 6 1 = some (wm Mb I' L) ∧ CS I' n T c (match σ with | .inl j => .inl (j + 1) | .inr x => .inr x) ∧ CF I I' := by
  obtain ⟨⟨h0, h1, hta⟩, h8⟩ := h
  have h800 := h0.1
  unfold F_X9_takeIf
  rw [if_neg one0]
  cases σ with
  | inl j =>
    obtain ⟨g1, g2, g3, g4⟩ := h8
    have hj : j < c := by
      by_cases z : j = c
      · subst z; exact absurd hta.2.2.1 (h4 j rfl)
      · omega
    have hcf : CF I (up I 6 5 (nI (j + 1))) := CF.rf'.up (by decide) (by decide)
    refine ⟨up I 6 5 (nI (j + 1)), ?_, ⟨⟨h0, h1.cf hcf, hta.cf hcf⟩, up_eq, hj, (up_ne (Or.inr (by decide))).trans g3, (up_ne (Or.inr (by decide))).trans g4⟩, hcf⟩
    simp only [wm_kR, wm_kt, wm_kn, wm_kin, wm_kL, wm_kI, wm_ksI, wm_ksL, wm_kJ, wm_ksJ, kg_t, kl_v, Option.bind_some, s6.1, g3, g1, if_true, nI_1]
  | inr x =>
    obtain ⟨g1, g2, g3, g4⟩ := h8
    refine ⟨I, ?_, ⟨⟨h0, h1, hta⟩, g1, g2, g3, g4⟩, CF.rf'⟩
    simp only [wm_kR, wm_kt, wm_kn, wm_kin, wm_kL, wm_kI, wm_ksI, wm_ksL, wm_kJ, wm_ksJ, kg_t, kl_v, Option.bind_some, s6.1, g1]
    rw [if_neg (nI_ne0 (by omega) (by omega))]
theorem cx_takeIf (h : CS I n T c σ) {p : Nat → Bool} (h4 : ∀ j, p j = true → tK n T j ≠ 4) : ∃ I', F_X9_takeIf N (wm Mb I L) 6 (if qs σ p then 1 else 0) = some (wm Mb I' L) ∧ CS I' n T c (stp n T σ (fun j => if p j then 0 else 1)) ∧ CF I I' := by
  cases σ with
  | inl j =>
    by_cases hp : p j = true
    · have e : qs (.inl j) p = true := hp
      obtain ⟨I', a1, a2, a3⟩ := cx_takeYes (Mb := Mb) (N := N) (L := L) h (fun i hi => by cases hi; exact h4 j hp)
      refine ⟨I', ?_, ?_, a3⟩
      · rw [e, if_pos rfl]; exact a1
      · unfold stp
        simp only [hp, if_true]
        exact a2
    · have e : qs (.inl j) p = false := by simpa [qs] using hp
      obtain ⟨I', a1, a2, a3⟩ := cx_takeNo (Mb := Mb) (N := N) (L := L) h
      refine ⟨I', ?_, ?_, a3⟩
      · rw [e, if_neg (by decide)]; exact a1
      · unfold stp
        simp only [hp]
        exact a2
  | inr x =>
    have e : qs (.inr x) p = false := rfl
    obtain ⟨I', a1, a2, a3⟩ := cx_takeNo (Mb := Mb) (N := N) (L := L) h
    exact ⟨I', by rw [e, if_neg (by decide)]; exact a1, a2, a3⟩
theorem cx_sign (h : CS I n T c σ) {ch : Nat} (hch : ch < 256) : F_X9_atSign N (wm Mb I L) 6 (nI ch) = some (if qs σ (isG n T ch) then 1 else 0) := by
  unfold F_X9_atSign
  rw [show (3 : Int32) = nI 3 from rfl]
  simp only [wm_kR, wm_kt, wm_kn, wm_kin, wm_kL, wm_kI, wm_ksI, wm_ksL, wm_kJ, wm_ksJ, kg_t, kl_v, Option.bind_some, s6.1, cx_at h 3 (by decide)]
  cases σ with
  | inl j =>
    obtain ⟨⟨h0, h1, h3, h4, h5, h6, h7⟩, g1, g2, g3, g4⟩ := h
    have h800 := h0.1
    have hb := h0.2 (tS n T j)
    unfold qs isG
    by_cases c3 : tK n T j = 3
    · have hS := tS_lt (n := n) (T := T) (j := j) (by omega)
      simp (disch := omega) only [wm_kR, wm_kt, wm_kn, wm_kin, wm_kL, wm_kI, wm_ksI, wm_ksL, wm_kJ, wm_ksJ, kg_t, kl_v, Option.bind_some, s6.1, s6.2.1, s6.2.2.2.1, s2.1, c3, decide_true, if_true, if_neg one0, g1, kin_8, kx_nI, (h7 j g2).2.1, cx_byte h1 h800 hS, nI_eqI, Bool.true_and, decide_eq_true_eq]
      split <;> rfl
    · simp [c3]
  | inr x => rfl
theorem cx_takeSign (h : CS I n T c σ) {ch : Nat} (hch : ch < 256) : ∃ I', (F_X9_atSign N (wm Mb I L) 6 (nI ch)).bind (fun r1 => kg (kt (wm Mb I L) 6 9) <| (F_X9_takeIf N (wm Mb I L) 6 r1).bind fun M2 => some M2) = some (wm Mb I' L) ∧ CS I' n T c (stp n T σ (cG n T ch)) ∧ CF I I' := by
  obtain ⟨I', a1, a2, a3⟩ := cx_takeIf (Mb := Mb) (N := N) (L := L) h (p := isG n T ch) (fun j hj => by
    unfold isG at hj
    simp only [Bool.and_eq_true, decide_eq_true_eq] at hj
    omega)
  refine ⟨I', ?_, a2, a3⟩
  simp only [cx_sign h hch, wm_kR, wm_kt, wm_kn, wm_kin, wm_kL, wm_kI, wm_ksI, wm_ksL, wm_kJ, wm_ksJ, kg_t, kl_v, Option.bind_some, s6.1, a1]
theorem cx_anyWord (h : CS I n T c σ) : ∃ I', F_X9_takeAnyWord N (wm Mb I L) 6 = some (wm Mb I' L) ∧ CS I' n T c (stp n T σ (fun j => if decide (tK n T j = 1) then 0 else 1)) ∧ CF I I' := by
  obtain ⟨I', a1, a2, a3⟩ := cx_takeIf (Mb := Mb) (N := N) (L := L) h (p := fun j => decide (tK n T j = 1)) (fun j hj => by
    have := of_decide_eq_true hj
    omega)
  refine ⟨I', ?_, a2, a3⟩
  unfold F_X9_takeAnyWord
  rw [show (1 : Int32) = nI 1 from rfl]
  simp only [wm_kR, wm_kt, wm_kn, wm_kin, wm_kL, wm_kI, wm_ksI, wm_ksL, wm_kJ, wm_ksJ, kg_t, kl_v, Option.bind_some, s6.1, cx_at h 1 (by decide), a1]
end
