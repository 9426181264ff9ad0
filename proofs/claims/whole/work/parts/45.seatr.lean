/-! reading a seat of the setup: the reference's side -/
def eqR (s r : Nat → Int32) : Prop := ∀ k, k < 293 → k ≠ 9 → s k = r k
def RFr (I I' : kInts) : Prop := ∀ a j, ¬ (a = 540 ∧ 12 ≤ j ∧ j ≤ 17) → a ≠ 541 → I' a j = I a j
section
variable {N : Nat} {I : kInts} {L : kLngs} {n : Nat} {T : Nat → Nat} {σ : sg} {r s : Nat → Int32} {nb nt : Nat}
theorem RFr.rf' : RFr I I := fun _ _ _ _ => rfl
theorem RFr.trans {I1 I2 : kInts} (h : RFr I I1) (h2 : RFr I1 I2) : RFr I I2 := fun a j x1 x2 => (h2 a j x1 x2).trans (h a j x1 x2)
theorem SG_r {I' : kInts} (h : SG I I') : RFr I I' := fun a j x1 _ => h a j x1
theorem SG_s {I' : kInts} (h : SG I I') : I' 541 = I 541 := funext fun j => h _ _ (by omega)
theorem rf_self : rf I (I 541) (I 546) = I := by
  funext a j
  unfold rf
  by_cases z : a = 541
  · rw [if_pos z, z]
  · rw [if_neg z]
    by_cases y : a = 546
    · rw [if_pos y, y]
    · rw [if_neg y]
theorem fndL_cg {c : Int32} : ∀ {k i : Nat}, i + k ≤ 24 → eqR s r → fndL s c k i = fndL r c k i
  | 0, _, _, _ => rfl
  | k + 1, i, h, e => by
    unfold fndL
    rw [e (89 + 7 * i + 0) (by omega) (by omega), fndL_cg (by omega) e]
theorem fnd_cg {c : Int32} (h : nt ≤ 24) (e : eqR s r) : fnd s nt c = fnd r nt c := fndL_cg (by omega) e
theorem re_must (h : ¬ I 540 16 = 0) (x e : Int32) : F_X12_must N (wm Mb I L) 540 x e = some (wm Mb I L) := by
  unfold F_X12_must
  simp only [wm_kR, wm_kt, wm_kn, wm_kin, wm_kL, wm_kI, wm_ksI, wm_ksL, wm_kJ, wm_ksJ, kg_t, kl_v, Option.bind_some, sr_k, sr_0, sr_1, sr_2, sr_3, sr_4, sr_7, sr_8, sr_9, sr_26, sr_27, sr_28, h, if_false]
theorem rx_mustT (e : Int32) : F_X12_must N (wm Mb I L) 540 1 e = some (wm Mb I L) := by
  unfold F_X12_must
  simp only [wm_kR, wm_kt, wm_kn, wm_kin, wm_kL, wm_kI, wm_ksI, wm_ksL, wm_kJ, wm_ksJ, kg_t, kl_v, Option.bind_some, sr_k, sr_0, sr_1, sr_2, sr_3, sr_4, sr_7, sr_8, sr_9, sr_26, sr_27, sr_28, if_neg one0]
  split <;> rfl
theorem re_good (h : ¬ I 540 16 = 0) : F_X12_isGood N (wm Mb I L) 540 = some 0 := by
  unfold F_X12_isGood
  simp only [wm_kR, wm_kt, wm_kn, wm_kin, wm_kL, wm_kI, wm_ksI, wm_ksL, wm_kJ, wm_ksJ, kg_t, kl_v, Option.bind_some, sr_k, sr_0, sr_1, sr_2, sr_3, sr_4, sr_7, sr_8, sr_9, sr_26, sr_27, sr_28, h, if_false]
theorem rx_good (h : I 540 16 = 0) : F_X12_isGood N (wm Mb I L) 540 = some 1 := by
  unfold F_X12_isGood
  simp only [wm_kR, wm_kt, wm_kn, wm_kin, wm_kL, wm_kI, wm_ksI, wm_ksL, wm_kJ, wm_ksJ, kg_t, kl_v, Option.bind_some, sr_k, sr_0, sr_1, sr_2, sr_3, sr_4, sr_7, sr_8, sr_9, sr_26, sr_27, sr_28, h, if_true]
theorem re_goes (h : ¬ I 540 16 = 0) : F_X12_goesOn N (wm Mb I L) 540 = some (wm Mb I L) := by
  unfold F_X12_goesOn
  simp only [wm_kR, wm_kt, wm_kn, wm_kin, wm_kL, wm_kI, wm_ksI, wm_ksL, wm_kJ, wm_ksJ, kg_t, kl_v, Option.bind_some, sr_k, sr_0, sr_1, sr_2, sr_3, sr_4, sr_7, sr_8, sr_9, sr_26, sr_27, sr_28, h, if_false]
theorem re_word (h : ¬ I 540 16 = 0) (w : Int64) : F_X12_isWord N (wm Mb I L) 540 w = some 0 := by
  unfold F_X12_isWord
  simp only [wm_kR, wm_kt, wm_kn, wm_kin, wm_kL, wm_kI, wm_ksI, wm_ksL, wm_kJ, wm_ksJ, kg_t, kl_v, Option.bind_some, sr_k, sr_0, sr_1, sr_2, sr_3, sr_4, sr_7, sr_8, sr_9, sr_26, sr_27, sr_28, h, if_false]
theorem re_sgn (h : ¬ I 540 16 = 0) (w : Int32) : F_X12_isSign N (wm Mb I L) 540 w = some 0 := by
  unfold F_X12_isSign
  simp only [wm_kR, wm_kt, wm_kn, wm_kin, wm_kL, wm_kI, wm_ksI, wm_ksL, wm_kJ, wm_ksJ, kg_t, kl_v, Option.bind_some, sr_k, sr_0, sr_1, sr_2, sr_3, sr_4, sr_7, sr_8, sr_9, sr_26, sr_27, sr_28, h, if_false]
theorem re_sign (h : ¬ I 540 16 = 0) (w : Int32) : F_X12_sign N (wm Mb I L) 540 w = some (wm Mb I L) := by
  unfold F_X12_sign
  simp only [wm_kR, wm_kt, wm_kn, wm_kin, wm_kL, wm_kI, wm_ksI, wm_ksL, wm_kJ, wm_ksJ, kg_t, kl_v, Option.bind_some, sr_k, sr_0, sr_1, sr_2, sr_3, sr_4, sr_7, sr_8, sr_9, sr_26, sr_27, sr_28, re_sgn h, re_must h, re_goes h]
theorem re_reads (h : ¬ I 540 16 = 0) (x y : Int32) : F_X12_reads N (wm Mb I L) 540 x y = some (x, wm Mb I L) := by
  unfold F_X12_reads F_X12_reads_14
  simp only [wm_kR, wm_kt, wm_kn, wm_kin, wm_kL, wm_kI, wm_ksI, wm_ksL, wm_kJ, wm_ksJ, kg_t, kl_v, Option.bind_some, sr_k, sr_0, sr_1, sr_2, sr_3, sr_4, sr_7, sr_8, sr_9, sr_26, sr_27, sr_28, re_must h, re_goes h, in_ok, h, if_false]
  split <;> rfl
theorem re_side (h : ¬ I 540 16 = 0) : F_X12_sideText N (wm Mb I L) 540 = some (0, wm Mb I L) := by
  unfold F_X12_sideText F_X12_sideText_29
  simp only [wm_kR, wm_kt, wm_kn, wm_kin, wm_kL, wm_kI, wm_ksI, wm_ksL, wm_kJ, wm_ksJ, kg_t, kl_v, Option.bind_some, sr_k, sr_0, sr_1, sr_2, sr_3, sr_4, sr_7, sr_8, sr_9, sr_26, sr_27, sr_28, re_word h, re_must h, re_goes h, if_true]
theorem re_named (h : ¬ I 540 16 = 0) : F_X12_named N (wm Mb I L) 540 = some (-1) := by
  unfold F_X12_named
  simp only [wm_kR, wm_kt, wm_kn, wm_kin, wm_kL, wm_kI, wm_ksI, wm_ksL, wm_kJ, wm_ksJ, kg_t, kl_v, Option.bind_some, sr_k, sr_0, sr_1, sr_2, sr_3, sr_4, sr_7, sr_8, sr_9, sr_26, sr_27, sr_28, re_good h, if_true]
theorem re_187 (h : ¬ I 540 16 = 0) (x1 x2 x4 y : Int32) : F_X12_seatText_187 N (wm Mb I L) 540 x1 x2 x4 540 y = some (wm Mb I L) := by
  unfold F_X12_seatText_187
  simp only [wm_kR, wm_kt, wm_kn, wm_kin, wm_kL, wm_kI, wm_ksI, wm_ksL, wm_kJ, wm_ksJ, kg_t, kl_v, Option.bind_some, sr_k, sr_0, sr_1, sr_2, sr_3, sr_4, sr_7, sr_8, sr_9, sr_26, sr_27, sr_28, re_must h, re_goes h, re_good h, if_true]
theorem re_161 (h : ¬ I 540 16 = 0) (x1 x2 x4 : Int32) : F_X12_seatText_161 N (wm Mb I L) 540 x1 x2 x4 = some (wm Mb I L) := by
  unfold F_X12_seatText_161 F_X12_seatText_182
  simp only [wm_kR, wm_kt, wm_kn, wm_kin, wm_kL, wm_kI, wm_ksI, wm_ksL, wm_kJ, wm_ksJ, kg_t, kl_v, Option.bind_some, sr_k, sr_0, sr_1, sr_2, sr_3, sr_4, sr_7, sr_8, sr_9, sr_26, sr_27, sr_28, re_good h, re_187 h, if_true]
theorem re_140 (h : ¬ I 540 16 = 0) (x1 x2 x3 y : Int32) : F_X12_seatText_140 N (wm Mb I L) 540 x1 x2 x3 540 y = some (wm Mb I L) := by
  unfold F_X12_seatText_140
  simp only [wm_kR, wm_kt, wm_kn, wm_kin, wm_kL, wm_kI, wm_ksI, wm_ksL, wm_kJ, wm_ksJ, kg_t, kl_v, Option.bind_some, sr_k, sr_0, sr_1, sr_2, sr_3, sr_4, sr_7, sr_8, sr_9, sr_26, sr_27, sr_28, re_must h, re_good h, re_161 h, if_true]
theorem re_104 (h : ¬ I 540 16 = 0) (x1 x2 x3 y : Int32) : F_X12_seatText_104 N (wm Mb I L) 540 x1 x2 x3 540 y = some (wm Mb I L) := by
  unfold F_X12_seatText_104 F_X12_seatText_135
  simp only [wm_kR, wm_kt, wm_kn, wm_kin, wm_kL, wm_kI, wm_ksI, wm_ksL, wm_kJ, wm_ksJ, kg_t, kl_v, Option.bind_some, sr_k, sr_0, sr_1, sr_2, sr_3, sr_4, sr_7, sr_8, sr_9, sr_26, sr_27, sr_28, re_must h, re_good h, re_140 h, if_true]
theorem re_62 (h : ¬ I 540 16 = 0) (x1 y : Int32) : F_X12_seatText_62 N (wm Mb I L) 540 x1 540 y = some (wm Mb I L) := by
  unfold F_X12_seatText_62
  simp only [wm_kR, wm_kt, wm_kn, wm_kin, wm_kL, wm_kI, wm_ksI, wm_ksL, wm_kJ, wm_ksJ, kg_t, kl_v, Option.bind_some, sr_k, sr_0, sr_1, sr_2, sr_3, sr_4, sr_7, sr_8, sr_9, sr_26, sr_27, sr_28, kl_0, kl_1, kl_2, kl_3, kl_4, kl_5, kl_6, kl_7, kl_8, kl_9, kl_10, kl_11, kl_12, kl_13, kx_l0, kx_l1, kx_l2, kx_l3, kx_l4, kx_l5, kx_l6, kx_l7, kx_l8, kx_l9, kx_l10, kx_l11, kx_l12, kx_l13, re_must h, re_goes h, re_reads h, re_side h, re_104 h]
  split <;> rfl
theorem re_40 (h : ¬ I 540 16 = 0) (x1 y : Int32) : F_X12_seatText_40 N (wm Mb I L) 540 x1 540 y = some (wm Mb I L) := by
  unfold F_X12_seatText_40 F_X12_seatText_57
  simp only [wm_kR, wm_kt, wm_kn, wm_kin, wm_kL, wm_kI, wm_ksI, wm_ksL, wm_kJ, wm_ksJ, kg_t, kl_v, Option.bind_some, sr_k, sr_0, sr_1, sr_2, sr_3, sr_4, sr_7, sr_8, sr_9, sr_26, sr_27, sr_28, re_must h, re_good h, re_62 h, if_true]
theorem RS_err {x : Nat × Nat} (h : RS I L n T (.inr x)) : ¬ I 540 16 = 0 := by
  obtain ⟨g1, g2, -⟩ := h.2
  rw [g1]
  exact nI_ne0 (by omega) (by omega)
theorem RS_ok {j : Nat} (h : RS I L n T (.inl j)) : I 540 16 = 0 := h.2.2
theorem rx_sgn (h : RS I L n T σ) {ch : Nat} (hch : ch = 59 ∨ ch = 40 ∨ ch = 41) (hN : 1000 < N) : ∃ I' L', F_X12_sign N (wm Mb I L) 540 (nI ch) = some (wm Mb I' L') ∧ RS I' L' n T (stp n T σ (cG n T ch)) ∧ SG I I' ∧ LF L L' := by
  have h1 := rx_isG (N := N) h hch
  obtain ⟨I1, a1, a2, a3⟩ := rx_must (N := N) h (qs σ (isG n T ch)) (e := 1) (by decide)
  obtain ⟨I2, L2, b1, b2, b3, b4⟩ := rx_goes (N := N) a2 hN
  refine ⟨I2, L2, ?_, ?_, a3.trans b3, b4⟩
  · unfold F_X12_sign
    rw [show nI 1 = 1 from rfl] at a1
    simp only [wm_kR, wm_kt, wm_kn, wm_kin, wm_kL, wm_kI, wm_ksI, wm_ksL, wm_kJ, wm_ksJ, kg_t, kl_v, Option.bind_some, sr_k, sr_0, sr_1, sr_2, sr_3, sr_4, sr_7, sr_8, sr_9, sr_26, sr_27, sr_28, h1, a1, b1]
  · have e : goS (if qs σ (isG n T ch) = true then σ else ers n T σ 1) = stp n T σ (cG n T ch) := by
      cases σ with
      | inr x => rfl
      | inl j =>
        unfold qs stp cG
        by_cases z : isG n T ch j = true
        · simp [z, goS]
        · simp [z, goS, ers]
    rw [← e]
    exact b2
theorem rx_29 {i : Nat} (h : RS I L n T (.inl i)) (y : Int32) (hN : 1000 < N) : ∃ I' L', F_X12_sideText_29 N (wm Mb I L) 540 y = some (y, wm Mb I' L') ∧ RS I' L' n T (if y = 0 then erS n T i 1 else .inl (i + 1)) ∧ SG I I' ∧ LF L L' := by
  unfold F_X12_sideText_29
  by_cases z : y = 0
  · obtain ⟨I1, a1, a2, a3⟩ := rx_must (N := N) h false (e := 1) (by decide)
    obtain ⟨I2, L2, b1, b2, b3, b4⟩ := rx_goes (N := N) a2 hN
    refine ⟨I2, L2, ?_, by rw [if_pos z]; exact b2, a3.trans b3, b4⟩
    have a1' : F_X12_must N (wm Mb I L) 540 0 1 = _ := a1
    simp only [z, if_true, wm_kR, wm_kt, wm_kn, wm_kin, wm_kL, wm_kI, wm_ksI, wm_ksL, wm_kJ, wm_ksJ, kg_t, kl_v, Option.bind_some, sr_k, sr_0, sr_1, sr_2, sr_3, sr_4, sr_7, sr_8, sr_9, sr_26, sr_27, sr_28, a1', b1]
  · obtain ⟨I2, L2, b1, b2, b3, b4⟩ := rx_goes (N := N) h hN
    refine ⟨I2, L2, ?_, by rw [if_neg z]; exact b2, b3, b4⟩
    simp only [z, if_false, wm_kR, wm_kt, wm_kn, wm_kin, wm_kL, wm_kI, wm_ksI, wm_ksL, wm_kJ, wm_ksJ, kg_t, kl_v, Option.bind_some, sr_k, sr_0, sr_1, sr_2, sr_3, sr_4, sr_7, sr_8, sr_9, sr_26, sr_27, sr_28, rx_mustT, b1]
theorem rx_side {i : Nat} (h : RS I L n T (.inl i)) (hN : 1000 < N) : ∃ I' L', F_X12_sideText N (wm Mb I L) 540 = some (if sdC n T i = 0 then sdV n T (.inl i) else 0, wm Mb I' L') ∧ RS I' L' n T (stp n T (.inl i) (sdC n T)) ∧ SG I I' ∧ LF L L' := by
  have w1 := rx_isW (N := N) h (w := 398548) (by decide)
  have w2 := rx_isW (N := N) h (w := 19176724) (by decide)
  rw [show lN 398548 = 398548 from rfl] at w1
  rw [show lN 19176724 = 19176724 from rfl] at w2
  unfold F_X12_sideText
  simp only [wm_kR, wm_kt, wm_kn, wm_kin, wm_kL, wm_kI, wm_ksI, wm_ksL, wm_kJ, wm_ksJ, kg_t, kl_v, Option.bind_some, sr_k, sr_0, sr_1, sr_2, sr_3, sr_4, sr_7, sr_8, sr_9, sr_26, sr_27, sr_28, w1, w2, qs, sdV]
  by_cases z1 : isW n T 398548 i = true
  · have hc : sdC n T i = 0 := by unfold sdC; simp [z1]
    obtain ⟨I', L', a1, a2, a3, a4⟩ := rx_29 (N := N) h (-1) hN
    rw [if_neg (by decide)] at a2
    rw [stp_0 hc]
    refine ⟨I', L', ?_, a2, a3, a4⟩
    simp only [z1, if_true, if_neg one0, hc, a1]
  · by_cases z2 : isW n T 19176724 i = true
    · have hc : sdC n T i = 0 := by unfold sdC; simp [z2]
      obtain ⟨I', L', a1, a2, a3, a4⟩ := rx_29 (N := N) h 1 hN
      rw [if_neg (by decide)] at a2
      rw [stp_0 hc]
      refine ⟨I', L', ?_, a2, a3, a4⟩
      simp only [z1, z2, if_true, if_false, if_neg one0, Bool.false_eq_true, hc, a1]
    · have hc : sdC n T i = 1 := by unfold sdC; simp [z1, z2]
      obtain ⟨I', L', a1, a2, a3, a4⟩ := rx_29 (N := N) h 0 hN
      rw [if_pos rfl] at a2
      rw [stp_e (by rw [hc]; decide), hc]
      refine ⟨I', L', ?_, a2, a3, a4⟩
      have hz1 : ¬ (1 : Nat) = 0 := by decide
      simp only [z1, z2, if_true, if_false, Bool.false_eq_true, hz1, a1]
end
