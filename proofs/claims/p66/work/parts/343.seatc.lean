variable {Mb : SMem}
section
variable {N : Nat} {I : kInts} {L : kLngs} {n c : Nat} {T : Nat → Nat} {σ : sg} {r : Nat → Int32} {nb nt m : Nat}
theorem ce_at (h : ¬ I 6 6 = 0) (x : Int32) : F_X9_at N (wm Mb I L) 6 x = some 0 := by
  unfold F_X9_at
  simp only [wm_kR, wm_kt, wm_kn, wm_kin, wm_kL, wm_kI, wm_ksI, wm_ksL, wm_kJ, wm_ksJ, kg_t, kl_v, Option.bind_some, s6.1, h, if_false]
theorem ce_failAt (h : ¬ I 6 6 = 0) (x e : Int32) : F_X9_failAt N (wm Mb I L) 6 x e = some (wm Mb I L) := by
  unfold F_X9_failAt
  simp only [wm_kR, wm_kt, wm_kn, wm_kin, wm_kL, wm_kI, wm_ksI, wm_ksL, wm_kJ, wm_ksJ, kg_t, kl_v, Option.bind_some, s6.1, h, if_false]
theorem ce_takeIf (h : ¬ I 6 6 = 0) (x : Int32) : F_X9_takeIf N (wm Mb I L) 6 x = some (wm Mb I L) := by
  unfold F_X9_takeIf
  simp only [wm_kR, wm_kt, wm_kn, wm_kin, wm_kL, wm_kI, wm_ksI, wm_ksL, wm_kJ, wm_ksJ, kg_t, kl_v, Option.bind_some, s6.1, h, if_false, ce_failAt h]
  split <;> rfl
theorem ce_refuseT (h : ¬ I 6 6 = 0) (x : Int32) : F_X9_refuseTaken N (wm Mb I L) 6 x = some (wm Mb I L) := by
  unfold F_X9_refuseTaken
  simp only [wm_kR, wm_kt, wm_kn, wm_kin, wm_kL, wm_kI, wm_ksI, wm_ksL, wm_kJ, wm_ksJ, kg_t, kl_v, Option.bind_some, s6.1, ce_failAt h]
theorem ce_word (h : ¬ I 6 6 = 0) (s : Nat) : F_X9_atWord N (wm Mb I L) 6 s = some 0 := by
  unfold F_X9_atWord
  simp only [wm_kR, wm_kt, wm_kn, wm_kin, wm_kL, wm_kI, wm_ksI, wm_ksL, wm_kJ, wm_ksJ, kg_t, kl_v, Option.bind_some, s6.1, ce_at h, if_true]
theorem ce_sign (h : ¬ I 6 6 = 0) (x : Int32) : F_X9_takeSign N (wm Mb I L) 6 x = some (wm Mb I L) := by
  unfold F_X9_takeSign F_X9_atSign
  simp only [wm_kR, wm_kt, wm_kn, wm_kin, wm_kL, wm_kI, wm_ksI, wm_ksL, wm_kJ, wm_ksJ, kg_t, kl_v, Option.bind_some, s6.1, ce_at h, if_true, ce_takeIf h]
theorem ce_num (h : ¬ I 6 6 = 0) (x y : Int32) : F_X9_takeNumber N (wm Mb I L) 6 x y = some (-1, wm Mb I L) := by
  unfold F_X9_takeNumber F_X9_takeNumber_18 F_X9_takeNumber_41
  simp only [wm_kR, wm_kt, wm_kn, wm_kin, wm_kL, wm_kI, wm_ksI, wm_ksL, wm_kJ, wm_ksJ, kg_t, kl_v, Option.bind_some, s6.1, ce_at h, if_true, ce_takeIf h, h, if_false]
theorem ce_side (h : ¬ I 6 6 = 0) : F_X9_takeSide N (wm Mb I L) 6 = some (1, wm Mb I L) := by
  unfold F_X9_takeSide F_X9_takeSide_14
  simp only [wm_kR, wm_kt, wm_kn, wm_kin, wm_kL, wm_kI, wm_ksI, wm_ksL, wm_kJ, wm_ksJ, kg_t, kl_v, Option.bind_some, s6.1, ce_word h, if_true, ce_takeIf h]
theorem cx_failed : F_X9_failed N (wm Mb I L) 6 = some (if I 6 6 = 0 then 0 else 1) := by
  unfold F_X9_failed
  simp only [wm_kR, wm_kt, wm_kn, wm_kin, wm_kL, wm_kI, wm_ksI, wm_ksL, wm_kJ, wm_ksJ, kg_t, kl_v, Option.bind_some, s6.1]
  by_cases z : I 6 6 = 0
  · simp only [z, if_true]
  · simp only [z, if_false]
theorem CS.err {x : Nat × Nat} (h : CS I n T c (.inr x)) : ¬ I 6 6 = 0 := by
  obtain ⟨g1, g2, -⟩ := h.2
  rw [g1]
  exact nI_ne0 (by omega) (by omega)
theorem CS.ok {j : Nat} (h : CS I n T c (.inl j)) : I 6 6 = 0 := h.2.2.2.1
theorem cx_bn0 (hm : m ∈ mks) {x : Int32} (h : x < 0) : F_X4_boardNumbered N (wm Mb I L) m x = some 0 := by
  unfold F_X4_boardNumbered
  rw [if_pos h]
theorem cx_freeAny (hm : m ∈ mks) {b q : Nat} (hb : b < 5) (hq : q < 13) : ∃ v : Int32, F_X0_isFree N (wm Mb I L) (bd m b) (pz q) = some v ∧ (v = 0 ∨ v = 1) := by
  unfold F_X0_isFree F_X0_hasSeat
  simp only [wm_kR, wm_kt, wm_kn, wm_kin, wm_kL, wm_kI, wm_ksI, wm_ksL, wm_kJ, wm_ksJ, kg_t, kl_v, Option.bind_some, bb_k hm hb, cx_own hm hb hq]
  by_cases c1 : pz q = 0
  · exact ⟨0, by simp [c1], Or.inl rfl⟩
  · by_cases c2 : pz q < -I (bd m b) 1
    · exact ⟨0, by simp [c1, c2], Or.inl rfl⟩
    · by_cases c3 : I (bd m b) 1 < pz q
      · exact ⟨0, by simp [c1, c2, c3], Or.inl rfl⟩
      · by_cases c4 : I (ow m b) q = -1
        · exact ⟨1, by simp [c1, c2, c3, c4], Or.inr rfl⟩
        · exact ⟨0, by simp [c1, c2, c3, c4], Or.inl rfl⟩
theorem ce_112 (h : ¬ I 6 6 = 0) (a3 a4 : Nat) (x5 x6 : Int32) : F_X7_readSeat_99 N (wm Mb I L) 6 85 a3 a4 x5 x6 = some (wm Mb I L) := by
  unfold F_X7_readSeat_99
  simp only [wm_kR, wm_kt, wm_kn, wm_kin, wm_kL, wm_kI, wm_ksI, wm_ksL, wm_kJ, wm_ksJ, kg_t, kl_v, Option.bind_some, s6.1, ce_sign h, cx_failed, h, if_false, if_neg one0]
theorem ce_84 (h : ¬ I 6 6 = 0) {a3 a4 : Nat} {x5 : Int32} (h4 : a4 = 0 ∨ ∃ b, b < 5 ∧ a4 = bd 85 b) (h5 : x5 = 1 ∨ x5 = -1) (y1 y2 : Int32) : F_X7_readSeat_73 N (wm Mb I L) 6 85 a3 a4 x5 6 y1 y2 = some (wm Mb I L) := by
  unfold F_X7_readSeat_73
  simp only [wm_kR, wm_kt, wm_kn, wm_kin, wm_kL, wm_kI, wm_ksI, wm_ksL, wm_kJ, wm_ksJ, kg_t, kl_v, Option.bind_some, s6.1, ce_num h]
  by_cases z : a4 = 0
  · simp only [z, if_true, ce_112 h]
  · obtain ⟨b, hb, e⟩ := h4.resolve_left z
    simp only [z, if_false]
    subst e
    have hm : (85 : Nat) ∈ mks := by decide
    obtain ⟨q, hq, e⟩ : ∃ q, q < 13 ∧ x5 * (-1) = pz q := by
      rcases h5 with rfl | rfl
      · exact ⟨5, by decide, by decide⟩
      · exact ⟨7, by decide, by decide⟩
    obtain ⟨v, hv, hv2⟩ := cx_freeAny (Mb := Mb) (N := N) (I := I) (L := L) hm hb hq
    simp only [bb_k hm hb, kg_t, e, hv, Option.bind_some, ce_refuseT h, ce_112 h]
    split <;> rfl
theorem ce_45 (h : ¬ I 6 6 = 0) (a3 : Nat) : F_X7_readSeat_37 N (wm Mb I L) 6 85 a3 = some (wm Mb I L) := by
  have hm : (85 : Nat) ∈ mks := by decide
  unfold F_X7_readSeat_37
  simp only [wm_kR, wm_kt, wm_kn, wm_kin, wm_kL, wm_kI, wm_ksI, wm_ksL, wm_kJ, wm_ksJ, kg_t, kl_v, Option.bind_some, s6.1, mm_k hm, ce_num h, cx_bn0 hm (show (-1 : Int32) < 0 by decide), ce_side h, if_true, ce_84 h (Or.inl rfl) (Or.inl rfl)]
end
