/-! reading a seat of the setup: the reference's steps -/
section
variable {N : Nat} {I : kInts} {L : kLngs} {n : Nat} {T : Nat → Nat} {r s : Nat → Int32} {nb nt : Nat}
theorem RS_rf {σ : sg} (h : RS I L n T σ) (s f : Nat → Int32) : RS (rf I s f) L n T σ := h.sg (fun a j ha => rf_o j (by omega) (by omega)) rfl
theorem rx_mustF {i e : Nat} (h : RS I L n T (.inl i)) (he : 1 ≤ e ∧ e ≤ 5) : ∃ I', F_X12_must N (wm Mb I L) 540 0 (nI e) = some (wm Mb I' L) ∧ RS I' L n T (erS n T i e) ∧ SG I I' := by
  obtain ⟨I1, a1, a2, a3⟩ := rx_must (N := N) h false he
  exact ⟨I1, a1, a2, a3⟩
/-- the sign at the end of a seat, a board or a trader -/
theorem rx_fin {i : Nat} (h : RS I L n T (.inl i)) (hN : 1000 < N) : ∃ I' L', F_X12_sign N (wm Mb I L) 540 59 = some (wm Mb I' L') ∧ RS I' L' n T (if cG n T 59 i = 0 then .inl (i + 1) else erS n T i (cG n T 59 i)) ∧ SG I I' ∧ LF L L' := by
  obtain ⟨I', L', a1, a2, a3, a4⟩ := rx_sgn (N := N) h (ch := 59) (by decide) hN
  refine ⟨I', L', a1, ?_, a3, a4⟩
  by_cases z : cG n T 59 i = 0
  · rw [if_pos z]; rw [stp_0 z] at a2; exact a2
  · rw [if_neg z]; rw [stp_e z] at a2; exact a2
theorem rx_isName {i : Nat} (h : RS I L n T (.inl i)) : F_X12_isNameHere N (wm Mb I L) 540 = some (if isM n T i then 1 else 0) := by
  obtain ⟨⟨h0, hT⟩, ⟨g1, g2, g3, g4, g5⟩, g6⟩ := h
  have h800 := h0.1
  have hP := tP_le (n := n) (T := T) (i + 1)
  have ee := @tL_end n T i
  have hr := @rK_le n T i
  have em : nI (tP n T (i + 1)) - nI (tS n T i) = nI (tL n T i) := pk_sub (by omega)
  unfold F_X12_isNameHere isM
  simp (disch := omega) only [wm_kR, wm_kt, wm_kn, wm_kin, wm_kL, wm_kI, wm_ksI, wm_ksL, wm_kJ, wm_ksJ, kg_t, kl_v, Option.bind_some, sr_k, sr_0, sr_1, sr_2, sr_3, sr_4, sr_7, sr_8, sr_9, sr_26, sr_27, sr_28, g1, g2, g3, em, show (1 : Int32) = nI 1 from rfl, show (6 : Int32) = nI 6 from rfl, nI_eqI, nI_ltP, rK_1]
  by_cases c1 : tK n T i = 1
  · by_cases c2 : tL n T i ≤ 6
    · simp only [c1, if_true, if_neg (show ¬ 6 < tL n T i by omega), c2, decide_true, Bool.and_self]
    · simp only [c1, if_true, if_pos (show 6 < tL n T i by omega), c2, decide_true, decide_false, Bool.and_false, if_false, Bool.false_eq_true]
  · simp only [c1, if_false, decide_false, Bool.false_and, Bool.false_eq_true]
theorem lN_i32 (w : Nat) : (lN w).toInt32 = nI w := by
  unfold lN nI
  exact Int64.toInt32_ofNat' ..
theorem rx_nmd {i : Nat} (h : RS I L n T (.inl i)) (hm : isM n T i = true) (h24 : nt ≤ 24) (h8 : r 8 = nI nt) (he : eqR (I 541) r) (hN : 1000 < N) : F_X12_named N (wm Mb I L) 540 = some (rOf (fnd r nt (nmc n T i))) ∧ (L 540 20).toInt32 = nmc n T i := by
  have hk : tK n T i = 1 := by
    unfold isM at hm
    simp only [Bool.and_eq_true, decide_eq_true_eq] at hm
    exact hm.1
  have hL : L 540 20 = lN (wv T (tS n T i) (tL n T i)) := h.2.1.2.2.2.2 hk
  have hc : (L 540 20).toInt32 = nmc n T i := by rw [hL]; exact lN_i32 _
  refine ⟨?_, hc⟩
  have hn := rx_named (N := N) (I := I) (L := L) (f := I 546) h24 ((he 8 (by decide) (by decide)).trans h8) (nmc n T i) (by omega)
  rw [rf_self, fnd_cg h24 he] at hn
  unfold F_X12_named
  simp only [wm_kR, wm_kt, wm_kn, wm_kin, wm_kL, wm_kI, wm_ksI, wm_ksL, wm_kJ, wm_ksJ, kg_t, kl_v, Option.bind_some, sr_k, sr_0, sr_1, sr_2, sr_3, sr_4, sr_7, sr_8, sr_9, sr_26, sr_27, sr_28, rx_good (RS_ok h), if_neg one0, hc, hn]
end
