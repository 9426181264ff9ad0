/-! the first pass of both, in step -/
def RPs (J : kInts) (L : kLngs) (n : Nat) (T : Nat → Nat) (k d : Nat) (σ : sg) : Prop := RS J L n T σ ∧ (J 540 21 = 0 ∧ J 540 22 = 0) ∧ (okS σ = true → J 540 23 = nI k ∧ J 540 24 = nI d)
section
variable {N : Nat} {I I' J : kInts} {L L' : kLngs} {n c i j k d q nb nt : Nat} {T : Nat → Nat} {σ : sg}
theorem rx_45e (h : ¬ I 540 16 = 0) : F_X12_order_45 N (wm Mb I L) 540 = some (wm Mb I L) := by
  unfold F_X12_order_45
  simp only [wm_kR, wm_kt, wm_kn, wm_kin, wm_kL, wm_kI, wm_ksI, wm_ksL, wm_kJ, wm_ksJ, kg_t, kl_v, Option.bind_some, sr_k, sr_0, sr_1, sr_2, sr_3, sr_4, sr_7, sr_8, sr_9, sr_26, sr_27, sr_28, if_neg h]
theorem rx_ord0 (h : RPs J L n T k d (.inl j)) (hk : k ≤ 30) (hd : d ≤ 2) (hR : RI (J 541) nb nt) (hN : 1000 < N) : ∃ J' L', F_X12_order N (wm Mb J L) 540 = some (wm Mb J' L') ∧ RPs J' L' n T (k + 1) (if kdW n T j = 8 then d + 1 else d) (ordS n T k d j) ∧ OG J J' ∧ LF L L' := by
  obtain ⟨h1, ⟨h21, h22⟩, h3⟩ := h
  obtain ⟨h23, h24⟩ := h3 rfl
  have hio := rx_isOrd (N := N) h1
  unfold ordS
  by_cases c0 : kdW n T j = 0
  · rw [if_pos c0] at hio ⊢
    obtain ⟨J1, a1, a2, a3⟩ := rx_mustF (N := N) h1 (e := 1) (by decide)
    rw [show nI 1 = 1 from rfl] at a1
    have e21 : J1 540 21 = 0 := (SG_21 a3 (by decide)).trans h21
    have e23 : J1 540 23 = nI k := (SG_21 a3 (by decide)).trans h23
    have e16 := RS_err a2
    have er : ¬ up J1 540 23 (nI (k + 1)) 540 16 = 0 := by rw [up_ne (by omega)]; exact e16
    refine ⟨up J1 540 23 (nI (k + 1)), L, ?_, ⟨a2.sg (fun a x y => up_ne (by omega)) rfl, ⟨(up_ne (by omega)).trans e21, (up_ne (by omega)).trans ((SG_21 a3 (by decide)).trans h22)⟩, fun z => by cases z⟩, (SG_og a3).u (by omega), LF.rf'⟩
    unfold F_X12_order F_X12_order_31
    simp only [wm_kR, wm_kt, wm_kn, wm_kin, wm_kL, wm_kI, wm_ksI, wm_ksL, wm_kJ, wm_ksJ, kg_t, kl_v, Option.bind_some, sr_k, sr_0, sr_1, sr_2, sr_3, sr_4, sr_7, sr_8, sr_9, sr_26, sr_27, sr_28, hio, a1, e21, if_true, e23]
    split
    · simp only [rx_ers a2, wm_kR, wm_kt, wm_kn, wm_kin, wm_kL, wm_kI, wm_ksI, wm_ksL, wm_kJ, wm_ksJ, kg_t, kl_v, Option.bind_some, sr_k, sr_0, sr_1, sr_2, sr_3, sr_4, sr_7, sr_8, sr_9, sr_26, sr_27, sr_28, e23, nI_1, rx_45e er]
    · simp only [rx_ers a2, wm_kR, wm_kt, wm_kn, wm_kin, wm_kL, wm_kI, wm_ksI, wm_ksL, wm_kJ, wm_ksJ, kg_t, kl_v, Option.bind_some, sr_k, sr_0, sr_1, sr_2, sr_3, sr_4, sr_7, sr_8, sr_9, sr_26, sr_27, sr_28, e23, nI_1, rx_45e er]
  · rw [if_neg c0] at hio ⊢
    by_cases c30 : 30 ≤ k
    · rw [if_pos c30]
      obtain ⟨J1, a1, a2, a3⟩ := rx_mustF (N := N) h1 (e := 5) (by decide)
      rw [show nI 5 = 5 from rfl] at a1
      have e23 : J1 540 23 = nI k := (SG_21 a3 (by decide)).trans h23
      have e16 := RS_err a2
      have er : ¬ up J1 540 23 (nI (k + 1)) 540 16 = 0 := by rw [up_ne (by omega)]; exact e16
      refine ⟨up J1 540 23 (nI (k + 1)), L, ?_, ⟨a2.sg (fun a x y => up_ne (by omega)) rfl, ⟨(up_ne (by omega)).trans ((SG_21 a3 (by decide)).trans h21), (up_ne (by omega)).trans ((SG_21 a3 (by decide)).trans h22)⟩, fun z => by cases z⟩, (SG_og a3).u (by omega), LF.rf'⟩
      unfold F_X12_order F_X12_order_31
      simp (disch := omega) only [wm_kR, wm_kt, wm_kn, wm_kin, wm_kL, wm_kI, wm_ksI, wm_ksL, wm_kJ, wm_ksJ, kg_t, kl_v, Option.bind_some, sr_k, sr_0, sr_1, sr_2, sr_3, sr_4, sr_7, sr_8, sr_9, sr_26, sr_27, sr_28, hio, rx_mustT, h21, if_true, h23, nI_lt30, if_neg (show ¬ k < 30 by omega), a1, e23, nI_1, rx_45e er]
    · rw [if_neg c30]
      let J1 := up J 540 23 (nI (k + 1))
      have R1 : RS J1 L n T (.inl j) := h1.sg (fun a x y => up_ne (by omega)) rfl
      have e21 : J1 540 21 = 0 := (up_ne (by omega)).trans h21
      have e22 : J1 540 22 = 0 := (up_ne (by omega)).trans h22
      have e23 : J1 540 23 = nI (k + 1) := up_eq
      have e24 : J1 540 24 = nI d := (up_ne (by omega)).trans h24
      have g1 : OG J J1 := OG.rf'.u (by omega)
      have hfold : F_X12_order N (wm Mb J L) 540 = F_X12_order_45 N (wm Mb J1 L) 540 := by
        unfold F_X12_order F_X12_order_31
        simp (disch := omega) only [wm_kR, wm_kt, wm_kn, wm_kin, wm_kL, wm_kI, wm_ksI, wm_ksL, wm_kJ, wm_ksJ, kg_t, kl_v, Option.bind_some, sr_k, sr_0, sr_1, sr_2, sr_3, sr_4, sr_7, sr_8, sr_9, sr_26, sr_27, sr_28, hio, rx_mustT, h21, if_true, h23, nI_lt30, if_pos (show k < 30 by omega), nI_1]
        rfl
      by_cases c8 : kdW n T j = 8
      · obtain ⟨J2, L2, b1, b2, b3, b4, b5, b6⟩ := rx_45r R1 c8 e24 hd hN
        have eE : endC n T (kdW n T j) d = cBr n T d := by unfold endC; rw [if_pos c8]
        rw [eE, c8, if_pos rfl]
        exact ⟨J2, L2, hfold.trans b1, ⟨b2, ⟨(b5 _ (by decide) (by decide)).trans e21, (b5 _ (by decide) (by decide)).trans e22⟩, fun ok => ⟨(b5 _ (by decide) (by decide)).trans e23, (b6 ok).1⟩⟩, g1.trans b3, b4⟩
      · obtain ⟨J2, L2, b1, b2, b3, b4⟩ := rx_45p (nb := nb) (nt := nt) R1 (by rw [g1.s]; exact hR) c0 c8 e21 hN
        have eE : endC n T (kdW n T j) d = cG n T 59 := by unfold endC; rw [if_neg c8]
        rw [eE, if_neg c8]
        exact ⟨J2, L2, hfold.trans b1, ⟨b2, ⟨(SG_21 b3 (by decide)).trans e21, (SG_21 b3 (by decide)).trans e22⟩, fun ok => ⟨(SG_21 b3 (by decide)).trans e23, (SG_21 b3 (by decide)).trans e24⟩⟩, g1.trans (SG_og b3), b4⟩
theorem nI_0lt {a : Nat} (h : a < 2147483648) : ((0 : Int32) < nI a) = (0 < a) := nI_ltP (a := 0) (by decide) h
/-- the end of a bracket, once it isn't to be done again -/
theorem rx_c81 (h : RS J L n T (.inl j)) (h24 : J 540 24 = nI (d + 1)) (hd : d < 3) (hN : 1000 < N) : ∃ J' L', F_X12_closes_81 N (wm Mb J L) 540 = some (wm Mb J' L') ∧ RS J' L' n T (stp n T (.inl (j + 1)) (cG n T 59)) ∧ J' 540 24 = nI d ∧ (∀ x, x ≠ 24 → x < 12 ∨ 18 ≤ x → J' 540 x = J 540 x) ∧ (∀ a x, a ≠ 540 → J' a x = J a x) ∧ LF L L' := by
  let J1 := up J 540 24 (nI d)
  have es : nI (d + 1) - 1 = nI d := pk_sub (a := d + 1) (b := 1) (by omega)
  have R1 : RS J1 L n T (.inl j) := h.sg (fun a x y => up_ne (by omega)) rfl
  obtain ⟨J2, L2, b1, b2, b3, b4⟩ := rx_goes (N := N) R1 hN
  obtain ⟨J3, L3, d1, d2, d3, d4⟩ := rx_sgn (N := N) b2 (ch := 59) (by omega) hN
  rw [show nI 59 = 59 from rfl] at d1
  have g := b3.trans d3
  refine ⟨J3, L3, ?_, d2, (SG_21 g (by decide)).trans up_eq, fun x x1 x2 => (g _ _ (by omega)).trans (up_ne (by omega)), fun a x y => (g a x (by omega)).trans (up_ne (by omega)), b4.trans d4⟩
  unfold F_X12_closes_81
  simp only [wm_kR, wm_kt, wm_kn, wm_kin, wm_kL, wm_kI, wm_ksI, wm_ksL, wm_kJ, wm_ksJ, kg_t, kl_v, Option.bind_some, sr_k, sr_0, sr_1, sr_2, sr_3, sr_4, sr_7, sr_8, sr_9, sr_26, sr_27, sr_28, h24, es]
  rw [show up J 540 24 (nI d) = J1 from rfl]
  simp only [b1, wm_kR, wm_kt, wm_kn, wm_kin, wm_kL, wm_kI, wm_ksI, wm_ksL, wm_kJ, wm_ksJ, kg_t, kl_v, Option.bind_some, sr_k, sr_0, sr_1, sr_2, sr_3, sr_4, sr_7, sr_8, sr_9, sr_26, sr_27, sr_28, d1]
theorem rx_clo0 (h : RPs J L n T k (d + 1) (.inl j)) (hd : d < 2) (hN : 1000 < N) : ∃ J' L', F_X12_closes N (wm Mb J L) 540 = some (wm Mb J' L') ∧ RPs J' L' n T k d (stp n T (.inl (j + 1)) (cG n T 59)) ∧ OG J J' ∧ LF L L' := by
  obtain ⟨h1, ⟨h21, h22⟩, h3⟩ := h
  obtain ⟨h23, h24⟩ := h3 rfl
  let J1 := up J 550 d (J 550 d - 1)
  have R1 : RS J1 L n T (.inl j) := h1.sg (fun a x y => up_ne (by omega)) rfl
  have e24 : J1 540 24 = nI (d + 1) := (up_ne (by omega)).trans h24
  have e21 : J1 540 21 = 0 := (up_ne (by omega)).trans h21
  obtain ⟨J2, L2, a1, a2, a3, a4, a5, a6⟩ := rx_c81 R1 e24 (by omega) hN
  have es : nI (d + 1) - 1 = nI d := pk_sub (a := d + 1) (b := 1) (by omega)
  refine ⟨J2, L2, ?_, ⟨a2, ⟨(a4 _ (by decide) (by decide)).trans e21, (a4 _ (by decide) (by decide)).trans ((up_ne (by omega)).trans h22)⟩, fun _ => ⟨(a4 _ (by decide) (by decide)).trans ((up_ne (by omega)).trans h23), a3⟩⟩, ?_, a6⟩
  · unfold F_X12_closes F_X12_closes_13
    simp (disch := omega) only [wm_kR, wm_kt, wm_kn, wm_kin, wm_kL, wm_kI, wm_ksI, wm_ksL, wm_kJ, wm_ksJ, kg_t, kl_v, Option.bind_some, sr_k, sr_0, sr_1, sr_2, sr_3, sr_4, sr_7, sr_8, sr_9, sr_26, sr_27, sr_28, h24, nI_0lt, if_pos (show 0 < d + 1 by omega), rx_mustT, RS_ok h1, if_true, es, kin_nI s51r.1 s51r.2 (show d < 4 by omega) (by decide), kx_nI]
    rw [show up J 550 d (J 550 d - 1) = J1 from rfl]
    simp only [e21, if_true, a1]
  · intro a x y1 y2 y3
    by_cases z : a = 540
    · subst z
      exact (a4 x (by omega) (by omega)).trans (up_ne (by omega))
    · exact (a5 a x z).trans (up_ne (by omega))
end
