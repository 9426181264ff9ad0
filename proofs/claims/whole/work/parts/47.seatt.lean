/-! the reference reads a seat -/
section
variable {N : Nat} {I : kInts} {L : kLngs} {n : Nat} {T : Nat → Nat} {r s : Nat → Int32} {nb nt : Nat}
theorem eqR_si (h : eqR s r) (t b q : Nat) (hb : b < 5) (hq : q < 13) : eqR (siR s t b q) (siR r t b q) := by
  intro k h1 h2
  unfold siR setr
  by_cases z1 : k = 89 + 7 * t + 6
  · simp only [z1, if_true]
  · by_cases z2 : k = 89 + 7 * t + 5
    · simp only [z2, if_true, show ¬ 89 + 7 * t + 5 = 89 + 7 * t + 6 by omega, if_false]
    · by_cases z3 : k = si b q
      · simp only [z1, z2, z3, if_true, if_false]
      · simp only [z1, z2, z3, if_false]
        exact h k h1 h2
theorem rx_187 {i t b q : Nat} (h : RS I L n T (.inl i)) (ht : t < 24) (hb : b < 5) (hq : q < 13) (h6 : q ≠ 6) (hN : 1000 < N) : ∃ I' L', F_X12_seatText_187 N (wm Mb I L) 540 (nI t) (nI b) (pz q) 540 1 = some (wm Mb I' L') ∧ RS I' L' n T (.inl (i + 1)) ∧ I' 541 = siR (I 541) t b q ∧ RFr I I' ∧ LF L L' := by
  obtain ⟨I1, L1, a1, a2, a3, a4⟩ := rx_goes (N := N) h hN
  have hs := rx_sits (N := N) (I := I1) (L := L1) (r := I1 541) (f := I1 546) ht hb hq h6
  rw [rf_self] at hs
  refine ⟨_, L1, ?_, RS_rf a2 (siR (I1 541) t b q) (I1 546), ?_, ?_, a4⟩
  · unfold F_X12_seatText_187
    simp only [wm_kR, wm_kt, wm_kn, wm_kin, wm_kL, wm_kI, wm_ksI, wm_ksL, wm_kJ, wm_ksJ, kg_t, kl_v, Option.bind_some, sr_k, sr_0, sr_1, sr_2, sr_3, sr_4, sr_7, sr_8, sr_9, sr_26, sr_27, sr_28, rx_mustT, a1, rx_good (RS_ok a2), if_neg one0, hs]
  · show siR (I1 541) t b q = _
    rw [SG_s a3]
  · intro a j x1 x2
    refine Eq.trans ?_ (a3 a j x1)
    unfold rf
    rw [if_neg x2]
    split
    · rename_i z; rw [z]
    · rfl
theorem rx_62 {i t : Nat} (h : RS I L n T (.inl i)) (he : eqR (I 541) r) (hR : RI r nb nt) (ht : t < nt) (hN : 1000 < N) : ∃ I' L', (F_X12_seatText_62 N (wm Mb I L) 540 (nI t) 540 1).bind (fun M => F_X12_sign N M 540 59) = some (wm Mb I' L') ∧ RS I' L' n T (seG n T r nb t (i + 1)).1 ∧ (okS (seG n T r nb t (i + 1)).1 = true → eqR (I' 541) (seG n T r nb t (i + 1)).2) ∧ RFr I I' ∧ LF L L' := by
  have h5 := hR.nb5
  have h24 := hR.nt24
  obtain ⟨I1, L1, a1, a2, a3, a4⟩ := rx_goes (N := N) h hN
  have e1 : eqR (I1 541) r := by rw [SG_s a3]; exact he
  have e7 : I1 541 7 = nI nb := (e1 7 (by decide) (by decide)).trans hR.r7
  obtain ⟨I2, L2, b1, b2, b3, b4⟩ := rx_reads (N := N) a2 (lo := 0) (hh := nb) (x2 := nI nb - 1) (by omega) (by omega) rfl hN
  rw [show nI 0 = 0 from rfl] at b1
  unfold F_X12_seatText_62
  simp only [wm_kR, wm_kt, wm_kn, wm_kin, wm_kL, wm_kI, wm_ksI, wm_ksL, wm_kJ, wm_ksJ, kg_t, kl_v, Option.bind_some, sr_k, sr_0, sr_1, sr_2, sr_3, sr_4, sr_7, sr_8, sr_9, sr_26, sr_27, sr_28, kl_0, kl_1, kl_2, kl_3, kl_4, kl_5, kl_6, kl_7, kl_8, kl_9, kl_10, kl_11, kl_12, kl_13, kx_l0, kx_l1, kx_l2, kx_l3, kx_l4, kx_l5, kx_l6, kx_l7, kx_l8, kx_l9, kx_l10, kx_l11, kx_l12, kx_l13, rx_mustT, a1, e7, b1]
  unfold seG
  have gs : goS (.inl i : sg) = .inl (i + 1) := rfl
  rw [gs] at a2 b1 b2
  rw [gs]
  by_cases c4 : cN n T 0 nb (i + 1) = 0
  · rw [stp_0 c4] at b2
    have hv : rdV n T 0 nb (.inl (i + 1)) = nI (nuv n T (i + 1)) := by unfold rdV; simp only [c4, if_true]
    rw [hv, if_pos c4]
    have hb := (cN_in c4).2
    generalize hbb : nuv n T (i + 1) = b at hb ⊢
    have hb5 : b < 5 := by omega
    obtain ⟨a, s', l, ha, -, -, ra, -⟩ := hR.b b hb
    rw [ra, kx_nI (by omega)]
    obtain ⟨I3, L3, d1, d2, d3, d4⟩ := rx_side (N := N) b2 hN
    have e3 : eqR (I3 541) r := by rw [SG_s d3, SG_s b3]; exact e1
    have sg3 := (a3.trans b3).trans d3
    have lf3 := (a4.trans b4).trans d4
    unfold seH
    simp only [d1, Option.bind_some, wm_kR, wm_kt, wm_kn, wm_kin, wm_kL, wm_kI, wm_ksI, wm_ksL, wm_kJ, wm_ksJ, kg_t, kl_v, Option.bind_some, sr_k, sr_0, sr_1, sr_2, sr_3, sr_4, sr_7, sr_8, sr_9, sr_26, sr_27, sr_28]
    by_cases c5 : sdC n T (i + 1 + 1) = 0
    · rw [stp_0 c5] at d2
      rw [if_pos c5, if_pos c5]
      have hk := d2.2.1.2.2.1
      have hr := @rK_le n T (i + 1 + 1 + 1)
      unfold seI
      -- after the place
      have tail : ∀ y : Int32, (y = 1 ∧ tK n T (i + 1 + 1 + 1) = 2 ∨ y = 0 ∧ ¬ tK n T (i + 1 + 1 + 1) = 2) → ∃ I' L', (F_X12_seatText_104 N (wm Mb I3 L3) 540 (nI t) (nI b) (sdV n T (.inl (i + 1 + 1))) 540 y).bind (fun M => F_X12_sign N M 540 59) = some (wm Mb I' L') ∧ RS I' L' n T (seI n T r t b a (plc n T (i + 1 + 1) (nuv n T (i + 1 + 1 + 1))) (i + 1 + 1 + 1)).1 ∧ (okS (seI n T r t b a (plc n T (i + 1 + 1) (nuv n T (i + 1 + 1 + 1))) (i + 1 + 1 + 1)).1 = true → eqR (I' 541) (seI n T r t b a (plc n T (i + 1 + 1) (nuv n T (i + 1 + 1 + 1))) (i + 1 + 1 + 1)).2) ∧ RFr I3 I' ∧ LF L3 L' := by
        intro y hy
        have i15 : tK n T (i + 1 + 1 + 1) = 2 → I3 540 15 = nI (nuv n T (i + 1 + 1 + 1)) := d2.2.1.2.2.2.1
        unfold F_X12_seatText_104
        by_cases k2 : tK n T (i + 1 + 1 + 1) = 2
        · have hy1 : y = 1 := by rcases hy with z | z; exact z.1; exact absurd k2 z.2
          have hob := rx_ofB0 (N := N) (I := I3) (L := L3) (r := I3 541) (f := I3 546) hb5
          rw [rf_self, e3 _ (by omega) (by omega), ra] at hob
          have hnv : nuv n T (i + 1 + 1 + 1) ≤ 10000300 := nv_le T _ (fun z => (h.1.1.2 z).2) _
          have hin : ∀ M, F_X12_in N M (nI (nuv n T (i + 1 + 1 + 1))).toInt64 1 (nI a).toInt64 = some (if cN n T 1 (a + 1) (i + 1 + 1 + 1) = 0 then 1 else 0) := by
            intro M
            have z := in_ok (N := N) M (nI (nuv n T (i + 1 + 1 + 1))) 1 (nI a)
            rw [show (1 : Int32).toInt64 = 1 from rfl] at z
            rw [z, show (1 : Int32) = nI 1 from rfl]
            unfold cN
            rw [if_pos k2]
            simp (disch := omega) only [nI_ltP]
            by_cases z1 : nuv n T (i + 1 + 1 + 1) < 1
            · rw [if_pos z1, if_neg (show ¬ (1 ≤ nuv n T (i + 1 + 1 + 1) ∧ nuv n T (i + 1 + 1 + 1) < a + 1) by omega), if_neg (by decide)]
            · rw [if_neg z1]
              by_cases z2 : a < nuv n T (i + 1 + 1 + 1)
              · rw [if_pos z2, if_neg (show ¬ (1 ≤ nuv n T (i + 1 + 1 + 1) ∧ nuv n T (i + 1 + 1 + 1) < a + 1) by omega), if_neg (by decide)]
              · rw [if_neg z2, if_pos (show (1 ≤ nuv n T (i + 1 + 1 + 1) ∧ nuv n T (i + 1 + 1 + 1) < a + 1) by omega), if_pos rfl]
          simp only [wm_kR, wm_kt, wm_kn, wm_kin, wm_kL, wm_kI, wm_ksI, wm_ksL, wm_kJ, wm_ksJ, kg_t, kl_v, Option.bind_some, sr_k, sr_0, sr_1, sr_2, sr_3, sr_4, sr_7, sr_8, sr_9, sr_26, sr_27, sr_28, hy1, rx_mustT, rx_good (RS_ok d2), if_neg one0, hob, i15 k2, hin]
          unfold seI
          by_cases c6 : cN n T 1 (a + 1) (i + 1 + 1 + 1) = 0
          · obtain ⟨p1, p2, p3, p4⟩ := plc_ok (n := n) (T := T) (i := i + 1 + 1) (cN_in c6) (show a ≤ 6 by omega)
            unfold F_X12_seatText_135 F_X12_seatText_140
            simp only [c6, if_true, if_neg one0, wm_kR, wm_kt, wm_kn, wm_kin, wm_kL, wm_kI, wm_ksI, wm_ksL, wm_kJ, wm_ksJ, kg_t, kl_v, Option.bind_some, sr_k, sr_0, sr_1, sr_2, sr_3, sr_4, sr_7, sr_8, sr_9, sr_26, sr_27, sr_28, rx_mustT, rx_good (RS_ok d2), i15 k2, p1]
            generalize hqq : plc n T (i + 1 + 1) (nuv n T (i + 1 + 1 + 1)) = q at p2 p3 p4 ⊢
            have hons := rx_onS (N := N) (I := I3) (L := L3) (r := I3 541) (f := I3 546) hb5 (show q < 13 by omega) p4
            rw [rf_self, e3 _ (by have := si_lt hb5 (show q < 13 by omega); omega) (by have := @si_ge b q; omega)] at hons
            have em : (r (si b q) - 1 = -1) = (r (si b q) = 0) := by apply propext; constructor <;> intro z <;> grind
            unfold F_X12_seatText_161
            simp only [wm_kR, wm_kt, wm_kn, wm_kin, wm_kL, wm_kI, wm_ksI, wm_ksL, wm_kJ, wm_ksJ, kg_t, kl_v, Option.bind_some, sr_k, sr_0, sr_1, sr_2, sr_3, sr_4, sr_7, sr_8, sr_9, sr_26, sr_27, sr_28, rx_good (RS_ok d2), if_neg one0, hons, em]
            by_cases c7 : r (si b q) = 0
            · unfold F_X12_seatText_182
              obtain ⟨I4, L4, f1, f2, f3, f4, f5⟩ := rx_187 (N := N) d2 (show t < 24 by omega) hb5 (show q < 13 by omega) p4 hN
              obtain ⟨I5, L5, g1, g2, g3, g4⟩ := rx_fin (N := N) f2 hN
              simp only [c7, if_true, f1, Option.bind_some, g1]
              have eq5 : eqR (I5 541) (siR r t b q) := by rw [SG_s g3, f3]; exact eqR_si e3 t b q hb5 (by omega)
              by_cases c8 : cG n T 59 (i + 1 + 1 + 1 + 1) = 0
              · rw [if_pos c8] at g2
                simp only [c8, if_true]
                exact ⟨I5, L5, rfl, g2, fun _ => eq5, f4.trans (SG_r g3), f5.trans g4⟩
              · rw [if_neg c8] at g2
                simp only [c8, if_false]
                exact ⟨I5, L5, rfl, g2, (fun z => by cases z), f4.trans (SG_r g3), f5.trans g4⟩
            · obtain ⟨I4, f1, f2, f3⟩ := rx_mustF (N := N) d2 (e := 3) (by decide)
              rw [show nI 3 = 3 from rfl] at f1
              have hz := RS_err f2
              unfold F_X12_seatText_187
              simp only [c7, if_false, wm_kR, wm_kt, wm_kn, wm_kin, wm_kL, wm_kI, wm_ksI, wm_ksL, wm_kJ, wm_ksJ, kg_t, kl_v, Option.bind_some, sr_k, sr_0, sr_1, sr_2, sr_3, sr_4, sr_7, sr_8, sr_9, sr_26, sr_27, sr_28, f1, re_goes hz, re_good hz, if_true, re_sign hz]
              exact ⟨I4, L3, rfl, f2, (fun z => by cases z), SG_r f3, LF.rf'⟩
          · have hc2 : cN n T 1 (a + 1) (i + 1 + 1 + 1) = 2 := by
              unfold cN at c6 ⊢
              rw [if_pos k2] at c6 ⊢
              by_cases z : 1 ≤ nuv n T (i + 1 + 1 + 1) ∧ nuv n T (i + 1 + 1 + 1) < a + 1
              · rw [if_pos z] at c6; exact absurd rfl c6
              · rw [if_neg z]
            obtain ⟨I4, f1, f2, f3⟩ := rx_mustF (N := N) d2 (e := 2) (by decide)
            rw [show nI 2 = 2 from rfl] at f1
            have hz := RS_err f2
            unfold F_X12_seatText_140
            have z20 : ¬ (2 : Nat) = 0 := by decide
            simp only [hc2, z20, if_false, if_true, wm_kR, wm_kt, wm_kn, wm_kin, wm_kL, wm_kI, wm_ksI, wm_ksL, wm_kJ, wm_ksJ, kg_t, kl_v, Option.bind_some, sr_k, sr_0, sr_1, sr_2, sr_3, sr_4, sr_7, sr_8, sr_9, sr_26, sr_27, sr_28, f1, re_good hz, re_161 hz, re_sign hz]
            exact ⟨I4, L3, rfl, f2, (fun z => by cases z), SG_r f3, LF.rf'⟩
        · have hy0 : y = 0 := by rcases hy with z | z; exact absurd z.2 k2; exact z.1
          have hc : cN n T 1 (a + 1) (i + 1 + 1 + 1) = 1 := by unfold cN; rw [if_neg k2]
          obtain ⟨I4, f1, f2, f3⟩ := rx_mustF (N := N) d2 (e := 1) (by decide)
          rw [show nI 1 = 1 from rfl] at f1
          have hz := RS_err f2
          have hs : seI n T r t b a (plc n T (i + 1 + 1) (nuv n T (i + 1 + 1 + 1))) (i + 1 + 1 + 1) = (erS n T (i + 1 + 1 + 1) 1, r) := by
            unfold seI
            rw [if_neg (by rw [hc]; decide), hc]
          rw [hs]
          refine ⟨I4, L3, ?_, f2, (fun z => by cases z), SG_r f3, LF.rf'⟩
          unfold F_X12_seatText_135
          simp only [hy0, wm_kR, wm_kt, wm_kn, wm_kin, wm_kL, wm_kI, wm_ksI, wm_ksL, wm_kJ, wm_ksJ, kg_t, kl_v, Option.bind_some, sr_k, sr_0, sr_1, sr_2, sr_3, sr_4, sr_7, sr_8, sr_9, sr_26, sr_27, sr_28, f1, re_good hz, if_true, re_140 hz, re_sign hz]
      have fin : ∀ I', RFr I3 I' → RFr I I' := fun I' z => (SG_r sg3).trans z
      by_cases k2 : tK n T (i + 1 + 1 + 1) = 2
      · obtain ⟨I', L', g1, g2, g3, g4, g5⟩ := tail 1 (Or.inl ⟨rfl, k2⟩)
        refine ⟨I', L', ?_, g2, g3, fin _ g4, lf3.trans g5⟩
        have hk2 : I3 540 14 = 2 := by rw [hk, rK_2.mpr k2]; rfl
        simp only [hk2, if_true]
        exact g1
      · obtain ⟨I', L', g1, g2, g3, g4, g5⟩ := tail 0 (Or.inr ⟨rfl, k2⟩)
        refine ⟨I', L', ?_, g2, g3, fin _ g4, lf3.trans g5⟩
        have hk2 : ¬ I3 540 14 = 2 := by
          rw [hk]
          intro z
          exact k2 (rK_2.mp ((nI_eq (by omega) (by omega)).mp (show nI (rK n T (i + 1 + 1 + 1)) = nI 2 from z)))
        simp only [hk2, if_false]
        exact g1
    · rw [stp_e c5] at d2
      have hz := RS_err d2
      rw [if_neg c5, if_neg c5]
      refine ⟨I3, L3, ?_, d2, (fun z => by cases z), SG_r sg3, lf3⟩
      simp only [re_104 hz, ite_self, Option.bind_some, re_sign hz]
  · rw [stp_e c4] at b2
    have hz := RS_err b2
    rw [if_neg c4]
    refine ⟨I2, L2, ?_, b2, (fun z => by cases z), SG_r (a3.trans b3), a4.trans b4⟩
    simp only [re_side hz, Option.bind_some, wm_kR, wm_kt, wm_kn, wm_kin, wm_kL, wm_kI, wm_ksI, wm_ksL, wm_kJ, wm_ksJ, kg_t, kl_v, Option.bind_some, sr_k, sr_0, sr_1, sr_2, sr_3, sr_4, sr_7, sr_8, sr_9, sr_26, sr_27, sr_28, re_104 hz, ite_self, re_sign hz]
end
