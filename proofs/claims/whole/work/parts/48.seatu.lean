/-! the reference reads a seat, with its name -/
section
variable {N : Nat} {I : kInts} {L : kLngs} {n : Nat} {T : Nat → Nat} {r s : Nat → Int32} {nb nt : Nat}
theorem rx_seatText {i : Nat} (h : RS I L n T (.inl i)) (he : eqR (I 541) r) (hR : RI r nb nt) (hN : 1000 < N) : ∃ I' L', (F_X12_seatText N (wm Mb I L) 540).bind (fun M => F_X12_sign N M 540 59) = some (wm Mb I' L') ∧ RS I' L' n T (seF n T r nb nt i).1 ∧ (okS (seF n T r nb nt i).1 = true → eqR (I' 541) (seF n T r nb nt i).2) ∧ RFr I I' ∧ LF L L' := by
  have h24 := hR.nt24
  unfold F_X12_seatText
  simp only [wm_kR, wm_kt, wm_kn, wm_kin, wm_kL, wm_kI, wm_ksI, wm_ksL, wm_kJ, wm_ksJ, kg_t, kl_v, Option.bind_some, sr_k, sr_0, sr_1, sr_2, sr_3, sr_4, sr_7, sr_8, sr_9, sr_26, sr_27, sr_28, rx_isName h]
  unfold seF
  by_cases cm : isM n T i = true
  · obtain ⟨hn, hc⟩ := rx_nmd (N := N) h cm h24 hR.r8 he hN
    simp only [cm, if_true, rx_mustT, hn, Option.bind_some, rx_good (RS_ok h), if_neg one0]
    cases hf : fnd r nt (nmc n T i) with
    | none =>
      obtain ⟨I1, a1, a2, a3⟩ := rx_mustF (N := N) h (e := 4) (by decide)
      rw [show nI 4 = 4 from rfl] at a1
      have hz := RS_err a2
      unfold F_X12_seatText_35 F_X12_seatText_40 F_X12_seatText_62
      simp only [rOf, if_true, wm_kR, wm_kt, wm_kn, wm_kin, wm_kL, wm_kI, wm_ksI, wm_ksL, wm_kJ, wm_ksJ, kg_t, kl_v, Option.bind_some, sr_k, sr_0, sr_1, sr_2, sr_3, sr_4, sr_7, sr_8, sr_9, sr_26, sr_27, sr_28, kl_0, kl_1, kl_2, kl_3, kl_4, kl_5, kl_6, kl_7, kl_8, kl_9, kl_10, kl_11, kl_12, kl_13, kx_l0, kx_l1, kx_l2, kx_l3, kx_l4, kx_l5, kx_l6, kx_l7, kx_l8, kx_l9, kx_l10, kx_l11, kx_l12, kx_l13, rx_mustT, rx_good (RS_ok h), if_neg one0, a1, re_goes hz, re_reads hz, re_side hz, re_104 hz, ite_self, re_sign hz]
      exact ⟨I1, L, rfl, a2, (fun z => by cases z), SG_r a3, LF.rf'⟩
    | some t =>
      have ht := fnd_lt hf
      have hse := rx_seated (N := N) (I := I) (L := L) (r := I 541) (f := I 546) (show t < 24 by omega)
      rw [rf_self, he _ (by omega) (by omega)] at hse
      have hne : ¬ nI t = -1 := nI_ne1 (by omega)
      simp only [rOf, hne, if_false, hse, Option.bind_some]
      by_cases cs : r (89 + 7 * t + 5) = -1
      · simp only [cs, if_true]
        obtain ⟨I1, L1, a1, a2, a3, a4, a5⟩ := rx_62 (N := N) h he hR ht hN
        refine ⟨I1, L1, ?_, a2, a3, a4, a5⟩
        unfold F_X12_seatText_35 F_X12_seatText_40 F_X12_seatText_57
        simp only [wm_kR, wm_kt, wm_kn, wm_kin, wm_kL, wm_kI, wm_ksI, wm_ksL, wm_kJ, wm_ksJ, kg_t, kl_v, Option.bind_some, sr_k, sr_0, sr_1, sr_2, sr_3, sr_4, sr_7, sr_8, sr_9, sr_26, sr_27, sr_28, rx_mustT, rx_good (RS_ok h), if_neg one0, hne, if_false]
        exact a1
      · simp only [cs, if_false, if_neg one0]
        obtain ⟨I1, a1, a2, a3⟩ := rx_mustF (N := N) h (e := 3) (by decide)
        rw [show nI 3 = 3 from rfl] at a1
        have hz := RS_err a2
        unfold F_X12_seatText_40 F_X12_seatText_57
        simp only [wm_kR, wm_kt, wm_kn, wm_kin, wm_kL, wm_kI, wm_ksI, wm_ksL, wm_kJ, wm_ksJ, kg_t, kl_v, Option.bind_some, sr_k, sr_0, sr_1, sr_2, sr_3, sr_4, sr_7, sr_8, sr_9, sr_26, sr_27, sr_28, a1, re_good hz, if_true, re_62 hz, re_sign hz]
        exact ⟨I1, L, rfl, a2, (fun z => by cases z), SG_r a3, LF.rf'⟩
  · obtain ⟨I1, a1, a2, a3⟩ := rx_mustF (N := N) h (e := 1) (by decide)
    rw [show nI 1 = 1 from rfl] at a1
    have hz := RS_err a2
    unfold F_X12_seatText_35
    simp only [cm, if_false, a1, wm_kR, wm_kt, wm_kn, wm_kin, wm_kL, wm_kI, wm_ksI, wm_ksL, wm_kJ, wm_ksJ, kg_t, kl_v, Option.bind_some, sr_k, sr_0, sr_1, sr_2, sr_3, sr_4, sr_7, sr_8, sr_9, sr_26, sr_27, sr_28, re_named hz, re_good hz, if_true, re_40 hz, re_sign hz, Bool.false_eq_true]
    exact ⟨I1, L, rfl, a2, (fun z => by cases z), SG_r a3, LF.rf'⟩
end
