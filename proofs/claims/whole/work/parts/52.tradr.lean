/-! the reference reads a trader -/
section
variable {N : Nat} {I : kInts} {L : kLngs} {n c : Nat} {T : Nat → Nat} {σ : sg} {r s : Nat → Int32} {nb nt : Nat}
theorem eqR_ap (h : eqR s r) {cc w p ag : Int32} : eqR (apR s nt cc w p ag) (jnR r nt cc w p ag) := by
  intro k h1 h2
  unfold jnR
  rw [setr_ne h2]
  by_cases z : 89 + 7 * nt ≤ k ∧ k ≤ 89 + 7 * nt + 6
  · obtain ⟨a0, a1, a2, a3, a4, a5, a6⟩ := apR_t (r := r) (nt := nt) (cc := cc) (w := w) (p := p) (ag := ag)
    obtain ⟨b0, b1, b2, b3, b4, b5, b6⟩ := apR_t (r := s) (nt := nt) (cc := cc) (w := w) (p := p) (ag := ag)
    have : k = 89 + 7 * nt + 0 ∨ k = 89 + 7 * nt + 1 ∨ k = 89 + 7 * nt + 2 ∨ k = 89 + 7 * nt + 3 ∨ k = 89 + 7 * nt + 4 ∨ k = 89 + 7 * nt + 5 ∨ k = 89 + 7 * nt + 6 := by omega
    rcases this with e | e | e | e | e | e | e <;> rw [e]
    · rw [a0, b0]
    · rw [a1, b1]
    · rw [a2, b2]
    · rw [a3, b3]
    · rw [a4, b4]
    · rw [a5, b5]
    · rw [a6, b6]
  · by_cases y : k = 8
    · rw [y, apR_8, apR_8]
    · rw [apR_ne y (by omega), apR_ne y (by omega)]
      exact h k h1 h2
theorem rdV_0 {i lo hh : Nat} (h : cN n T lo hh i = 0) : rdV n T lo hh (.inl i) = nI (nuv n T i) := by
  unfold rdV
  simp only [h, if_true]
theorem RFr_rf {J : kInts} (h : RFr I J) (s : Nat → Int32) : RFr I (rf J s (J 546)) := by
  intro a j x1 x2
  refine Eq.trans ?_ (h a j x1 x2)
  unfold rf
  rw [if_neg x2]
  split
  · rename_i z; rw [z]
  · rfl
theorem rx_tr23 {i : Nat} {y : Int32} (h : RS I L n T (.inl i)) (hm : isM n T i = true) (he : eqR (I 541) r) (hR : RI r nb nt) (hn : nt < 24) (hy : y = if fnd r nt (nmc n T i) = none then 1 else 0) (hN : 1000 < N) : ∃ I' L', (F_X12_traderText_23 N (wm Mb I L) 540 540 y).bind (fun M => F_X12_sign N M 540 59) = some (wm Mb I' L') ∧ RS I' L' n T (tr4 n T r nt i) ∧ (okS (tr4 n T r nt i) = true → eqR (I' 541) (trR n T r nt i)) ∧ RFr I I' ∧ LF L L' := by
  have h24 := hR.nt24
  obtain ⟨-, -, -, -, ⟨rt, hrt, ert⟩, -, -⟩ := hR.g
  have e3 : kx (r 3) = rt := by rw [ert, kx_nI (by omega)]
  obtain ⟨I1, a1, a2, a3⟩ := rx_must (N := N) h (decide (fnd r nt (nmc n T i) = none)) (e := 3) (by decide)
  rw [show nI 3 = 3 from rfl, show (if decide (fnd r nt (nmc n T i) = none) = true then (1 : Int32) else 0) = y by rw [hy]; simp only [decide_eq_true_eq]] at a1
  obtain ⟨-, hc⟩ := rx_nmd (N := N) h hm h24 hR.r8 he hN
  obtain ⟨I2, L2, b1, b2, b3, b4⟩ := rx_goes (N := N) a2 hN
  have et0 : goS (if decide (fnd r nt (nmc n T i) = none) = true then (.inl i : sg) else ers n T (.inl i) 3) = tr0 n T r nt i := by
    unfold tr0
    rw [if_pos hm]
    by_cases z : fnd r nt (nmc n T i) = none
    · simp [z, goS]
    · simp [z, goS, ers, erS]
  rw [et0] at b2
  obtain ⟨I3, L3, c1, c2, c3, c4⟩ := rx_reads (N := N) b2 (lo := 1) (hh := 100) (x2 := 99) (by decide) (by decide) (by decide) hN
  obtain ⟨I4, L4, d1, d2, d3, d4⟩ := rx_reads (N := N) c2 (lo := 0) (hh := 10000) (x2 := 9999) (by decide) (by decide) (by decide) hN
  have sg4 := ((a3.trans b3).trans c3).trans d3
  have lf4 := (b4.trans c4).trans d4
  have e4 : I4 541 = I 541 := SG_s sg4
  have hk : kmin 999 (r 3) = r 3 := by
    rw [ert, show (999 : Int32) = nI 999 from rfl, kmin_nI (by omega) (by omega), Nat.min_eq_right (by omega)]
  obtain ⟨I5, L5, f1, f2, f3, f4⟩ := rx_reads (N := N) d2 (lo := 0) (hh := kx (r 3) + 1) (x2 := r 3) (by decide) (by omega) (by rw [e3, ert]; show nI rt = nI (rt + 1) - nI 1; rw [pk_sub (by omega)]; rfl) hN
  have sg5 := sg4.trans f3
  have lf5 := lf4.trans f4
  have f2' : RS I5 L5 n T (tr3 n T r nt i) := f2
  rw [show nI 1 = 1 from rfl] at c1
  rw [show nI 0 = 0 from rfl] at d1 f1
  unfold F_X12_traderText_23
  simp only [wm_kR, wm_kt, wm_kn, wm_kin, wm_kL, wm_kI, wm_ksI, wm_ksL, wm_kJ, wm_ksJ, kg_t, kl_v, Option.bind_some, sr_k, sr_0, sr_1, sr_2, sr_3, sr_4, sr_7, sr_8, sr_9, sr_26, sr_27, sr_28, kl_0, kl_1, kl_2, kl_3, kl_4, kl_5, kl_6, kl_7, kl_8, kl_9, kl_10, kl_11, kl_12, kl_13, kx_l0, kx_l1, kx_l2, kx_l3, kx_l4, kx_l5, kx_l6, kx_l7, kx_l8, kx_l9, kx_l10, kx_l11, kx_l12, kx_l13, a1, b1, c1, d1, rx_lesser, e4, he 3 (by decide) (by decide), hk, f1, hc]
  by_cases hok3 : okS (tr3 n T r nt i) = true
  · obtain ⟨j2, g1, g2, g3⟩ := ok_stp (σ := tr2 n T r nt i) (f := cN n T 0 (kx (r 3) + 1)) hok3
    have ht3 : tr3 n T r nt i = .inl (j2 + 1) := g3
    rw [ht3] at f2'
    have hrow : eqR (I5 541) r := by rw [SG_s sg5]; exact he
    have hap := rx_appears (N := N) (I := I5) (L := L5) (r := I5 541) (f := I5 546) (cc := nmc n T i) (w := rdV n T 1 100 (tr0 n T r nt i)) (p := rdV n T 0 10000 (tr1 n T r nt i)) (ag := rdV n T 0 (kx (r 3) + 1) (tr2 n T r nt i)) hn ((hrow 8 (by decide) (by decide)).trans hR.r8)
    rw [rf_self] at hap
    unfold tr1 tr2 at hap
    unfold tr1 at hap
    have f5 := RS_rf f2' (apR (I5 541) nt (nmc n T i) (rdV n T 1 100 (tr0 n T r nt i)) (rdV n T 0 10000 (tr1 n T r nt i)) (rdV n T 0 (kx (r 3) + 1) (tr2 n T r nt i))) (I5 546)
    obtain ⟨I6, L6, k1, k2, k3, k4⟩ := rx_sgn (N := N) f5 (ch := 59) (by decide) hN
    rw [show nI 59 = 59 from rfl] at k1
    unfold tr1 tr2 at k1
    unfold tr1 at k1
    simp only [rx_good (RS_ok f2'), if_neg one0, hap, Option.bind_some, k1]
    refine ⟨I6, L6, rfl, ?_, fun hok => ?_, ?_, lf5.trans k4⟩
    · unfold tr4
      rw [ht3]
      exact k2
    · obtain ⟨⟨o1, o2⟩, o3, o4, o5, ⟨o6, o7, o8, o9⟩, o10⟩ := ok_tr4 hok
      rw [SG_s k3]
      show eqR (apR (I5 541) nt (nmc n T i) (rdV n T 1 100 (tr0 n T r nt i)) (rdV n T 0 10000 (tr1 n T r nt i)) (rdV n T 0 (kx (r 3) + 1) (tr2 n T r nt i))) _
      rw [o6, o7, o8, rdV_0 o3, rdV_0 o4, rdV_0 o5]
      exact eqR_ap hrow
    · exact (RFr_rf (SG_r sg5) _).trans (SG_r k3)
  · have hs : ∃ x, tr3 n T r nt i = .inr x := by
      cases hz : tr3 n T r nt i with
      | inl j => rw [hz] at hok3; exact absurd rfl hok3
      | inr x => exact ⟨x, rfl⟩
    obtain ⟨x, hx⟩ := hs
    rw [hx] at f2'
    have hz := RS_err f2'
    have ht4 : tr4 n T r nt i = .inr x := by unfold tr4; rw [hx]; rfl
    simp only [re_good hz, if_true, Option.bind_some, re_sign hz]
    rw [ht4]
    exact ⟨I5, L5, rfl, f2', (fun z => by cases z), SG_r sg5, lf5⟩
theorem rx_traderText {i : Nat} (h : RS I L n T (.inl i)) (he : eqR (I 541) r) (hR : RI r nb nt) (hn : nt < 24) (hN : 1000 < N) : ∃ I' L', (F_X12_traderText N (wm Mb I L) 540).bind (fun M => F_X12_sign N M 540 59) = some (wm Mb I' L') ∧ RS I' L' n T (tr4 n T r nt i) ∧ (okS (tr4 n T r nt i) = true → eqR (I' 541) (trR n T r nt i)) ∧ RFr I I' ∧ LF L L' := by
  have h24 := hR.nt24
  unfold F_X12_traderText
  simp only [wm_kR, wm_kt, wm_kn, wm_kin, wm_kL, wm_kI, wm_ksI, wm_ksL, wm_kJ, wm_ksJ, kg_t, kl_v, Option.bind_some, sr_k, sr_0, sr_1, sr_2, sr_3, sr_4, sr_7, sr_8, sr_9, sr_26, sr_27, sr_28, rx_isName h]
  by_cases cm : isM n T i = true
  · obtain ⟨hnm, hc⟩ := rx_nmd (N := N) h cm h24 hR.r8 he hN
    simp only [cm, if_true, rx_mustT, hnm, Option.bind_some]
    cases hf : fnd r nt (nmc n T i) with
    | none =>
      simp only [rOf, if_true, wm_kR, wm_kt, wm_kn, wm_kin, wm_kL, wm_kI, wm_ksI, wm_ksL, wm_kJ, wm_ksJ, kg_t, kl_v, Option.bind_some, sr_k, sr_0, sr_1, sr_2, sr_3, sr_4, sr_7, sr_8, sr_9, sr_26, sr_27, sr_28]
      exact rx_tr23 (y := 1) h cm he hR hn (by rw [hf, if_pos rfl]) hN
    | some t =>
      have ht := fnd_lt hf
      have hne : ¬ nI t = -1 := nI_ne1 (by omega)
      simp only [rOf, hne, if_false, wm_kR, wm_kt, wm_kn, wm_kin, wm_kL, wm_kI, wm_ksI, wm_ksL, wm_kJ, wm_ksJ, kg_t, kl_v, Option.bind_some, sr_k, sr_0, sr_1, sr_2, sr_3, sr_4, sr_7, sr_8, sr_9, sr_26, sr_27, sr_28]
      exact rx_tr23 h cm he hR hn (by rw [hf, if_neg (by simp)]) hN
  · obtain ⟨I1, a1, a2, a3⟩ := rx_mustF (N := N) h (e := 1) (by decide)
    rw [show nI 1 = 1 from rfl] at a1
    have hz := RS_err a2
    have ht4 : tr4 n T r nt i = erS n T i 1 := by
      unfold tr4 tr3 tr2 tr1 tr0
      rw [if_neg cm]
      rfl
    unfold F_X12_traderText_23
    simp only [cm, if_false, a1, wm_kR, wm_kt, wm_kn, wm_kin, wm_kL, wm_kI, wm_ksI, wm_ksL, wm_kJ, wm_ksJ, kg_t, kl_v, Option.bind_some, sr_k, sr_0, sr_1, sr_2, sr_3, sr_4, sr_7, sr_8, sr_9, sr_26, sr_27, sr_28, kl_0, kl_1, kl_2, kl_3, kl_4, kl_5, kl_6, kl_7, kl_8, kl_9, kl_10, kl_11, kl_12, kl_13, kx_l0, kx_l1, kx_l2, kx_l3, kx_l4, kx_l5, kx_l6, kx_l7, kx_l8, kx_l9, kx_l10, kx_l11, kx_l12, kx_l13, re_named hz, re_must hz, re_goes hz, re_reads hz, rx_lesser, re_good hz, if_true, re_sign hz, Bool.false_eq_true]
    rw [ht4]
    exact ⟨I1, L, rfl, a2, (fun z => by cases z), SG_r a3, LF.rf'⟩
end
