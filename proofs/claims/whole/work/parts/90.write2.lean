/-! writeBoard: both in step -/
section
variable {N : Nat} {I : kInts} {L : kLngs} {r s f : Nat → Int32} {nb nt m : Nat} {p : oT}
theorem rx_name {t n : Nat} {g : Nat → Nat} (ht : t < 24) (h1 : 1 ≤ n) (h6 : n ≤ 6) (hg : ∀ k, k < n → 1 ≤ g k ∧ g k ≤ 26) (hc : r (89 + 7 * t + 0) = nI (codeN g n)) (hN : 100 < N) (k : Nat) : ∀ (i w : Nat) (J : kInts) (p : oT), J 541 = r → OR J p → p.1 + k ≤ 200 → i + k = n → k < w → ∃ J', F_X12_writesSeat_22 N w (wm Mb J L) 540 (nI t) (nI i) = some (wm Mb J' L) ∧ OR J' (adN g k i p) ∧ RO J J' := by
  induction k with
  | zero =>
    intro i w J p hr hp hl e hw
    obtain ⟨w, rfl⟩ : ∃ v, w = v + 1 := ⟨w - 1, by omega⟩
    have h0 := rx_has0 (N := N) (I := J) (L := L) (r := J 541) (f := J 546) ht
    rw [rf_self, hr, hc] at h0
    refine ⟨J, ?_, hp, fun _ _ _ _ => rfl⟩
    unfold F_X12_writesSeat_22
    simp (disch := omega) only [wm_kR, wm_kt, wm_kn, wm_kin, wm_kL, wm_kI, wm_ksI, wm_ksL, wm_kJ, wm_ksJ, kg_t, kl_v, Option.bind_some, sr_k, sr_0, sr_1, sr_2, sr_3, sr_4, sr_7, sr_8, sr_9, sr_26, sr_27, sr_28, h0, rx_lets _ h6 hg hN, nI_ltP]
    rw [if_neg (by omega)]
  | succ k ih =>
    intro i w J p hr hp hl e hw
    obtain ⟨w, rfl⟩ : ∃ v, w = v + 1 := ⟨w - 1, by omega⟩
    have h0 := rx_has0 (N := N) (I := J) (L := L) (r := J 541) (f := J 546) ht
    rw [rf_self, hr, hc] at h0
    obtain ⟨J1, a1, a2, a3⟩ := rx_put (N := N) (L := L) hp (by omega) (nI (96 + g i))
    obtain ⟨J2, b1, b2, b3⟩ := ih (i + 1) w J1 (adO p (nI (96 + g i))) (by rw [← hr]; exact funext fun j => a3 _ _ (by omega) (by omega)) a2 (by show p.1 + 1 + k ≤ 200; omega) (by omega) (by omega)
    refine ⟨J2, ?_, b2, a3.trans b3⟩
    have hl0 : ¬ (nI i < 0 ∨ nI n ≤ nI i) := num_not (by omega) (by omega)
    unfold F_X12_writesSeat_22
    simp (disch := omega) only [wm_kR, wm_kt, wm_kn, wm_kin, wm_kL, wm_kI, wm_ksI, wm_ksL, wm_kJ, wm_ksJ, kg_t, kl_v, Option.bind_some, sr_k, sr_0, sr_1, sr_2, sr_3, sr_4, sr_7, sr_8, sr_9, sr_26, sr_27, sr_28, h0, rx_lets _ h6 hg hN, nI_ltP, rx_letter _ h1 h6 hg _ hN, if_neg hl0, kx_nI, a1, nI_1]
    rw [if_pos (by omega)]
    exact b1
theorem lk_place (hR : RI r nb nt) (hM : RM I 44 r nb nt) (hN : 100 < N) {b q : Nat} (hb : b < nb) (hq : q < 13) (hp : OC I p) (hl : p.1 + 6 ≤ 200) : ∃ I' p', F_X11_writePlace N (wm Mb I L) 1 (bd 44 b) (pz q) = some (wm Mb I' L) ∧ OC I' p' ∧ p'.1 ≤ p.1 + 6 ∧ CO I I' ∧ ∀ (J : kInts) (L' : kLngs) (k28 : kMem → Nat → Int32 → Int32 → Option (Int32 × kMem)), J 541 = r → OR J p → ∃ J', F_X12_writeBoard_51 N k28 (wm Mb J L') 540 (nI b) (pz q) = k28 (wm Mb J' L') 540 (nI b) (pz (q + 1)) ∧ OR J' p' ∧ RO J J' := by
  have h5 := hR.nb5
  have h24 := hR.nt24
  have ho := cx_own (N := N) (I := I) (L := L) m169 (show b < 5 by omega) hq
  have e0 : (pz q = 0) = (q = 6) := propext (pz_eq0 (by omega))
  unfold F_X11_writePlace
  by_cases c6 : q = 6
  · subst c6
    rw [(hM.bb b hb).2.2.2.2] at ho
    obtain ⟨I1, a1, a2, a3⟩ := cx_put (N := N) (L := L) hp (by omega) 94
    refine ⟨I1, adO p 94, ?_, a2, by show p.1 + 1 ≤ _; omega, a3, fun J L' k28 hr hJ => ?_⟩
    · simp only [wm_kR, wm_kt, wm_kn, wm_kin, wm_kL, wm_kI, wm_ksI, wm_ksL, wm_kJ, wm_ksJ, kg_t, kl_v, Option.bind_some, x1_t.1, x1_t.2.1, x1_t.2.2.2.2.1, bb_k m169 (show b < 5 by omega), ho, mm_k m169, cx_tn_out m169 hR hM (x := -1) (Or.inl (by decide)), e0, if_true, s4.1, a1]
    · obtain ⟨J1, b1, b2, b3⟩ := rx_put (N := N) (L := L') hJ (by omega) 94
      refine ⟨J1, ?_, b2, b3⟩
      unfold F_X12_writeBoard_51
      simp only [e0, if_true, wm_kR, wm_kt, wm_kn, wm_kin, wm_kL, wm_kI, wm_ksI, wm_ksL, wm_kJ, wm_ksJ, kg_t, kl_v, Option.bind_some, sr_k, sr_0, sr_1, sr_2, sr_3, sr_4, sr_7, sr_8, sr_9, sr_26, sr_27, sr_28, b1, pz_s]
  · rw [(hM.bb b hb).2.2.2.1 q hq c6] at ho
    have hons : ∀ (J : kInts) (L' : kLngs), J 541 = r → F_X12_onSeat N (wm Mb J L') 540 (nI b) (pz q) = some (r (si b q) - 1) := fun J L' hr => by
      have z := rx_onS (N := N) (I := J) (L := L') (r := J 541) (f := J 546) (show b < 5 by omega) hq c6
      rw [rf_self, hr] at z
      exact z
    rcases own_cases hR hb hq c6 with c | ⟨t, ht, z1, z2, z3⟩
    · rw [c, show (0 : Int32) - 1 = -1 from rfl] at ho
      obtain ⟨I1, a1, a2, a3⟩ := cx_put (N := N) (L := L) hp (by omega) 46
      refine ⟨I1, adO p 46, ?_, a2, by show p.1 + 1 ≤ _; omega, a3, fun J L' k28 hr hJ => ?_⟩
      · simp only [wm_kR, wm_kt, wm_kn, wm_kin, wm_kL, wm_kI, wm_ksI, wm_ksL, wm_kJ, wm_ksJ, kg_t, kl_v, Option.bind_some, x1_t.1, x1_t.2.1, x1_t.2.2.2.2.1, bb_k m169 (show b < 5 by omega), ho, mm_k m169, cx_tn_out m169 hR hM (x := -1) (Or.inl (by decide)), e0, c6, if_true, if_false, s4.1, a1]
      · obtain ⟨J1, b1, b2, b3⟩ := rx_put (N := N) (L := L') hJ (by omega) 46
        refine ⟨J1, ?_, b2, b3⟩
        have hz := hons J L' hr
        rw [c, show (0 : Int32) - 1 = -1 from rfl] at hz
        unfold F_X12_writeBoard_51 F_X12_writesSeat
        simp only [e0, c6, if_false, if_true, wm_kR, wm_kt, wm_kn, wm_kin, wm_kL, wm_kI, wm_ksI, wm_ksL, wm_kJ, wm_ksJ, kg_t, kl_v, Option.bind_some, sr_k, sr_0, sr_1, sr_2, sr_3, sr_4, sr_7, sr_8, sr_9, sr_26, sr_27, sr_28, hz, b1, pz_s]
    · rw [z2] at ho
      obtain ⟨n, g, g1, g2, g3, g5⟩ := hM.n t ht
      obtain ⟨I1, a1, a2, a3⟩ := cx_name (N := N) (L := L) g1.2 g2 n 0 N I p hp (by omega) (by omega) (by omega)
      rw [show nI 0 = 0 from rfl] at a1
      refine ⟨I1, adN g n 0 p, ?_, a2, by rw [adN_n]; omega, a3, fun J L' k28 hr hJ => ?_⟩
      · unfold F_X8_addName
        simp only [wm_kR, wm_kt, wm_kn, wm_kin, wm_kL, wm_kI, wm_ksI, wm_ksL, wm_kJ, wm_ksJ, kg_t, kl_v, Option.bind_some, x1_t.1, x1_t.2.1, x1_t.2.2.2.2.1, bb_k m169 (show b < 5 by omega), ho, mm_k m169, cx_tn_in m169 hR hM ht, tr_ne0, e0, c6, if_false, tt_k m169 (show t < 24 by omega), g3, s4.1, a1]
      · obtain ⟨J1, b1, b2, b3⟩ := rx_name (N := N) (L := L') (r := r) (show t < 24 by omega) g1.1 g1.2 g2 g5 hN n 0 N J p hr hJ (by omega) (by omega) (by omega)
        rw [show nI 0 = 0 from rfl] at b1
        refine ⟨J1, ?_, b2, b3⟩
        have hz := hons J L' hr
        rw [z2] at hz
        have hne : ¬ nI t = -1 := nI_ne1 (by omega)
        unfold F_X12_writeBoard_51 F_X12_writesSeat
        simp only [e0, c6, if_false, wm_kR, wm_kt, wm_kn, wm_kin, wm_kL, wm_kI, wm_ksI, wm_ksL, wm_kJ, wm_ksJ, kg_t, kl_v, Option.bind_some, sr_k, sr_0, sr_1, sr_2, sr_3, sr_4, sr_7, sr_8, sr_9, sr_26, sr_27, sr_28, hz, hne, b1, pz_s]
theorem lk_write (hR : RI r nb nt) (hN : 100 < N) {b a : Nat} (hb : b < nb) (ra : r (14 + 15 * b + 0) = nI a) (ha : a ≤ 6) (k : Nat) : ∀ (q w : Nat) (I : kInts) (p : oT), q + k = 7 + a → 6 - a ≤ q → k < w → RM I 44 r nb nt → OC I p → p.1 + 7 * k ≤ 200 → ∃ I' p', F_X11_writeBoard_20 N w (wm Mb I L) 1 (bd 44 b) (pz q) = some (.inl (nI p'.1), wm Mb I' L) ∧ OC I' p' ∧ p'.1 ≤ 200 ∧ CO I I' ∧ ∀ (J : kInts) (L' : kLngs) (w' : Nat), k < w' → J 541 = r → OR J p → ∃ J', F_X12_writeBoard_28 N w' (wm Mb J L') 540 (nI b) (pz q) = some (nI p'.1, wm Mb J' L') ∧ OR J' p' ∧ RO J J' := by
  have h5 := hR.nb5
  have hob : ∀ (J : kInts) (L' : kLngs), J 541 = r → F_X12_ofBoard N (wm Mb J L') 540 (nI b) 0 = some (pz (6 + a)) := fun J L' hr => by
    have z := rx_ofB0 (N := N) (I := J) (L := L') (r := J 541) (f := J 546) (show b < 5 by omega)
    rw [rf_self, hr, ra, pz_a (a := a)] at z
    exact z
  induction k with
  | zero =>
    intro q w I p e h1 hw hM hp hl
    obtain ⟨w, rfl⟩ : ∃ v, w = v + 1 := ⟨w - 1, by omega⟩
    have e1 : I (bd 44 b) 1 = pz (6 + a) := ((hM.bb b hb).1.trans ra).trans (pz_a (a := a))
    refine ⟨I, p, ?_, hp, by omega, fun _ _ _ _ => rfl, fun J L' w' hw' hr hJ => ⟨J, ?_, hJ, fun _ _ _ _ => rfl⟩⟩
    · unfold F_X11_writeBoard_20
      simp only [wm_kR, wm_kt, wm_kn, wm_kin, wm_kL, wm_kI, wm_ksI, wm_ksL, wm_kJ, wm_ksJ, kg_t, kl_v, Option.bind_some, bb_k m169 (show b < 5 by omega), e1]
      rw [if_pos ((pz_lt (by omega) (by omega)).mpr (by omega))]
      simp only [wm_kR, wm_kt, wm_kn, wm_kin, wm_kL, wm_kI, wm_ksI, wm_ksL, wm_kJ, wm_ksJ, kg_t, kl_v, Option.bind_some, x1_t.1, x1_t.2.2.2.2.1, s4.1, hp.1]
    · obtain ⟨w', rfl⟩ : ∃ v, w' = v + 1 := ⟨w' - 1, by omega⟩
      unfold F_X12_writeBoard_28
      simp only [wm_kR, wm_kt, wm_kn, wm_kin, wm_kL, wm_kI, wm_ksI, wm_ksL, wm_kJ, wm_ksJ, kg_t, kl_v, Option.bind_some, sr_k, sr_0, sr_1, sr_2, sr_3, sr_4, sr_7, sr_8, sr_9, sr_26, sr_27, sr_28, hob J L' hr]
      rw [if_pos ((pz_lt (by omega) (by omega)).mpr (by omega)), hJ.1]
  | succ k ih =>
    intro q w I p e h1 hw hM hp hl
    obtain ⟨w, rfl⟩ : ∃ v, w = v + 1 := ⟨w - 1, by omega⟩
    have e1 : I (bd 44 b) 1 = pz (6 + a) := ((hM.bb b hb).1.trans ra).trans (pz_a (a := a))
    have co : ∀ I', CO I I' → RM I' 44 r nb nt := fun I' h => hM.cI hR.nb5 hR.nt24 (fun x j y1 y2 => h x j (by omega) (by omega))
    have hpos : (0 < nI p.1) = (0 < p.1) := by
      rw [show (0 : Int32) = nI 0 from rfl]
      exact nI_ltP (by omega) (by omega)
    by_cases c : 0 < p.1
    · obtain ⟨I1, a1, a2, a3⟩ := cx_put (N := N) (L := L) hp (by omega) 32
      obtain ⟨I2, p2, b1, b2, b3, b4, b5⟩ := lk_place (N := N) (L := L) hR (co _ a3) hN hb (show q < 13 by omega) a2 (by show p.1 + 1 + 6 ≤ 200; omega)
      have b3' : p2.1 ≤ p.1 + 1 + 6 := b3
      obtain ⟨I3, p3, d1, d2, d3, d4, d5⟩ := ih (q + 1) w I2 p2 (by omega) (by omega) (by omega) (co _ (a3.trans b4)) b2 (by omega)
      refine ⟨I3, p3, ?_, d2, d3, (a3.trans b4).trans d4, fun J L' w' hw' hr hJ => ?_⟩
      · unfold F_X11_writeBoard_20
        simp only [wm_kR, wm_kt, wm_kn, wm_kin, wm_kL, wm_kI, wm_ksI, wm_ksL, wm_kJ, wm_ksJ, kg_t, kl_v, Option.bind_some, bb_k m169 (show b < 5 by omega), e1]
        rw [if_neg (fun y => by have := (pz_lt (by omega) (by omega)).mp y; omega)]
        simp only [wm_kR, wm_kt, wm_kn, wm_kin, wm_kL, wm_kI, wm_ksI, wm_ksL, wm_kJ, wm_ksJ, kg_t, kl_v, Option.bind_some, x1_t.1, x1_t.2.2.2.2.1, s4.1, hp.1, hpos, c, if_true, a1, b1, pz_s]
        exact d1
      · obtain ⟨w', rfl⟩ : ∃ v, w' = v + 1 := ⟨w' - 1, by omega⟩
        obtain ⟨J1, f1, f2, f3⟩ := rx_put (N := N) (L := L') hJ (by omega) 32
        have hr1 : J1 541 = r := by rw [← hr]; exact funext fun j => f3 _ _ (by omega) (by omega)
        obtain ⟨J2, g1, g2, g3⟩ := b5 J1 L' (fun M a0 x1 x2 => F_X12_writeBoard_28 N w' M a0 x1 x2) hr1 f2
        have hr2 : J2 541 = r := by rw [← hr1]; exact funext fun j => g3 _ _ (by omega) (by omega)
        obtain ⟨J3, k1, k2, k3⟩ := d5 J2 L' w' (by omega) hr2 g2
        refine ⟨J3, ?_, k2, (f3.trans g3).trans k3⟩
        unfold F_X12_writeBoard_28
        simp only [wm_kR, wm_kt, wm_kn, wm_kin, wm_kL, wm_kI, wm_ksI, wm_ksL, wm_kJ, wm_ksJ, kg_t, kl_v, Option.bind_some, sr_k, sr_0, sr_1, sr_2, sr_3, sr_4, sr_7, sr_8, sr_9, sr_26, sr_27, sr_28, hob J L' hr]
        rw [if_neg (fun y => by have := (pz_lt (by omega) (by omega)).mp y; omega)]
        simp only [hJ.1, hpos, c, if_true, f1, Option.bind_some]
        exact g1.trans k1
    · obtain ⟨I2, p2, b1, b2, b3, b4, b5⟩ := lk_place (N := N) (L := L) hR hM hN hb (show q < 13 by omega) hp (by omega)
      obtain ⟨I3, p3, d1, d2, d3, d4, d5⟩ := ih (q + 1) w I2 p2 (by omega) (by omega) (by omega) (co _ b4) b2 (by omega)
      refine ⟨I3, p3, ?_, d2, d3, b4.trans d4, fun J L' w' hw' hr hJ => ?_⟩
      · unfold F_X11_writeBoard_20
        simp only [wm_kR, wm_kt, wm_kn, wm_kin, wm_kL, wm_kI, wm_ksI, wm_ksL, wm_kJ, wm_ksJ, kg_t, kl_v, Option.bind_some, bb_k m169 (show b < 5 by omega), e1]
        rw [if_neg (fun y => by have := (pz_lt (by omega) (by omega)).mp y; omega)]
        simp only [wm_kR, wm_kt, wm_kn, wm_kin, wm_kL, wm_kI, wm_ksI, wm_ksL, wm_kJ, wm_ksJ, kg_t, kl_v, Option.bind_some, x1_t.1, x1_t.2.2.2.2.1, s4.1, hp.1, hpos, c, if_false, b1, pz_s]
        exact d1
      · obtain ⟨w', rfl⟩ : ∃ v, w' = v + 1 := ⟨w' - 1, by omega⟩
        obtain ⟨J2, g1, g2, g3⟩ := b5 J L' (fun M a0 x1 x2 => F_X12_writeBoard_28 N w' M a0 x1 x2) hr hJ
        have hr2 : J2 541 = r := by rw [← hr]; exact funext fun j => g3 _ _ (by omega) (by omega)
        obtain ⟨J3, k1, k2, k3⟩ := d5 J2 L' w' (by omega) hr2 g2
        refine ⟨J3, ?_, k2, g3.trans k3⟩
        unfold F_X12_writeBoard_28
        simp only [wm_kR, wm_kt, wm_kn, wm_kin, wm_kL, wm_kI, wm_ksI, wm_ksL, wm_kJ, wm_ksJ, kg_t, kl_v, Option.bind_some, sr_k, sr_0, sr_1, sr_2, sr_3, sr_4, sr_7, sr_8, sr_9, sr_26, sr_27, sr_28, hob J L' hr]
        rw [if_neg (fun y => by have := (pz_lt (by omega) (by omega)).mp y; omega)]
        simp only [hJ.1, hpos, c, if_false]
        exact g1.trans k1
end
