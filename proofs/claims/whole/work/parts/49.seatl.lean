/-! the seats of the setup, both sides in step -/
def DS (I : kInts) (n : Nat) (T : Nat → Nat) (c : Nat) (σ : sg) (r : Nat → Int32) (nb nt : Nat) : Prop := CS I n T c σ ∧ RM I 85 r nb nt ∧ (nb ≤ 5 ∧ nt ≤ 24) ∧ (okS σ = true → RI r nb nt ∧ r 9 = nI (tot r nt) ∧ ∀ t, t < nt → r (89 + 7 * t + 4) = 1)
def RD (I : kInts) (L : kLngs) (n : Nat) (T : Nat → Nat) (σ : sg) (r : Nat → Int32) : Prop := RS I L n T σ ∧ (okS σ = true → eqR (I 541) r)
/-- how many traders have no seat -/
def unS (r : Nat → Int32) (nt : Nat) : Nat := sumN (fun t => if r (89 + 7 * t + 5) = -1 then 1 else 0) nt
section
variable {N : Nat} {I : kInts} {L : kLngs} {n c : Nat} {T : Nat → Nat} {σ : sg} {r s : Nat → Int32} {nb nt : Nat}
theorem seF_ok {i : Nat} (hR : RI r nb nt) (hp : ∀ t, t < nt → r (89 + 7 * t + 4) = 1) (h : okS (seF n T r nb nt i).1 = true) : ∃ t b q, t < nt ∧ r (89 + 7 * t + 5) = -1 ∧ b < 5 ∧ q < 13 ∧ (seF n T r nb nt i).2 = siR r t b q ∧ RI (siR r t b q) nb nt := by
  have h5 := hR.nb5
  unfold seF at h ⊢
  by_cases cm : isM n T i = true
  · rw [if_pos cm] at h ⊢
    cases hf : fnd r nt (nmc n T i) with
    | none => rw [hf] at h; cases h
    | some t =>
      rw [hf] at h
      have ht := fnd_lt hf
      simp only at h ⊢
      by_cases cs : r (89 + 7 * t + 5) = -1
      · rw [if_pos cs] at h ⊢
        unfold seG at h ⊢
        by_cases c4 : cN n T 0 nb (i + 1) = 0
        · rw [if_pos c4] at h ⊢
          have hb := (cN_in c4).2
          generalize nuv n T (i + 1) = b at hb h ⊢
          obtain ⟨a, s', l, ha, -, -, ra, -⟩ := hR.b b hb
          rw [ra, kx_nI (by omega)] at h ⊢
          unfold seH at h ⊢
          by_cases c5 : sdC n T (i + 1 + 1) = 0
          · rw [if_pos c5] at h ⊢
            unfold seI at h ⊢
            by_cases c6 : cN n T 1 (a + 1) (i + 1 + 1 + 1) = 0
            · rw [if_pos c6] at h ⊢
              obtain ⟨p1, p2, p3, p4⟩ := plc_ok (n := n) (T := T) (i := i + 1 + 1) (cN_in c6) (show a ≤ 6 by omega)
              generalize plc n T (i + 1 + 1) (nuv n T (i + 1 + 1 + 1)) = q at p2 p3 p4 h ⊢
              by_cases c7 : r (si b q) = 0
              · rw [if_pos c7] at h ⊢
                by_cases c8 : cG n T 59 (i + 1 + 1 + 1 + 1) = 0
                · rw [if_pos c8] at h ⊢
                  exact ⟨t, b, q, ht, cs, by omega, by omega, rfl, RI_si hR ht cs (hp t ht) hb ra (by omega) p2 p3 p4 c7⟩
                · rw [if_neg c8] at h; cases h
              · rw [if_neg c7] at h; cases h
            · rw [if_neg c6] at h; cases h
          · rw [if_neg c5] at h; cases h
        · rw [if_neg c4] at h; cases h
      · rw [if_neg cs] at h; cases h
  · rw [if_neg cm] at h; cases h
theorem unS_si {t b q : Nat} (ht : t < nt) (hb : b < 5) (hq : q < 13) (hu : r (89 + 7 * t + 5) = -1) : unS (siR r t b q) nt + 1 = unS r nt := by
  have h := sumN_upd (f := fun t => if r (89 + 7 * t + 5) = -1 then 1 else 0) (g := fun s => if siR r t b q (89 + 7 * s + 5) = -1 then 1 else 0) t ht (fun j hj hne => by
    show (if siR r t b q (89 + 7 * j + 5) = -1 then 1 else 0) = (if r (89 + 7 * j + 5) = -1 then 1 else 0)
    rw [siR_ne (by have := si_lt hb hq; omega) (by omega) (by omega)])
  have e1 : siR r t b q (89 + 7 * t + 5) = nI b := siR_5
  have hne : ¬ nI b = -1 := nI_ne1 (by omega)
  simp only [hu, e1, hne, if_true, if_false] at h
  unfold unS
  omega
theorem tot_si {t b q : Nat} (hb : b < 5) (hq : q < 13) : tot (siR r t b q) nt = tot r nt := by
  have h1 := si_lt hb hq
  have h2 := @si_ge b q
  unfold tot
  rw [siR_ne (by omega) (by omega) (by omega), sumN_congr (f := pu r) (fun i hi => by unfold pu; rw [siR_ne (by omega) (by omega) (by omega)])]
theorem lk_end (hD : DS I n T c σ r nb nt) : ∃ I', F_X9_takeEnd N (wm Mb I L) 6 = some (wm Mb I' L) ∧ DS I' n T c (enS n T σ) r nb nt ∧ EF I I' := by
  obtain ⟨h1, h2, ⟨h3, h4⟩, h5⟩ := hD
  obtain ⟨I', a1, a2, a3⟩ := cx_takeEnd (N := N) (L := L) h1
  refine ⟨I', a1, ⟨a2, h2.cf h3 h4 a3, ⟨h3, h4⟩, fun z => h5 ?_⟩, a3.d⟩
  cases σ with
  | inl j => rfl
  | inr x => cases z
theorem rx_end (h : RS I L n T σ) : ∃ I', (if I 540 14 = 0 then (F_X12_must N (wm Mb I L) 540 1 1).bind (fun M21 => some M21) else (F_X12_must N (wm Mb I L) 540 0 1).bind fun M20 => some M20) = some (wm Mb I' L) ∧ RS I' L n T (enS n T σ) ∧ SG I I' := by
  cases σ with
  | inr x =>
    have hz := RS_err h
    refine ⟨I, ?_, h, SG.rf'⟩
    simp only [re_must hz, Option.bind_some, ite_self]
  | inl j =>
    have hk := h.2.1.2.2.1
    have hr := @rK_le n T j
    unfold enS
    by_cases z : tK n T j = 4
    · refine ⟨I, ?_, by simp only [z, if_true]; exact h, SG.rf'⟩
      rw [if_pos (by rw [hk, rK_0.mpr z]; rfl), rx_mustT]
      rfl
    · obtain ⟨I', a1, a2, a3⟩ := rx_mustF (N := N) h (e := 1) (by decide)
      rw [show nI 1 = 1 from rfl] at a1
      refine ⟨I', ?_, by simp only [z, if_false]; exact a2, a3⟩
      rw [if_neg (by
        rw [hk]
        intro y
        exact z (rK_0.mp ((nI_eq (by omega) (by omega)).mp (show nI (rK n T j) = nI 0 from y)))), a1]
      rfl
theorem sgn_kt {M M' : kMem} {x : Int32} (h : F_X12_sign N M 540 x = some M') : kt M 540 12 = true := by
  cases hk : kt M 540 12 with
  | true => rfl
  | false =>
    unfold F_X12_sign at h
    rw [hk] at h
    cases h
theorem lk_seats (hN : 1000 < N) : ∀ (k i z : Nat) (I : kInts) (σ : sg) (r : Nat → Int32), i + k = 25 → k < z → (okS σ = true → i + unS r nt ≤ 24) → DS I n T c σ r nb nt → ∃ I' σ' r', F_X7_read_94 N z (wm Mb I L) 6 85 (nI i) = some (wm Mb I' L) ∧ DS I' n T c σ' r' nb nt ∧ EF I I' ∧ ∀ (J : kInts) (LJ : kLngs) (w : Nat), k < w → RD J LJ n T σ r → ∃ J' LJ', F_X12_setup_200 N w (wm Mb J LJ) 540 = some (wm Mb J' LJ') ∧ RD J' LJ' n T σ' r' ∧ RFr J J' ∧ LF LJ LJ'
  | k, i, 0, _, _, _, _, h, _, _ => absurd h (Nat.not_lt_zero _)
  | 0, i, z + 1, I, σ, r, e, _, hu, hD => by
    cases σ with
    | inl j => have := hu rfl; omega
    | inr x =>
      have hz := CS.err hD.1
      refine ⟨I, .inr x, r, ?_, hD, EF.rf', ?_⟩
      · have : i = 25 := by omega
        subst this
        unfold F_X7_read_94
        rw [if_pos (by decide)]
        simp only [wm_kR, wm_kt, wm_kn, wm_kin, wm_kL, wm_kI, wm_ksI, wm_ksL, wm_kJ, wm_ksJ, kg_t, kl_v, Option.bind_some, s6.1, ce_end hz]
      · intro J LJ w hw hJ
        have hz2 := RS_err hJ.1
        obtain ⟨w, rfl⟩ : ∃ v, w = v + 1 := ⟨w - 1, by omega⟩
        refine ⟨J, LJ, ?_, hJ, RFr.rf', LF.rf'⟩
        unfold F_X12_setup_200
        simp only [wm_kR, wm_kt, wm_kn, wm_kin, wm_kL, wm_kI, wm_ksI, wm_ksL, wm_kJ, wm_ksJ, kg_t, kl_v, Option.bind_some, sr_k, sr_0, sr_1, sr_2, sr_3, sr_4, sr_7, sr_8, sr_9, sr_26, sr_27, sr_28, re_word hz2, if_true, re_must hz2, ite_self]
  | k + 1, i, z + 1, I, σ, r, e, hz, hu, hD => by
    have hi : ¬ (24 : Int32) < nI i := by
      rw [show (24 : Int32) = nI 24 from rfl, nI_ltI (by omega) (by omega)]
      omega
    have hw := cx_atWord (N := N) (L := L) kw_seat hD.1 hN
    by_cases cq : qs σ (isW n T 627764) = true
    · cases σ with
      | inr x => cases cq
      | inl j =>
        have hj : isW n T 627764 j = true := cq
        have hk := isW_4 hj
        obtain ⟨h1, h2, h3, h4⟩ := hD
        obtain ⟨hR, h9, hp⟩ := h4 rfl
        obtain ⟨I1, a1, a2, a3, a5⟩ := cx_readSeat (N := N) (L := L) h1 hk hR h2 hN
        have hD1 : DS I1 n T c (seF n T r nb nt (j + 1)).1 (seF n T r nb nt (j + 1)).2 nb nt := by
          refine ⟨a2, a3, h3, fun y => ?_⟩
          obtain ⟨t, b, q, o1, o2, o3, o4, o5, o6⟩ := seF_ok hR hp y
          rw [o5]
          refine ⟨o6, ?_, fun s hs => ?_⟩
          · rw [tot_si o3 o4, siR_ne (by have := @si_ge b q; omega) (by omega) (by omega)]; exact h9
          · rw [siR_ne (by have := si_lt o3 o4; omega) (by omega) (by omega)]; exact hp s hs
        obtain ⟨I2, σ2, r2, b1, b2, b3, b4⟩ := lk_seats hN k (i + 1) z I1 _ _ (by omega) (by omega) (fun y => by
          obtain ⟨t, b, q, o1, o2, o3, o4, o5, o6⟩ := seF_ok hR hp y
          rw [o5]
          have := unS_si (r := r) o1 o3 o4 o2
          have := hu rfl
          omega) hD1
        refine ⟨I2, σ2, r2, ?_, b2, a5.trans b3, ?_⟩
        · unfold F_X7_read_94
          rw [if_neg hi]
          simp only [wm_kR, wm_kt, wm_kn, wm_kin, wm_kL, wm_kI, wm_ksI, wm_ksL, wm_kJ, wm_ksJ, kg_t, kl_v, Option.bind_some, s6.1, hw, cq, if_true, if_neg one0, a1, nI_1]
          exact b1
        · intro J LJ w hw2 hJ
          obtain ⟨w, rfl⟩ : ∃ v, w = v + 1 := ⟨w - 1, by omega⟩
          have w2 := rx_isW (N := N) hJ.1 (w := 627764) (by decide)
          rw [show lN 627764 = 627764 from rfl] at w2
          obtain ⟨J1, L1, d1, d2, d3, d4⟩ := rx_goes (N := N) hJ.1 hN
          obtain ⟨J2, L2, f1, f2, f3, f4, f5⟩ := rx_seatText (N := N) d2 (by rw [SG_s d3]; exact hJ.2 rfl) hR hN
          obtain ⟨J3, L3, g1, g2, g3, g4⟩ := b4 J2 L2 w (by omega) ⟨f2, f3⟩
          refine ⟨J3, L3, ?_, g2, ((SG_r d3).trans f4).trans g3, (d4.trans f5).trans g4⟩
          unfold F_X12_setup_200
          simp only [wm_kR, wm_kt, wm_kn, wm_kin, wm_kL, wm_kI, wm_ksI, wm_ksL, wm_kJ, wm_ksJ, kg_t, kl_v, Option.bind_some, sr_k, sr_0, sr_1, sr_2, sr_3, sr_4, sr_7, sr_8, sr_9, sr_26, sr_27, sr_28, w2, cq, if_true, if_neg one0, d1]
          cases hx : F_X12_seatText N (wm Mb J1 L1) 540 with
          | none => rw [hx] at f1; cases f1
          | some M1 =>
            rw [hx] at f1
            simp only [Option.bind_some] at f1 ⊢
            rw [sgn_kt f1, kg_t, f1]
            simp only [Option.bind_some]
            exact g1
    · obtain ⟨I1, a1, a2, a3⟩ := lk_end (N := N) (L := L) hD
      refine ⟨I1, enS n T σ, r, ?_, a2, a3, ?_⟩
      · unfold F_X7_read_94
        rw [if_neg hi]
        simp only [wm_kR, wm_kt, wm_kn, wm_kin, wm_kL, wm_kI, wm_ksI, wm_ksL, wm_kJ, wm_ksJ, kg_t, kl_v, Option.bind_some, s6.1, hw, cq, if_true, if_false, Bool.false_eq_true, a1]
      · intro J LJ w hw2 hJ
        obtain ⟨w, rfl⟩ : ∃ v, w = v + 1 := ⟨w - 1, by omega⟩
        have w2 := rx_isW (N := N) hJ.1 (w := 627764) (by decide)
        rw [show lN 627764 = 627764 from rfl] at w2
        obtain ⟨J', d1, d2, d3⟩ := rx_end (N := N) hJ.1
        refine ⟨J', LJ, ?_, ⟨d2, fun y => ?_⟩, SG_r d3, LF.rf'⟩
        · unfold F_X12_setup_200
          simp only [wm_kR, wm_kt, wm_kn, wm_kin, wm_kL, wm_kI, wm_ksI, wm_ksL, wm_kJ, wm_ksJ, kg_t, kl_v, Option.bind_some, sr_k, sr_0, sr_1, sr_2, sr_3, sr_4, sr_7, sr_8, sr_9, sr_26, sr_27, sr_28, w2, cq, if_true, if_false, Bool.false_eq_true]
          exact d1
        · rw [SG_s d3]
          refine hJ.2 ?_
          cases σ with
          | inl j => rfl
          | inr x => cases y
end
