/-! the reference's first line; the whole setup in step -/
section
variable {N : Nat} {I : kInts} {L : kLngs} {n c : Nat} {T : Nat → Nat} {σ : sg} {r s : Nat → Int32} {nb nt : Nat}
theorem RS_u {j : Nat} {v : Int32} (h : RS I L n T σ) : RS (up I 541 j v) L n T σ := h.sg (fun a k ha => up_ne (Or.inl (by omega))) rfl
def E2 (K : kInts) (X : Nat → Int32) : Prop := ∀ j, K 541 j = X j
theorem E2.st {K K' : kInts} {X : Nat → Int32} (h : E2 K X) (e : SG K K') : E2 K' X := fun j => (e _ _ (by omega)).trans (h j)
theorem E2.u {K : kInts} {X : Nat → Int32} {j : Nat} {v : Int32} (h : E2 K X) : E2 (up K 541 j v) (setr X j v) := by
  intro k
  by_cases z : k = j
  · rw [z, up_eq, setr_eq]
  · rw [up_ne (Or.inr z), setr_ne z]; exact h k
theorem RFr_u {K K' : kInts} {j : Nat} {v : Int32} (h : RFr K K') : RFr K (up K' 541 j v) := fun a k x1 x2 => (up_ne (Or.inl x2)).trans (h a k x1 x2)
theorem rx_header (h : RS I L n T (.inl 0)) (h0 : ∀ k, k < 293 → I 541 k = 0) (hN : 1000 < N) : ∃ I' L', F_X12_setup N (wm Mb I L) 540 = F_X12_setup_103 N N (wm Mb I' L') 540 ∧ RD I' L' n T (hd7 n T) (hdV n T) ∧ RFr I I' ∧ LF L L' := by
  obtain ⟨J0, J1, L1, a1, a2, a3, a4, a5, a6⟩ := rx_takeWd (N := N) (w := 437857460) (by decide) h hN
  obtain ⟨J2, L2, b1, b2, b3, b4⟩ := rx_reads (N := N) a4 (lo := 0) (hh := 21) (x2 := 20) (by decide) (by decide) (by decide) hN
  obtain ⟨J3, L3, c1, c2, c3, c4⟩ := rx_reads (N := N) (RS_u (j := 0) (v := rdV n T 0 21 (hd0 n T)) b2) (lo := 0) (hh := 100) (x2 := 99) (by decide) (by decide) (by decide) hN
  obtain ⟨J4, L4, d1, d2, d3, d4⟩ := rx_reads (N := N) (RS_u (j := 1) (v := rdV n T 0 100 (hd1 n T)) c2) (lo := 0) (hh := 100) (x2 := 99) (by decide) (by decide) (by decide) hN
  obtain ⟨J5, L5, e1, e2, e3, e4⟩ := rx_reads (N := N) (RS_u (j := 2) (v := rdV n T 0 100 (hd2 n T)) d2) (lo := 1) (hh := 1000) (x2 := 999) (by decide) (by decide) (by decide) hN
  obtain ⟨J6, L6, f1, f2, f3, f4⟩ := rx_reads (N := N) (RS_u (j := 3) (v := rdV n T 1 1000 (hd3 n T)) e2) (lo := 0) (hh := 1000) (x2 := 999) (by decide) (by decide) (by decide) hN
  obtain ⟨J7, L7, g1, g2, g3, g4⟩ := rx_reads (N := N) (RS_u (j := 4) (v := rdV n T 0 1000 (hd4 n T)) f2) (lo := 0) (hh := 100000) (x2 := 99999) (by decide) (by decide) (by decide) hN
  obtain ⟨J8, L8, k1, k2, k3, k4⟩ := rx_sgn (N := N) (RS_u (j := 5) (v := rdV n T 0 100000 (hd5 n T)) g2) (ch := 59) (by decide) hN
  rw [show nI 0 = 0 from rfl] at b1 c1 d1 f1 g1
  rw [show nI 1 = 1 from rfl] at e1
  rw [show nI 59 = 59 from rfl] at k1
  rw [show lN 437857460 = 437857460 from rfl] at a1
  have x0 : E2 I (I 541) := fun _ => rfl
  have hall := (((((((((((((x0.st a5).st b3).u (j := 0) (v := rdV n T 0 21 (hd0 n T))).st c3).u (j := 1) (v := rdV n T 0 100 (hd1 n T))).st d3).u (j := 2) (v := rdV n T 0 100 (hd2 n T))).st e3).u (j := 3) (v := rdV n T 1 1000 (hd3 n T))).st f3).u (j := 4) (v := rdV n T 0 1000 (hd4 n T))).st g3).u (j := 5) (v := rdV n T 0 100000 (hd5 n T))).st k3
  have hfin : RFr I J8 := (RFr_u ((RFr_u ((RFr_u ((RFr_u ((RFr_u ((RFr_u (((SG_r a5).trans (SG_r b3)))).trans (SG_r c3))).trans (SG_r d3))).trans (SG_r e3))).trans (SG_r f3))).trans (SG_r g3))).trans (SG_r k3)
  refine ⟨J8, L8, ?_, ⟨k2, fun hok => ?_⟩, hfin, ((((((a6.trans b4).trans c4).trans d4).trans e4).trans f4).trans g4).trans k4⟩
  · unfold F_X12_setup
    simp only [hd0, hd1, hd2, hd3, hd4, hd5] at b1 c1 d1 e1 f1 g1 k1
    have e0 : kx 0 = 0 := by decide
    have z1 : kx 1 = 1 := by decide
    have z2 : kx 2 = 2 := by decide
    have z3 : kx 3 = 3 := by decide
    have z4 : kx 4 = 4 := by decide
    have z5 : kx 5 = 5 := by decide
    have i0 : kin Mb 541 13 0 = true := by rw [show (0 : Int32) = nI 0 from rfl]; exact kin_s (by decide)
    have i1 : kin Mb 541 13 1 = true := by rw [show (1 : Int32) = nI 1 from rfl]; exact kin_s (by decide)
    have i2 : kin Mb 541 13 2 = true := by rw [show (2 : Int32) = nI 2 from rfl]; exact kin_s (by decide)
    have i3 : kin Mb 541 13 3 = true := by rw [show (3 : Int32) = nI 3 from rfl]; exact kin_s (by decide)
    have i4 : kin Mb 541 13 4 = true := by rw [show (4 : Int32) = nI 4 from rfl]; exact kin_s (by decide)
    have i5 : kin Mb 541 13 5 = true := by rw [show (5 : Int32) = nI 5 from rfl]; exact kin_s (by decide)
    simp only [wm_kR, wm_kt, wm_kn, wm_kin, wm_kL, wm_kI, wm_ksI, wm_ksL, wm_kJ, wm_ksJ, kg_t, kl_v, Option.bind_some, sr_k, sr_0, sr_1, sr_2, sr_3, sr_4, sr_7, sr_8, sr_9, sr_26, sr_27, sr_28, a1, a2, a3, b1, c1, d1, e1, f1, g1, k1, e0, z1, z2, z3, z4, z5, i0, i1, i2, i3, i4, i5]
  · obtain ⟨⟨o0, o1, o2, o3, o4, o5⟩, y0, y1, y2, y3, y4, y5, y6⟩ := ok_hd7 hok
    intro k hk h9
    rw [hall k]
    unfold hdV
    rw [y0, y1, y2, y3, y4, y5, rdV_0 o0, rdV_0 o1, rdV_0 o2, rdV_0 o3, rdV_0 o4, rdV_0 o5, nuV_0 o0, nuV_0 o1, nuV_0 o2, nuV_0 o3, nuV_0 o4, nuV_0 o5]
    unfold hdR setr
    by_cases w5 : k = 5
    · subst w5; rfl
    · by_cases w4 : k = 4
      · subst w4; rfl
      · by_cases w3 : k = 3
        · subst w3; rfl
        · by_cases w2 : k = 2
          · subst w2; rfl
          · by_cases w1 : k = 1
            · subst w1; rfl
            · by_cases w0 : k = 0
              · subst w0; rfl
              · simp only [w0, w1, w2, w3, w4, w5, h9, or_self, if_false]
                exact h0 k hk
/-- the whole setup -/
theorem lk_setup (hS : CS I n T c (.inl 0)) (hNu : Nu I 85) (hN : 1000 < N) : ∃ I' σ' r' nb' nt', F_X7_read N (wm Mb I L) 6 85 = some (wm Mb I' L) ∧ DS I' n T c σ' r' nb' nt' ∧ EF I I' ∧ ∀ (J : kInts) (LJ : kLngs), RS J LJ n T (.inl 0) → (∀ k, k < 293 → J 541 k = 0) → ∃ J' LJ', F_X12_setup N (wm Mb J LJ) 540 = some (wm Mb J' LJ') ∧ RD J' LJ' n T σ' r' ∧ RFr J J' ∧ LF LJ LJ' := by
  have hm : (85 : Nat) ∈ mks := by decide
  obtain ⟨I1, I2, a1, a2, a3, a4, a5⟩ := cx_header (N := N) (L := L) hS hNu hN
  have hD : DS I2 n T c (hd7 n T) (hdV n T) 0 0 := ⟨a3, a4, ⟨by omega, by omega⟩, fun y => ⟨(RI_hd y).1, (RI_hd y).2, fun t ht => absurd ht (Nat.not_lt_zero _)⟩⟩
  obtain ⟨I', σ', r', nb', nt', b1, b2, b3, b4⟩ := lk_boards (N := N) (L := L) hN 5 0 N I2 _ _ 0 (by omega) (by omega) (fun _ => ⟨rfl, ZS_hd⟩) hD
  refine ⟨I', σ', r', nb', nt', ?_, b2, a5.d.trans b3, fun J LJ hJ h0 => ?_⟩
  · unfold F_X7_read
    simp only [wm_kR, wm_kt, wm_kn, wm_kin, wm_kL, wm_kI, wm_ksI, wm_ksL, wm_kJ, wm_ksJ, kg_t, kl_v, Option.bind_some, mm_k hm, a1, a2]
    exact b1
  · obtain ⟨J1, L1, c1, c2, c3, c4⟩ := rx_header (N := N) hJ h0 hN
    obtain ⟨J', L', d1, d2, d3, d4⟩ := b4 J1 L1 N (by omega) c2
    exact ⟨J', L', c1.trans d1, d2, c3.trans d3, c4.trans d4⟩
end
