variable {Mb : SMem}
def bo1 (n : Nat) (T : Nat → Nat) (i : Nat) : sg := stp n T (.inl i) (cN n T 1 7)
def bo2 (n : Nat) (T : Nat → Nat) (i : Nat) : sg := stp n T (bo1 n T i) (cN n T 1 100)
def bo3 (n : Nat) (T : Nat → Nat) (i : Nat) : sg := stp n T (bo2 n T i) (cN n T 0 1000)
def bo4 (n : Nat) (T : Nat → Nat) (i : Nat) : sg := stp n T (bo3 n T i) (cG n T 59)
def boR (r : Nat → Int32) (nb : Nat) (a s l : Int32) : Nat → Int32 := setr (setr (setr (setr r 7 (nI (nb + 1))) (14 + 15 * nb + 0) a) (14 + 15 * nb + 1) s) (14 + 15 * nb + 2) l
def boX (n : Nat) (T : Nat → Nat) (r : Nat → Int32) (nb i : Nat) : Nat → Int32 := boR r nb (nI (nuv n T i)) (nI (nuv n T (i + 1))) (nI (nuv n T (i + 2)))
def ZS (r : Nat → Int32) (nb : Nat) : Prop := ∀ k, 14 + 15 * nb ≤ k → k < 89 → r k = 0
section
variable {N : Nat} {I : kInts} {L : kLngs} {n c : Nat} {T : Nat → Nat} {σ : sg} {r s : Nat → Int32} {nb nt m : Nat} {a1 a2 a3 : Int32}
theorem boR_ne {k : Nat} (h7 : k ≠ 7) (h : k < 14 + 15 * nb ∨ 14 + 15 * nb + 2 < k) : boR r nb a1 a2 a3 k = r k := by
  unfold boR
  rw [setr_ne (by omega), setr_ne (by omega), setr_ne (by omega), setr_ne (by omega)]
theorem boR_7 : boR r nb a1 a2 a3 7 = nI (nb + 1) := by
  unfold boR
  rw [setr_ne (by omega), setr_ne (by omega), setr_ne (by omega), setr_eq]
theorem boR_b : boR r nb a1 a2 a3 (14 + 15 * nb + 0) = a1 ∧ boR r nb a1 a2 a3 (14 + 15 * nb + 1) = a2 ∧ boR r nb a1 a2 a3 (14 + 15 * nb + 2) = a3 := by
  unfold boR
  refine ⟨?_, ?_, ?_⟩
  · rw [setr_ne (by omega), setr_ne (by omega), setr_eq]
  · rw [setr_ne (by omega), setr_eq]
  · rw [setr_eq]
theorem ok_bo4 {i : Nat} (h : okS (bo4 n T i) = true) : cN n T 1 7 i = 0 ∧ cN n T 1 100 (i + 1) = 0 ∧ cN n T 0 1000 (i + 2) = 0 ∧ (bo1 n T i = .inl (i + 1) ∧ bo2 n T i = .inl (i + 2) ∧ bo3 n T i = .inl (i + 3)) ∧ bo4 n T i = .inl (i + 4) := by
  obtain ⟨j3, x1, x2, x3⟩ := ok_stp h
  obtain ⟨j2, b1, b2, b3⟩ := ok_stp (σ := bo2 n T i) (f := cN n T 0 1000) (show okS (bo3 n T i) = true by rw [x1]; rfl)
  obtain ⟨j1, c1, c2, c3⟩ := ok_stp (σ := bo1 n T i) (f := cN n T 1 100) (show okS (bo2 n T i) = true by rw [b1]; rfl)
  obtain ⟨j0, d1, d2, d3⟩ := ok_stp (σ := .inl i) (f := cN n T 1 7) (show okS (bo1 n T i) = true by rw [c1]; rfl)
  cases d1
  have y1 : bo1 n T i = .inl (i + 1) := d3
  have y2 : bo2 n T i = .inl (j1 + 1) := c3
  have y3 : bo3 n T i = .inl (j2 + 1) := b3
  have z1 : j1 = i + 1 := by rw [y1] at c1; cases c1; rfl
  have z2 : j2 = j1 + 1 := by rw [y2] at b1; cases b1; rfl
  have z3 : j3 = j2 + 1 := by rw [y3] at x1; cases x1; rfl
  subst z1 z2 z3
  exact ⟨d2, c2, b2, ⟨y1, y2, y3⟩, x3⟩
theorem RI_bo (h : RI r nb 0) (hn : nb < 5) (hZ : ZS r nb) {x y z : Nat} (hx : 1 ≤ x ∧ x ≤ 6) (hy : 1 ≤ y ∧ y ≤ 99) (hz : z ≤ 999) : RI (boR r nb (nI x) (nI y) (nI z)) (nb + 1) 0 := by
  refine ⟨?_, fun b hb => ?_, fun t ht => absurd ht (Nat.not_lt_zero _), ⟨fun t ht => absurd ht (Nat.not_lt_zero _), fun b hb q hq h6 => Or.inl ?_⟩, ?_⟩
  · obtain ⟨⟨g1, g2, g3, g4⟩, g5, g6, g7, g8, g9, g10⟩ := h.g
    unfold RIg
    rw [boR_7, boR_ne (k := 8) (by omega) (by omega), boR_ne (k := 0) (by omega) (by omega), boR_ne (k := 1) (by omega) (by omega), boR_ne (k := 2) (by omega) (by omega), boR_ne (k := 3) (by omega) (by omega), boR_ne (k := 4) (by omega) (by omega), boR_ne (k := 13) (by omega) (by omega)]
    exact ⟨⟨rfl, g2, hn, g4⟩, g5, g6, g7, g8, g9, g10⟩
  · by_cases e : b = nb
    · subst e
      obtain ⟨b0, b1, b2⟩ := boR_b (r := r) (nb := b) (a1 := nI x) (a2 := nI y) (a3 := nI z)
      exact ⟨x, y, z, hx, hy, hz, b0, b1, b2⟩
    · rw [boR_ne (k := 14 + 15 * b + 0) (by omega) (by omega), boR_ne (k := 14 + 15 * b + 1) (by omega) (by omega), boR_ne (k := 14 + 15 * b + 2) (by omega) (by omega)]
      exact h.b b (by omega)
  · have x3 := @si_le b q hq
    have x4 := @si_ge b q
    rw [boR_ne (by omega) (by omega)]
    by_cases e : b = nb
    · subst e
      exact hZ _ (by omega) (by omega)
    · exact (h.s.2 b (by omega) q hq h6).resolve_right (fun ⟨t, ht, _⟩ => absurd ht (Nat.not_lt_zero _))
  · exact h.c.cg (boR_ne (by omega) (by omega)) (fun t ht => absurd ht (Nat.not_lt_zero _))
theorem ZS_bo (h : ZS r nb) : ZS (boR r nb a1 a2 a3) (nb + 1) := fun k h1 h2 => (boR_ne (by omega) (by omega)).trans (h k (by omega) h2)
theorem cx_buildL (hm : m ∈ mks) {b : Nat} (hb : b < 5) : ∀ (k i z : Nat) (I : kInts), i + k = 13 → k < z → ∃ I', F_X0_build_18 N z (wm Mb I L) (bd m b) (nI i) = some (wm Mb I' L) ∧ (∀ q, i ≤ q → q < 13 → I' (ow m b) q = -1) ∧ (∀ q, q < i → I' (ow m b) q = I (ow m b) q) ∧ (∀ x j, x ≠ ow m b → I' x j = I x j)
  | k, i, 0, _, _, h => absurd h (Nat.not_lt_zero _)
  | 0, i, z + 1, I, e, _ => by
    refine ⟨I, ?_, fun q h1 h2 => by omega, fun _ _ => rfl, fun _ _ _ => rfl⟩
    unfold F_X0_build_18
    simp (disch := omega) only [wm_kR, wm_kt, wm_kn, wm_kin, wm_kL, wm_kI, wm_ksI, wm_ksL, wm_kJ, wm_ksJ, kg_t, kl_v, Option.bind_some, bb_k hm hb, bb_o hm hb, bb_ok hm hb, bb_on hm hb, ofNnI, nI_ltP]
    rw [if_neg (by omega)]
  | k + 1, i, z + 1, I, e, hz => by
    have hi : i < 13 := by omega
    obtain ⟨I', g1, g2, g3, g4⟩ := cx_buildL hm hb k (i + 1) z (up I (ow m b) i (-1)) (by omega) (by omega)
    refine ⟨I', ?_, fun q h1 h2 => ?_, fun q hq => ?_, fun x j hx => (g4 x j hx).trans (up_ne (Or.inl hx))⟩
    · unfold F_X0_build_18
      simp (disch := omega) only [wm_kR, wm_kt, wm_kn, wm_kin, wm_kL, wm_kI, wm_ksI, wm_ksL, wm_kJ, wm_ksJ, kg_t, kl_v, Option.bind_some, bb_k hm hb, bb_o hm hb, bb_ok hm hb, bb_on hm hb, ofNnI, nI_ltP, kin_nI (bb_ok hm hb) (bb_on hm hb) hi, kx_nI, nI_1]
      rw [if_pos hi]
      exact g1
    · by_cases y : q = i
      · subst y
        exact (g3 q (by omega)).trans up_eq
      · exact g2 q (by omega) h2
    · exact (g3 q (by omega)).trans (up_ne (Or.inr (by omega)))
theorem cx_addBoard (hm : m ∈ mks) (hi : RM I m r nb nt) (hn : nb < 5) (h24 : nt ≤ 24) (h7 : r 7 = nI nb) (hZ : ∀ q, q < 13 → q ≠ 6 → r (si nb q) = 0) (hN : 100 < N) : ∃ I', F_X4_addBoard N (wm Mb I L) m a1 a2 a3 = some (wm Mb I' L) ∧ RM I' m (boR r nb a1 a2 a3) (nb + 1) nt ∧ FR m I I' := by
  have q1 : bd m nb = m + 7 + 2 * nb := rfl
  have q2 : ow m nb = m + 8 + 2 * nb := rfl
  have hbc : I m 11 = nI nb := hi.bc.trans h7
  obtain ⟨I1, g1, g2, g3, g4⟩ := cx_buildL (Mb := Mb) (N := N) (L := L) hm hn 13 0 N (up (up (up I (bd m nb) 1 a1) (bd m nb) 2 a2) (bd m nb) 3 a3) (by omega) (by omega)
  have x0 : ∀ x j, x ≠ ow m nb → x ≠ bd m nb → I1 x j = I x j := fun x j h1 h2 => (g4 x j h1).trans ((up_ne (Or.inl h2)).trans ((up_ne (Or.inl h2)).trans (up_ne (Or.inl h2))))
  have xb : ∀ j, I1 (bd m nb) j = up (up (up I (bd m nb) 1 a1) (bd m nb) 2 a2) (bd m nb) 3 a3 (bd m nb) j := fun j => g4 _ j (by omega)
  have em : I1 m 11 = nI nb := (x0 _ _ (by omega) (by omega)).trans hbc
  have ea : nI nb + 1 = nI (nb + 1) := by rw [nI_succ]
  refine ⟨up I1 m 11 (nI (nb + 1)), ?_, ?_, ?_⟩
  · unfold F_X4_addBoard F_X0_build
    rw [show nI 0 = 0 from rfl] at g1
    simp (disch := omega) only [wm_kR, wm_kt, wm_kn, wm_kin, wm_kL, wm_kI, wm_ksI, wm_ksL, wm_kJ, wm_ksJ, kg_t, kl_v, Option.bind_some, mm_k hm, mm_bs hm, mm_bn hm, mm_ts hm, mm_tn hm, mm_e hm, mm_ek hm, mm_bs hm, mm_bn hm, ofNnI, hbc, nI_ltP, hn, if_true, kin_b hm hn, kx_nI, bb_r hm hn, bb_k hm hn, g1, em, ea]
  · obtain ⟨b0, b1, b2⟩ := boR_b (r := r) (nb := nb) (a1 := a1) (a2 := a2) (a3 := a3)
    refine ⟨hi.nu.cg (fun c hc => ?_) (fun t ht => ?_) (fun t ht => Or.inl ?_), ?_, fun b hb => ?_, hi.tt.cg (fun t ht j => ?_) (fun t ht w hw => boR_ne (by omega) (by omega)), hi.n.cg (fun t ht j _ => ?_) (fun t ht => boR_ne (by omega) (by omega)), hi.e.cg ?_ (fun k hk j => ?_) (fun k hk => boR_ne (by omega) (by omega))⟩
    · have : bd m c = m + 7 + 2 * c := rfl
      rw [up_ne (Or.inl (by omega))]
      by_cases e : c = nb
      · rw [e, xb]
        exact (up_ne (Or.inr (by decide))).trans ((up_ne (Or.inr (by decide))).trans (up_ne (Or.inr (by decide))))
      · exact x0 _ _ (by omega) (by omega)
    · have : tr m t = m + 17 + t := rfl
      exact (up_ne (Or.inl (by omega))).trans (x0 _ _ (by omega) (by omega))
    · have : tr m t = m + 17 + t := rfl
      exact (up_ne (Or.inl (by omega))).trans (x0 _ _ (by omega) (by omega))
    · have e : ∀ j, j ≠ 11 → up I1 m 11 (nI (nb + 1)) m j = I m j := fun j h1 => (up_ne (Or.inr h1)).trans (x0 _ _ (by omega) (by omega))
      unfold RMg
      obtain ⟨y0, y1, y2, y3, y4, y5, y6, y7, y8, y9, y10, y11, y12⟩ := hi.g
      rw [e 0 (by decide), e 1 (by decide), e 2 (by decide), e 3 (by decide), e 4 (by decide), e 5 (by decide), e 6 (by decide), e 7 (by decide), e 8 (by decide), e 9 (by decide), e 10 (by decide), e 12 (by decide), boR_7, boR_ne (k := 6) (by omega) (by omega), boR_ne (k := 5) (by omega) (by omega), boR_ne (k := 0) (by omega) (by omega), boR_ne (k := 1) (by omega) (by omega), boR_ne (k := 2) (by omega) (by omega), boR_ne (k := 3) (by omega) (by omega), boR_ne (k := 4) (by omega) (by omega), boR_ne (k := 9) (by omega) (by omega), boR_ne (k := 10) (by omega) (by omega), boR_ne (k := 11) (by omega) (by omega), boR_ne (k := 12) (by omega) (by omega), boR_ne (k := 8) (by omega) (by omega)]
      exact ⟨y0, y1, y2, y3, y4, y5, y6, y7, y8, y9, y10, up_eq, y12⟩
    · have e1 : bd m b = m + 7 + 2 * b := rfl
      have e2 : ow m b = m + 8 + 2 * b := rfl
      have z1 : ∀ j, up I1 m 11 (nI (nb + 1)) (bd m b) j = I1 (bd m b) j := fun j => up_ne (Or.inl (by omega))
      have z2 : ∀ j, up I1 m 11 (nI (nb + 1)) (ow m b) j = I1 (ow m b) j := fun j => up_ne (Or.inl (by omega))
      by_cases e : b = nb
      · subst e
        rw [z1, z1, z1, z2, b0, b1, b2, xb, xb, xb]
        refine ⟨(up_ne (Or.inr (by decide))).trans ((up_ne (Or.inr (by decide))).trans up_eq), (up_ne (Or.inr (by decide))).trans up_eq, up_eq, fun q hq h6 => ?_, g2 6 (by omega) (by omega)⟩
        have x3 := @si_le b q hq
        have x4 := @si_ge b q
        rw [z2, boR_ne (by omega) (by omega), hZ q hq h6, g2 q (by omega) hq]
        decide
      · rw [z1, z1, z1, z2, boR_ne (by omega) (by omega), boR_ne (by omega) (by omega), boR_ne (by omega) (by omega), x0 _ _ (by omega) (by omega), x0 _ _ (by omega) (by omega), x0 _ _ (by omega) (by omega), x0 _ _ (by omega) (by omega)]
        obtain ⟨y1, y2, y3, y4, y5⟩ := hi.bb b (by omega)
        refine ⟨y1, y2, y3, fun q hq h6 => ?_, y5⟩
        have x3 := @si_le b q hq
        have x4 := @si_ge b q
        rw [z2, boR_ne (by omega) (by omega), x0 _ _ (by omega) (by omega)]
        exact y4 q hq h6
    · have : tr m t = m + 17 + t := rfl
      exact (up_ne (Or.inl (by omega))).trans (x0 _ _ (by omega) (by omega))
    · have : tr m t = m + 17 + t := rfl
      exact (up_ne (Or.inl (by omega))).trans (x0 _ _ (by omega) (by omega))
    · have : ev m = m + 3 := rfl
      exact (up_ne (Or.inl (by omega))).trans (x0 _ _ (by omega) (by omega))
    · have : ek m k = m + 4 + k := rfl
      exact (up_ne (Or.inl (by omega))).trans (x0 _ _ (by omega) (by omega))
  · intro x j hx
    exact (up_ne (Or.inl (by omega))).trans (x0 _ _ (by omega) (by omega))
theorem eqR_bo (h : eqR s r) : eqR (boR s nb a1 a2 a3) (boR r nb a1 a2 a3) := by
  intro k h1 h2
  by_cases z : 14 + 15 * nb ≤ k ∧ k ≤ 14 + 15 * nb + 2
  · obtain ⟨x0, x1, x2⟩ := boR_b (r := r) (nb := nb) (a1 := a1) (a2 := a2) (a3 := a3)
    obtain ⟨y0, y1, y2⟩ := boR_b (r := s) (nb := nb) (a1 := a1) (a2 := a2) (a3 := a3)
    have : k = 14 + 15 * nb + 0 ∨ k = 14 + 15 * nb + 1 ∨ k = 14 + 15 * nb + 2 := by omega
    rcases this with e | e | e <;> rw [e]
    · rw [x0, y0]
    · rw [x1, y1]
    · rw [x2, y2]
  · by_cases y : k = 7
    · rw [y, boR_7, boR_7]
    · rw [boR_ne y (by omega), boR_ne y (by omega)]
      exact h k h1 h2
end
