variable {Mb : SMem}
def far (r : Nat → Int32) (b : Nat) (s : Bool) : Nat → Nat
  | 0 => 0
  | d + 1 => if r (si b (if s then 6 + (d + 1) else 6 - (d + 1))) = 0 then far r b s d else kx (r (si b (if s then 6 + (d + 1) else 6 - (d + 1)))) - 1
def fa (r : Nat → Int32) (nt b : Nat) : Nat := far r b (decide (0 < tqr r nt b)) (kx (r (14 + 15 * b + 0)))
def tp0 (r : Nat → Int32) (t : Nat) : Nat → Int32 := rcR (mvR (riS r t) (89 + 7 * t + 2) 5 (riS r t 4)) 1 (nI t)
def tpS (r : Nat → Int32) (t : Nat) : Nat → Int32 := setr (tp0 r t) 12 (r 12 + 1)
def tpL (nt b : Nat) : Nat → (Nat → Int32) → (Nat → Int32)
  | 0, r => r
  | k + 1, r => if tmu r b (tqr r nt b) = 0 then r else tpL nt b k (tpS r (fa r nt b))
def tpF (nt b : Nat) : Nat → (Nat → Int32) → (Nat → Int32) → (Nat → Int32)
  | 0, _, f => f
  | k + 1, r, f => if tmu r b (tqr r nt b) = 0 then f else tpF nt b k (tpS r (fa r nt b)) (setr f (fa r nt b) 1)
def occ (r : Nat → Int32) (b : Nat) : Nat := sumN (fun q => if q ≠ 6 ∧ r (si b q) ≠ 0 then 1 else 0) 13
section
variable {N : Nat} {I : kInts} {L : kLngs} {r f : Nat → Int32} {nb nt m : Nat}
theorem sumI_up {g : Nat → Int32} {B : Nat} : ∀ {n : Nat}, (∀ i, i < n → ∃ z, z ≤ B ∧ g i = nI z) → ∃ Z, Z ≤ B * n ∧ sumI g n = nI Z
  | 0, _ => ⟨0, Nat.zero_le _, rfl⟩
  | n + 1, h => by
    obtain ⟨Z, h1, h2⟩ := sumI_up (fun i hi => h i (Nat.lt_succ_of_lt hi))
    obtain ⟨z, h3, h4⟩ := h n (Nat.lt_succ_self n)
    refine ⟨Z + z, by rw [Nat.mul_succ]; omega, ?_⟩
    show sumI g n + g n = _
    rw [h2, h4, nI_add]
theorem sumI_dn {g : Nat → Int32} {B : Nat} : ∀ {n : Nat}, (∀ i, i < n → ∃ z, z ≤ B ∧ g i = -nI z) → ∃ Z, Z ≤ B * n ∧ sumI g n = -nI Z
  | 0, _ => ⟨0, Nat.zero_le _, rfl⟩
  | n + 1, h => by
    obtain ⟨Z, h1, h2⟩ := sumI_dn (fun i hi => h i (Nat.lt_succ_of_lt hi))
    obtain ⟨z, h3, h4⟩ := h n (Nat.lt_succ_self n)
    refine ⟨Z + z, by rw [Nat.mul_succ]; omega, ?_⟩
    show sumI g n + g n = _
    rw [h2, h4, ← nI_add]
    grind
theorem pz_hi {q : Nat} (h : 6 ≤ q) : pz q = nI (q - 6) := by
  unfold pz
  rw [← pk_sub h]
  rfl
theorem pz_lo {q : Nat} (h : q ≤ 6) : pz q = -nI (6 - q) := by
  unfold pz
  rw [← pk_sub (a := 6) h]
  have : nI 6 = 6 := rfl
  grind
theorem heavy (h : RI r nb nt) {b : Nat} (hb : b < nb) (hq : ¬ tqr r nt b = 0) : ∃ d, 1 ≤ d ∧ d ≤ kx (r (14 + 15 * b + 0)) ∧ r (si b (if decide (0 < tqr r nt b) then 6 + d else 6 - d)) ≠ 0 := by
  have h5 := h.nb5
  have h24 := h.nt24
  obtain ⟨a, s, l, ⟨ha1, ha6⟩, -, -, ha, -, -⟩ := h.b b hb
  rw [ha, kx_nI (by omega)]
  have hsw := tq_swap h.s hb h5 h24 ha ha6
  have hw : ∀ t, t < nt → ∃ w, (1 ≤ w ∧ w ≤ 99) ∧ r (89 + 7 * t + 1) = nI w := fun t ht => (h.t t ht).1
  have hval : ∀ q, q < 13 → q ≠ 6 → r (si b q) ≠ 0 → ∃ w, (1 ≤ w ∧ w ≤ 99) ∧ gq r b q = pz q * nI w := by
    intro q hq1 hq6 hne
    rcases h.s.2 b hb q hq1 hq6 with e | ⟨t, ht, e, -⟩
    · exact absurd e hne
    · obtain ⟨w, hw1, hw2⟩ := hw t ht
      refine ⟨w, hw1, ?_⟩
      unfold gq
      rw [if_neg hq6, if_neg hne, e, kx_nI (by omega), ← hw2]
      rfl
  have hz : ∀ q, q = 6 ∨ r (si b q) = 0 → gq r b q = 0 := by
    intro q hz
    unfold gq
    by_cases e : q = 6
    · rw [if_pos e]
    · rw [if_neg e, if_pos (hz.resolve_left e)]
  by_cases hpos : 0 < tqr r nt b
  · simp only [hpos, decide_true, if_true]
    by_cases hex : ∃ d, 1 ≤ d ∧ d ≤ a ∧ r (si b (6 + d)) ≠ 0
    · exact hex
    · exfalso
      obtain ⟨Z, hZ, e⟩ := sumI_dn (g := fun i => gq r b (6 - a + i)) (B := 600) (n := 2 * a + 1) (fun i hi => by
        show ∃ z, z ≤ 600 ∧ gq r b (6 - a + i) = -nI z
        by_cases c : 6 - a + i = 6 ∨ r (si b (6 - a + i)) = 0
        · exact ⟨0, by omega, hz _ c⟩
        · have c1 : 6 - a + i ≠ 6 := fun z => c (Or.inl z)
          have c2 : r (si b (6 - a + i)) ≠ 0 := fun z => c (Or.inr z)
          have c3 : ¬ 6 < 6 - a + i := fun z => hex ⟨6 - a + i - 6, by omega, by omega, by rw [show 6 + (6 - a + i - 6) = 6 - a + i by omega]; exact c2⟩
          obtain ⟨w, hw1, e⟩ := hval _ (by omega) c1 c2
          refine ⟨(6 - (6 - a + i)) * w, ?_, ?_⟩
          · have : (6 - (6 - a + i)) * w ≤ 6 * 99 := Nat.mul_le_mul (by omega) hw1.2
            omega
          · rw [e, pz_lo (by omega), ← pk_mul]
            grind)
      rw [hsw] at e
      have hZ2 : Z < 2147483648 := by
        have : 600 * (2 * a + 1) ≤ 600 * 13 := Nat.mul_le_mul (Nat.le_refl _) (by omega)
        omega
      rw [e, Int32.lt_iff_toInt_lt, sb_negT hZ2] at hpos
      have : (0 : Int32).toInt = 0 := rfl
      omega
  · simp only [hpos, decide_false, Bool.false_eq_true, if_false]
    by_cases hex : ∃ d, 1 ≤ d ∧ d ≤ a ∧ r (si b (6 - d)) ≠ 0
    · exact hex
    · exfalso
      obtain ⟨Z, hZ, e⟩ := sumI_up (g := fun i => gq r b (6 - a + i)) (B := 600) (n := 2 * a + 1) (fun i hi => by
        show ∃ z, z ≤ 600 ∧ gq r b (6 - a + i) = nI z
        by_cases c : 6 - a + i = 6 ∨ r (si b (6 - a + i)) = 0
        · exact ⟨0, by omega, hz _ c⟩
        · have c1 : 6 - a + i ≠ 6 := fun z => c (Or.inl z)
          have c2 : r (si b (6 - a + i)) ≠ 0 := fun z => c (Or.inr z)
          have c3 : ¬ 6 - a + i < 6 := fun z => hex ⟨6 - (6 - a + i), by omega, by omega, by rw [show 6 - (6 - (6 - a + i)) = 6 - a + i by omega]; exact c2⟩
          obtain ⟨w, hw1, e⟩ := hval _ (by omega) c1 c2
          refine ⟨(6 - a + i - 6) * w, ?_, ?_⟩
          · have : (6 - a + i - 6) * w ≤ 6 * 99 := Nat.mul_le_mul (by omega) hw1.2
            omega
          · rw [e, pz_hi (by omega), ← pk_mul])
      rw [hsw] at e
      have hZ2 : Z < 2147483648 := by
        have : 600 * (2 * a + 1) ≤ 600 * 13 := Nat.mul_le_mul (Nat.le_refl _) (by omega)
        omega
      by_cases hZ0 : Z = 0
      · subst hZ0
        exact hq e
      · rw [e] at hpos
        exact hpos (nI_lt (a := 0) (by omega) hZ2)
theorem tmu_0 (h : RI r nb nt) {b : Nat} (hb : b < nb) : tmu r b 0 = 0 := by
  obtain ⟨a, s, l, -, -, hl, -, -, e⟩ := h.b b hb
  unfold tmu
  rw [e, if_neg]
  show ¬ nI l < nI 0
  exact nI_pos (by omega)
theorem far_st (h : RI r nb nt) {b : Nat} (hb : b < nb) (s : Bool) : ∀ d, d ≤ kx (r (14 + 15 * b + 0)) → (∃ e, 1 ≤ e ∧ e ≤ d ∧ r (si b (if s then 6 + e else 6 - e)) ≠ 0) → ∃ q, far r b s d < nt ∧ st r nb (far r b s d) b q
  | 0, _, ⟨e, h1, h2, _⟩ => by omega
  | d + 1, hd, ⟨e, h1, h2, h3⟩ => by
    have h5 := h.nb5
    have h24 := h.nt24
    obtain ⟨a, s', l, ⟨ha1, ha6⟩, -, -, ha, -, -⟩ := h.b b hb
    have hd' := hd
    rw [ha, kx_nI (by omega)] at hd'
    unfold far
    by_cases c : r (si b (if s then 6 + (d + 1) else 6 - (d + 1))) = 0
    · rw [if_pos c]
      refine far_st h hb s d (by omega) ⟨e, h1, ?_, h3⟩
      by_cases z : e = d + 1
      · subst z; exact absurd c h3
      · omega
    · rw [if_neg c]
      have hq : (if s then 6 + (d + 1) else 6 - (d + 1)) < 13 ∧ (if s then 6 + (d + 1) else 6 - (d + 1)) ≠ 6 := by split <;> omega
      rcases h.s.2 b hb _ hq.1 hq.2 with z | ⟨t, ht, z, hs⟩
      · exact absurd z c
      · rw [z, kx_nI (by omega)]
        exact ⟨_, ht, hs⟩
theorem fa_st (h : RI r nb nt) {b : Nat} (hb : b < nb) (hq : ¬ tmu r b (tqr r nt b) = 0) : ∃ q, fa r nt b < nt ∧ st r nb (fa r nt b) b q := by
  have h0 : ¬ tqr r nt b = 0 := fun z => hq (by rw [z]; exact tmu_0 h hb)
  exact far_st h hb _ _ (Nat.le_refl _) (by
    obtain ⟨d, h1, h2, h3⟩ := heavy h hb h0
    exact ⟨d, h1, h2, h3⟩)
theorem RI_12 (h : RI r nb nt) (v : Int32) : RI (setr r 12 v) nb nt := by
  have h5 := h.nb5
  refine ⟨h.g.cg (fun k hk => ?_), h.b.cg (fun b hb w hw => setr_ne (by omega)), h.t.cg (fun s hs => ⟨setr_ne (by omega), setr_ne (by omega), setr_ne (by omega), fun _ => setr_ne (by omega)⟩), h.s.cg (fun b hb => setr_ne (by omega)) (fun b hb q hq h6 => ?_) (fun s hs => ⟨setr_ne (by omega), setr_ne (by omega)⟩), h.c.cg (setr_ne (by omega)) (fun s hs => setr_ne (by omega))⟩
  · simp only [List.mem_cons, List.not_mem_nil, or_false] at hk
    exact setr_ne (by omega)
  · have h8 := @si_ge b q
    exact setr_ne (by omega)
theorem nn_fine (h : RI r nb nt) : nn (r 4) := by
  obtain ⟨v, hv, e⟩ := h.g.2.2.2.2.2.1
  rw [e]
  exact nn_nI (by omega)
theorem RI_tp0 (h : RI r nb nt) {t b q : Nat} (ht : t < nt) (hs : st r nb t b q) : RI (tp0 r t) nb nt := by
  have h1 := RI_riS h ht
  have hp : riS r t (89 + 7 * t + 4) = 1 := by
    rw [riS_ne h ht (by omega) (by omega) (by omega)]
    exact h.pres ht hs
  exact RI_rc (RI_mv h1 (Or.inr ⟨t, ht, rfl, hp⟩) (Or.inl rfl) (by omega) (nn_fine h1)) 1 (nI t)
theorem RI_tpS (h : RI r nb nt) {t b q : Nat} (ht : t < nt) (hs : st r nb t b q) : RI (tpS r t) nb nt := RI_12 (RI_tp0 h ht hs) _
theorem tp0_lo (h : RI r nb nt) {t b q k : Nat} (ht : t < nt) (hs : st r nb t b q) (h1 : k ≠ 13) (h2 : k < 257) (h3 : k ≠ 5) (h4 : k ≠ 89 + 7 * t + 2) (h6 : k ≠ 89 + 7 * t + 5) (h7 : k ≠ 89 + 7 * t + 6) (h8 : k ≠ si b q) : tp0 r t k = r k := by
  unfold tp0
  rw [rcR_lo h1 h2, mvR_ne h4 h3, hs.ris h.nb5, riR_ne h8 h6 h7]
theorem tpS_lo (h : RI r nb nt) {t b q k : Nat} (ht : t < nt) (hs : st r nb t b q) (h1 : k ≠ 13) (h2 : k < 257) (h3 : k ≠ 5) (h4 : k ≠ 89 + 7 * t + 2) (h6 : k ≠ 89 + 7 * t + 5) (h7 : k ≠ 89 + 7 * t + 6) (h8 : k ≠ si b q) (h9 : k ≠ 12) : tpS r t k = r k := by
  unfold tpS
  rw [setr_ne h9, tp0_lo h ht hs h1 h2 h3 h4 h6 h7 h8]
theorem tpS_s (h : RI r nb nt) {t b q : Nat} (ht : t < nt) (hs : st r nb t b q) : tpS r t (si b q) = 0 := by
  have hb := hs.1
  have h5 := h.nb5
  have h24 := h.nt24
  have h7 := si_lt (show b < 5 by omega) hs.q13
  have h8 := @si_ge b q
  unfold tpS tp0
  rw [setr_ne (by omega), rcR_lo (by omega) (by omega), mvR_ne (by omega) (by omega), hs.ris h5, riR_s (by omega) hs.q13]
theorem tpS_12 (h : RI r nb nt) {t : Nat} : tpS r t 12 = r 12 + 1 := setr_eq
theorem occ_tpS (h : RI r nb nt) {t b q : Nat} (ht : t < nt) (hs : st r nb t b q) : occ (tpS r t) b + 1 = occ r b := by
  have hb := hs.1
  have hq := hs.q13
  have h5 := h.nb5
  have h24 := h.nt24
  unfold occ
  have e := sumN_upd (f := fun q => if q ≠ 6 ∧ r (si b q) ≠ 0 then 1 else 0) (g := fun q => if q ≠ 6 ∧ tpS r t (si b q) ≠ 0 then 1 else 0) q hq (fun p hp hne => by
    by_cases p6 : p = 6
    · simp [p6]
    · have h7 := si_lt (show b < 5 by omega) hp
      have h8 := @si_ge b p
      rw [tpS_lo h ht hs (by omega) (by omega) (by omega) (by omega) (by omega) (by omega) (fun z => hne ((si_inj hp p6 hq hs.2.1).mp z).2) (by omega)])
  have e1 : ¬ r (si b q) = 0 := by rw [hs.2.2.2.2.2]; exact nI_ne0 (by omega) (by omega)
  simp only [tpS_s h ht hs, ne_eq, not_true_eq_false, and_false, if_false, hs.2.1, not_false_eq_true, e1, and_self, if_true] at e
  omega
theorem occ_12 {b : Nat} : occ r b ≤ 12 := by
  have h : ∀ n, n ≤ 13 → sumN (fun q => if q ≠ 6 ∧ r (si b q) ≠ 0 then 1 else 0) n ≤ (if 6 < n then n - 1 else n) := by
    intro n
    induction n with
    | zero => intro _; exact Nat.zero_le _
    | succ n ih =>
      intro hn
      have := ih (by omega)
      show sumN (fun q => if q ≠ 6 ∧ r (si b q) ≠ 0 then 1 else 0) n + (if n ≠ 6 ∧ r (si b n) ≠ 0 then 1 else 0) ≤ _
      by_cases e : n = 6
      · subst e
        simp only [ne_eq, not_true_eq_false, false_and, if_false]
        simp at this ⊢
        omega
      · split at this <;> split <;> split <;> omega
  have := h 13 (Nat.le_refl _)
  simpa [occ] using this
theorem occ_0 (h : RI r nb nt) {b : Nat} (hb : b < nb) (h0 : occ r b = 0) : tmu r b (tqr r nt b) = 0 := by
  have h5 := h.nb5
  have h24 := h.nt24
  obtain ⟨a, s, l, ⟨ha1, ha6⟩, -, -, ha, -, -⟩ := h.b b hb
  have hz : ∀ q, q < 13 → q ≠ 6 → r (si b q) = 0 := by
    intro q hq h6
    by_cases e : r (si b q) = 0
    · exact e
    · have := sumN_le (f := fun q => if q ≠ 6 ∧ r (si b q) ≠ 0 then 1 else 0) q hq
      unfold occ at h0
      rw [h0] at this
      simp only [ne_eq, h6, not_false_eq_true, e, and_self, if_true] at this
      omega
  have e : tqr r nt b = 0 := by
    rw [← tq_swap h.s hb h5 h24 ha ha6]
    refine sumI_zero (fun i hi => ?_)
    unfold gq
    by_cases c : 6 - a + i = 6
    · rw [if_pos c]
    · rw [if_neg c, if_pos (hz _ (by omega) c)]
  rw [e]
  exact tmu_0 h hb
end
