variable {Mb : SMem}
def nn (x : Int32) : Prop := x = nI (kx x)
def sumN (f : Nat → Nat) : Nat → Nat
  | 0 => 0
  | n + 1 => sumN f n + f n
def RIg (r : Nat → Int32) (nb nt : Nat) : Prop := (r 7 = nI nb ∧ r 8 = nI nt ∧ nb ≤ 5 ∧ nt ≤ 24) ∧ (∃ v, v ≤ 20 ∧ r 0 = nI v) ∧ (∃ v, v ≤ 99 ∧ r 1 = nI v) ∧ (∃ v, v ≤ 99 ∧ r 2 = nI v) ∧ (∃ v, v ≤ 999 ∧ r 3 = nI v) ∧ (∃ v, v ≤ 999 ∧ r 4 = nI v) ∧ (∃ v, v ≤ 12 ∧ r 13 = nI v)
def RIb (r : Nat → Int32) (nb : Nat) : Prop := ∀ b, b < nb → ∃ a s l, (1 ≤ a ∧ a ≤ 6) ∧ (1 ≤ s ∧ s ≤ 99) ∧ l ≤ 999 ∧ r (14 + 15 * b + 0) = nI a ∧ r (14 + 15 * b + 1) = nI s ∧ r (14 + 15 * b + 2) = nI l
def RIt (r : Nat → Int32) (nt : Nat) : Prop := ∀ t, t < nt → (∃ w, (1 ≤ w ∧ w ≤ 99) ∧ r (89 + 7 * t + 1) = nI w) ∧ (r (89 + 7 * t + 4) = 1 ∨ r (89 + 7 * t + 4) = 0 ∧ r (89 + 7 * t + 5) = -1 ∧ r (89 + 7 * t + 2) = 0)
def st (r : Nat → Int32) (nb t b q : Nat) : Prop := b < nb ∧ q ≠ 6 ∧ (∃ a, r (14 + 15 * b + 0) = nI a ∧ a ≤ 6 ∧ 6 - a ≤ q ∧ q ≤ 6 + a) ∧ r (89 + 7 * t + 5) = nI b ∧ r (89 + 7 * t + 6) = pz q ∧ r (si b q) = nI (t + 1)
def RIs (r : Nat → Int32) (nb nt : Nat) : Prop := (∀ t, t < nt → (r (89 + 7 * t + 5) = -1 ∧ r (89 + 7 * t + 6) = 0) ∨ ∃ b q, st r nb t b q) ∧ (∀ b, b < nb → ∀ q, q < 13 → q ≠ 6 → r (si b q) = 0 ∨ ∃ t, t < nt ∧ r (si b q) = nI (t + 1) ∧ st r nb t b q)
def pu (r : Nat → Int32) (t : Nat) : Nat := kx (r (89 + 7 * t + 2))
def RIc (r : Nat → Int32) (nt : Nat) : Prop := nn (r 5) ∧ (∀ t, t < nt → nn (r (89 + 7 * t + 2))) ∧ kx (r 5) + sumN (pu r) nt ≤ 100000 + 10000 * nt
def RI (r : Nat → Int32) (nb nt : Nat) : Prop := RIg r nb nt ∧ RIb r nb ∧ RIt r nt ∧ RIs r nb nt ∧ RIc r nt
theorem st.q13 {r : Nat → Int32} {nb t b q : Nat} (h : st r nb t b q) : q < 13 := by
  obtain ⟨-, -, ⟨a, -, h1, h2, h3⟩, -⟩ := h
  omega
def tqf (r : Nat → Int32) (b t : Nat) : Int32 := if r (89 + 7 * t + 5) = nI b then r (89 + 7 * t + 6) * r (89 + 7 * t + 1) else 0
def tqr (r : Nat → Int32) (nt b : Nat) : Int32 := sumI (tqf r b) nt
def tl (r : Nat → Int32) (b : Nat) (x : Int32) : Int32 := kmax (-9) (kmin 9 (x / r (14 + 15 * b + 1)))
def ht (r : Nat → Int32) (nt b : Nat) (p : Int32) : Int32 := -p * tl r b (tqr r nt b)
def oh (r : Nat → Int32) (nt t : Nat) : Int32 := ht r nt (kx (r (89 + 7 * t + 5))) (r (89 + 7 * t + 6))
def prS (r : Nat → Int32) (nt b : Nat) (p : Int32) : Int32 := r 1 + kabs p + kmax 0 (ht r nt b p)
def uprS (r : Nat → Int32) (nt s t : Nat) : Int32 := kmax 1 (r 2 + oh r nt t - oh r nt s)
def tmu (r : Nat → Int32) (b : Nat) (x : Int32) : Int32 := if r (14 + 15 * b + 2) < kabs x then 1 else 0
def twS (r : Nat → Int32) (nt t b : Nat) (p : Int32) : Int32 := if r (89 + 7 * t + 5) = nI b then tqr r nt b + p * r (89 + 7 * t + 1) - r (89 + 7 * t + 6) * r (89 + 7 * t + 1) else tqr r nt b + p * r (89 + 7 * t + 1)
section
variable {N : Nat} {I : kInts} {L : kLngs} {r f : Nat → Int32} {nb nt : Nat}
theorem RI.g (h : RI r nb nt) : RIg r nb nt := h.1
theorem RI.b (h : RI r nb nt) : RIb r nb := h.2.1
theorem RI.t (h : RI r nb nt) : RIt r nt := h.2.2.1
theorem RI.s (h : RI r nb nt) : RIs r nb nt := h.2.2.2.1
theorem RI.c (h : RI r nb nt) : RIc r nt := h.2.2.2.2
theorem RI.nb5 (h : RI r nb nt) : nb ≤ 5 := h.1.1.2.2.1
theorem RI.nt24 (h : RI r nb nt) : nt ≤ 24 := h.1.1.2.2.2
theorem RI.r7 (h : RI r nb nt) : r 7 = nI nb := h.1.1.1
theorem RI.r8 (h : RI r nb nt) : r 8 = nI nt := h.1.1.2.1
theorem RIs.own {b : Nat} (h : RIs r nb nt) (hb : b < nb) (h24 : nt ≤ 24) : ∀ q, q < 13 → q ≠ 6 → r (si b q) = 0 ∨ ∃ t, t < 24 ∧ r (si b q) = nI (t + 1) := fun q hq h6 => by
  rcases h.2 b hb q hq h6 with e | ⟨t, ht, e, -⟩
  · exact Or.inl e
  · exact Or.inr ⟨t, by omega, e⟩
theorem tq_swap {b a : Nat} (h : RIs r nb nt) (hb : b < nb) (h5 : nb ≤ 5) (h24 : nt ≤ 24) (ha : r (14 + 15 * b + 0) = nI a) (ha6 : a ≤ 6) : sumI (fun i => gq r b (6 - a + i)) (2 * a + 1) = tqr r nt b := by
  have hg : ∀ i, i < 2 * a + 1 → gq r b (6 - a + i) = sumI (fun t => if 6 - a + i ≠ 6 ∧ r (si b (6 - a + i)) = nI (t + 1) then pz (6 - a + i) * r (89 + 7 * t + 1) else 0) nt := by
    intro i hi
    unfold gq
    by_cases h6 : 6 - a + i = 6
    · rw [if_pos h6, sumI_zero (fun t _ => if_neg (fun z => z.1 h6))]
    · rw [if_neg h6]
      rcases h.2 b hb (6 - a + i) (by omega) h6 with e | ⟨t, ht, e, -⟩
      · rw [if_pos e, sumI_zero (fun t ht => if_neg (fun z => nI_ne0 (by omega) (by omega) (z.2.symm.trans e)))]
      · rw [if_neg (by rw [e]; exact nI_ne0 (by omega) (by omega)), sumI_one t ht (fun s hs hne => if_neg (fun z => hne (by
          have := (nI_eq (by omega) (by omega)).mp (z.2.symm.trans e)
          omega)))]
        rw [if_pos ⟨h6, e⟩, e, kx_nI (by omega)]
        rfl
  have hf : ∀ t, t < nt → tqf r b t = sumI (fun i => if 6 - a + i ≠ 6 ∧ r (si b (6 - a + i)) = nI (t + 1) then pz (6 - a + i) * r (89 + 7 * t + 1) else 0) (2 * a + 1) := by
    intro t ht
    unfold tqf
    have hB : ∀ i, i < 2 * a + 1 → 6 - a + i ≠ 6 ∧ r (si b (6 - a + i)) = nI (t + 1) → r (89 + 7 * t + 5) = nI b ∧ r (89 + 7 * t + 6) = pz (6 - a + i) := by
      intro i hi z
      rcases h.2 b hb (6 - a + i) (by omega) z.1 with e | ⟨s, hs, e, hst⟩
      · exact absurd (z.2.symm.trans e) (nI_ne0 (by omega) (by omega))
      · have : s = t := by
          have := (nI_eq (by omega) (by omega)).mp (e.symm.trans z.2)
          omega
        subst this
        exact ⟨hst.2.2.2.1, hst.2.2.2.2.1⟩
    by_cases hbd : r (89 + 7 * t + 5) = nI b
    · rw [if_pos hbd]
      rcases h.1 t ht with e | ⟨b2, q, hst⟩
      · exact absurd (hbd.symm.trans e.1) (nI_ne1 (by omega))
      · obtain ⟨h1, h2, ⟨a2, h3, h4, h5', h6⟩, h7, h8, h9⟩ := hst
        have hbb : b2 = b := (nI_eq (by omega) (by omega)).mp (h7.symm.trans hbd)
        subst hbb
        have haa : a2 = a := (nI_eq (by omega) (by omega)).mp (h3.symm.trans ha)
        subst haa
        have hq : 6 - a2 + (q - (6 - a2)) = q := by omega
        rw [sumI_one (q - (6 - a2)) (by omega) (fun i hi hne => if_neg (fun z => hne (by
          have := (pz_eq (by omega) (by omega)).mp ((hB i hi z).2.symm.trans h8)
          omega)))]
        rw [hq, if_pos ⟨h2, h9⟩, h8]
    · rw [if_neg hbd, sumI_zero (fun i hi => if_neg (fun z => hbd (hB i hi z).1))]
  unfold tqr
  rw [sumI_congr hg, sumI_congr hf, sumI_swap]
theorem st.kxb {t b q : Nat} (h : st r nb t b q) (h5 : nb ≤ 5) : kx (r (89 + 7 * t + 5)) = b := by
  rw [h.2.2.2.1, kx_nI]
  have := h.1
  omega
theorem oh_st {t b q : Nat} (h : st r nb t b q) (h5 : nb ≤ 5) : oh r nt t = ht r nt b (pz q) := by
  unfold oh
  rw [h.kxb h5, h.2.2.2.2.1]
theorem nI_eqI {a b : Nat} (ha : a < 2147483648) (hb : b < 2147483648) : (nI a = nI b) = (a = b) := propext (nI_eq ha hb)
theorem st.seated {t b q : Nat} (h : st r nb t b q) (h5 : nb ≤ 5) : ¬ r (89 + 7 * t + 5) = -1 := by
  rw [h.2.2.2.1]
  have := h.1
  exact nI_ne1 (by omega)
theorem RI.seat (h : RI r nb nt) {t : Nat} (ht : t < nt) (hne : ¬ r (89 + 7 * t + 5) = -1) : ∃ b q, st r nb t b q := (h.s.1 t ht).resolve_left (fun z => hne z.1)
def aSeat (r : Nat → Int32) (nt t b q : Nat) : Int32 := if r (89 + 7 * t + 4) = 0 then 1 else if r (si b q) = 0 then (if r (89 + 7 * t + 2) < prS r nt b (pz q) then 3 else if tmu r b (twS r nt t b (pz q)) = 0 then 0 else 4) else 2
def aSale (r : Nat → Int32) (nt s t : Nat) (u : Int32) : Int32 := if r (89 + 7 * s + 5) = -1 then 5 else if r (89 + 7 * t + 5) = -1 then 5 else if r (89 + 7 * s + 5) = r (89 + 7 * t + 5) then (if r (89 + 7 * s + 1) - u < 1 then 7 else if 99 < r (89 + 7 * t + 1) + u then 7 else if r (89 + 7 * t + 2) < u * uprS r nt s t then 3 else if tmu r (kx (r (89 + 7 * s + 5))) (tqr r nt (kx (r (89 + 7 * s + 5))) + u * (r (89 + 7 * t + 6) - r (89 + 7 * s + 6))) = 0 then 0 else 4) else 6
end
