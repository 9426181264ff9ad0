variable {Mb : SMem}
def fB (t : Nat) (r f r' f' : Nat → Int32) : Prop := (f' t = f t ∧ r' (89 + 7 * t + 5) = r (89 + 7 * t + 5)) ∨ (f' t = 1 ∧ ¬ r (89 + 7 * t + 5) = -1 ∧ r' (89 + 7 * t + 5) = -1)
def duf (nb nt t : Nat) : Nat → Nat → (Nat → Int32) → Int32
  | 0, _, _ => -1
  | k + 1, i, r => if r (89 + 7 * t + 5) = -1 then -1 else if dyR nb nt r (89 + 7 * t + 4) = 0 then duf nb nt t k (i + 1) (dyR nb nt r) else if dyR nb nt r (89 + 7 * t + 5) = -1 then nI (i + 1) else duf nb nt t k (i + 1) (dyR nb nt r)
section
variable {N : Nat} {I : kInts} {L : kLngs} {r f : Nat → Int32} {nb nt m t : Nat}
theorem duf_u : ∀ (k i : Nat) (r : Nat → Int32), r (89 + 7 * t + 5) = -1 → duf nb nt t k i r = -1
  | 0, _, _, _ => rfl
  | k + 1, i, r, h => by unfold duf; rw [if_pos h]
theorem fB_tr {r1 f1 r2 f2 : Nat → Int32} (h1 : fB t r f r1 f1) (h2 : fB t r1 f1 r2 f2) : fB t r f r2 f2 := by
  rcases h1 with ⟨a, b⟩ | ⟨a, b, c⟩
  · rcases h2 with ⟨d, e⟩ | ⟨d, e, g⟩
    · exact Or.inl ⟨d.trans a, e.trans b⟩
    · exact Or.inr ⟨d, by rw [← b]; exact e, g⟩
  · rcases h2 with ⟨d, e⟩ | ⟨d, e, g⟩
    · exact Or.inr ⟨d.trans a, b, e.trans c⟩
    · exact absurd c e
theorem fB_S (h : RI r nb nt) (ht : t < nt) {a b q : Nat} (ha : a < nt) (hs : st r nb a b q) : fB t r f (tpS r a) (setr f a 1) ∧ tpS r a (89 + 7 * t + 4) = r (89 + 7 * t + 4) := by
  have h5 := h.nb5
  have h24 := h.nt24
  have q7 := si_lt (show b < 5 from Nat.lt_of_lt_of_le hs.1 h5) hs.q13
  have q8 := @si_ge b q
  refine ⟨?_, tpS_lo h ha hs (by omega) (by omega) (by omega) (by omega) (by omega) (by omega) (by omega) (by omega)⟩
  by_cases e : t = a
  · subst e
    refine Or.inr ⟨setr_eq, ?_, ?_⟩
    · rw [hs.2.2.2.1]
      have := hs.1
      intro z
      have z2 := congrArg Int32.toInt z
      rw [nI_toInt (by omega)] at z2
      have : (-1 : Int32).toInt = -1 := by decide
      omega
    · unfold tpS tp0
      rw [setr_ne (by omega), rcR_lo (by omega) (by omega), mvR_ne (by omega) (by omega)]
      exact (riS_5 h ha).1
  · exact Or.inl ⟨setr_ne e, tpS_lo h ha hs (by omega) (by omega) (by omega) (by omega) (by omega) (by omega) (by omega) (by omega)⟩
theorem fB_tpL (ht : t < nt) {b : Nat} (hb : b < nb) : ∀ (k : Nat) (r f : Nat → Int32), RI r nb nt → fB t r f (tpL nt b k r) (tpF nt b k r f) ∧ tpL nt b k r (89 + 7 * t + 4) = r (89 + 7 * t + 4)
  | 0, r, f, _ => ⟨Or.inl ⟨rfl, rfl⟩, rfl⟩
  | k + 1, r, f, h => by
    unfold tpL tpF
    by_cases c : tmu r b (tqr r nt b) = 0
    · rw [if_pos c, if_pos c]
      exact ⟨Or.inl ⟨rfl, rfl⟩, rfl⟩
    · rw [if_neg c, if_neg c]
      obtain ⟨q, ha, hs⟩ := fa_st h hb c
      have h1 := fB_S (f := f) h ht ha hs
      have h2 := fB_tpL ht hb k (tpS r (fa r nt b)) (setr f (fa r nt b) 1) (RI_tpS h ha hs)
      exact ⟨fB_tr h1.1 h2.1, h2.2.trans h1.2⟩
theorem fB_tbL (ht : t < nt) : ∀ (k i : Nat) (r f : Nat → Int32), RI r nb nt → i + k = nb → fB t r f (tbL nt k i r) (tbF nt k i r f) ∧ tbL nt k i r (89 + 7 * t + 4) = r (89 + 7 * t + 4)
  | 0, _, r, f, _, _ => ⟨Or.inl ⟨rfl, rfl⟩, rfl⟩
  | k + 1, i, r, f, h, e => by
    have h1 := fB_tpL ht (show i < nb by omega) 12 r f h
    have h2 := fB_tbL ht k (i + 1) (tpL nt i 12 r) (tpF nt i 12 r f) (RI_tpL (by omega) 12 r h) (by omega)
    exact ⟨fB_tr h1.1 h2.1, h2.2.trans h1.2⟩
theorem eaS_45 {s : Nat} : eaS r nt s (89 + 7 * t + 4) = r (89 + 7 * t + 4) ∧ eaS r nt s (89 + 7 * t + 5) = r (89 + 7 * t + 5) := by
  unfold eaS
  split
  · exact ⟨rfl, rfl⟩
  · split
    · exact ⟨mvR_ne (by omega) (by omega), mvR_ne (by omega) (by omega)⟩
    · exact ⟨mvR_ne (by omega) (by omega), mvR_ne (by omega) (by omega)⟩
theorem eaL_45 : ∀ (k i : Nat) (r : Nat → Int32), eaL nt k i r (89 + 7 * t + 4) = r (89 + 7 * t + 4) ∧ eaL nt k i r (89 + 7 * t + 5) = r (89 + 7 * t + 5)
  | 0, _, _ => ⟨rfl, rfl⟩
  | k + 1, i, r => ⟨(eaL_45 k (i + 1) _).1.trans eaS_45.1, (eaL_45 k (i + 1) _).2.trans eaS_45.2⟩
def rtB (t : Nat) (r r' : Nat → Int32) : Prop := (r' (89 + 7 * t + 4) = r (89 + 7 * t + 4) ∧ r' (89 + 7 * t + 5) = r (89 + 7 * t + 5)) ∨ (r' (89 + 7 * t + 4) = 0 ∧ r' (89 + 7 * t + 5) = -1)
theorem riS_o (h : RI r nb nt) {s : Nat} (hs : s < nt) (e : t ≠ s) : riS r s (89 + 7 * t + 5) = r (89 + 7 * t + 5) := riS_ne h hs (by omega) (by omega) (by omega)
theorem agS_45 (h : RI r nb nt) (ht : t < nt) {s : Nat} (hs : s < nt) : rtB t r (agS r s) := by
  have h24 := h.nt24
  unfold agS
  split
  · exact Or.inl ⟨rfl, rfl⟩
  · split
    · have hA := RI_age h (t := s) (r (89 + 7 * s + 3) + 1)
      unfold rtR
      by_cases e : t = s
      · subst e
        refine Or.inr ⟨?_, ?_⟩
        · rw [rcR_lo (by omega) (by omega)]
          exact setr_eq
        · rw [rcR_lo (by omega) (by omega), setr_ne (by omega), mvR_ne (by omega) (by omega)]
          exact (riS_5 hA hs).1
      · refine Or.inl ⟨?_, ?_⟩
        · rw [rcR_lo (by omega) (by omega), setr_ne (by omega), mvR_ne (by omega) (by omega), riS_ne hA hs (by omega) (by omega) (by omega), setr_ne (by omega)]
        · rw [rcR_lo (by omega) (by omega), setr_ne (by omega), mvR_ne (by omega) (by omega), riS_ne hA hs (by omega) (by omega) (by omega), setr_ne (by omega)]
    · exact Or.inl ⟨setr_ne (by omega), setr_ne (by omega)⟩
theorem rtB_tr {r1 r2 : Nat → Int32} (h1 : rtB t r r1) (h2 : rtB t r1 r2) : rtB t r r2 := by
  rcases h2 with ⟨c, d⟩ | h2
  · rcases h1 with ⟨a, b⟩ | ⟨a, b⟩
    · exact Or.inl ⟨c.trans a, d.trans b⟩
    · exact Or.inr ⟨c.trans a, d.trans b⟩
  · exact Or.inr h2
theorem agL_45 (ht : t < nt) : ∀ (k i : Nat) (r : Nat → Int32), RI r nb nt → i + k = nt → rtB t r (agL k i r)
  | 0, _, _, _, _ => Or.inl ⟨rfl, rfl⟩
  | k + 1, i, r, h, e => rtB_tr (agS_45 h ht (by omega)) (agL_45 ht k (i + 1) _ (RI_agS h (by omega)) (by omega))
theorem mdR_45 (h : RI r nb nt) (ht : t < nt) : rtB t r (mdR nt r) := by
  have h1 := RI_6 h (r 6 + 1)
  have h2 := RI_eaL nt 0 _ h1 (by omega)
  have h3 := eaL_45 (nt := nt) (t := t) nt 0 (setr r 6 (r 6 + 1))
  have h4 := agL_45 ht nt 0 _ h2 (by omega)
  unfold mdR
  refine rtB_tr (Or.inl ⟨?_, ?_⟩) h4
  · rw [h3.1, setr_ne (by omega)]
  · rw [h3.2, setr_ne (by omega)]
theorem day_un (h : RI r nb nt) (ht : t < nt) (hu : r (89 + 7 * t + 5) = -1) : dyF nb nt r f t = f t ∧ dyR nb nt r (89 + 7 * t + 5) = -1 := by
  have h1 := mdR_45 h ht
  have h2 := (fB_tbL (f := f) ht nb 0 _ (RI_md h) (by omega)).1
  have h3 : mdR nt r (89 + 7 * t + 5) = -1 := by
    rcases h1 with ⟨-, b⟩ | ⟨-, b⟩
    · exact b.trans hu
    · exact b
  rcases h2 with ⟨a, b⟩ | ⟨a, b, c⟩
  · exact ⟨a, b.trans h3⟩
  · exact absurd h3 b
theorem day_se (h : RI r nb nt) (ht : t < nt) (hu : ¬ r (89 + 7 * t + 5) = -1) (hf : f t = 0) : (dyF nb nt r f t = 0 ∧ ¬ dyR nb nt r (89 + 7 * t + 4) = 0 ∧ ¬ dyR nb nt r (89 + 7 * t + 5) = -1) ∨ (dyF nb nt r f t = 1 ∧ ¬ dyR nb nt r (89 + 7 * t + 4) = 0 ∧ dyR nb nt r (89 + 7 * t + 5) = -1) ∨ (dyF nb nt r f t = 0 ∧ dyR nb nt r (89 + 7 * t + 4) = 0 ∧ dyR nb nt r (89 + 7 * t + 5) = -1) := by
  obtain ⟨b, q, hs⟩ := h.seat ht hu
  have hp := h.pres ht hs
  have h1 := mdR_45 h ht
  obtain ⟨h2, h4⟩ := fB_tbL (f := f) ht nb 0 _ (RI_md h) (by omega)
  have one : ¬ (1 : Int32) = 0 := by decide
  rcases h1 with ⟨a1, a2⟩ | ⟨a1, a2⟩
  · have e4 : ¬ dyR nb nt r (89 + 7 * t + 4) = 0 := by
      intro z
      have e : dyR nb nt r (89 + 7 * t + 4) = 1 := (h4.trans a1).trans hp
      rw [e] at z
      exact one z
    rcases h2 with ⟨c, d⟩ | ⟨c, d, g⟩
    · refine Or.inl ⟨c.trans hf, e4, ?_⟩
      intro z
      exact hu ((a2.symm.trans d.symm).trans z)
    · exact Or.inr (Or.inl ⟨c, e4, g⟩)
  · rcases h2 with ⟨c, d⟩ | ⟨c, d, g⟩
    · exact Or.inr (Or.inr ⟨c.trans hf, h4.trans a1, d.trans a2⟩)
    · exact absurd a2 d
end
