variable {Mb : SMem}
def DS (I : kInts) (n : Nat) (T : Nat → Nat) (c : Nat) (σ : sg) (r : Nat → Int32) (nb nt : Nat) : Prop := CS I n T c σ ∧ RM I 85 r nb nt ∧ (nb ≤ 5 ∧ nt ≤ 24) ∧ (okS σ = true → RI r nb nt ∧ r 9 = nI (tot r nt) ∧ ∀ t, t < nt → r (89 + 7 * t + 4) = 1)
def RD (I : kInts) (L : kLngs) (n : Nat) (T : Nat → Nat) (σ : sg) (r : Nat → Int32) : Prop := RS I L n T σ ∧ (okS σ = true → eqR (I 541) r)
def unS (r : Nat → Int32) (nt : Nat) : Nat := sumN (fun t => if r (89 + 7 * t + 5) = -1 then 1 else 0) nt
section
variable {N : Nat} {I : kInts} {L : kLngs} {n c : Nat} {T : Nat → Nat} {σ : sg} {r s : Nat → Int32} {nb nt : Nat}
theorem seF_ok {i : Nat} (hR : RI r nb nt) (hp : ∀ t, t < nt → r (89 + 7 * t + 4) = 1) (h : okS (seF n T r nb nt i).1 = true) : ∃ t b q, t < nt ∧ r (89 + 7 * t + 5) = -1 ∧ b < 5 ∧ q < 13 ∧ (seF n T r nb nt i).2 = siR r t b q ∧ RI (siR r t b q) nb nt := by
  have h5 := hR.nb5
  unfold seF at h ⊢
  by_cases cm : isM n T i = true
  · rw [if_pos cm] at h ⊢
    cases hf : fnd r nt (nmc n T i) with
    | none => rw [hf] at h; cases h
    | some t =>
      rw [hf] at h
      have ht := fnd_lt hf
      simp only at h ⊢
      by_cases cs : r (89 + 7 * t + 5) = -1
      · rw [if_pos cs] at h ⊢
        unfold seG at h ⊢
        by_cases c4 : cN n T 0 nb (i + 1) = 0
        · rw [if_pos c4] at h ⊢
          have hb := (cN_in c4).2
          generalize nuv n T (i + 1) = b at hb h ⊢
          obtain ⟨a, s', l, ha, -, -, ra, -⟩ := hR.b b hb
          rw [ra, kx_nI (by omega)] at h ⊢
          unfold seH at h ⊢
          by_cases c5 : sdC n T (i + 1 + 1) = 0
          · rw [if_pos c5] at h ⊢
            unfold seI at h ⊢
            by_cases c6 : cN n T 1 (a + 1) (i + 1 + 1 + 1) = 0
            · rw [if_pos c6] at h ⊢
              obtain ⟨p1, p2, p3, p4⟩ := plc_ok (n := n) (T := T) (i := i + 1 + 1) (cN_in c6) (show a ≤ 6 by omega)
              generalize plc n T (i + 1 + 1) (nuv n T (i + 1 + 1 + 1)) = q at p2 p3 p4 h ⊢
              by_cases c7 : r (si b q) = 0
              · rw [if_pos c7] at h ⊢
                by_cases c8 : cG n T 59 (i + 1 + 1 + 1 + 1) = 0
                · rw [if_pos c8] at h ⊢
                  exact ⟨t, b, q, ht, cs, by omega, by omega, rfl, RI_si hR ht cs (hp t ht) hb ra (by omega) p2 p3 p4 c7⟩
                · rw [if_neg c8] at h; cases h
              · rw [if_neg c7] at h; cases h
            · rw [if_neg c6] at h; cases h
          · rw [if_neg c5] at h; cases h
        · rw [if_neg c4] at h; cases h
      · rw [if_neg cs] at h; cases h
  · rw [if_neg cm] at h; cases h
theorem unS_si {t b q : Nat} (ht : t < nt) (hb : b < 5) (hq : q < 13) (hu : r (89 + 7 * t + 5) = -1) : unS (siR r t b q) nt + 1 = unS r nt := by
  have h := sumN_upd (f := fun t => if r (89 + 7 * t + 5) = -1 then 1 else 0) (g := fun s => if siR r t b q (89 + 7 * s + 5) = -1 then 1 else 0) t ht (fun j hj hne => by
    show (if siR r t b q (89 + 7 * j + 5) = -1 then 1 else 0) = (if r (89 + 7 * j + 5) = -1 then 1 else 0)
    rw [siR_ne (by have := si_lt hb hq; omega) (by omega) (by omega)])
  have e1 : siR r t b q (89 + 7 * t + 5) = nI b := siR_5
  have hne : ¬ nI b = -1 := nI_ne1 (by omega)
  simp only [hu, e1, hne, if_true, if_false] at h
  unfold unS
  omega
theorem tot_si {t b q : Nat} (hb : b < 5) (hq : q < 13) : tot (siR r t b q) nt = tot r nt := by
  have h1 := si_lt hb hq
  have h2 := @si_ge b q
  unfold tot
  rw [siR_ne (by omega) (by omega) (by omega), sumN_congr (f := pu r) (fun i hi => by unfold pu; rw [siR_ne (by omega) (by omega) (by omega)])]
end
