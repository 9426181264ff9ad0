/-! the law's market while it is made: its lists grow -/
def Lbx (M : kMem) (A : kA) (r : Nat → Int32) (nb : Nat) : Prop := ∀ b, b < nb → (kt M (aB A b) 31 = true ∧ kI M (aB A b) 0 = nI b ∧ kI M (aB A b) 1 = r (14 + 15 * b + 0) ∧ kI M (aB A b) 2 = r (14 + 15 * b + 1) ∧ kI M (aB A b) 3 = r (14 + 15 * b + 2) ∧ kR M (aB A b) 4 = aM A b) ∧ Ey M (aM A b)
def BW (M : kMem) (A : kA) (r : Nat → Int32) (nb nt : Nat) : Prop := Lg M A r ∧ (Lx M (aHB A) (aEB A) (aB A) nb ∧ Lx M (aHT A) (aET A) (aT A) nt) ∧ Lbx M A r nb ∧ Lt M A r nt ∧ (∀ b b', b < nb → b' < nb → aM A b = aM A b' → b = b') ∧ aHB A ≠ aHT A ∧ (1 ≤ nb → 1 ≤ nt → aEB A ≠ aET A)
def Tz (s : Nat) : Prop := 30 ≤ s ∧ s ≤ 34 ∨ s = 21
section
variable {N : Nat} {M M' M1 M2 : kMem} {a s i j k k2 l n x y g nb nt : Nat} {f f' : Nat → Nat} {A A' : kA} {r : Nat → Int32} {v1 v2 v3 cc w p ag : Int32}
theorem kn_pre (hc : ∃ l, M'.1 = M.1 ++ l) (h : kt M a s = true) : kn M' a = kn M a := by
  obtain ⟨l, hc⟩ := hc
  have := kt_le h
  unfold kn
  rw [kcell_pre hc this.1 this.2]
theorem kt_p (hc : ∃ l, M'.1 = M.1 ++ l) (h : kt M a s = true) : kt M' a s = true := by
  obtain ⟨l, hc⟩ := hc
  exact kt_pre hc h
theorem Lx.kp (h : Lx M l a f n) (hc : ∃ l, M'.1 = M.1 ++ l) (e1 : ∀ j, kI M' l j = kI M l j ∧ kR M' l j = kR M l j) (e2 : 1 ≤ n → ∀ j, kR M' a j = kR M a j) : Lx M' l a f n := by
  obtain ⟨h1, h2, h3⟩ := h
  refine ⟨kt_p hc h1, (e1 2).1.trans h2, ?_⟩
  rcases h3 with ⟨n0, z1, z2⟩ | ⟨n1, b1, b2, b3, b4, b5, b6, b7⟩
  · exact Or.inl ⟨n0, (e1 1).2.trans z1, by rw [(e1 1).1]; exact z2⟩
  · exact Or.inr ⟨n1, kt_p hc b1, (e1 1).2.trans b2, (e1 2).1.trans b3, kt_p hc b4, by rw [kn_pre hc b4]; exact b5, (kn_pre hc b4).trans b6, fun k hk => (e2 n1 k).trans (b7 k hk)⟩
theorem Lx.fg (h : Lx M l a f n) (e : ∀ k, k < n → f' k = f k) : Lx M l a f' n := by
  obtain ⟨h1, h2, h3⟩ := h
  refine ⟨h1, h2, h3.imp id (fun ⟨n1, b1, b2, b3, b4, b5, b6, b7⟩ => ⟨n1, b1, b2, b3, b4, b5, b6, fun k hk => (b7 k hk).trans (e k hk).symm⟩)⟩
theorem Lx.ka (h : Lx M l a f n) (hn : 1 ≤ n) : kt M a 21 = true := by
  obtain ⟨h1, h2, h3⟩ := h
  rcases h3 with ⟨n0, -⟩ | ⟨n1, b1, b2, b3, b4, -⟩
  · omega
  · exact b4
theorem Ey.kp (h : Ey M x) (hc : ∃ l, M'.1 = M.1 ++ l) (e : ∀ j, kR M' x j = kR M x j) : Ey M' x := ⟨kt_p hc h.1, (e 1).trans h.2.1, (e 2).trans h.2.2.1, (e 3).trans h.2.2.2⟩
theorem Lg.kp (h : Lg M A r) (hc : ∃ l, M'.1 = M.1 ++ l) (e : ∀ j, kI M' (aH A) j = kI M (aH A) j ∧ kR M' (aH A) j = kR M (aH A) j) : Lg M' A r := by
  obtain ⟨⟨g1, g2, g3⟩, g4, g5, g6, g7, g8, g9, g10, g11, g12, g13⟩ := h
  exact ⟨⟨kt_p hc g1, (e _).2.trans g2, (e _).2.trans g3⟩, (e _).1.trans g4, (e _).1.trans g5, (e _).1.trans g6, (e _).1.trans g7, (e _).1.trans g8, (e _).1.trans g9, (e _).1.trans g10, (e _).1.trans g11, (e _).1.trans g12, (e _).1.trans g13⟩
theorem Lbx.kp (h : Lbx M A r nb) (hc : ∃ l, M'.1 = M.1 ++ l) (e : ∀ a j s, kt M a s = true → (s = 31 ∨ s = 34) → kI M' a j = kI M a j ∧ kR M' a j = kR M a j) : Lbx M' A r nb := by
  intro b hb
  obtain ⟨⟨b1, b2, b3, b4, b5, b6⟩, b7⟩ := h b hb
  have q := fun j => e _ j 31 b1 (Or.inl rfl)
  exact ⟨⟨kt_p hc b1, (q _).1.trans b2, (q _).1.trans b3, (q _).1.trans b4, (q _).1.trans b5, (q _).2.trans b6⟩, b7.kp hc (fun j => (e _ j 34 b7.1 (Or.inr rfl)).2)⟩
theorem Lt.kp (h : Lt M A r nt) (hc : ∃ l, M'.1 = M.1 ++ l) (e : ∀ a j, kt M a 32 = true → kI M' a j = kI M a j ∧ kR M' a j = kR M a j) : Lt M' A r nt := by
  intro t ht
  obtain ⟨⟨t1, t2, t3, t4, t5, t6, t7⟩, t8, t9⟩ := h t ht
  have q := fun j => e _ j t1
  exact ⟨⟨kt_p hc t1, (q _).1.trans t2, (q _).1.trans t3, (q _).1.trans t4, (q _).1.trans t5, (q _).1.trans t6, (q _).1.trans t7⟩, fun z => (q _).2.trans (t8 z), fun b hb z => (q _).2.trans (t9 b hb z)⟩
theorem BW.kp (h : BW M A r nb nt) (hc : ∃ l, M'.1 = M.1 ++ l) (e : ∀ a j s, kt M a s = true → Tz s → kI M' a j = kI M a j ∧ kR M' a j = kR M a j) : BW M' A r nb nt := by
  obtain ⟨h1, ⟨h2, h3⟩, h4, h5, h6⟩ := h
  unfold Tz at e
  exact ⟨h1.kp hc (fun j => e _ j 30 h1.1.1 (by omega)), ⟨h2.kp hc (fun j => e _ j 33 h2.1 (by omega)) (fun hn j => (e _ j 21 (h2.ka hn) (by omega)).2), h3.kp hc (fun j => e _ j 33 h3.1 (by omega)) (fun hn j => (e _ j 21 (h3.ka hn) (by omega)).2)⟩, h4.kp hc (fun a j s z y => e a j s z (by omega)), h5.kp hc (fun a j z => e a j 32 z (by omega)), h6⟩
def fU (f : Nat → Nat) (n x : Nat) : Nat → Nat := fun k => if k = n then x else f k
theorem fU_n : fU f n x n = x := if_pos rfl
theorem fU_o (h : k ≠ n) : fU f n x k = f k := if_neg h
theorem BW.board (h : BW M A r nb 0) (hn : nb < 5) (b1 : kt M x 31 = true) (b2 : kI M x 0 = nI nb) (b3 : kI M x 1 = v1) (b4 : kI M x 2 = v2) (b5 : kI M x 3 = v3) (b6 : kR M x 4 = y) (b7 : Ey M y) (hy : ∀ b, b < nb → aM A b ≠ y) : ∃ M' A', F_AL_add N M (aHB A) x = some (1, M') ∧ BW M' A' (boR r nb v1 v2 v3) (nb + 1) 0 ∧ aH A' = aH A ∧ aB A' nb = x ∧ (∃ c, M'.1 = M.1 ++ c ∧ (c.map (fun c => c.2 + 1)).sum ≤ 11) ∧ ∀ a j s, (a = 0 ∨ kt M a s = true ∧ s ≠ 33 ∧ s ≠ 21) → kI M' a j = kI M a j ∧ kR M' a j = kR M a j := by
  obtain ⟨h1, ⟨h2, h3⟩, h4, h5, h6, h7, h8⟩ := h
  obtain ⟨M', a', c1, c2, c3, c4, ⟨cl, c5, c5'⟩, c6⟩ := al_add (N := N) h2 (by omega) (Or.inl b1)
  have hc : ∃ l, M'.1 = M.1 ++ l := ⟨cl, c5⟩
  have e : ∀ a j s, (a = 0 ∨ kt M a s = true ∧ s ≠ 33 ∧ s ≠ 21) → kI M' a j = kI M a j ∧ kR M' a j = kR M a j := by
    intro a j s ha
    have la := kt_le h2.1
    rcases ha with z | ⟨z1, z2, z3⟩
    · subst z
      exact c6 0 j (by omega) (by omega) (fun hn z => by have := (kt_le (h2.ka hn)).1; omega)
    · exact c6 a j (kt_le z1).2 (kt_ne z1 h2.1 z2) (fun hn => kt_ne z1 (h2.ka hn) z3)
  have eT : ∀ j, kI M' (aHT A) j = kI M (aHT A) j ∧ kR M' (aHT A) j = kR M (aHT A) j := fun j => c6 _ j (kt_le h3.1).2 (Ne.symm h7) (fun hn => kt_ne h3.1 (h2.ka hn) (by decide))
  refine ⟨M', ((aH A, aHB A, aHT A, a', aET A), fU (aB A) nb x, aT A, fU (aM A) nb y), c1, ⟨?_, ⟨c2, ?_⟩, ?_, fun t ht => absurd ht (Nat.not_lt_zero _), ?_, h7, fun _ z => absurd z (by omega)⟩, rfl, fU_n, ⟨cl, c5, c5'⟩, e⟩
  · have g := h1.kp hc (fun j => e _ j 30 (Or.inr ⟨h1.1.1, by decide, by decide⟩))
    obtain ⟨g0, g4, g5, g6, g7, g8, g9, g10, g11, g12, g13⟩ := g
    refine ⟨g0, ?_, ?_, ?_, ?_, ?_, ?_, ?_, ?_, ?_, ?_⟩
    all_goals (rw [boR_ne (by omega) (by omega)]; assumption)
  · exact h3.kp hc eT (fun z => absurd z (by omega))
  · have hb := h4.kp hc (fun a j s z1 z2 => e a j s (Or.inr ⟨z1, by omega, by omega⟩))
    intro b hb2
    show (kt M' (fU (aB A) nb x b) 31 = true ∧ kI M' (fU (aB A) nb x b) 0 = nI b ∧ kI M' (fU (aB A) nb x b) 1 = _ ∧ kI M' (fU (aB A) nb x b) 2 = _ ∧ kI M' (fU (aB A) nb x b) 3 = _ ∧ kR M' (fU (aB A) nb x b) 4 = fU (aM A) nb y b) ∧ Ey M' (fU (aM A) nb y b)
    by_cases z : b = nb
    · subst z
      obtain ⟨r0, r1, r2⟩ := boR_b (r := r) (nb := b) (a1 := v1) (a2 := v2) (a3 := v3)
      rw [fU_n, fU_n, r0, r1, r2]
      have q := fun j => e x j 31 (Or.inr ⟨b1, by decide, by decide⟩)
      exact ⟨⟨kt_p hc b1, (q _).1.trans b2, (q _).1.trans b3, (q _).1.trans b4, (q _).1.trans b5, (q _).2.trans b6⟩, b7.kp hc (fun j => (e _ j 34 (Or.inr ⟨b7.1, by decide, by decide⟩)).2)⟩
    · rw [fU_o z, fU_o z, boR_ne (by omega) (by omega), boR_ne (by omega) (by omega), boR_ne (by omega) (by omega)]
      exact hb b (by omega)
  · intro b b' hb hb' ee
    have ee' : fU (aM A) nb y b = fU (aM A) nb y b' := ee
    by_cases z : b = nb
    · by_cases z' : b' = nb
      · omega
      · rw [z, fU_n, fU_o z'] at ee'
        exact absurd ee'.symm (hy b' (by omega))
    · by_cases z' : b' = nb
      · rw [z', fU_n, fU_o z] at ee'
        exact absurd ee' (hy b (by omega))
      · rw [fU_o z, fU_o z'] at ee'
        exact h6 b b' (by omega) (by omega) ee'
theorem BW.trader (h : BW M A r nb nt) (hnb : nb ≤ 5) (hn : nt < 10) (b1 : kt M x 32 = true) (b2 : kI M x 0 = nI nt) (b3 : kI M x 1 = w) (b4 : kI M x 2 = p) (b5 : kI M x 3 = ag) (b6 : kI M x 5 = 1) (b7 : kI M x 4 = 0) (b8 : kR M x 6 = 0) : ∃ M' A', F_AL_add N M (aHT A) x = some (1, M') ∧ BW M' A' (jnR r nt cc w p ag) nb (nt + 1) ∧ aH A' = aH A ∧ aT A' nt = x ∧ (∃ c, M'.1 = M.1 ++ c ∧ (c.map (fun c => c.2 + 1)).sum ≤ 11) ∧ ∀ a j s, (a = 0 ∨ kt M a s = true ∧ s ≠ 33 ∧ s ≠ 21) → kI M' a j = kI M a j ∧ kR M' a j = kR M a j := by
  obtain ⟨h1, ⟨h2, h3⟩, h4, h5, h6, h7, h8⟩ := h
  obtain ⟨M', a', c1, c2, c3, c4, ⟨cl, c5, c5'⟩, c6⟩ := al_add (N := N) h3 (by omega) (Or.inr b1)
  have hc : ∃ l, M'.1 = M.1 ++ l := ⟨cl, c5⟩
  have e : ∀ a j s, (a = 0 ∨ kt M a s = true ∧ s ≠ 33 ∧ s ≠ 21) → kI M' a j = kI M a j ∧ kR M' a j = kR M a j := by
    intro a j s ha
    have la := kt_le h3.1
    rcases ha with z | ⟨z1, z2, z3⟩
    · subst z
      exact c6 0 j (by omega) (by omega) (fun hn z => by have := (kt_le (h3.ka hn)).1; omega)
    · exact c6 a j (kt_le z1).2 (kt_ne z1 h3.1 z2) (fun hn => kt_ne z1 (h3.ka hn) z3)
  have eB : ∀ j, kI M' (aHB A) j = kI M (aHB A) j ∧ kR M' (aHB A) j = kR M (aHB A) j := fun j => c6 _ j (kt_le h2.1).2 h7 (fun hn => kt_ne h2.1 (h3.ka hn) (by decide))
  have eA : 1 ≤ nb → ∀ j, kR M' (aEB A) j = kR M (aEB A) j := fun hb j => (c6 _ j (kt_le (h2.ka hb)).2 (kt_ne (h2.ka hb) h3.1 (by decide)) (fun hn => h8 hb hn)).2
  obtain ⟨j0, j1, j2, j3, j4, j5, j6⟩ := jnR_t (r := r) (nt := nt) (cc := cc) (w := w) (p := p) (ag := ag)
  refine ⟨M', ((aH A, aHB A, aHT A, aEB A, a'), aB A, fU (aT A) nt x, aM A), c1, ⟨?_, ⟨h2.kp hc eB eA, c2⟩, ?_, ?_, h6, h7, fun hb _ => ?_⟩, rfl, fU_n, ⟨cl, c5, c5'⟩, e⟩
  · have g := h1.kp hc (fun j => e _ j 30 (Or.inr ⟨h1.1.1, by decide, by decide⟩))
    obtain ⟨g0, g4, g5, g6, g7, g8, g9, g10, g11, g12, g13⟩ := g
    refine ⟨g0, ?_, ?_, ?_, ?_, ?_, ?_, ?_, ?_, ?_, ?_⟩
    all_goals (rw [jnR_ne (by omega) (by omega) (by omega)]; assumption)
  · have hb := h4.kp hc (fun a j s z1 z2 => e a j s (Or.inr ⟨z1, by omega, by omega⟩))
    intro b hb2
    have h15 : 14 + 15 * b + 2 < 89 := by omega
    rw [jnR_ne (by omega) (by omega) (by omega), jnR_ne (by omega) (by omega) (by omega), jnR_ne (by omega) (by omega) (by omega)]
    exact hb b hb2
  · have ht := h5.kp hc (fun a j z1 => e a j 32 (Or.inr ⟨z1, by omega, by omega⟩))
    intro t ht2
    show (kt M' (fU (aT A) nt x t) 32 = true ∧ kI M' (fU (aT A) nt x t) 0 = nI t ∧ kI M' (fU (aT A) nt x t) 1 = _ ∧ kI M' (fU (aT A) nt x t) 2 = _ ∧ kI M' (fU (aT A) nt x t) 3 = _ ∧ kI M' (fU (aT A) nt x t) 5 = _ ∧ kI M' (fU (aT A) nt x t) 4 = _) ∧ (_ → kR M' (fU (aT A) nt x t) 6 = 0) ∧ ∀ b, b < 5 → _ → kR M' (fU (aT A) nt x t) 6 = aB A b
    by_cases z : t = nt
    · subst z
      rw [fU_n, j1, j2, j3, j4, j5, j6]
      have q := fun j => e x j 32 (Or.inr ⟨b1, by decide, by decide⟩)
      exact ⟨⟨kt_p hc b1, (q _).1.trans b2, (q _).1.trans b3, (q _).1.trans b4, (q _).1.trans b5, (q _).1.trans b6, (q _).1.trans b7⟩, fun _ => (q _).2.trans b8, fun b hb zz => absurd zz.symm (nI_ne1 (by omega))⟩
    · rw [fU_o z, jnR_ne (by omega) (by omega) (by omega), jnR_ne (by omega) (by omega) (by omega), jnR_ne (by omega) (by omega) (by omega), jnR_ne (by omega) (by omega) (by omega), jnR_ne (by omega) (by omega) (by omega), jnR_ne (by omega) (by omega) (by omega)]
      exact ht t (by omega)
  · by_cases z : 1 ≤ nt
    · show aEB A ≠ a'
      rw [c3 z]
      exact h8 hb z
    · show aEB A ≠ a'
      have := c4 (by omega)
      have := (kt_le (h2.ka hb)).2
      omega
theorem BW.lw (h : BW M A r nb nt) (hb : 1 ≤ nb) (ht : 1 ≤ nt) (hz : ∀ b, b < nb → ∀ q, q < 13 → q ≠ 6 → r (si b q) = 0) (h24 : nt ≤ 24) : LW M A (fun _ _ => 0) r nb nt := by
  obtain ⟨h1, ⟨h2, h3⟩, h4, h5, h6, h7, h8⟩ := h
  refine ⟨h1, ⟨?_, ?_⟩, fun b hb => ⟨(h4 b hb).1, (h4 b hb).2.ok⟩, h5, fun b hb2 => ⟨rfl, fun q hq h6 => ⟨fun _ => rfl, fun t ht2 z => ?_⟩⟩, h6, fun b b' q q' _ _ z => absurd rfl z⟩
  · rcases h2.2.2 with ⟨z, -⟩ | ⟨-, z⟩
    · omega
    · exact z
  · rcases h3.2.2 with ⟨z, -⟩ | ⟨-, z⟩
    · omega
    · exact z
  · rw [hz b hb2 q hq h6] at z
    exact absurd z.symm (nI_ne0 (by omega) (by omega))
end
