variable {Mb : SMem}
def hdR (v0 v1 v2 v3 v4 v5 : Int32) : Nat → Int32 := fun k => if k = 0 then v0 else if k = 1 then v1 else if k = 2 then v2 else if k = 3 then v3 else if k = 4 then v4 else if k = 5 ∨ k = 9 then v5 else 0
def hd0 (n : Nat) (T : Nat → Nat) : sg := stp n T (.inl 0) (cW n T 437857460)
def hd1 (n : Nat) (T : Nat → Nat) : sg := stp n T (hd0 n T) (cN n T 0 21)
def hd2 (n : Nat) (T : Nat → Nat) : sg := stp n T (hd1 n T) (cN n T 0 100)
def hd3 (n : Nat) (T : Nat → Nat) : sg := stp n T (hd2 n T) (cN n T 0 100)
def hd4 (n : Nat) (T : Nat → Nat) : sg := stp n T (hd3 n T) (cN n T 1 1000)
def hd5 (n : Nat) (T : Nat → Nat) : sg := stp n T (hd4 n T) (cN n T 0 1000)
def hd6 (n : Nat) (T : Nat → Nat) : sg := stp n T (hd5 n T) (cN n T 0 100000)
def hd7 (n : Nat) (T : Nat → Nat) : sg := stp n T (hd6 n T) (cG n T 59)
def hdV (n : Nat) (T : Nat → Nat) : Nat → Int32 := hdR (nuV n T 0 21 (hd0 n T)) (nuV n T 0 100 (hd1 n T)) (nuV n T 0 100 (hd2 n T)) (nuV n T 1 1000 (hd3 n T)) (nuV n T 0 1000 (hd4 n T)) (nuV n T 0 100000 (hd5 n T))
section
variable {N : Nat} {I : kInts} {L : kLngs} {n c : Nat} {T : Nat → Nat} {σ : sg} {r s : Nat → Int32} {nb nt : Nat}
theorem ok_hd7 (h : okS (hd7 n T) = true) : (cN n T 0 21 1 = 0 ∧ cN n T 0 100 2 = 0 ∧ cN n T 0 100 3 = 0 ∧ cN n T 1 1000 4 = 0 ∧ cN n T 0 1000 5 = 0 ∧ cN n T 0 100000 6 = 0) ∧ hd0 n T = .inl 1 ∧ hd1 n T = .inl 2 ∧ hd2 n T = .inl 3 ∧ hd3 n T = .inl 4 ∧ hd4 n T = .inl 5 ∧ hd5 n T = .inl 6 ∧ hd6 n T = .inl 7 := by
  obtain ⟨j6, a1, a2, a3⟩ := ok_stp h
  obtain ⟨j5, b1, b2, b3⟩ := ok_stp (σ := hd5 n T) (f := cN n T 0 100000) (show okS (hd6 n T) = true by rw [a1]; rfl)
  obtain ⟨j4, c1, c2, c3⟩ := ok_stp (σ := hd4 n T) (f := cN n T 0 1000) (show okS (hd5 n T) = true by rw [b1]; rfl)
  obtain ⟨j3, d1, d2, d3⟩ := ok_stp (σ := hd3 n T) (f := cN n T 1 1000) (show okS (hd4 n T) = true by rw [c1]; rfl)
  obtain ⟨j2, e1, e2, e3⟩ := ok_stp (σ := hd2 n T) (f := cN n T 0 100) (show okS (hd3 n T) = true by rw [d1]; rfl)
  obtain ⟨j1, f1, f2, f3⟩ := ok_stp (σ := hd1 n T) (f := cN n T 0 100) (show okS (hd2 n T) = true by rw [e1]; rfl)
  obtain ⟨j0, g1, g2, g3⟩ := ok_stp (σ := hd0 n T) (f := cN n T 0 21) (show okS (hd1 n T) = true by rw [f1]; rfl)
  obtain ⟨j, k1, k2, k3⟩ := ok_stp (σ := .inl 0) (f := cW n T 437857460) (show okS (hd0 n T) = true by rw [g1]; rfl)
  cases k1
  have y0 : hd0 n T = .inl 1 := k3
  have z0 : j0 = 1 := by rw [y0] at g1; cases g1; rfl
  subst z0
  have y1 : hd1 n T = .inl 2 := g3
  have z1 : j1 = 2 := by rw [y1] at f1; cases f1; rfl
  subst z1
  have y2 : hd2 n T = .inl 3 := f3
  have z2 : j2 = 3 := by rw [y2] at e1; cases e1; rfl
  subst z2
  have y3 : hd3 n T = .inl 4 := e3
  have z3 : j3 = 4 := by rw [y3] at d1; cases d1; rfl
  subst z3
  have y4 : hd4 n T = .inl 5 := d3
  have z4 : j4 = 5 := by rw [y4] at c1; cases c1; rfl
  subst z4
  have y5 : hd5 n T = .inl 6 := c3
  have z5 : j5 = 6 := by rw [y5] at b1; cases b1; rfl
  subst z5
  exact ⟨⟨g2, f2, e2, d2, c2, b2⟩, y0, y1, y2, y3, y4, y5, b3⟩
theorem RI_hd (h : okS (hd7 n T) = true) : RI (hdV n T) 0 0 ∧ (hdV n T) 9 = nI (tot (hdV n T) 0) := by
  obtain ⟨⟨o0, o1, o2, o3, o4, o5⟩, y0, y1, y2, y3, y4, y5, y6⟩ := ok_hd7 h
  have w0 := cN_in o0
  have w1 := cN_in o1
  have w2 := cN_in o2
  have w3 := cN_in o3
  have w4 := cN_in o4
  have w5 := cN_in o5
  have e5 : hdV n T 5 = nI (nuv n T 6) := by
    show nuV n T 0 100000 (hd5 n T) = _
    rw [y5, nuV_0 o5]
  have e9 : hdV n T 9 = nI (nuv n T 6) := by
    show nuV n T 0 100000 (hd5 n T) = _
    rw [y5, nuV_0 o5]
  have s0 : ∀ f : Nat → Nat, sumN f 0 = 0 := fun _ => rfl
  refine ⟨⟨⟨⟨rfl, rfl, by omega, by omega⟩, ⟨nuv n T 1, by omega, ?_⟩, ⟨nuv n T 2, by omega, ?_⟩, ⟨nuv n T 3, by omega, ?_⟩, ⟨nuv n T 4, by omega, ?_⟩, ⟨nuv n T 5, by omega, ?_⟩, ⟨0, by omega, rfl⟩⟩, fun b hb => absurd hb (Nat.not_lt_zero _), fun b hb => absurd hb (Nat.not_lt_zero _), ⟨fun b hb => absurd hb (Nat.not_lt_zero _), fun b hb => absurd hb (Nat.not_lt_zero _)⟩, ?_, fun b hb => absurd hb (Nat.not_lt_zero _), ?_⟩, ?_⟩
  · show nuV n T 0 21 (hd0 n T) = _
    rw [y0, nuV_0 o0]
  · show nuV n T 0 100 (hd1 n T) = _
    rw [y1, nuV_0 o1]
  · show nuV n T 0 100 (hd2 n T) = _
    rw [y2, nuV_0 o2]
  · show nuV n T 1 1000 (hd3 n T) = _
    rw [y3, nuV_0 o3]
  · show nuV n T 0 1000 (hd4 n T) = _
    rw [y4, nuV_0 o4]
  · rw [e5]; exact nn_nI (by omega)
  · rw [e5, kx_nI (by omega), s0]; omega
  · rw [e9]
    unfold tot
    rw [e5, kx_nI (by omega), s0, Nat.add_zero]
theorem ZS_hd : ZS (hdV n T) 0 := by
  intro k h1 h2
  unfold hdV hdR
  rw [if_neg (by omega), if_neg (by omega), if_neg (by omega), if_neg (by omega), if_neg (by omega), if_neg (by omega)]
theorem cx_takeWd {s len w : Nat} {bs : Nat → Nat} (hK : KW s len bs w) (h : CS I n T c σ) (hN : 1000 < N) : ∃ I', F_X9_takeWord N (wm Mb I L) 6 s = some (wm Mb I' L) ∧ CS I' n T c (stp n T σ (cW n T w)) ∧ CF I I' := by
  obtain ⟨I', a1, a2, a3⟩ := cx_takeIf (Mb := Mb) (N := N) (L := L) h (p := isW n T w) (fun j hj => by have := isW_4 hj; omega)
  refine ⟨I', ?_, a2, a3⟩
  unfold F_X9_takeWord
  simp only [wm_kR, wm_kt, wm_kn, wm_kin, wm_kL, wm_kI, wm_ksI, wm_ksL, wm_kJ, wm_ksJ, kg_t, kl_v, Option.bind_some, s6.1, cx_atWord hK h hN, a1]
theorem CS.u {σ : sg} {m j : Nat} {v : Int32} (h : CS I n T c σ) (hm : 9 < m) : CS (up I m j v) n T c σ := h.fr (fun a k ha => up_ne (Or.inl (by omega)))
theorem cx_clear {m : Nat} (hm : m ∈ mks) : F_X4_clear N (wm Mb I L) m = some (wm Mb (up (up (up (up (up (up (up I m 0 0) m 8 0) m 9 0) m 10 0) m 11 0) m 12 0) (ev m) 3 0) L) := by
  have e2 : kt Mb (ev m) 2 = true := mm_ek (Mb := Mb) hm
  unfold F_X4_clear
  simp only [wm_kR, wm_kt, wm_kn, wm_kin, wm_kL, wm_kI, wm_ksI, wm_ksL, wm_kJ, wm_ksJ, kg_t, kl_v, Option.bind_some, mm_k hm, mm_bs hm, mm_bn hm, mm_ts hm, mm_tn hm, mm_e hm, mm_ek hm, mm_e hm, e2]
def EQ (K X : kInts) : Prop := ∀ a j, 85 ≤ a → K a j = X a j
theorem EQ.cf {K K' X : kInts} (h : EQ K X) (e : CF K K') : EQ K' X := fun a j ha => (e a j (by omega)).trans (h a j ha)
theorem EQ.u {K X : kInts} {a j : Nat} {v : Int32} (h : EQ K X) : EQ (up K a j v) (up X a j v) := by
  intro b k hb
  by_cases z : b = a ∧ k = j
  · rw [z.1, z.2, up_eq, up_eq]
  · rw [up_ne (by omega), up_ne (by omega)]
    exact h b k hb
theorem EF.u {K K' : kInts} {j : Nat} {v : Int32} (h : EF K K') : EF K (up K' 85 j v) := fun a k x1 x2 => (up_ne (Or.inl (by omega))).trans (h a k x1 x2)
theorem cx_header (hS : CS I n T c (.inl 0)) (hNu : Nu I 85) (hN : 1000 < N) : ∃ I1 I', F_X4_clear N (wm Mb I L) 85 = some (wm Mb I1 L) ∧ F_X7_readMarket N (wm Mb I1 L) 6 85 = some (wm Mb I' L) ∧ CS I' n T c (hd7 n T) ∧ RM I' 85 (hdV n T) 0 0 ∧ EF I I' := by
  have hm : (85 : Nat) ∈ mks := by decide
  let J0 := up (up (up (up (up (up (up I 85 0 0) 85 8 0) 85 9 0) 85 10 0) 85 11 0) 85 12 0) (ev 85) 3 0
  have hS0 : CS J0 n T c (.inl 0) := ((((((hS.u (by decide)).u (by decide)).u (by decide)).u (by decide)).u (by decide)).u (by decide)).u (by decide)
  obtain ⟨K1, a1, a2, a3⟩ := cx_takeWd (Mb := Mb) (N := N) (L := L) kw_market hS0 hN
  obtain ⟨K2, b1, b2, b3⟩ := cx_number (Mb := Mb) (N := N) (L := L) a2 (lo := 0) (hh := 21) (x2 := 20) (by decide) (by decide) (by decide) hN
  obtain ⟨K3, c1, c2, c3⟩ := cx_number (Mb := Mb) (N := N) (L := L) (b2.u (m := 85) (j := 2) (v := nuV n T 0 21 (hd0 n T)) (by decide)) (lo := 0) (hh := 100) (x2 := 99) (by decide) (by decide) (by decide) hN
  obtain ⟨K4, d1, d2, d3⟩ := cx_number (Mb := Mb) (N := N) (L := L) (c2.u (m := 85) (j := 3) (v := nuV n T 0 100 (hd1 n T)) (by decide)) (lo := 0) (hh := 100) (x2 := 99) (by decide) (by decide) (by decide) hN
  obtain ⟨K5, e1, e2, e3⟩ := cx_number (Mb := Mb) (N := N) (L := L) (d2.u (m := 85) (j := 4) (v := nuV n T 0 100 (hd2 n T)) (by decide)) (lo := 1) (hh := 1000) (x2 := 999) (by decide) (by decide) (by decide) hN
  obtain ⟨K6, f1, f2, f3⟩ := cx_number (Mb := Mb) (N := N) (L := L) (e2.u (m := 85) (j := 5) (v := nuV n T 1 1000 (hd3 n T)) (by decide)) (lo := 0) (hh := 1000) (x2 := 999) (by decide) (by decide) (by decide) hN
  obtain ⟨K7, g1, g2, g3⟩ := cx_number (Mb := Mb) (N := N) (L := L) (f2.u (m := 85) (j := 6) (v := nuV n T 0 1000 (hd4 n T)) (by decide)) (lo := 0) (hh := 100000) (x2 := 99999) (by decide) (by decide) (by decide) hN
  obtain ⟨K8, h1, h2, h3⟩ := cx_sg (Mb := Mb) (N := N) (L := L) ((g2.u (m := 85) (j := 1) (v := nuV n T 0 100000 (hd5 n T)) (by decide)).u (m := 85) (j := 7) (v := nuV n T 0 100000 (hd5 n T)) (by decide)) (ch := 59) (by decide)
  rw [show nI 0 = 0 from rfl] at b1 c1 d1 f1 g1
  rw [show nI 1 = 1 from rfl] at e1
  rw [show nI 59 = 59 from rfl] at h1
  have r0 : EQ J0 J0 := fun _ _ _ => rfl
  have hall := ((((((((((((((r0.cf a3).cf b3).u (a := 85) (j := 2) (v := nuV n T 0 21 (hd0 n T))).cf c3).u (a := 85) (j := 3) (v := nuV n T 0 100 (hd1 n T))).cf d3).u (a := 85) (j := 4) (v := nuV n T 0 100 (hd2 n T))).cf e3).u (a := 85) (j := 5) (v := nuV n T 1 1000 (hd3 n T))).cf f3).u (a := 85) (j := 6) (v := nuV n T 0 1000 (hd4 n T))).cf g3).u (a := 85) (j := 1) (v := nuV n T 0 100000 (hd5 n T))).u (a := 85) (j := 7) (v := nuV n T 0 100000 (hd5 n T))).cf h3
  have hne : ∀ a j, 85 ≤ a → a ≠ 85 → a ≠ 88 → K8 a j = I a j := by
    intro a j y1 y2 y3
    rw [hall a j y1, up_ne (Or.inl y2), up_ne (Or.inl y2), up_ne (Or.inl y2), up_ne (Or.inl y2), up_ne (Or.inl y2), up_ne (Or.inl y2), up_ne (Or.inl y2)]
    have y3' : a ≠ ev 85 := y3
    exact (up_ne (Or.inl y3')).trans ((up_ne (Or.inl y2)).trans ((up_ne (Or.inl y2)).trans ((up_ne (Or.inl y2)).trans ((up_ne (Or.inl y2)).trans ((up_ne (Or.inl y2)).trans (up_ne (Or.inl y2)))))))
  have rr : EF I I := fun _ _ _ _ => rfl
  have hef : EF I J0 := by
    intro a k x1 x2
    have y2 : a ≠ 85 := by omega
    have y3 : a ≠ ev 85 := by have : ev 85 = 88 := rfl; omega
    exact (up_ne (Or.inl y3)).trans ((up_ne (Or.inl y2)).trans ((up_ne (Or.inl y2)).trans ((up_ne (Or.inl y2)).trans ((up_ne (Or.inl y2)).trans ((up_ne (Or.inl y2)).trans (up_ne (Or.inl y2)))))))
  have hfin : EF I K8 := ((((((((((((((hef.trans a3.e).trans b3.e).u).trans c3.e).u).trans d3.e).u).trans e3.e).u).trans f3.e).u).trans g3.e).u).u).trans h3.e
  refine ⟨J0, K8, cx_clear hm, ?_, h2, ⟨?_, ?_, fun b hb => absurd hb (Nat.not_lt_zero _), fun b hb => absurd hb (Nat.not_lt_zero _), fun b hb => absurd hb (Nat.not_lt_zero _), ?_⟩, hfin⟩
  · unfold F_X7_readMarket
    simp only [wm_kR, wm_kt, wm_kn, wm_kin, wm_kL, wm_kI, wm_ksI, wm_ksL, wm_kJ, wm_ksJ, kg_t, kl_v, Option.bind_some, s6.1, mm_k hm, a1]
    simp only [hd0, hd1, hd2, hd3, hd4, hd5] at b1 c1 d1 e1 f1 g1 h1
    simp only [wm_kR, wm_kt, wm_kn, wm_kin, wm_kL, wm_kI, wm_ksI, wm_ksL, wm_kJ, wm_ksJ, kg_t, kl_v, Option.bind_some, s6.1, mm_k hm, b1, c1, d1, e1, f1, g1, up_eq, h1]
  · exact ⟨fun b hb => (hne _ _ (by unfold bd; omega) (by unfold bd; omega) (by unfold bd; omega)).trans (hNu.1 b hb), fun b hb => (hne _ _ (by unfold tr; omega) (by unfold tr; omega) (by unfold tr; omega)).trans (hNu.2.1 b hb), fun b hb => by rw [hne _ _ (by unfold tr; omega) (by unfold tr; omega) (by unfold tr; omega)]; exact hNu.2.2 b hb⟩
  · unfold RMg
    rw [hall 85 0 (by decide), hall 85 1 (by decide), hall 85 2 (by decide), hall 85 3 (by decide), hall 85 4 (by decide), hall 85 5 (by decide), hall 85 6 (by decide), hall 85 7 (by decide), hall 85 8 (by decide), hall 85 9 (by decide), hall 85 10 (by decide), hall 85 11 (by decide), hall 85 12 (by decide)]
    exact ⟨rfl, rfl, rfl, rfl, rfl, rfl, rfl, rfl, rfl, rfl, rfl, rfl, rfl⟩
  · refine ⟨?_, fun e he h13 k hk => ?_⟩
    · rw [hall _ _ (by decide)]
      rfl
    · have : nI e = nI 0 := h13.symm
      have := (nI_eq (by omega) (by omega)).mp this
      omega
end
