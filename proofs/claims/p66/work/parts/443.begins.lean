section
variable {N : Nat} {M M' M1 M2 : kMem} {g w v3 nb nt t : Nat} {A A' : kA} {E : Nat → Nat → Nat} {r : Nat → Int32} {ts : List kTk}
theorem lw_boards (hN : 1000 < N) : ∀ (c nb n : Nat) (M : kMem) (A : kA) (ts : List kTk) (r : Nat → Int32), PS N M A w ts r nb g v3 → nb + c ≤ 3 → c < n → ∃ M' A' ts' r' n', F_L_begins_163 N n M 1 g (aH A) w (nI c) = F_L_begins_163 N (n' + 1) M' 1 g (aH A') w (nI 0) ∧ PS N M' A' w ts' r' (nb + c) g v3 ∧ Cc M M' (6000 * c)
  | 0, nb, n, M, A, ts, r, h, h1, h2 => by
    obtain ⟨m, rfl⟩ : ∃ m, n = m + 1 := ⟨n - 1, by omega⟩
    exact ⟨M, A, ts, r, m, rfl, h, Cc.rf'⟩
  | c + 1, nb, n, M, A, ts, r, h, h1, h2 => by
    obtain ⟨m, rfl⟩ : ∃ m, n = m + 1 := ⟨n - 1, by omega⟩
    obtain ⟨p1, ⟨p2, p3⟩, p4, p5, p6, p7, p8⟩ := h
    obtain ⟨M1, A1, u1, u2, u3, ⟨⟨b1, b2⟩, ⟨b3, b4⟩, b5⟩, e1, s1, eH, cc⟩ := lw_b163 p1 (by omega) p6 hN m c (by omega)
    obtain ⟨q1, q2⟩ := RW_bo p2 p3 (by omega) (w := u1) (s := u2) (l := u3) ⟨by omega, by omega⟩ ⟨by omega, by omega⟩ (by omega)
    have len := len_B (ts := ts) (a := u1) (b := u2) (c := u3) (by omega) (by omega) (by omega)
    obtain ⟨M', A', ts', r', n', e2, s2, c2⟩ := lw_boards hN c (nb + 1) m M1 A1 _ _ ⟨s1, ⟨q1, q2⟩, rd_board p4 p2 p3 (by omega) ⟨by omega, by omega⟩ ⟨by omega, by omega⟩ (by omega) hN, p5.app (TXo_B (by omega) (by omega) (by omega)), by omega, by rw [boR_ne (k := 3) (by omega) (by omega)]; exact p7, p8⟩ (by omega) (by omega)
    refine ⟨M', A', ts', r', n', ?_, ?_, (cc.trans c2).le (by omega)⟩
    · rw [e1, ← eH]
      exact e2
    · rw [show nb + (c + 1) = nb + 1 + c by omega]
      exact s2
def TS (N : Nat) (M : kMem) (A : kA) (w : Nat) (ts : List kTk) (r : Nat → Int32) (nb nt g v3 : Nat) : Prop := BS M A w (txL ts) r nb nt g ∧ (RW r nb nt ∧ ∀ t, t < nt → r (89 + 7 * t + 5) = -1) ∧ Rd1 N ts r nb nt ∧ TXo ts ∧ (txL ts).length ≤ 73 + 18 * nt ∧ (r 3 = nI v3 ∧ v3 < 99) ∧ ∀ b, b < nb → ∀ q, q < 13 → q ≠ 6 → r (si b q) = 0
theorem lw_traders (hN : 1000 < N) (hnb : nb ≤ 5) : ∀ (c nt n : Nat) (M : kMem) (A : kA) (ts : List kTk) (r : Nat → Int32), TS N M A w ts r nb nt g v3 → nt + c ≤ 7 → c < n → ∃ M' A' ts' r' n', F_L_begins_285 N n M 1 g (aH A) w (nI c) = F_L_begins_285 N (n' + 1) M' 1 g (aH A') w (nI 0) ∧ TS N M' A' w ts' r' nb (nt + c) g v3 ∧ Cc M M' (8000 * c)
  | 0, nt, n, M, A, ts, r, h, h1, h2 => by
    obtain ⟨m, rfl⟩ : ∃ m, n = m + 1 := ⟨n - 1, by omega⟩
    exact ⟨M, A, ts, r, m, rfl, h, Cc.rf'⟩
  | c + 1, nt, n, M, A, ts, r, h, h1, h2 => by
    obtain ⟨m, rfl⟩ : ∃ m, n = m + 1 := ⟨n - 1, by omega⟩
    obtain ⟨p1, ⟨p2, p3⟩, p4, p5, p6, ⟨p7, p8⟩, p9⟩ := h
    obtain ⟨M1, A1, u1, u2, u3, ⟨⟨b1, b2⟩, b3, b5⟩, e1, s1, eH, cc⟩ := lw_b285 p1 hnb (by omega) p7 p8 (by omega) hN m c (by omega)
    obtain ⟨q1, q2⟩ := RW_jn p2 (by omega) p3 (w := u1) (p := u2) (ag := nI u3) ⟨by omega, by omega⟩ (by omega)
    have len := len_T (ts := ts) (t := nt) (a := u1) (b := u2) (c := u3) (by omega) (by omega) (by omega)
    obtain ⟨M', A', ts', r', n', e2, s2, c2⟩ := lw_traders hN hnb c (nt + 1) m M1 A1 _ _ ⟨s1, ⟨q1, q2⟩, rd_trader p4 p2 (by omega) ⟨by omega, by omega⟩ (by omega) p7 (by omega) b5 hN, p5.app (TXo_T (by omega) (by omega) (by omega) (by omega)), by omega, ⟨by rw [jnR_ne (k := 3) (by omega) (by omega) (by omega)]; exact p7, p8⟩, fun b hb q hq h6 => by
      have := si_lt (show b < 5 by omega) hq
      have := @si_ge b q
      rw [jnR_ne (by omega) (by omega) (by omega)]
      exact p9 b hb q hq h6⟩ (by omega) (by omega)
    refine ⟨M', A', ts', r', n', ?_, ?_, (cc.trans c2).le (by omega)⟩
    · rw [e1, ← eH]
      exact e2
    · rw [show nt + (c + 1) = nt + 1 + c by omega]
      exact s2
theorem lw_seats (hN : 1000 < N) (hb0 : 1 ≤ nb) (hb5 : nb ≤ 5) (hnt : nt ≤ 7) : ∀ (c t n : Nat) (M : kMem) (E : Nat → Nat → Nat) (ts : List kTk) (r : Nat → Int32) (k : Nat), SS N M A E w ts r nb nt k t g → t + c = nt → c < n → ∃ M' E' ts' r' k' n', F_L_begins_417 N n M 1 g (aH A) w (nI t) = F_L_begins_417 N (n' + 1) M' 1 g (aH A) w (nI nt) ∧ SS N M' A E' w ts' r' nb nt k' nt g ∧ Cc M M' (6000 * c)
  | 0, t, n, M, E, ts, r, k, h, h1, h2 => by
    obtain ⟨m, rfl⟩ : ∃ m, n = m + 1 := ⟨n - 1, by omega⟩
    have : t = nt := by omega
    subst this
    exact ⟨M, E, ts, r, k, m, rfl, h, Cc.rf'⟩
  | c + 1, t, n, M, E, ts, r, k, h, h1, h2 => by
    obtain ⟨m, rfl⟩ : ∃ m, n = m + 1 := ⟨n - 1, by omega⟩
    obtain ⟨M1, E1, ts1, r1, k1, e1, s1, c1⟩ := lw_b417 h hb0 hb5 (by omega) hnt hN m
    obtain ⟨M', E', ts', r', k', n', e2, s2, c2⟩ := lw_seats hN hb0 hb5 hnt c (t + 1) m M1 E1 ts1 r1 k1 s1 (by omega) (by omega)
    exact ⟨M', E', ts', r', k', n', e1.trans e2, s2, (c1.trans c2).le (by omega)⟩
theorem Fq.cc {k : Nat} (h : Fq M M' k) : Cc M M' k := h.1
theorem LW.fq {k : Nat} (h : LW M A E r nb nt) (hS : SMp M) (f : Fq M M' k) : LW M' A E r nb nt := by
  have hx := f.cc.ex
  have e : ∀ a j s, kt M a s = true → 30 ≤ s → kI M' a j = kI M a j := fun a j s z y => by
    have := hS.hi z y
    exact f.2.2 a j (kt_le z).2 (by omega) (by omega)
  have e' : ∀ a j s, kt M a s = true → kR M' a j = kR M a j := fun a j s z => f.2.1 a j (kt_le z).2
  refine h.keep hx (fun a j s z y => e a j s z (by omega)) (fun a j s z y => e' a j s z) (fun tm z hv => ?_)
  unfold VC at hv ⊢
  rw [e' tm 1 34 z]
  refine hv.imp id (fun q => ⟨kt_p hx q.1, ?_⟩)
  rw [e' _ 0 36 q.1]
  exact q.2
/-- the text is ended, fed and loaded -/
theorem lw_ends {k n : Nat} (h : SS N M A E w ts r nb nt k nt g) (hnt : nt ≤ 7) (hN : 1000 < N) : ∃ M', F_L_begins_417 N (n + 1) M 1 g (aH A) w (nI nt) = some (aH A, M') ∧ ST M' A E r nb nt g ∧ Cc M M' 1000 := by
  obtain ⟨h1, hW, hR2, hT, hl, hk, hu⟩ := h
  have L0 := h1.lw
  obtain ⟨H1, H2, H3⟩ := L0.g.1
  obtain ⟨M1, s, a1, a2, a3⟩ := sb_str (N := N) h1.2.2.1 (by omega) (by omega)
  have S1 := h1.1.1.op a3.op
  have L1 := L0.gr a3
  have G1 := h1.gg.op a3.op
  have C1 : CP M1.2.1 := h1.1.2.kp (fun a j ha => (a3.op.2 a j (by
    by_cases z : a = 0
    · exact Or.inl z
    · exact Or.inr ⟨_, h1.1.1.kt1 (by omega) ha, Or.inl (cellAt_lo a ha (by omega))⟩)).1)
  obtain ⟨Nu1, ⟨nx, n8, e8⟩, n0, n800, e0⟩ := C1
  obtain ⟨M2, b1, b2, b3⟩ := lw_feeds hN S1 a2 hT.by (by omega) n800 e0
  have S2 := S1.fd b3
  have L2 := L1.fq S1 b3
  have G2 := G1.kp b3.cc.ex
  have len1 := S1.len
  have e2 : ∀ a j, a ≤ 539 → ¬ (a = 2 ∧ j = 1) → a ≠ 3 → M2.2.1 a j = M1.2.1 a j := fun a j h1 h2 h3 => b3.2.2 a j (by omega) h2 h3
  obtain ⟨I', l1, l2, l3, l4⟩ := cx_load (Mb := ⟨M2, S2⟩) (I := M2.2.1) (L := M2.2.2.2) hN hT.1 hR2 hW (by omega) b2 (by omega) hT.by (fun m hm => (Nu1 m hm).kp (fun x j y1 y2 => e2 x j (by have := mks_sep hm; omega) (by have := mks_44 hm; omega) (by have := mks_44 hm; omega))) n8 ((e2 126 1 (by decide) (by decide) (by decide)).trans e8)
  have l1' : F_X11_load N M2 1 = some (0, wm M2 I' M2.2.2.2) := l1
  have S3 : SMp (wm M2 I' M2.2.2.2) := S2
  have k11 : kt M2 1 11 = true := S2.k11
  have k11' : kt (wm M2 I' M2.2.2.2) 1 11 = true := k11
  have k69 : kt (wm M2 I' M2.2.2.2) 6 9 = true := (S2.kt1 (a := 6) (by decide) (by decide))
  have r12 : kR (wm M2 I' M2.2.2.2) 1 2 = 6 := S2.2 1 2 (by decide)
  refine ⟨wm M2 I' M2.2.2.2, ?_, ⟨⟨S3, l2⟩, L2.cls S2 l4, G2⟩, ((a3.cc.trans b3.cc).trans (Cc.of rfl)).le (by omega)⟩
  rw [F_L_begins_417, H1, kg_t, H3, L0.lt.1, kg_t, al_size L0.lt, Option.bind_some, if_neg (show ¬ nI nt < nI nt by rw [nI_ltP (by omega) (by omega)]; omega), h1.wk, kg_t, a1, Option.bind_some, b1, Option.bind_some, if_neg (show ¬ (1 : Int32) = 0 by decide), k11, kg_t, l1', ksm2 (by rfl), Option.bind_some, if_pos rfl, k11', kg_t]
  have ep : F_X11_errorPosition N (wm M2 I' M2.2.2.2) 1 = some (-1) := by
    unfold F_X11_errorPosition
    rw [k11', kg_t, r12, k69, kg_t]
    congr 1
  rw [ep, ksm rfl, Option.bind_some, if_pos rfl]
theorem lw_begins (hS : SMp M) (hC : CP M.2.1) (hg : Gg M g) (hN : 1000 < N) : ∃ M' A E r nb nt, F_L_begins N M 1 g = some (aH A, M') ∧ ST M' A E r nb nt g ∧ r 6 = 0 ∧ (1 ≤ nb ∧ nb ≤ 3) ∧ (2 ≤ nt ∧ nt ≤ 7) ∧ Cc M M' 150000 := by
  obtain ⟨M1, A1, w, ts1, r1, c1, v3, q1, e1, s1, cc1⟩ := lw_start hS hC hg hN
  obtain ⟨M2, A2, ts2, r2, n2, e2, s2, cc2⟩ := lw_boards hN (1 + c1) 0 N M1 A1 ts1 r1 s1 (by omega) (by omega)
  rw [Nat.zero_add] at s2
  obtain ⟨p1, ⟨p2, p3⟩, p4, p5, p6, p7, p8⟩ := s2
  obtain ⟨c3, w3, q3, d3⟩ := lw_draw (N := N) p1.2.1 (m := 6) (by omega) (by omega)
  have b3 := p1.nf (Nf.draw (g := g) (v := w3))
  have t3 : TS N (ksI M2 g 0 w3) A2 w ts2 r2 (1 + c1) 0 g v3 := ⟨b3, ⟨p2, fun t ht => absurd ht (Nat.not_lt_zero _)⟩, rd_0to1 p4 (by omega) hN, p5, by omega, ⟨p7, p8⟩, fun b hb q hq h6 => (p2.1.s.2 b hb q hq h6).resolve_right (fun ⟨t, ht, _⟩ => absurd ht (Nat.not_lt_zero _))⟩
  have e3 : F_L_begins_163 N (n2 + 1) M2 1 g (aH A2) w (nI 0) = F_L_begins_285 N N (ksI M2 g 0 w3) 1 g (aH A2) w (nI (2 + c3)) := by
    rw [F_L_begins_163, if_neg (by decide), show F_L_draw N M2 g 6 = _ from d3, Option.bind_some, kl_v, nI_2a]
  obtain ⟨M4, A4, ts4, r4, n4, e4, s4, cc4⟩ := lw_traders hN (by omega) (2 + c3) 0 N _ A2 ts2 r2 t3 (by omega) (by omega)
  rw [Nat.zero_add] at s4
  obtain ⟨x1, ⟨x2, x3⟩, x4, x5, x6, x7, x8⟩ := s4
  have e5 : F_L_begins_285 N (n4 + 1) M4 1 g (aH A4) w (nI 0) = F_L_begins_417 N N M4 1 g (aH A4) w (nI 0) := by
    rw [F_L_begins_285, if_neg (by decide)]
    rfl
  have s5 : SS N M4 A4 (fun _ _ => 0) w ts4 r4 (1 + c1) (2 + c3) 0 0 g := ⟨⟨x1.1, x1.2.1, x1.2.2.1, x1.2.2.2.lw (by omega) (by omega) x8 (by omega)⟩, x2, rd_1to2 x4 (by omega) hN, x5, by omega, Nat.le_refl _, fun s _ hs => x3 s hs⟩
  obtain ⟨M6, E6, ts6, r6, k6, n6, e6, s6, cc6⟩ := lw_seats hN (by omega) (by omega) (by omega) (2 + c3) 0 N M4 _ ts4 r4 0 s5 (by omega) (by omega)
  obtain ⟨M7, e7, s7, cc7⟩ := lw_ends (n := n6) s6 (by omega) hN
  refine ⟨M7, A4, E6, r6, 1 + c1, 2 + c3, ?_, s7, s6.2.1.2.2.2.1, ⟨by omega, by omega⟩, ⟨by omega, by omega⟩, ?_⟩
  · rw [e1, e2, e3, e4, e5, e6, e7]
  · exact (((((cc1.trans cc2).trans (Nf.draw (g := g) (v := w3)).1).trans cc4).trans cc6).trans cc7).le (by omega)
end
