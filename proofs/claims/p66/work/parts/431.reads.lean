variable {Mb : SMem}
section
variable {N n p j pk c nb nt k : Nat} {T : Nat → Nat} {t u : kTk} {ts us : List kTk} {r : Nat → Int32}
theorem RW_bo (h : RW r nb 0) (hZ : ZS r nb) (hn : nb < 5) {w s l : Nat} (hw : 1 ≤ w ∧ w ≤ 6) (hs : 1 ≤ s ∧ s ≤ 99) (hl : l ≤ 999) : RW (boR r nb (nI w) (nI s) (nI l)) (nb + 1) 0 ∧ ZS (boR r nb (nI w) (nI s) (nI l)) (nb + 1) := by
  have s0 : ∀ f : Nat → Nat, sumN f 0 = 0 := fun _ => rfl
  have et : tot (boR r nb (nI w) (nI s) (nI l)) 0 = tot r 0 := by
    unfold tot
    rw [boR_ne (k := 5) (by omega) (by omega), s0, s0]
  refine ⟨⟨RI_bo h.1 hn hZ hw hs hl, ?_, by rw [et]; exact h.2.2.1, ?_, fun t ht => absurd ht (Nat.not_lt_zero _)⟩, ZS_bo hZ⟩
  · rw [et, boR_ne (k := 9) (by omega) (by omega)]; exact h.2.1
  · rw [boR_ne (k := 6) (by omega) (by omega)]; exact h.2.2.2.1
theorem rd_board (h : Rd0 N ts r nb) (hW : RW r nb 0) (hZ : ZS r nb) (hn : nb < 5) {w s l : Nat} (hw : 1 ≤ w ∧ w ≤ 6) (hs : 1 ≤ s ∧ s ≤ 99) (hl : l ≤ 999) (hN : 1000 < N) : Rd0 N (ts ++ mkB w s l) (boR r nb (nI w) (nI s) (nI l)) (nb + 1) := by
  intro Mb I L n T c us hT hS hNu
  rw [List.append_assoc] at hT
  obtain ⟨I1, e1, s1, m1, f1⟩ := h Mb I L n T c _ hT hS hNu
  have hD := TVs.drop ts hT
  rw [Nat.zero_add] at hD
  obtain ⟨t0, t1, t2, t3, t4, -⟩ := hD
  generalize hj : ts.length = j at *
  have hlen : (ts ++ mkB w s l).length = j + 5 := by rw [List.length_append, hj]; rfl
  have w0 := t0.wd (w := 2590276) (by decide) (by decide)
  have c1 := t1.cN (lo := 1) (hh := 7) (by omega) hw.1 (by omega)
  have c2 := t2.cN (lo := 1) (hh := 100) (by omega) hs.1 (by omega)
  have c3 := t3.cN (lo := 0) (hh := 1000) (by omega) (by omega) (by omega)
  obtain ⟨I2, a1, a2, a3, a4⟩ := cx_readBoard (Mb := Mb) (L := L) s1 w0.1 hW.1 m1 hn hZ hN
  have y1 : bo1 n T (j + 1) = .inl (j + 2) := stp_0 c1.1
  have y2 : bo2 n T (j + 1) = .inl (j + 3) := by unfold bo2; rw [y1]; exact stp_0 c2.1
  have y3 : bo3 n T (j + 1) = .inl (j + 4) := by unfold bo3; rw [y2]; exact stp_0 c3.1
  have y4 : bo4 n T (j + 1) = .inl (j + 5) := by unfold bo4; rw [y3]; exact stp_0 t4.cG
  rw [y4] at a2 a3
  rw [if_pos (show okS (.inl (j + 5)) = true from rfl)] at a3
  have eX : boX n T r nb (j + 1) = boR r nb (nI w) (nI s) (nI l) := by
    unfold boX
    rw [c1.2, c2.2, c3.2]
  rw [eX] at a3
  rw [hlen]
  refine ⟨I2, ?_, a2, a3, f1.trans a4⟩
  rw [e1]
  obtain ⟨z, hz⟩ : ∃ z, N - nb = z + 1 := ⟨N - nb - 1, by omega⟩
  rw [hz, F_X7_read_11, if_pos (show nI nb < (5 : Int32) by rw [show (5 : Int32) = nI 5 from rfl, nI_ltP (by omega) (by omega)]; exact hn), wm_kt, s6.1, kg_t, cx_atWord kw_board s1 hN, Option.bind_some]
  have q1 : qs (.inl j) (isW n T 2590276) = true := by
    show isW n T 2590276 j = true
    rw [w0.2, wd_v.2.1]
    rfl
  rw [if_pos q1, if_neg (by decide), a1, Option.bind_some, kl_v, show z = N - (nb + 1) by omega, ← nI_succ]
/-! boards are over: traders begin -/
theorem rd_0to1 (h : Rd0 N ts r nb) (hn : nb < 5) (hN : 1000 < N) : Rd1 N ts r nb 0 := by
  intro Mb I L n T c us hT hS hNu hb
  obtain ⟨I1, e1, s1, m1, f1⟩ := h Mb I L n T c _ hT hS hNu
  refine ⟨I1, ?_, s1, m1, f1⟩
  rw [e1]
  obtain ⟨z, hz⟩ : ∃ z, N - nb = z + 1 := ⟨N - nb - 1, by omega⟩
  have q1 : ¬ qs (.inl ts.length) (isW n T 2590276) = true := by
    show ¬ isW n T 2590276 ts.length = true
    rw [hb]
    decide
  rw [hz, F_X7_read_11, if_pos (show nI nb < (5 : Int32) by rw [show (5 : Int32) = nI 5 from rfl, nI_ltP (by omega) (by omega)]; exact hn), wm_kt, s6.1, kg_t, cx_atWord kw_board s1 hN, Option.bind_some, if_neg q1, if_pos rfl, kg_t, Option.bind_some, if_pos rfl, Nat.sub_zero]
  rfl
theorem RW_jn (h : RW r nb nt) (hn : nt < 24) (hu : ∀ t, t < nt → r (89 + 7 * t + 5) = -1) {w p : Nat} {ag : Int32} (hw : 1 ≤ w ∧ w ≤ 99) (hp : p ≤ 100) : RW (jnR r nt (nI (nt + 1)) (nI w) (nI p) ag) nb (nt + 1) ∧ ∀ t, t < nt + 1 → jnR r nt (nI (nt + 1)) (nI w) (nI p) ag (89 + 7 * t + 5) = -1 := by
  have ht := h.2.2.1
  have et : tot (jnR r nt (nI (nt + 1)) (nI w) (nI p) ag) (nt + 1) = tot r nt + p := tot_jn (by omega)
  obtain ⟨j0, j1, j2, j3, j4, j5, j6⟩ := jnR_t (r := r) (nt := nt) (cc := nI (nt + 1)) (w := nI w) (p := nI p) (ag := ag)
  refine ⟨⟨RI_jn h.1 hn hw (by omega) (by omega), ?_, by rw [et]; omega, ?_, fun t ht2 => ?_⟩, fun t ht2 => ?_⟩
  · rw [et, jnR_9, h.2.1, nI_add]
  · rw [jnR_ne (k := 6) (by omega) (by omega) (by omega)]; exact h.2.2.2.1
  · by_cases e : t = nt
    · subst e
      exact ⟨j4, j0⟩
    · rw [jnR_ne (k := 89 + 7 * t + 4) (by omega) (by omega) (by omega), jnR_ne (k := 89 + 7 * t + 0) (by omega) (by omega) (by omega)]
      exact h.2.2.2.2 t (by omega)
  · by_cases e : t = nt
    · subst e
      exact j5
    · rw [jnR_ne (k := 89 + 7 * t + 5) (by omega) (by omega) (by omega)]
      exact hu t (by omega)
theorem rd_trader (h : Rd1 N ts r nb nt) (hW : RW r nb nt) (hn : nt < 20) {w p a v3 : Nat} (hw : 1 ≤ w ∧ w ≤ 99) (hp : p ≤ 100) (h3 : r 3 = nI v3) (hv3 : v3 < 1000) (ha : a ≤ v3) (hN : 1000 < N) : Rd1 N (ts ++ mkT nt w p a) (jnR r nt (nI (nt + 1)) (nI w) (nI p) (nI a)) nb (nt + 1) := by
  intro Mb I L n T c us hT hS hNu hb
  rw [List.append_assoc] at hT
  have hD := TVs.drop ts hT
  rw [Nat.zero_add] at hD
  obtain ⟨t0, t1, t2, t3, t4, t5, -⟩ := hD
  have wb : isW n T 2590276 ts.length = false := by
    rw [(t0.wd (by decide) (by decide)).2, wd_v.2.2.1]
    rfl
  obtain ⟨I1, e1, s1, m1, f1⟩ := h Mb I L n T c _ hT hS hNu wb
  generalize hj : ts.length = j at *
  have hlen : (ts ++ mkT nt w p a).length = j + 6 := by rw [List.length_append, hj]; rfl
  have w0 := t0.wd (w := 690000050) (by decide) (by decide)
  have n1 := t1.nm (by omega)
  have c2 := t2.cN (lo := 1) (hh := 100) (by omega) hw.1 (by omega)
  have c3 := t3.cN (lo := 0) (hh := 10000) (by omega) (by omega) (by omega)
  have c4 := t4.cN (lo := 0) (hh := v3 + 1) (by omega) (by omega) (by omega)
  obtain ⟨I2, a1, a2, a3, a4⟩ := cx_readTrader (Mb := Mb) (L := L) s1 w0.1 hW.1 m1 (by omega) hN
  have y0 : tr0 n T r nt (j + 1) = .inl (j + 2) := by
    unfold tr0
    rw [if_pos n1.1, n1.2, if_pos hW.fnd0]
  have y1 : tr1 n T r nt (j + 1) = .inl (j + 3) := by unfold tr1; rw [y0]; exact stp_0 c2.1
  have y2 : tr2 n T r nt (j + 1) = .inl (j + 4) := by unfold tr2; rw [y1]; exact stp_0 c3.1
  have y3 : tr3 n T r nt (j + 1) = .inl (j + 5) := by unfold tr3; rw [y2, h3, kx_nI (by omega)]; exact stp_0 c4.1
  have y4 : tr4 n T r nt (j + 1) = .inl (j + 6) := by unfold tr4; rw [y3]; exact stp_0 t5.cG
  rw [y4] at a2 a3
  rw [if_pos (show okS (.inl (j + 6)) = true from rfl)] at a3
  have eX : trR n T r nt (j + 1) = jnR r nt (nI (nt + 1)) (nI w) (nI p) (nI a) := by
    unfold trR
    rw [n1.2, c2.2, c3.2, c4.2]
  rw [eX] at a3
  rw [hlen]
  refine ⟨I2, ?_, a2, a3, f1.trans a4⟩
  rw [e1]
  obtain ⟨z, hz⟩ : ∃ z, N - nt = z + 1 := ⟨N - nt - 1, by omega⟩
  rw [hz, F_X7_read_52, if_pos (show nI nt < (24 : Int32) by rw [show (24 : Int32) = nI 24 from rfl, nI_ltP (by omega) (by omega)]; omega), wm_kt, s6.1, kg_t, cx_atWord kw_trader s1 hN, Option.bind_some]
  have q1 : qs (.inl j) (isW n T 690000050) = true := by
    show isW n T 690000050 j = true
    rw [w0.2, wd_v.2.2.1]
    rfl
  rw [if_pos q1, if_neg (by decide), a1, Option.bind_some, kl_v, show z = N - (nt + 1) by omega, ← nI_succ]
theorem rd_1to2 (h : Rd1 N ts r nb nt) (hn : nt < 20) (hN : 1000 < N) : Rd2 N ts r nb nt 0 := by
  intro Mb I L n T c us hT hS hNu hb ht
  obtain ⟨I1, e1, s1, m1, f1⟩ := h Mb I L n T c _ hT hS hNu hb
  refine ⟨I1, ?_, s1, m1, f1⟩
  rw [e1]
  obtain ⟨z, hz⟩ : ∃ z, N - nt = z + 1 := ⟨N - nt - 1, by omega⟩
  have q1 : ¬ qs (.inl ts.length) (isW n T 690000050) = true := by
    show ¬ isW n T 690000050 ts.length = true
    rw [ht]
    decide
  rw [hz, F_X7_read_52, if_pos (show nI nt < (24 : Int32) by rw [show (24 : Int32) = nI 24 from rfl, nI_ltP (by omega) (by omega)]; omega), wm_kt, s6.1, kg_t, cx_atWord kw_trader s1 hN, Option.bind_some, if_neg q1, if_pos rfl, kg_t, Option.bind_some, if_pos rfl, Nat.sub_zero]
  rfl
end
