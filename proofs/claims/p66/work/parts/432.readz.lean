variable {Mb : SMem}
section
variable {N n p j pk c nb nt k : Nat} {T : Nat → Nat} {ts us : List kTk} {r : Nat → Int32} {t b q a : Nat}
theorem tot_siR (hb : b < 5) (hq : q < 13) : tot (siR r t b q) nt = tot r nt := tot_si hb hq
theorem RW_si (h : RW r nb nt) (ht : t < nt) (hu : r (89 + 7 * t + 5) = -1) (hb : b < nb) (ha : r (14 + 15 * b + 0) = nI a) (ha6 : a ≤ 6) (h1 : 6 - a ≤ q) (h2 : q ≤ 6 + a) (h6 : q ≠ 6) (he : r (si b q) = 0) : RW (siR r t b q) nb nt ∧ ∀ s, s ≠ t → siR r t b q (89 + 7 * s + 5) = r (89 + 7 * s + 5) := by
  have h5 := h.1.nb5
  have hq : q < 13 := by omega
  have h7 := si_lt (show b < 5 by omega) hq
  have h8 := @si_ge b q
  refine ⟨⟨RI_si h.1 ht hu (h.2.2.2.2 t ht).1 hb ha ha6 h1 h2 h6 he, ?_, by rw [tot_si (by omega) hq]; exact h.2.2.1, ?_, fun s hs => ?_⟩, fun s hs => ?_⟩
  · rw [tot_si (by omega) hq, siR_ne (k := 9) (by omega) (by omega) (by omega)]; exact h.2.1
  · rw [siR_ne (k := 6) (by omega) (by omega) (by omega)]; exact h.2.2.2.1
  · rw [siR_ne (k := 89 + 7 * s + 4) (by omega) (by omega) (by omega), siR_ne (k := 89 + 7 * s + 0) (by omega) (by omega) (by omega)]
    exact h.2.2.2.2 s hs
  · exact siR_ne (by omega) (by omega) (by omega)
theorem rd_seat (h : Rd2 N ts r nb nt k) (hW : RW r nb nt) (hn : nt < 20) (hk : k ≤ 20) (ht : t < nt) (hu : r (89 + 7 * t + 5) = -1) (hb : b < nb) (ha : r (14 + 15 * b + 0) = nI a) (ha6 : a ≤ 6) (h1 : 6 - a ≤ q) (h2 : q ≤ 6 + a) (h6 : q ≠ 6) (he : r (si b q) = 0) (hN : 1000 < N) : Rd2 N (ts ++ mkS t b q) (siR r t b q) nb nt (k + 1) := by
  have h5 := hW.1.nb5
  intro Mb I L n T c us hT hS hNu hbw htw
  rw [List.append_assoc] at hT
  have hD := TVs.drop ts hT
  rw [Nat.zero_add] at hD
  obtain ⟨t0, t1, t2, t3, t4, t5, -⟩ := hD
  have wb : isW n T 2590276 ts.length = false := by
    rw [(t0.wd (by decide) (by decide)).2, wd_v.2.2.2.1]
    rfl
  have wt : isW n T 690000050 ts.length = false := by
    rw [(t0.wd (by decide) (by decide)).2, wd_v.2.2.2.1]
    rfl
  obtain ⟨I1, e1, s1, m1, f1⟩ := h Mb I L n T c _ hT hS hNu wb wt
  generalize hj : ts.length = j at *
  have hlen : (ts ++ mkS t b q).length = j + 6 := by rw [List.length_append, hj]; rfl
  have w0 := t0.wd (w := 627764) (by decide) (by decide)
  have n1 := t1.nm (by omega)
  have c2 := t2.cN (lo := 0) (hh := nb) (by omega) (by omega) hb
  have hd : (if q < 6 then 6 - q else q - 6) < 1000 ∧ 1 ≤ (if q < 6 then 6 - q else q - 6) ∧ (if q < 6 then 6 - q else q - 6) < a + 1 := by
    split <;> omega
  have c4 := t4.cN (lo := 1) (hh := a + 1) hd.1 hd.2.1 hd.2.2
  have w3 : isW n T 398548 (j + 1 + 1 + 1) = decide (q < 6) ∧ sdC n T (j + 1 + 1 + 1) = 0 := by
    by_cases z : q < 6
    · rw [if_pos z] at t3
      have x1 := (t3.wd (w := 398548) (by decide) (by decide)).2
      rw [wd_v.2.2.2.2.1] at x1
      have x2 : isW n T 398548 (j + 1 + 1 + 1) = true := x1
      refine ⟨by rw [x2]; simp [z], ?_⟩
      unfold sdC
      rw [x2]
      rfl
    · rw [if_neg z] at t3
      have x1 := (t3.wd (w := 398548) (by decide) (by decide)).2
      have y1 := (t3.wd (w := 19176724) (by decide) (by decide)).2
      rw [wd_v.2.2.2.2.2] at x1 y1
      have x2 : isW n T 398548 (j + 1 + 1 + 1) = false := x1
      have y2 : isW n T 19176724 (j + 1 + 1 + 1) = true := y1
      refine ⟨by rw [x2]; simp [z], ?_⟩
      unfold sdC
      rw [x2, y2]
      rfl
  have hp : plc n T (j + 1 + 1 + 1) (if q < 6 then 6 - q else q - 6) = q := by
    unfold plc
    rw [w3.1]
    by_cases z : q < 6
    · rw [if_pos (by simp [z]), if_pos z]; omega
    · rw [if_neg (by simp [z]), if_neg z]; omega
  have eS : seF n T r nb nt (j + 1) = (.inl (j + 6), siR r t b q) := by
    unfold seF
    rw [if_pos n1.1, n1.2, hW.fnd ht]
    show (if r (89 + 7 * t + 5) = -1 then seG n T r nb t (j + 1 + 1) else _) = _
    rw [if_pos hu]
    unfold seG
    rw [if_pos c2.1, c2.2, ha, kx_nI (by omega)]
    unfold seH
    rw [if_pos w3.2, c4.2, hp]
    unfold seI
    rw [if_pos c4.1, if_pos he, if_pos t5.cG]
  obtain ⟨I2, a1, a2, a3, a4⟩ := cx_readSeat (Mb := Mb) (L := L) s1 w0.1 hW.1 m1 hN
  rw [eS] at a2 a3
  rw [hlen]
  refine ⟨I2, ?_, a2, a3, f1.trans a4⟩
  rw [e1]
  obtain ⟨z, hz⟩ : ∃ z, N - k = z + 1 := ⟨N - k - 1, by omega⟩
  have q1 : qs (.inl j) (isW n T 627764) = true := by
    show isW n T 627764 j = true
    rw [w0.2, wd_v.2.2.2.1]
    rfl
  rw [hz, F_X7_read_94, if_neg (show ¬ (24 : Int32) < nI k by rw [show (24 : Int32) = nI 24 from rfl, nI_ltP (by omega) (by omega)]; omega), wm_kt, s6.1, kg_t, cx_atWord kw_seat s1 hN, Option.bind_some]
  rw [if_pos q1, if_neg (by decide), a1, Option.bind_some, kl_v, show z = N - (k + 1) by omega, ← nI_succ]
theorem rd_end (h : Rd2 N ts r nb nt k) (hW : RW r nb nt) (hk : k ≤ 20) (hN : 1000 < N) (Mb : SMem) (I : kInts) (L : kLngs) (hT : TVs n T 0 ts) (hS : CS I n T c (.inl 0)) (hNu : Nu I 85) : ∃ I', F_X7_read N (wm Mb I L) 6 85 = some (wm Mb I' L) ∧ CS I' n T c (.inl ts.length) ∧ RM I' 85 r nb nt ∧ EF I I' := by
  have hD := TVs.drop ts (bs := []) (j := 0) (by rw [List.append_nil]; exact hT)
  rw [Nat.zero_add] at hD
  have h4 : tK n T ts.length = 4 := hD
  have wf : ∀ w, isW n T w ts.length = false := fun w => by
    unfold isW
    rw [h4]
    rfl
  obtain ⟨I1, e1, s1, m1, f1⟩ := h Mb I L n T c [] (by rw [List.append_nil]; exact hT) hS hNu (wf _) (wf _)
  obtain ⟨I2, a1, a2, a3⟩ := cx_takeEnd (Mb := Mb) (N := N) (L := L) s1
  have eE : enS n T (.inl ts.length) = .inl ts.length := by
    unfold enS
    exact if_pos h4
  rw [eE] at a2
  refine ⟨I2, ?_, a2, m1.cf hW.1.nb5 hW.1.nt24 a3, f1.trans a3.e⟩
  rw [e1]
  obtain ⟨z, hz⟩ : ∃ z, N - k = z + 1 := ⟨N - k - 1, by omega⟩
  have q1 : ¬ qs (.inl ts.length) (isW n T 627764) = true := by
    show ¬ isW n T 627764 ts.length = true
    rw [wf]
    decide
  rw [hz, F_X7_read_94, if_neg (show ¬ (24 : Int32) < nI k by rw [show (24 : Int32) = nI 24 from rfl, nI_ltP (by omega) (by omega)]; omega), wm_kt, s6.1, kg_t, cx_atWord kw_seat s1 hN, Option.bind_some]
  rw [if_neg q1, if_pos rfl, kg_t, a1, Option.bind_some]
end
