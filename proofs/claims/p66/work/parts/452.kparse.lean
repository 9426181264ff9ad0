variable {Mb : SMem}
/-! the first market is read: the class alone, over its own cells -/
section
variable {N : Nat} {I : kInts} {L : kLngs} {n c : Nat} {T : Nat → Nat} {σ : sg} {r s : Nat → Int32} {nb nt z : Nat}
theorem q_bo {j i : Nat} (hD : DS I n T c (.inl j) r nb 0) (hZ : ZS r nb) (cq : isW n T 2590276 j = true) (hn : nb < 5) (hi : i < 5) (y : okS (bo4 n T (j + 1)) = true) (hN : 1000 < N) : ∃ I', F_X7_read_11 N (z + 1) (wm Mb I L) 6 85 (nI i) = F_X7_read_11 N z (wm Mb I' L) 6 85 (nI (i + 1)) ∧ DS I' n T c (bo4 n T (j + 1)) (boX n T r nb (j + 1)) (nb + 1) 0 ∧ ZS (boX n T r nb (j + 1)) (nb + 1) ∧ EF I I' := by
  have hw := cx_atWord (Mb := Mb) (N := N) (L := L) kw_board hD.1 hN
  have hk := isW_4 cq
  obtain ⟨h1, h2, h3, h4⟩ := hD
  obtain ⟨hR, h9, hp⟩ := h4 rfl
  obtain ⟨I1, a1, a2, a3, a5⟩ := cx_readBoard (Mb := Mb) (N := N) (L := L) h1 hk hR h2 hn hZ hN
  rw [if_pos y] at a3
  obtain ⟨o1, o2, o3, o4, o5⟩ := ok_bo4 y
  have p1 := cN_in o1
  have p2 := cN_in o2
  have p3 := cN_in o3
  refine ⟨I1, ?_, ⟨a2, a3, ⟨hn, h3.2⟩, fun _ => ⟨?_, ?_, fun t ht => absurd ht (Nat.not_lt_zero _)⟩⟩, ZS_bo hZ, a5.d⟩
  · have hl : nI i < 5 := (nI_ltP (b := 5) (by omega) (by decide)).mpr hi
    have cq2 : qs (.inl j) (isW n T 2590276) = true := cq
    rw [F_X7_read_11]
    simp only [hl, if_true, wm_kR, wm_kt, wm_kn, wm_kin, wm_kL, wm_kI, wm_ksI, wm_ksL, wm_kJ, wm_ksJ, kg_t, kl_v, Option.bind_some, s6.1, hw, cq2, if_neg one0, a1, nI_1]
  · exact RI_bo hR hn hZ ⟨p1.1, by omega⟩ ⟨p2.1, by omega⟩ (by omega)
  · unfold boX
    rw [boR_ne (by omega) (by omega), h9]
    have s0 : ∀ f : Nat → Nat, sumN f 0 = 0 := fun _ => rfl
    unfold tot
    rw [boR_ne (by omega) (by omega), s0, s0]
theorem q_boE {j i : Nat} (hD : DS I n T c (.inl j) r nb nt) (cq : isW n T 2590276 j = false) (hi : i < 5) (hN : 1000 < N) : F_X7_read_11 N (z + 1) (wm Mb I L) 6 85 (nI i) = F_X7_read_52 N N (wm Mb I L) 6 85 0 := by
  have hw := cx_atWord (Mb := Mb) (N := N) (L := L) kw_board hD.1 hN
  have hl : nI i < 5 := (nI_ltP (b := 5) (by omega) (by decide)).mpr hi
  have cq2 : qs (.inl j) (isW n T 2590276) = false := cq
  rw [F_X7_read_11]
  simp only [hl, if_true, wm_kR, wm_kt, wm_kn, wm_kin, wm_kL, wm_kI, wm_ksI, wm_ksL, wm_kJ, wm_ksJ, kg_t, kl_v, Option.bind_some, s6.1, hw, cq2, Bool.false_eq_true, if_false]
theorem q_tr {j i : Nat} (hD : DS I n T c (.inl j) r nb nt) (cq : isW n T 690000050 j = true) (hn : nt < 24) (hi : i < 24) (y : okS (tr4 n T r nt (j + 1)) = true) (hN : 1000 < N) : ∃ I', F_X7_read_52 N (z + 1) (wm Mb I L) 6 85 (nI i) = F_X7_read_52 N z (wm Mb I' L) 6 85 (nI (i + 1)) ∧ DS I' n T c (tr4 n T r nt (j + 1)) (trR n T r nt (j + 1)) nb (nt + 1) ∧ EF I I' := by
  have hw := cx_atWord (Mb := Mb) (N := N) (L := L) kw_trader hD.1 hN
  have hk := isW_4 cq
  obtain ⟨h1, h2, h3, h4⟩ := hD
  obtain ⟨hR, h9, hp⟩ := h4 rfl
  obtain ⟨I1, a1, a2, a3, a5⟩ := cx_readTrader (Mb := Mb) (N := N) (L := L) h1 hk hR h2 hn hN
  rw [if_pos y] at a3
  obtain ⟨o1, o2, o3, o4, o5, o6⟩ := ok_tr4 y
  have p1 := cN_in o2
  have p2 := cN_in o3
  refine ⟨I1, ?_, ⟨a2, a3, ⟨h3.1, hn⟩, fun _ => ⟨?_, ?_, fun t ht => ?_⟩⟩, a5⟩
  · have hl : nI i < 24 := (nI_ltP (b := 24) (by omega) (by decide)).mpr hi
    have cq2 : qs (.inl j) (isW n T 690000050) = true := cq
    rw [F_X7_read_52]
    simp only [hl, if_true, wm_kR, wm_kt, wm_kn, wm_kin, wm_kL, wm_kI, wm_ksI, wm_ksL, wm_kJ, wm_ksJ, kg_t, kl_v, Option.bind_some, s6.1, hw, cq2, if_neg one0, a1, nI_1]
  · exact RI_jn hR hn ⟨p1.1, by omega⟩ (by omega) hR.c.2.2
  · have := hR.c.2.2
    unfold trR
    rw [tot_jn (by omega), jnR_9, h9, nI_add]
  · unfold trR
    by_cases e : t = nt
    · rw [e]; exact jnR_t.2.2.2.2.1
    · rw [jnR_ne (by omega) (by omega) (by omega)]; exact hp t (by omega)
theorem q_trE {j i : Nat} (hD : DS I n T c (.inl j) r nb nt) (cq : isW n T 690000050 j = false) (hi : i < 24) (hN : 1000 < N) : F_X7_read_52 N (z + 1) (wm Mb I L) 6 85 (nI i) = F_X7_read_94 N N (wm Mb I L) 6 85 0 := by
  have hw := cx_atWord (Mb := Mb) (N := N) (L := L) kw_trader hD.1 hN
  have hl : nI i < 24 := (nI_ltP (b := 24) (by omega) (by decide)).mpr hi
  have cq2 : qs (.inl j) (isW n T 690000050) = false := cq
  rw [F_X7_read_52]
  simp only [hl, if_true, wm_kR, wm_kt, wm_kn, wm_kin, wm_kL, wm_kI, wm_ksI, wm_ksL, wm_kJ, wm_ksJ, kg_t, kl_v, Option.bind_some, s6.1, hw, cq2, Bool.false_eq_true, if_false]
theorem q_se {j i : Nat} (hD : DS I n T c (.inl j) r nb nt) (cq : isW n T 627764 j = true) (hi : i < 24) (y : okS (seF n T r nb nt (j + 1)).1 = true) (hN : 1000 < N) : ∃ I', F_X7_read_94 N (z + 1) (wm Mb I L) 6 85 (nI i) = F_X7_read_94 N z (wm Mb I' L) 6 85 (nI (i + 1)) ∧ DS I' n T c (seF n T r nb nt (j + 1)).1 (seF n T r nb nt (j + 1)).2 nb nt ∧ EF I I' := by
  have hw := cx_atWord (Mb := Mb) (N := N) (L := L) kw_seat hD.1 hN
  have hk := isW_4 cq
  obtain ⟨h1, h2, h3, h4⟩ := hD
  obtain ⟨hR, h9, hp⟩ := h4 rfl
  obtain ⟨I1, a1, a2, a3, a5⟩ := cx_readSeat (Mb := Mb) (N := N) (L := L) h1 hk hR h2 hN
  refine ⟨I1, ?_, ⟨a2, a3, h3, fun y => ?_⟩, a5⟩
  · have hl : ¬ (24 : Int32) < nI i := by
      rw [show (24 : Int32) = nI 24 from rfl, nI_ltI (by omega) (by omega)]
      omega
    have cq2 : qs (.inl j) (isW n T 627764) = true := cq
    rw [F_X7_read_94]
    rw [if_neg hl]
    simp only [wm_kR, wm_kt, wm_kn, wm_kin, wm_kL, wm_kI, wm_ksI, wm_ksL, wm_kJ, wm_ksJ, kg_t, kl_v, Option.bind_some, s6.1, hw, cq2, if_true, if_neg one0, a1, nI_1]
  · obtain ⟨t, b, q, o1, o2, o3, o4, o5, o6⟩ := seF_ok hR hp y
    rw [o5]
    refine ⟨o6, ?_, fun s hs => ?_⟩
    · rw [tot_si o3 o4, siR_ne (by have := @si_ge b q; omega) (by omega) (by omega)]; exact h9
    · rw [siR_ne (by have := si_lt o3 o4; omega) (by omega) (by omega)]; exact hp s hs
theorem q_seE {j i : Nat} (hD : DS I n T c (.inl j) r nb nt) (cq : isW n T 627764 j = false) (hi : i < 24) (hN : 1000 < N) : ∃ I', F_X7_read_94 N (z + 1) (wm Mb I L) 6 85 (nI i) = some (wm Mb I' L) ∧ CS I' n T c (enS n T (.inl j)) ∧ CF I I' := by
  have hw := cx_atWord (Mb := Mb) (N := N) (L := L) kw_seat hD.1 hN
  obtain ⟨I', a1, a2, a3⟩ := cx_takeEnd (Mb := Mb) (N := N) (L := L) hD.1
  refine ⟨I', ?_, a2, a3⟩
  have hl : ¬ (24 : Int32) < nI i := by
    rw [show (24 : Int32) = nI 24 from rfl, nI_ltI (by omega) (by omega)]
    omega
  have cq2 : qs (.inl j) (isW n T 627764) = false := cq
  rw [F_X7_read_94]
  rw [if_neg hl]
  simp only [wm_kR, wm_kt, wm_kn, wm_kin, wm_kL, wm_kI, wm_ksI, wm_ksL, wm_kJ, wm_ksJ, kg_t, kl_v, Option.bind_some, s6.1, hw, cq2, Bool.false_eq_true, if_true, if_false, a1]
theorem q_hd (hS : CS I n T c (.inl 0)) (hNu : Nu I 85) (y : okS (hd7 n T) = true) (hN : 1000 < N) : ∃ I', F_X7_read N (wm Mb I L) 6 85 = F_X7_read_11 N N (wm Mb I' L) 6 85 (nI 0) ∧ DS I' n T c (hd7 n T) (hdV n T) 0 0 ∧ EF I I' := by
  have hm : (85 : Nat) ∈ mks := by decide
  obtain ⟨I1, I2, a1, a2, a3, a4, a5⟩ := cx_header (Mb := Mb) (N := N) (L := L) hS hNu hN
  refine ⟨I2, ?_, ⟨a3, a4, ⟨by omega, by omega⟩, fun y => ⟨(RI_hd y).1, (RI_hd y).2, fun t ht => absurd ht (Nat.not_lt_zero _)⟩⟩, a5.d⟩
  unfold F_X7_read
  simp only [wm_kR, wm_kt, wm_kn, wm_kin, wm_kL, wm_kI, wm_ksI, wm_ksL, wm_kJ, wm_ksJ, kg_t, kl_v, Option.bind_some, mm_k hm, a1, a2]
  rfl
end
