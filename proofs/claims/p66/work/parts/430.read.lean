variable {Mb : SMem}
/-! the class reads the law's text: its pieces, the row behind each, and what the readers do on it -/
def mkH (a b c d e f : Nat) : List kTk := [(0, pcs 3), (1, dgs a), (1, dgs b), (1, dgs c), (1, dgs d), (1, dgs e), (1, dgs f), (0, [59])]
def mkB (w s h : Nat) : List kTk := [(0, pcs 4), (1, dgs w), (1, dgs s), (1, dgs h), (0, [59])]
def mkT (t w o c : Nat) : List kTk := [(0, pcs 5), (1, [97 + t]), (1, dgs w), (1, dgs o), (1, dgs c), (0, [59])]
def mkS (t b q : Nat) : List kTk := [(0, pcs 6), (1, [97 + t]), (1, dgs b), (1, pcs (if q < 6 then 7 else 8)), (1, dgs (if q < 6 then 6 - q else q - 6)), (0, [59])]
def RW (r : Nat → Int32) (nb nt : Nat) : Prop := RI r nb nt ∧ r 9 = nI (tot r nt) ∧ tot r nt ≤ 1000 + 100 * nt ∧ r 6 = 0 ∧ ∀ t, t < nt → r (89 + 7 * t + 4) = 1 ∧ r (89 + 7 * t + 0) = nI (t + 1)
def Rd0 (N : Nat) (ts : List kTk) (r : Nat → Int32) (nb : Nat) : Prop := ∀ (Mb : SMem) (I : kInts) (L : kLngs) (n : Nat) (T : Nat → Nat) (c : Nat) (us : List kTk), TVs n T 0 (ts ++ us) → CS I n T c (.inl 0) → Nu I 85 → ∃ I', F_X7_read N (wm Mb I L) 6 85 = F_X7_read_11 N (N - nb) (wm Mb I' L) 6 85 (nI nb) ∧ CS I' n T c (.inl ts.length) ∧ RM I' 85 r nb 0 ∧ EF I I'
def Rd1 (N : Nat) (ts : List kTk) (r : Nat → Int32) (nb nt : Nat) : Prop := ∀ (Mb : SMem) (I : kInts) (L : kLngs) (n : Nat) (T : Nat → Nat) (c : Nat) (us : List kTk), TVs n T 0 (ts ++ us) → CS I n T c (.inl 0) → Nu I 85 → isW n T 2590276 ts.length = false → ∃ I', F_X7_read N (wm Mb I L) 6 85 = F_X7_read_52 N (N - nt) (wm Mb I' L) 6 85 (nI nt) ∧ CS I' n T c (.inl ts.length) ∧ RM I' 85 r nb nt ∧ EF I I'
def Rd2 (N : Nat) (ts : List kTk) (r : Nat → Int32) (nb nt k : Nat) : Prop := ∀ (Mb : SMem) (I : kInts) (L : kLngs) (n : Nat) (T : Nat → Nat) (c : Nat) (us : List kTk), TVs n T 0 (ts ++ us) → CS I n T c (.inl 0) → Nu I 85 → isW n T 2590276 ts.length = false → isW n T 690000050 ts.length = false → ∃ I', F_X7_read N (wm Mb I L) 6 85 = F_X7_read_94 N (N - k) (wm Mb I' L) 6 85 (nI k) ∧ CS I' n T c (.inl ts.length) ∧ RM I' 85 r nb nt ∧ EF I I'
section
variable {N n p j pk c nb nt : Nat} {T : Nat → Nat} {t u : kTk} {ts us : List kTk} {r : Nat → Int32}
theorem TV.cN {v s lo hh : Nat} (h : TV n T j (s, dgs v)) (hv : v < 1000) (h1 : lo ≤ v) (h2 : v < hh) : cN n T lo hh j = 0 ∧ nuv n T j = v := by
  obtain ⟨e1, e2⟩ := h.num hv
  refine ⟨?_, e2⟩
  unfold Jvm.Pilot.@@N@@.cN
  rw [if_pos e1, if_pos (by rw [e2]; exact ⟨h1, h2⟩)]
theorem TV.cG (h : TV n T j (0, [59])) : cG n T 59 j = 0 := by
  unfold Jvm.Pilot.@@N@@.cG
  rw [h.sign]
  rfl
theorem wd_ok : ∀ s, s < 9 → 3 ≤ s → (kd ((pcs s).getD 0 0) = 1 ∧ (pcs s).length < 12 ∧ 1 ≤ (pcs s).length ∧ ((List.range (pcs s).length).all (fun i => decide (kd ((pcs s).getD i 0) = 1))) = true) := by decide +kernel
theorem wd_v : wvL (pcs 3) = 437857460 ∧ wvL (pcs 4) = 2590276 ∧ wvL (pcs 5) = 690000050 ∧ wvL (pcs 6) = 627764 ∧ wvL (pcs 7) = 398548 ∧ wvL (pcs 8) = 19176724 := by decide +kernel
theorem TV.wd {s k w : Nat} (h : TV n T j (k, pcs s)) (h9 : s < 9) (h3 : 3 ≤ s) : tK n T j = 1 ∧ isW n T w j = decide (wvL (pcs s) = w) := by
  obtain ⟨a1, a2, -⟩ := wd_ok s h9 h3
  exact ⟨h.2.1.trans a1, h.word a1 a2 w⟩
theorem nm_kd : ∀ t, t < 26 → kd (97 + t) = 1 := by decide
theorem TV.nm {x k : Nat} (h : TV n T j (k, [97 + x])) (hx : x < 24) : isM n T j = true ∧ nmc n T j = nI (x + 1) := by
  have e : kdT (k, [97 + x]) = 1 := nm_kd x (by omega)
  constructor
  · unfold isM
    rw [h.2.1, e, h.2.2.1]
    rfl
  · unfold nmc
    rw [h.wv]
    congr 1
    show 32 * 0 + (97 + x - 96) = x + 1
    omega
theorem fndL_of {cc : Int32} {t : Nat} : ∀ (k i : Nat), i ≤ t → t < i + k → r (89 + 7 * t + 0) = cc → (∀ s, i ≤ s → s < t → ¬ r (89 + 7 * s + 0) = cc) → fndL r cc k i = some t
  | 0, i, h1, h2, _, _ => absurd h1 (by omega)
  | k + 1, i, h1, h2, h3, h4 => by
    show (if r (89 + 7 * i + 0) = cc then some i else fndL r cc k (i + 1)) = some t
    by_cases e : i = t
    · subst e
      rw [if_pos h3]
    · rw [if_neg (h4 i (Nat.le_refl _) (by omega))]
      exact fndL_of k (i + 1) (by omega) (by omega) h3 (fun s s1 s2 => h4 s (by omega) s2)
theorem RW.fnd (h : RW r nb nt) {t : Nat} (ht : t < nt) : fnd r nt (nI (t + 1)) = some t := by
  have h24 := h.1.nt24
  refine fndL_of nt 0 (Nat.zero_le _) (by omega) (h.2.2.2.2 t ht).2 (fun s _ hs => ?_)
  rw [(h.2.2.2.2 s (by omega)).2]
  intro z
  have := (nI_eq (show s + 1 < 2147483648 by omega) (show t + 1 < 2147483648 by omega)).mp z
  omega
theorem RW.fnd0 (h : RW r nb nt) : Jvm.Pilot.@@N@@.fnd r nt (nI (nt + 1)) = none := by
  have h24 := h.1.nt24
  cases hf : Jvm.Pilot.@@N@@.fnd r nt (nI (nt + 1)) with
  | none => rfl
  | some t =>
    have ht := fnd_lt hf
    have h2 := (fndL_lt hf).2
    rw [(h.2.2.2.2 t ht).2] at h2
    have := (nI_eq (show t + 1 < 2147483648 by omega) (show nt + 1 < 2147483648 by omega)).mp h2
    omega
/-! the header -/
theorem RW_hd {v0 v1 v2 v3 v4 v5 : Nat} (h0 : v0 < 21) (h1 : v1 < 100) (h2 : v2 < 100) (h3 : 1 ≤ v3 ∧ v3 < 1000) (h4 : v4 < 1000) (h5 : v5 < 1000) : RW (hdR (nI v0) (nI v1) (nI v2) (nI v3) (nI v4) (nI v5)) 0 0 ∧ ZS (hdR (nI v0) (nI v1) (nI v2) (nI v3) (nI v4) (nI v5)) 0 := by
  have e5 : hdR (nI v0) (nI v1) (nI v2) (nI v3) (nI v4) (nI v5) 5 = nI v5 := rfl
  have s0 : ∀ f : Nat → Nat, sumN f 0 = 0 := fun _ => rfl
  have et : tot (hdR (nI v0) (nI v1) (nI v2) (nI v3) (nI v4) (nI v5)) 0 = v5 := by
    unfold tot
    rw [e5, kx_nI (by omega), s0, Nat.add_zero]
  refine ⟨⟨⟨⟨⟨rfl, rfl, by omega, by omega⟩, ⟨v0, by omega, rfl⟩, ⟨v1, by omega, rfl⟩, ⟨v2, by omega, rfl⟩, ⟨v3, by omega, rfl⟩, ⟨v4, by omega, rfl⟩, ⟨0, by omega, rfl⟩⟩, fun b hb => absurd hb (Nat.not_lt_zero _), fun b hb => absurd hb (Nat.not_lt_zero _), ⟨fun b hb => absurd hb (Nat.not_lt_zero _), fun b hb => absurd hb (Nat.not_lt_zero _)⟩, ?_, fun b hb => absurd hb (Nat.not_lt_zero _), ?_⟩, ?_, by rw [et]; omega, rfl, fun t ht => absurd ht (Nat.not_lt_zero _)⟩, ?_⟩
  · rw [e5]; exact nn_nI (by omega)
  · rw [e5, kx_nI (by omega), s0]; omega
  · rw [et]; rfl
  · intro k h1 h2
    unfold hdR
    rw [if_neg (by omega), if_neg (by omega), if_neg (by omega), if_neg (by omega), if_neg (by omega), if_neg (by omega)]
theorem rd_head {v0 v1 v2 v3 v4 v5 : Nat} (h0 : v0 < 21) (h1 : v1 < 100) (h2 : v2 < 100) (h3 : 1 ≤ v3 ∧ v3 < 1000) (h4 : v4 < 1000) (h5 : v5 < 1000) (hN : 1000 < N) : Rd0 N (mkH v0 v1 v2 v3 v4 v5) (hdR (nI v0) (nI v1) (nI v2) (nI v3) (nI v4) (nI v5)) 0 := by
  intro Mb I L n T c us hT hS hNu
  obtain ⟨I1, I', a1, a2, a3, a4, a5⟩ := cx_header (Mb := Mb) (L := L) hS hNu hN
  obtain ⟨t0, t1, t2, t3, t4, t5, t6, t7, -⟩ := hT
  have w0 : cW n T 437857460 0 = 0 := by
    unfold cW
    rw [(t0.wd (by decide) (by decide)).2, wd_v.1]
    rfl
  have c1 := t1.cN (lo := 0) (hh := 21) (by omega) (by omega) h0
  have c2 := t2.cN (lo := 0) (hh := 100) (by omega) (by omega) h1
  have c3 := t3.cN (lo := 0) (hh := 100) (by omega) (by omega) h2
  have c4 := t4.cN (lo := 1) (hh := 1000) (by omega) h3.1 h3.2
  have c5 := t5.cN (lo := 0) (hh := 1000) (by omega) (by omega) h4
  have c6 := t6.cN (lo := 0) (hh := 100000) (by omega) (by omega) (by omega)
  have y0 : hd0 n T = .inl 1 := stp_0 w0
  have y1 : hd1 n T = .inl 2 := by unfold hd1; rw [y0]; exact stp_0 c1.1
  have y2 : hd2 n T = .inl 3 := by unfold hd2; rw [y1]; exact stp_0 c2.1
  have y3 : hd3 n T = .inl 4 := by unfold hd3; rw [y2]; exact stp_0 c3.1
  have y4 : hd4 n T = .inl 5 := by unfold hd4; rw [y3]; exact stp_0 c4.1
  have y5 : hd5 n T = .inl 6 := by unfold hd5; rw [y4]; exact stp_0 c5.1
  have y6 : hd6 n T = .inl 7 := by unfold hd6; rw [y5]; exact stp_0 c6.1
  have y7 : hd7 n T = .inl 8 := by unfold hd7; rw [y6]; exact stp_0 t7.cG
  have eV : hdV n T = hdR (nI v0) (nI v1) (nI v2) (nI v3) (nI v4) (nI v5) := by
    unfold hdV
    rw [y0, y1, y2, y3, y4, y5, nuV_0 c1.1, nuV_0 c2.1, nuV_0 c3.1, nuV_0 c4.1, nuV_0 c5.1, nuV_0 c6.1, c1.2, c2.2, c3.2, c4.2, c5.2, c6.2]
  rw [y7] at a3
  rw [eV] at a4
  have k85 : kt Mb 85 4 = true := (kt_of (n := (cellAt 85).2) 85 (by decide)).1
  refine ⟨I', ?_, a3, a4, a5⟩
  unfold F_X7_read
  rw [wm_kt, k85, kg_t, a1, Option.bind_some, a2, Option.bind_some]
  rfl
end
