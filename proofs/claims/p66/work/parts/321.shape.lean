/-! the shape of the class's memory: 539 cells; what comes behind them is the law's -/
def mcell (k : Nat) : Nat × Nat :=
  if k = 0 then (4, 16) else if k = 1 then (16, 5) else if k = 2 then (17, 24) else if k = 3 then (2, 4) else if k < 7 then (13, 12)
  else if k < 17 then (if (k - 7) % 2 = 0 then (0, 5) else (13, 13))
  else (10, 8)
def cellAt (a : Nat) : Nat × Nat :=
  if a < 14 then [(0, 0), (11, 9), (8, 2), (13, 800), (8, 2), (13, 800), (9, 8), (13, 801), (13, 801), (13, 801), (6, 6), (19, 30), (13, 2), (13, 40)].getD a (0, 0)
  else if a < 44 then (1, 7)
  else if a < 126 then mcell ((a - 44) % 41)
  else if a = 126 then (3, 3) else if a = 127 then (18, 8)
  else if a < 456 then mcell ((a - 128) % 41)
  else if a = 456 then (18, 2) else if a = 457 then (14, 2)
  else if a < 540 then mcell ((a - 458) % 41)
  else [(12, 30), (13, 293), (13, 293), (13, 2344), (13, 586), (14, 2), (14, 24), (13, 800), (13, 800), (13, 4), (13, 4), (13, 200), (15, 1)].getD (a - 540) (0, 0)
def mref (m k j : Nat) : Nat :=
  if k = 0 then (if j = 13 then m + 1 else if j = 14 then m + 2 else if j = 15 then m + 3 else 0)
  else if k = 1 then (if j < 5 then m + 7 + 2 * j else 0)
  else if k = 2 then (if j < 24 then m + 17 + j else 0)
  else if k = 3 then (if j < 3 then m + 4 + j else 0)
  else if k < 7 then 0
  else if k < 17 then (if (k - 7) % 2 = 0 ∧ j = 4 then m + k + 1 else 0)
  else 0
def refB (a j : Nat) : Nat :=
  if a < 14 then (match a with
    | 1 => [2, 4, 6, 10, 44, 85, 126, 456, 457].getD j 0
    | 2 => if j = 0 then 3 else 0
    | 4 => if j = 0 then 5 else 0
    | 6 => [2, 7, 8, 9].getD j 0
    | 10 => [11, 0, 12, 0, 13].getD j 0
    | 11 => if j < 30 then 14 + j else 0
    | _ => 0)
  else if a < 44 then 0
  else if a < 126 then mref (44 + (a - 44) / 41 * 41) ((a - 44) % 41) j
  else if a = 126 then (if j = 0 then 127 else 0)
  else if a = 127 then (if j < 8 then 128 + 41 * j else 0)
  else if a < 456 then mref (128 + (a - 128) / 41 * 41) ((a - 128) % 41) j
  else if a = 456 then (if j < 2 then 458 + 41 * j else 0)
  else if a = 457 then 0
  else if a < 540 then mref (458 + (a - 458) / 41 * 41) ((a - 458) % 41) j
  else if a = 540 then [541, 542, 543, 544, 545, 0, 0, 546, 547, 548, 0, 0, 0, 0, 0, 0, 0, 0, 0, 0, 0, 0, 0, 0, 0, 0, 549, 550, 551].getD j 0
  else 0
def mks : List Nat := [44, 85, 128, 169, 210, 251, 292, 333, 374, 415, 458, 499]
abbrev mkt : Nat := 44
abbrev drf : Nat := 85
abbrev mA : Nat := 540
abbrev sA : Nat := 541
abbrev fA : Nat := 546
def bd (m b : Nat) : Nat := m + 7 + 2 * b
def ow (m b : Nat) : Nat := m + 8 + 2 * b
def tr (m t : Nat) : Nat := m + 17 + t
def ev (m : Nat) : Nat := m + 3
def ek (m k : Nat) : Nat := m + 4 + k
theorem kcell_s (M : kMem) (k : Nat) : kcell M (k + 1) = M.1[k]? := rfl
def SMp (M : kMem) : Prop := (∀ a, 1 ≤ a → a ≤ 539 → kcell M a = some (cellAt a)) ∧ ∀ a j, a ≤ 539 → kR M a j = refB a j
abbrev SMem : Type := { M : kMem // SMp M }
section
variable {Mb : SMem}
theorem cB {a : Nat} (h1 : 1 ≤ a) (h2 : a ≤ 539) : kcell Mb a = some (cellAt a) := Mb.2.1 a h1 h2
theorem ktB {a t n : Nat} (h : (1 ≤ a ∧ a ≤ 539) ∧ cellAt a = (t, n)) : kt Mb a t = true ∧ kn Mb a = n := by
  unfold kt kn
  rw [cB h.1.1 h.1.2, h.2]
  simp
theorem kRB (a j : Nat) (h : a ≤ 539) : kR Mb a j = refB a j := Mb.2.2 a j h
theorem sh_m0 : ∀ m ∈ mks, (((1 ≤ m ∧ m ≤ 539) ∧ cellAt m = (4, 16)) ∧ ((1 ≤ refB m 13 ∧ refB m 13 ≤ 539) ∧ cellAt (refB m 13) = (16, 5)) ∧ ((1 ≤ refB m 14 ∧ refB m 14 ≤ 539) ∧ cellAt (refB m 14) = (17, 24)) ∧ ((1 ≤ ev m ∧ ev m ≤ 539) ∧ cellAt (ev m) = (2, 4))) ∧ refB m 15 = ev m := by decide +kernel
theorem sh_m : ∀ m ∈ mks, kt Mb m 4 = true ∧ kt Mb (kR Mb m 13) 16 = true ∧ kn Mb (kR Mb m 13) = 5 ∧ kt Mb (kR Mb m 14) 17 = true ∧ kn Mb (kR Mb m 14) = 24 ∧ kR Mb m 15 = ev m ∧ kt Mb (ev m) 2 = true := fun m hm => by
  obtain ⟨⟨h1, h2, h3, h4⟩, h5⟩ := sh_m0 m hm
  have hle := h1.1.2
  rw [kRB m 13 hle, kRB m 14 hle, kRB m 15 hle]
  exact ⟨(ktB h1).1, (ktB h2).1, (ktB h2).2, (ktB h3).1, (ktB h3).2, h5, (ktB h4).1⟩
theorem sh_b0 : ∀ m ∈ mks, ∀ b, b < 5 → (refB (refB m 13) b = bd m b ∧ refB (bd m b) 4 = ow m b) ∧ ((1 ≤ bd m b ∧ bd m b ≤ 539) ∧ cellAt (bd m b) = (0, 5)) ∧ ((1 ≤ ow m b ∧ ow m b ≤ 539) ∧ cellAt (ow m b) = (13, 13)) := by decide +kernel
theorem sh_b : ∀ m ∈ mks, ∀ b, b < 5 → kR Mb (kR Mb m 13) b = bd m b ∧ kt Mb (bd m b) 0 = true ∧ kR Mb (bd m b) 4 = ow m b ∧ kt Mb (ow m b) 13 = true ∧ kn Mb (ow m b) = 13 := fun m hm b hb => by
  obtain ⟨⟨h1, h2⟩, h3, h4⟩ := sh_b0 m hm b hb
  obtain ⟨⟨g1, g2, g3, g4⟩, g5⟩ := sh_m0 m hm
  rw [kRB m 13 g1.1.2, kRB (refB m 13) b g2.1.2, kRB (bd m b) 4 h3.1.2]
  exact ⟨h1, (ktB h3).1, h2, (ktB h4).1, (ktB h4).2⟩
theorem sh_t0 : ∀ m ∈ mks, ∀ t, t < 24 → refB (refB m 14) t = tr m t ∧ ((1 ≤ tr m t ∧ tr m t ≤ 539) ∧ cellAt (tr m t) = (10, 8)) := by decide +kernel
theorem sh_t : ∀ m ∈ mks, ∀ t, t < 24 → kR Mb (kR Mb m 14) t = tr m t ∧ kt Mb (tr m t) 10 = true := fun m hm t ht => by
  obtain ⟨h1, h4⟩ := sh_t0 m hm t ht
  obtain ⟨⟨g1, g2, g3, g4⟩, g5⟩ := sh_m0 m hm
  rw [kRB m 14 g1.1.2, kRB (refB m 14) t g3.1.2]
  exact ⟨h1, (ktB h4).1⟩
theorem sh_e0 : ∀ m ∈ mks, ∀ k, k < 3 → refB (ev m) k = ek m k ∧ ((1 ≤ ek m k ∧ ek m k ≤ 539) ∧ cellAt (ek m k) = (13, 12)) := by decide +kernel
theorem sh_e : ∀ m ∈ mks, ∀ k, k < 3 → kR Mb (ev m) k = ek m k ∧ kt Mb (ek m k) 13 = true ∧ kn Mb (ek m k) = 12 := fun m hm k hk => by
  obtain ⟨h1, h2⟩ := sh_e0 m hm k hk
  obtain ⟨⟨g1, g2, g3, g4⟩, g5⟩ := sh_m0 m hm
  rw [kRB (ev m) k g4.1.2]
  exact ⟨h1, (ktB h2).1, (ktB h2).2⟩
theorem kt_of {t n : Nat} (a : Nat) (h : ((decide (1 ≤ a) && decide (a ≤ 539)) && ((cellAt a).1 == t && (cellAt a).2 == n)) = true) : kt Mb a t = true ∧ kn Mb a = n := by
  simp only [Bool.and_eq_true, decide_eq_true_eq, beq_iff_eq] at h
  exact ktB ⟨h.1, Prod.ext h.2.1 h.2.2⟩
theorem kR_of {v : Nat} (a j : Nat) (h : (decide (a ≤ 539) && (refB a j == v)) = true) : kR Mb a j = v := by
  simp only [Bool.and_eq_true, decide_eq_true_eq, beq_iff_eq] at h
  rw [kRB a j h.1, h.2]
theorem sh_x : kt Mb 1 11 = true ∧ kR Mb 1 0 = 2 ∧ kR Mb 1 1 = 4 ∧ kR Mb 1 2 = 6 ∧ kR Mb 1 3 = 10 ∧ kR Mb 1 4 = 44 ∧ kR Mb 1 5 = 85 ∧ kR Mb 1 6 = 126 ∧ kR Mb 1 7 = 456 ∧ kR Mb 1 8 = 457 := ⟨(kt_of (n := 9) 1 (by decide)).1, kR_of 1 0 (by decide), kR_of 1 1 (by decide), kR_of 1 2 (by decide), kR_of 1 3 (by decide), kR_of 1 4 (by decide), kR_of 1 5 (by decide), kR_of 1 6 (by decide), kR_of 1 7 (by decide), kR_of 1 8 (by decide)⟩
theorem sh_a : (∀ a ∈ [3, 5], kt Mb a 13 = true ∧ kn Mb a = 800) ∧ (∀ a ∈ [7, 8, 9], kt Mb a 13 = true ∧ kn Mb a = 801) ∧ True :=
  ⟨fun a ha => kt_of a ((show ∀ a ∈ [3, 5], ((decide (1 ≤ a) && decide (a ≤ 539)) && ((cellAt a).1 == 13 && (cellAt a).2 == 800)) = true by decide) a ha), fun a ha => kt_of a ((show ∀ a ∈ [7, 8, 9], ((decide (1 ≤ a) && decide (a ≤ 539)) && ((cellAt a).1 == 13 && (cellAt a).2 == 801)) = true by decide) a ha), trivial⟩
end
