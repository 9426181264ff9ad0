/-! the shape of the memory once all is made: the class's 539 cells, the reference's 12, the row of one long -/
/-- tag and length of a market's k-th cell; of the cell at a -/
def mcell (k : Nat) : Nat × Nat :=
  if k = 0 then (4, 16) else if k = 1 then (16, 5) else if k = 2 then (17, 24) else if k = 3 then (2, 4) else if k < 7 then (13, 12)
  else if k < 17 then (if (k - 7) % 2 = 0 then (0, 5) else (13, 13))
  else (10, 8)
def cellAt (a : Nat) : Nat × Nat :=
  if a < 14 then [(0, 0), (11, 9), (8, 2), (13, 800), (8, 2), (13, 800), (9, 8), (13, 801), (13, 801), (13, 801), (6, 6), (19, 30), (13, 2), (13, 40)].getD a (0, 0)
  else if a < 44 then (1, 7)
  else if a < 126 then mcell ((a - 44) % 41)
  else if a = 126 then (3, 3) else if a = 127 then (18, 8)
  else if a < 456 then mcell ((a - 128) % 41)
  else if a = 456 then (18, 2) else if a = 457 then (14, 2)
  else if a < 540 then mcell ((a - 458) % 41)
  else [(12, 30), (13, 293), (13, 293), (13, 2344), (13, 586), (14, 2), (14, 24), (13, 800), (13, 800), (13, 4), (13, 4), (13, 200), (15, 1)].getD (a - 540) (0, 0)
def cellsB : List (Nat × Nat) := (List.range 552).map (fun k => cellAt (k + 1))
/-- the references of a market that begins at m, in its k-th cell -/
def mref (m k j : Nat) : Nat :=
  if k = 0 then (if j = 13 then m + 1 else if j = 14 then m + 2 else if j = 15 then m + 3 else 0)
  else if k = 1 then (if j < 5 then m + 7 + 2 * j else 0)
  else if k = 2 then (if j < 24 then m + 17 + j else 0)
  else if k = 3 then (if j < 3 then m + 4 + j else 0)
  else if k < 7 then 0
  else if k < 17 then (if (k - 7) % 2 = 0 ∧ j = 4 then m + k + 1 else 0)
  else 0
def refB (a j : Nat) : Nat :=
  if a < 14 then (match a with
    | 1 => [2, 4, 6, 10, 44, 85, 126, 456, 457].getD j 0
    | 2 => if j = 0 then 3 else 0
    | 4 => if j = 0 then 5 else 0
    | 6 => [2, 7, 8, 9].getD j 0
    | 10 => [11, 0, 12, 0, 13].getD j 0
    | 11 => if j < 30 then 14 + j else 0
    | _ => 0)
  else if a < 44 then 0
  else if a < 126 then mref (44 + (a - 44) / 41 * 41) ((a - 44) % 41) j
  else if a = 126 then (if j = 0 then 127 else 0)
  else if a = 127 then (if j < 8 then 128 + 41 * j else 0)
  else if a < 456 then mref (128 + (a - 128) / 41 * 41) ((a - 128) % 41) j
  else if a = 456 then (if j < 2 then 458 + 41 * j else 0)
  else if a = 457 then 0
  else if a < 540 then mref (458 + (a - 458) / 41 * 41) ((a - 458) % 41) j
  else if a = 540 then [541, 542, 543, 544, 545, 0, 0, 546, 547, 548, 0, 0, 0, 0, 0, 0, 0, 0, 0, 0, 0, 0, 0, 0, 0, 0, 549, 550, 551].getD j 0
  else 0
def Mb : kMem := (cellsB, fun _ _ => 0, refB, fun _ _ => 0)
def mks : List Nat := [44, 85, 128, 169, 210, 251, 292, 333, 374, 415, 458, 499]
/-- the class's market, its draft; the reference, its row, what fell -/
abbrev mkt : Nat := 44
abbrev drf : Nat := 85
abbrev mA : Nat := 540
abbrev sA : Nat := 541
abbrev fA : Nat := 546
def bd (m b : Nat) : Nat := m + 7 + 2 * b
def ow (m b : Nat) : Nat := m + 8 + 2 * b
def tr (m t : Nat) : Nat := m + 17 + t
def ev (m : Nat) : Nat := m + 3
def ek (m k : Nat) : Nat := m + 4 + k
theorem Mb1 : Mb.1 = cellsB := by
  unfold Mb
  with_reducible rfl
theorem kcell_s (M : kMem) (k : Nat) : kcell M (k + 1) = M.1[k]? := rfl
theorem cB {a : Nat} (h1 : 1 ≤ a) (h2 : a ≤ 552) : kcell Mb a = some (cellAt a) := by
  obtain ⟨k, rfl⟩ : ∃ k, a = k + 1 := ⟨a - 1, by omega⟩
  rw [kcell_s, Mb1]
  unfold cellsB
  rw [List.getElem?_map, List.getElem?_range (by omega)]
  exact Option.map_some _ _
theorem ktB {a t n : Nat} (h : (1 ≤ a ∧ a ≤ 552) ∧ cellAt a = (t, n)) : kt Mb a t = true ∧ kn Mb a = n := by
  unfold kt kn
  rw [cB h.1.1 h.1.2, h.2]
  simp
theorem kRB (a j : Nat) : kR Mb a j = refB a j := rfl
theorem sh_m0 : ∀ m ∈ mks, (((1 ≤ m ∧ m ≤ 552) ∧ cellAt m = (4, 16)) ∧ ((1 ≤ refB m 13 ∧ refB m 13 ≤ 552) ∧ cellAt (refB m 13) = (16, 5)) ∧ ((1 ≤ refB m 14 ∧ refB m 14 ≤ 552) ∧ cellAt (refB m 14) = (17, 24)) ∧ ((1 ≤ ev m ∧ ev m ≤ 552) ∧ cellAt (ev m) = (2, 4))) ∧ refB m 15 = ev m := by decide +kernel
theorem sh_m : ∀ m ∈ mks, kt Mb m 4 = true ∧ kt Mb (kR Mb m 13) 16 = true ∧ kn Mb (kR Mb m 13) = 5 ∧ kt Mb (kR Mb m 14) 17 = true ∧ kn Mb (kR Mb m 14) = 24 ∧ kR Mb m 15 = ev m ∧ kt Mb (ev m) 2 = true := fun m hm => by
  obtain ⟨⟨h1, h2, h3, h4⟩, h5⟩ := sh_m0 m hm
  exact ⟨(ktB h1).1, (ktB h2).1, (ktB h2).2, (ktB h3).1, (ktB h3).2, h5, (ktB h4).1⟩
theorem sh_b0 : ∀ m ∈ mks, ∀ b, b < 5 → (refB (refB m 13) b = bd m b ∧ refB (bd m b) 4 = ow m b) ∧ ((1 ≤ bd m b ∧ bd m b ≤ 552) ∧ cellAt (bd m b) = (0, 5)) ∧ ((1 ≤ ow m b ∧ ow m b ≤ 552) ∧ cellAt (ow m b) = (13, 13)) := by decide +kernel
theorem sh_b : ∀ m ∈ mks, ∀ b, b < 5 → kR Mb (kR Mb m 13) b = bd m b ∧ kt Mb (bd m b) 0 = true ∧ kR Mb (bd m b) 4 = ow m b ∧ kt Mb (ow m b) 13 = true ∧ kn Mb (ow m b) = 13 := fun m hm b hb => by
  obtain ⟨⟨h1, h2⟩, h3, h4⟩ := sh_b0 m hm b hb
  exact ⟨h1, (ktB h3).1, h2, (ktB h4).1, (ktB h4).2⟩
theorem sh_t0 : ∀ m ∈ mks, ∀ t, t < 24 → refB (refB m 14) t = tr m t ∧ ((1 ≤ tr m t ∧ tr m t ≤ 552) ∧ cellAt (tr m t) = (10, 8)) := by decide +kernel
theorem sh_t : ∀ m ∈ mks, ∀ t, t < 24 → kR Mb (kR Mb m 14) t = tr m t ∧ kt Mb (tr m t) 10 = true := fun m hm t ht => by
  obtain ⟨h1, h4⟩ := sh_t0 m hm t ht
  exact ⟨h1, (ktB h4).1⟩
theorem sh_e0 : ∀ m ∈ mks, ∀ k, k < 3 → refB (ev m) k = ek m k ∧ ((1 ≤ ek m k ∧ ek m k ≤ 552) ∧ cellAt (ek m k) = (13, 12)) := by decide +kernel
theorem sh_e : ∀ m ∈ mks, ∀ k, k < 3 → kR Mb (ev m) k = ek m k ∧ kt Mb (ek m k) 13 = true ∧ kn Mb (ek m k) = 12 := fun m hm k hk => by
  obtain ⟨h1, h2⟩ := sh_e0 m hm k hk
  exact ⟨h1, (ktB h2).1, (ktB h2).2⟩
theorem kt_of {t n : Nat} (a : Nat) (h : ((decide (1 ≤ a) && decide (a ≤ 552)) && ((cellAt a).1 == t && (cellAt a).2 == n)) = true) : kt Mb a t = true ∧ kn Mb a = n := by
  simp only [Bool.and_eq_true, decide_eq_true_eq, beq_iff_eq] at h
  exact ktB ⟨h.1, Prod.ext h.2.1 h.2.2⟩
theorem sh_x : kt Mb 1 11 = true ∧ kR Mb 1 0 = 2 ∧ kR Mb 1 1 = 4 ∧ kR Mb 1 2 = 6 ∧ kR Mb 1 3 = 10 ∧ kR Mb 1 4 = 44 ∧ kR Mb 1 5 = 85 ∧ kR Mb 1 6 = 126 ∧ kR Mb 1 7 = 456 ∧ kR Mb 1 8 = 457 := ⟨(kt_of (n := 9) 1 (by decide)).1, rfl, rfl, rfl, rfl, rfl, rfl, rfl, rfl, rfl⟩
theorem sh_r : kt Mb 540 12 = true ∧ kR Mb 540 0 = 541 ∧ kR Mb 540 1 = 542 ∧ kR Mb 540 2 = 543 ∧ kR Mb 540 3 = 544 ∧ kR Mb 540 4 = 545 ∧ kR Mb 540 7 = 546 ∧ kR Mb 540 8 = 547 ∧ kR Mb 540 9 = 548 ∧ kR Mb 540 26 = 549 ∧ kR Mb 540 27 = 550 ∧ kR Mb 540 28 = 551 := ⟨(kt_of (n := 30) 540 (by decide)).1, rfl, rfl, rfl, rfl, rfl, rfl, rfl, rfl, rfl, rfl, rfl⟩
theorem sh_a : (∀ a ∈ [3, 5, 547, 548], kt Mb a 13 = true ∧ kn Mb a = 800) ∧ (∀ a ∈ [7, 8, 9], kt Mb a 13 = true ∧ kn Mb a = 801) ∧ (∀ a ∈ ([] : List Nat), kt Mb a 13 = true ∧ kn Mb a = 6) ∧ (kt Mb 541 13 = true ∧ kn Mb 541 = 293) ∧ (kt Mb 542 13 = true ∧ kn Mb 542 = 293) ∧ (kt Mb 543 13 = true ∧ kn Mb 543 = 2344) ∧ (kt Mb 544 13 = true ∧ kn Mb 544 = 586) ∧ (kt Mb 545 14 = true ∧ kn Mb 545 = 2) ∧ (kt Mb 546 14 = true ∧ kn Mb 546 = 24) ∧ (kt Mb 549 13 = true ∧ kn Mb 549 = 4) ∧ (kt Mb 550 13 = true ∧ kn Mb 550 = 4) ∧ (kt Mb 551 13 = true ∧ kn Mb 551 = 200) ∧ kt Mb 552 15 = true ∧ kn Mb 552 = 1 :=
  ⟨fun a ha => kt_of a ((show ∀ a ∈ [3, 5, 547, 548], ((decide (1 ≤ a) && decide (a ≤ 552)) && ((cellAt a).1 == 13 && (cellAt a).2 == 800)) = true by decide) a ha), fun a ha => kt_of a ((show ∀ a ∈ [7, 8, 9], ((decide (1 ≤ a) && decide (a ≤ 552)) && ((cellAt a).1 == 13 && (cellAt a).2 == 801)) = true by decide) a ha), fun a ha => kt_of a ((show ∀ a ∈ ([] : List Nat), ((decide (1 ≤ a) && decide (a ≤ 552)) && ((cellAt a).1 == 13 && (cellAt a).2 == 6)) = true by decide) a ha), kt_of 541 (by decide), kt_of 542 (by decide), kt_of 543 (by decide), kt_of 544 (by decide), kt_of 545 (by decide), kt_of 546 (by decide), kt_of 549 (by decide), kt_of 550 (by decide), kt_of 551 (by decide), (kt_of (n := 1) 552 (by decide)).1, (kt_of (t := 15) 552 (by decide)).2⟩
