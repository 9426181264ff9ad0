/-! the shape of the memory once all is made: the class's 1240 cells, the reference's 12, the row of one long -/
/-- tag and length of a market's k-th cell; of the cell at a -/
def mcell (k : Nat) : Nat × Nat :=
  if k = 0 then (4, 16) else if k = 1 then (16, 5) else if k = 2 then (17, 24) else if k = 3 then (2, 4) else if k < 7 then (13, 12)
  else if k < 17 then (if (k - 7) % 2 = 0 then (0, 5) else (13, 13))
  else if (k - 17) % 3 = 0 then (10, 8) else if (k - 17) % 3 = 1 then (5, 2) else (13, 6)
def cellAt (a : Nat) : Nat × Nat :=
  if a < 17 then [(0, 0), (11, 11), (8, 2), (13, 800), (8, 2), (13, 800), (9, 8), (13, 801), (13, 801), (13, 801), (7, 1), (5, 2), (13, 6), (6, 6), (19, 30), (13, 2), (13, 40)].getD a (0, 0)
  else if a < 167 then (if (a - 17) % 5 = 0 then (1, 7) else if (a - 17) % 5 = 1 ∨ (a - 17) % 5 = 3 then (5, 2) else (13, 6))
  else if a = 167 then (5, 2) else if a = 168 then (13, 6)
  else if a < 347 then mcell ((a - 169) % 89)
  else if a = 347 then (3, 3) else if a = 348 then (18, 8)
  else if a < 1061 then mcell ((a - 349) % 89)
  else if a = 1061 then (18, 2) else if a = 1062 then (14, 2)
  else if a < 1241 then mcell ((a - 1063) % 89)
  else [(12, 30), (13, 293), (13, 293), (13, 2344), (13, 586), (14, 2), (14, 24), (13, 800), (13, 800), (13, 4), (13, 4), (13, 200), (15, 1)].getD (a - 1241) (0, 0)
def cellsB : List (Nat × Nat) := (List.range 1253).map (fun k => cellAt (k + 1))
/-- the references of a market that begins at m, in its k-th cell -/
def mref (m k j : Nat) : Nat :=
  if k = 0 then (if j = 13 then m + 1 else if j = 14 then m + 2 else if j = 15 then m + 3 else 0)
  else if k = 1 then (if j < 5 then m + 7 + 2 * j else 0)
  else if k = 2 then (if j < 24 then m + 17 + 3 * j else 0)
  else if k = 3 then (if j < 3 then m + 4 + j else 0)
  else if k < 7 then 0
  else if k < 17 then (if (k - 7) % 2 = 0 ∧ j = 4 then m + k + 1 else 0)
  else if (k - 17) % 3 = 0 ∧ j = 1 then m + k + 1 else if (k - 17) % 3 = 1 ∧ j = 0 then m + k + 1 else 0
def refB (a j : Nat) : Nat :=
  if a < 17 then (match a with
    | 1 => [2, 4, 6, 10, 13, 167, 169, 258, 347, 1061, 1062].getD j 0
    | 2 => if j = 0 then 3 else 0
    | 4 => if j = 0 then 5 else 0
    | 6 => [2, 7, 8, 9].getD j 0
    | 10 => if j = 0 then 11 else 0
    | 11 => if j = 0 then 12 else 0
    | 13 => [14, 0, 15, 0, 16].getD j 0
    | 14 => if j < 30 then 17 + 5 * j else 0
    | _ => 0)
  else if a < 167 then (if (a - 17) % 5 = 0 then [0, a + 1, a + 3].getD j 0 else if ((a - 17) % 5 = 1 ∨ (a - 17) % 5 = 3) ∧ j = 0 then a + 1 else 0)
  else if a = 167 then (if j = 0 then 168 else 0)
  else if a < 169 then 0
  else if a < 347 then mref (169 + (a - 169) / 89 * 89) ((a - 169) % 89) j
  else if a = 347 then (if j = 0 then 348 else 0)
  else if a = 348 then (if j < 8 then 349 + 89 * j else 0)
  else if a < 1061 then mref (349 + (a - 349) / 89 * 89) ((a - 349) % 89) j
  else if a = 1061 then (if j < 2 then 1063 + 89 * j else 0)
  else if a = 1062 then 0
  else if a < 1241 then mref (1063 + (a - 1063) / 89 * 89) ((a - 1063) % 89) j
  else if a = 1241 then [1242, 1243, 1244, 1245, 1246, 0, 0, 1247, 1248, 1249, 0, 0, 0, 0, 0, 0, 0, 0, 0, 0, 0, 0, 0, 0, 0, 0, 1250, 1251, 1252].getD j 0
  else 0
def Mb : kMem := (cellsB, fun _ _ => 0, refB, fun _ _ => 0)
def mks : List Nat := [169, 258, 349, 438, 527, 616, 705, 794, 883, 972, 1063, 1152]
/-- the class's market, its draft; the reference, its row, what fell -/
abbrev mkt : Nat := 169
abbrev drf : Nat := 258
abbrev mA : Nat := 1241
abbrev sA : Nat := 1242
abbrev fA : Nat := 1247
def bd (m b : Nat) : Nat := m + 7 + 2 * b
def ow (m b : Nat) : Nat := m + 8 + 2 * b
def tr (m t : Nat) : Nat := m + 17 + 3 * t
def nm (m t : Nat) : Nat := m + 18 + 3 * t
def lt (m t : Nat) : Nat := m + 19 + 3 * t
def ev (m : Nat) : Nat := m + 3
def ek (m k : Nat) : Nat := m + 4 + k
theorem Mb1 : Mb.1 = cellsB := by
  unfold Mb
  with_reducible rfl
theorem kcell_s (M : kMem) (k : Nat) : kcell M (k + 1) = M.1[k]? := rfl
theorem cB {a : Nat} (h1 : 1 ≤ a) (h2 : a ≤ 1253) : kcell Mb a = some (cellAt a) := by
  obtain ⟨k, rfl⟩ : ∃ k, a = k + 1 := ⟨a - 1, by omega⟩
  rw [kcell_s, Mb1]
  unfold cellsB
  rw [List.getElem?_map, List.getElem?_range (by omega)]
  exact Option.map_some _ _
theorem ktB {a t n : Nat} (h : (1 ≤ a ∧ a ≤ 1253) ∧ cellAt a = (t, n)) : kt Mb a t = true ∧ kn Mb a = n := by
  unfold kt kn
  rw [cB h.1.1 h.1.2, h.2]
  simp
theorem kRB (a j : Nat) : kR Mb a j = refB a j := rfl
theorem sh_m0 : ∀ m ∈ mks, (((1 ≤ m ∧ m ≤ 1253) ∧ cellAt m = (4, 16)) ∧ ((1 ≤ refB m 13 ∧ refB m 13 ≤ 1253) ∧ cellAt (refB m 13) = (16, 5)) ∧ ((1 ≤ refB m 14 ∧ refB m 14 ≤ 1253) ∧ cellAt (refB m 14) = (17, 24)) ∧ ((1 ≤ ev m ∧ ev m ≤ 1253) ∧ cellAt (ev m) = (2, 4))) ∧ refB m 15 = ev m := by decide +kernel
theorem sh_m : ∀ m ∈ mks, kt Mb m 4 = true ∧ kt Mb (kR Mb m 13) 16 = true ∧ kn Mb (kR Mb m 13) = 5 ∧ kt Mb (kR Mb m 14) 17 = true ∧ kn Mb (kR Mb m 14) = 24 ∧ kR Mb m 15 = ev m ∧ kt Mb (ev m) 2 = true := fun m hm => by
  obtain ⟨⟨h1, h2, h3, h4⟩, h5⟩ := sh_m0 m hm
  exact ⟨(ktB h1).1, (ktB h2).1, (ktB h2).2, (ktB h3).1, (ktB h3).2, h5, (ktB h4).1⟩
theorem sh_b0 : ∀ m ∈ mks, ∀ b, b < 5 → (refB (refB m 13) b = bd m b ∧ refB (bd m b) 4 = ow m b) ∧ ((1 ≤ bd m b ∧ bd m b ≤ 1253) ∧ cellAt (bd m b) = (0, 5)) ∧ ((1 ≤ ow m b ∧ ow m b ≤ 1253) ∧ cellAt (ow m b) = (13, 13)) := by decide +kernel
theorem sh_b : ∀ m ∈ mks, ∀ b, b < 5 → kR Mb (kR Mb m 13) b = bd m b ∧ kt Mb (bd m b) 0 = true ∧ kR Mb (bd m b) 4 = ow m b ∧ kt Mb (ow m b) 13 = true ∧ kn Mb (ow m b) = 13 := fun m hm b hb => by
  obtain ⟨⟨h1, h2⟩, h3, h4⟩ := sh_b0 m hm b hb
  exact ⟨h1, (ktB h3).1, h2, (ktB h4).1, (ktB h4).2⟩
theorem sh_t0 : ∀ m ∈ mks, ∀ t, t < 24 → (refB (refB m 14) t = tr m t ∧ refB (tr m t) 1 = nm m t ∧ refB (nm m t) 0 = lt m t) ∧ ((1 ≤ tr m t ∧ tr m t ≤ 1253) ∧ cellAt (tr m t) = (10, 8)) ∧ ((1 ≤ nm m t ∧ nm m t ≤ 1253) ∧ cellAt (nm m t) = (5, 2)) ∧ ((1 ≤ lt m t ∧ lt m t ≤ 1253) ∧ cellAt (lt m t) = (13, 6)) := by decide +kernel
theorem sh_t : ∀ m ∈ mks, ∀ t, t < 24 → kR Mb (kR Mb m 14) t = tr m t ∧ kt Mb (tr m t) 10 = true ∧ kR Mb (tr m t) 1 = nm m t ∧ kt Mb (nm m t) 5 = true ∧ kR Mb (nm m t) 0 = lt m t ∧ kt Mb (lt m t) 13 = true ∧ kn Mb (lt m t) = 6 := fun m hm t ht => by
  obtain ⟨⟨h1, h2, h3⟩, h4, h5, h6⟩ := sh_t0 m hm t ht
  exact ⟨h1, (ktB h4).1, h2, (ktB h5).1, h3, (ktB h6).1, (ktB h6).2⟩
theorem sh_e0 : ∀ m ∈ mks, ∀ k, k < 3 → refB (ev m) k = ek m k ∧ ((1 ≤ ek m k ∧ ek m k ≤ 1253) ∧ cellAt (ek m k) = (13, 12)) := by decide +kernel
theorem sh_e : ∀ m ∈ mks, ∀ k, k < 3 → kR Mb (ev m) k = ek m k ∧ kt Mb (ek m k) 13 = true ∧ kn Mb (ek m k) = 12 := fun m hm k hk => by
  obtain ⟨h1, h2⟩ := sh_e0 m hm k hk
  exact ⟨h1, (ktB h2).1, (ktB h2).2⟩
theorem kt_of {t n : Nat} (a : Nat) (h : ((decide (1 ≤ a) && decide (a ≤ 1253)) && ((cellAt a).1 == t && (cellAt a).2 == n)) = true) : kt Mb a t = true ∧ kn Mb a = n := by
  simp only [Bool.and_eq_true, decide_eq_true_eq, beq_iff_eq] at h
  exact ktB ⟨h.1, Prod.ext h.2.1 h.2.2⟩
theorem sh_x : kt Mb 1 11 = true ∧ kR Mb 1 0 = 2 ∧ kR Mb 1 1 = 4 ∧ kR Mb 1 2 = 6 ∧ kR Mb 1 3 = 10 ∧ kR Mb 1 4 = 13 ∧ kR Mb 1 5 = 167 ∧ kR Mb 1 6 = 169 ∧ kR Mb 1 7 = 258 ∧ kR Mb 1 8 = 347 ∧ kR Mb 1 9 = 1061 ∧ kR Mb 1 10 = 1062 := ⟨(kt_of (n := 11) 1 (by decide)).1, rfl, rfl, rfl, rfl, rfl, rfl, rfl, rfl, rfl, rfl, rfl⟩
theorem sh_r : kt Mb 1241 12 = true ∧ kR Mb 1241 0 = 1242 ∧ kR Mb 1241 1 = 1243 ∧ kR Mb 1241 2 = 1244 ∧ kR Mb 1241 3 = 1245 ∧ kR Mb 1241 4 = 1246 ∧ kR Mb 1241 7 = 1247 ∧ kR Mb 1241 8 = 1248 ∧ kR Mb 1241 9 = 1249 ∧ kR Mb 1241 26 = 1250 ∧ kR Mb 1241 27 = 1251 ∧ kR Mb 1241 28 = 1252 := ⟨(kt_of (n := 30) 1241 (by decide)).1, rfl, rfl, rfl, rfl, rfl, rfl, rfl, rfl, rfl, rfl, rfl⟩
theorem sh_a : (∀ a ∈ [3, 5, 1248, 1249], kt Mb a 13 = true ∧ kn Mb a = 800) ∧ (∀ a ∈ [7, 8, 9], kt Mb a 13 = true ∧ kn Mb a = 801) ∧ (∀ a ∈ [12, 168], kt Mb a 13 = true ∧ kn Mb a = 6) ∧ (kt Mb 1242 13 = true ∧ kn Mb 1242 = 293) ∧ (kt Mb 1243 13 = true ∧ kn Mb 1243 = 293) ∧ (kt Mb 1244 13 = true ∧ kn Mb 1244 = 2344) ∧ (kt Mb 1245 13 = true ∧ kn Mb 1245 = 586) ∧ (kt Mb 1246 14 = true ∧ kn Mb 1246 = 2) ∧ (kt Mb 1247 14 = true ∧ kn Mb 1247 = 24) ∧ (kt Mb 1250 13 = true ∧ kn Mb 1250 = 4) ∧ (kt Mb 1251 13 = true ∧ kn Mb 1251 = 4) ∧ (kt Mb 1252 13 = true ∧ kn Mb 1252 = 200) ∧ kt Mb 1253 15 = true ∧ kn Mb 1253 = 1 :=
  ⟨fun a ha => kt_of a ((show ∀ a ∈ [3, 5, 1248, 1249], ((decide (1 ≤ a) && decide (a ≤ 1253)) && ((cellAt a).1 == 13 && (cellAt a).2 == 800)) = true by decide) a ha), fun a ha => kt_of a ((show ∀ a ∈ [7, 8, 9], ((decide (1 ≤ a) && decide (a ≤ 1253)) && ((cellAt a).1 == 13 && (cellAt a).2 == 801)) = true by decide) a ha), fun a ha => kt_of a ((show ∀ a ∈ [12, 168], ((decide (1 ≤ a) && decide (a ≤ 1253)) && ((cellAt a).1 == 13 && (cellAt a).2 == 6)) = true by decide) a ha), kt_of 1242 (by decide), kt_of 1243 (by decide), kt_of 1244 (by decide), kt_of 1245 (by decide), kt_of 1246 (by decide), kt_of 1247 (by decide), kt_of 1250 (by decide), kt_of 1251 (by decide), kt_of 1252 (by decide), (kt_of (n := 1) 1253 (by decide)).1, (kt_of (t := 15) 1253 (by decide)).2⟩
