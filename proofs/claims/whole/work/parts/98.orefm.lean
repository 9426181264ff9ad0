/-! the reference is made -/
section
variable {N : Nat} {C D D' X Y : List (Nat × Nat)} {I I' : kInts} {R R' : Nat → Nat → Nat} {L : kLngs} {a b t n m s c nf : Nat}
theorem st_r {k : kMem → Option kMem} {o : Option kMem} (w f : Nat) (hw : D.length + 1 = w) (hZ : Zr D I R L) (h1 : (decide (540 ≤ D.length) && (decide (D.length - 540 + 1 ≤ 11) && decide (((D.drop 540).map Prod.snd).sum + nf ≤ 5350))) = true) (h4 : cqt (D ++ [(t, nf)]) 540 12 = true) (hk : k (wz (D ++ [(t, nf)]) I (upR R 540 f w) L) = o) :
    (kg (krm 540 11 5350 (wz D I R L) nf) <| kl (kNew (wz D I R L) t nf) fun M1 => kl ((wz D I R L).1.length + 1) fun w2 => kg (kt M1 540 12) <| kl (ksR M1 540 f w2) k) = o := by
  have h1' : krm 540 11 5350 (wz D I R L) nf = true := h1
  rw [h1', kg_t, wz_new hZ, wz_1, hw]
  unfold kl
  dsimp only
  rw [wz_kt, h4, kg_t]
  exact hk
theorem st_rZ (f w : Nat) (hZ : Zr D I R L) (h : 540 ≤ (D ++ [(t, nf)]).length) : Zr (D ++ [(t, nf)]) I (upR R 540 f w) L := (hZ.app).r h
end
def vD0 : List (Nat × Nat) := cellsC ++ [(12, 30)]
def vD1 : List (Nat × Nat) := vD0 ++ [(13, 293)]
def vD2 : List (Nat × Nat) := vD1 ++ [(13, 293)]
def vD3 : List (Nat × Nat) := vD2 ++ [(13, 2344)]
def vD4 : List (Nat × Nat) := vD3 ++ [(13, 586)]
def vD5 : List (Nat × Nat) := vD4 ++ [(14, 2)]
def vD6 : List (Nat × Nat) := vD5 ++ [(14, 24)]
def vD7 : List (Nat × Nat) := vD6 ++ [(13, 800)]
def vD8 : List (Nat × Nat) := vD7 ++ [(13, 800)]
def vD9 : List (Nat × Nat) := vD8 ++ [(13, 4)]
def vDa : List (Nat × Nat) := vD9 ++ [(13, 4)]
def vDb : List (Nat × Nat) := vDa ++ [(13, 200)]
theorem vD_D : vDb = cellsD := by decide +kernel
theorem vD_B : cellsD ++ [(15, 1)] = cellsB := by decide +kernel
theorem vD_l : vD0.length = 540 ∧ vD1.length = 541 ∧ vD2.length = 542 ∧ vD3.length = 543 ∧ vD4.length = 544 ∧ vD5.length = 545 ∧ vD6.length = 546 ∧ vD7.length = 547 ∧ vD8.length = 548 ∧ vD9.length = 549 ∧ vDa.length = 550 ∧ vDb.length = 551 := by decide +kernel
def vR1 : Nat → Nat → Nat := upR refC 540 0 541
def vR2 : Nat → Nat → Nat := upR vR1 540 1 542
def vR3 : Nat → Nat → Nat := upR vR2 540 2 543
def vR4 : Nat → Nat → Nat := upR vR3 540 3 544
def vR5 : Nat → Nat → Nat := upR vR4 540 4 545
def vR6 : Nat → Nat → Nat := upR vR5 540 7 546
def vR7 : Nat → Nat → Nat := upR vR6 540 8 547
def vR8 : Nat → Nat → Nat := upR vR7 540 9 548
def vR9 : Nat → Nat → Nat := upR vR8 540 26 549
def vRa : Nat → Nat → Nat := upR vR9 540 27 550
def vRb : Nat → Nat → Nat := upR vRa 540 28 551
theorem vR_B : vRb = refB := by
  funext a j
  by_cases h : a = 540
  · subst h
    have e : refB 540 j = [541, 542, 543, 544, 545, 0, 0, 546, 547, 548, 0, 0, 0, 0, 0, 0, 0, 0, 0, 0, 0, 0, 0, 0, 0, 0, 549, 550, 551].getD j 0 := rfl
    have z : refC 540 j = 0 := rfl
    rw [e]
    unfold vRb vRa vR9 vR8 vR7 vR6 vR5 vR4 vR3 vR2 vR1
    match j, z with
    | 0, _ | 1, _ | 2, _ | 3, _ | 4, _ | 7, _ | 8, _ | 9, _ | 26, _ | 27, _ | 28, _ =>
      simp (disch := omega) only [upR_ne, upR_eq]
      rfl
    | 5, z | 6, z | 10, z | 11, z | 12, z | 13, z | 14, z | 15, z | 16, z | 17, z | 18, z | 19, z | 20, z | 21, z | 22, z | 23, z | 24, z | 25, z =>
      simp (disch := omega) only [upR_ne]
      rfl
    | j + 29, z =>
      simp (disch := omega) only [upR_ne]
      rw [z]
      rfl
  · unfold vRb vRa vR9 vR8 vR7 vR6 vR5 vR4 vR3 vR2 vR1
    simp (disch := omega) only [upR_na]
    unfold refC
    by_cases c : a ≤ 539
    · rw [if_pos c]
    · rw [if_neg c]
      unfold refB
      rw [if_neg (by omega), if_neg (by omega), if_neg (by omega), if_neg (by omega), if_neg (by omega), if_neg (by omega), if_neg (by omega), if_neg (by omega), if_neg (by omega), if_neg h]
theorem q_kendD {I : kInts} {L : kLngs} : kend 540 11 5350 (wm Md I L) = true := by
  have h : (decide (540 ≤ cellsD.length) && (decide (cellsD.length - 540 ≤ 11) && decide (((cellsD.drop 540).map Prod.snd).sum ≤ 5350))) = true := by decide +kernel
  unfold kend ksl wm
  rw [Md1]
  exact h
theorem q_kgrD {I I' : kInts} {L L' : kLngs} : kgr 540 (wm Md I L) (wm Md I' L') 0 0 = true := by
  unfold kgr ksl wm
  rw [Md1]
  simp
/-- the reference's first row -/
def e0 : Nat → Int32 := setr (setr (setr (setr (setr (setr (fun _ => 0) 0 3) 1 4) 2 2) 3 40) 4 5) 5 200
def e1 : Nat → Int32 := boR e0 0 3 10 60
def e2 : Nat → Int32 := boR e1 1 2 5 30
def e3 : Nat → Int32 := apR e2 0 1486 10 30 0
def e4 : Nat → Int32 := apR e3 1 2530 6 25 12
def e5 : Nat → Int32 := apR e4 2 3124 8 12 38
def e6 : Nat → Int32 := apR e5 3 4142 15 40 5
def e7 : Nat → Int32 := siR e6 0 0 4
def e8 : Nat → Int32 := siR e7 1 0 9
def e9 : Nat → Int32 := siR e8 2 1 7
def eF : Nat → Int32 := setr e9 9 (nI (tot e9 4))
theorem e_is : ∀ k, k < 293 → eF k = fg9 k := by decide +kernel
theorem e_is9 : ∀ k, k < 293 → e9 k = setr fg9 9 (e9 9) k := by decide +kernel
section
variable {N : Nat} {I : kInts}
theorem v_Zall (hI : ∀ a j, 539 < a → I a j = 0) : Zr vD0 I refC zL ∧ Zr vD1 I vR1 zL ∧ Zr vD2 I vR2 zL ∧ Zr vD3 I vR3 zL ∧ Zr vD4 I vR4 zL ∧ Zr vD5 I vR5 zL ∧ Zr vD6 I vR6 zL ∧ Zr vD7 I vR7 zL ∧ Zr vD8 I vR8 zL ∧ Zr vD9 I vR9 zL ∧ Zr vDa I vRa zL ∧ Zr vDb I vRb zL := by
  obtain ⟨l0, l1, l2, l3, l4, l5, l6, l7, l8, l9, la, lb⟩ := vD_l
  have z0 : Zr vD0 I refC zL := fun a j h => ⟨hI a j (by rw [l0] at h; omega), by
    unfold refC
    rw [l0] at h
    exact if_neg (by omega), rfl⟩
  have z1 : Zr vD1 I vR1 zL := st_rZ 0 541 z0 (by show 540 ≤ vD1.length; rw [l1]; decide)
  have z2 : Zr vD2 I vR2 zL := st_rZ 1 542 z1 (by show 540 ≤ vD2.length; rw [l2]; decide)
  have z3 : Zr vD3 I vR3 zL := st_rZ 2 543 z2 (by show 540 ≤ vD3.length; rw [l3]; decide)
  have z4 : Zr vD4 I vR4 zL := st_rZ 3 544 z3 (by show 540 ≤ vD4.length; rw [l4]; decide)
  have z5 : Zr vD5 I vR5 zL := st_rZ 4 545 z4 (by show 540 ≤ vD5.length; rw [l5]; decide)
  have z6 : Zr vD6 I vR6 zL := st_rZ 7 546 z5 (by show 540 ≤ vD6.length; rw [l6]; decide)
  have z7 : Zr vD7 I vR7 zL := st_rZ 8 547 z6 (by show 540 ≤ vD7.length; rw [l7]; decide)
  have z8 : Zr vD8 I vR8 zL := st_rZ 9 548 z7 (by show 540 ≤ vD8.length; rw [l8]; decide)
  have z9 : Zr vD9 I vR9 zL := st_rZ 26 549 z8 (by show 540 ≤ vD9.length; rw [l9]; decide)
  have za : Zr vDa I vRa zL := st_rZ 27 550 z9 (by show 540 ≤ vDa.length; rw [la]; decide)
  have zb : Zr vDb I vRb zL := st_rZ 28 551 za (by show 540 ≤ vDb.length; rw [lb]; decide)
  exact ⟨z0, z1, z2, z3, z4, z5, z6, z7, z8, z9, za, zb⟩
theorem v_MD {J : kInts} : wz vDb J vRb zL = wm Md J zL := by
  rw [vD_D, vR_B]
  unfold wz wm Md
  with_reducible rfl
theorem v_MB {J : kInts} {L : kLngs} : wz (cellsD ++ [(15, 1)]) J refB L = wm Mb J L := by
  rw [vD_B]
  unfold wz wm Mb
  with_reducible rfl
end
