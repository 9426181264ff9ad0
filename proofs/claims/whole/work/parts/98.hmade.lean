/-! the class is made: its cells, step by step -/
section
variable {N : Nat} {C D D' X Y : List (Nat × Nat)} {I I' : kInts} {R R' : Nat → Nat → Nat} {L : kLngs} {a b t n m s c nf : Nat}
theorem st_new {G : kMem → Nat → Option kMem} {k : kMem → Option kMem} {o : Option kMem} (w f : Nat) (hw : D.length + 1 = w) (hZ : Zr D I R L) (h1 : krm 1 1239 11523 (wz D I R L) nf = true) (h2 : kok 1 1239 11523 (wz (D ++ [(t, nf)]) I R L) c s = true) (hG : G (wz (D ++ [(t, nf)]) I R L) w = some (wz D' I' R' L)) (h3 : kgr 1 (wz (D ++ [(t, nf)]) I R L) (wz D' I' R' L) c s = true) (h4 : cqt D' 1 11 = true) (hk : k (wz D' I' (upR R' 1 f w) L) = o) :
    (kg (krm 1 1239 11523 (wz D I R L) nf) <| kl (kNew (wz D I R L) t nf) fun M1 => kl ((wz D I R L).1.length + 1) fun w2 => kg (kok 1 1239 11523 M1 c s) <| (G M1 w2).bind fun M3 => kg (kgr 1 M1 M3 c s) <| kg (kt M3 1 11) <| kl (ksR M3 1 f w2) k) = o := by
  rw [h1, kg_t, wz_new hZ, wz_1, hw]
  unfold kl
  dsimp only
  rw [h2, kg_t, hG, Option.bind_some, h3, kg_t, wz_kt, h4, kg_t]
  exact hk
theorem st_X4 (hN : 100 < N) (w : Nat) (hw : D.length + 1 = w) (hZ : Zr D I R L) : F_X4_init N (wz (D ++ [(4, 16)]) I R L) w = some (wz (D ++ [(4, 16)] ++ mX) (mI w I) (mR w R) L) ∧ Zr (D ++ [(4, 16)] ++ mX) (mI w I) (mR w R) L := by
  have hl : (D ++ [(4, 16)]).length = w := by rw [List.length_append]; exact hw
  have h := i_X4 (N := N) (hZ.app (X := [(4, 16)])) (hl.symm ▸ hw ▸ cqt_last) hN
  rwa [hl] at h
theorem st_X8 (w : Nat) (hw : D.length + 1 = w) (hZ : Zr D I R L) : F_X8_init N (wz (D ++ [(8, 2)]) I R L) w = some (wz (D ++ [(8, 2)] ++ [(13, 800)]) I (upR R w 0 (w + 1)) L) ∧ Zr (D ++ [(8, 2)] ++ [(13, 800)]) I (upR R w 0 (w + 1)) L := by
  have hl : (D ++ [(8, 2)]).length = w := by rw [List.length_append]; exact hw
  have h := i_X8 (N := N) (hZ.app (X := [(8, 2)])) (a := w) (hw ▸ cqt_last)
  rwa [hl] at h
theorem st_X9 (w b : Nat) (hw : D.length + 1 = w) (hZ : Zr D I R L) : F_X9_init N (wz (D ++ [(9, 8)]) I R L) w b = some (wz (D ++ [(9, 8)] ++ [(13, 801), (13, 801), (13, 801)]) (up I w 7 (-1)) (upR (upR (upR (upR R w 1 (w + 1)) w 2 (w + 2)) w 3 (w + 3)) w 0 b) L) ∧ Zr (D ++ [(9, 8)] ++ [(13, 801), (13, 801), (13, 801)]) (up I w 7 (-1)) (upR (upR (upR (upR R w 1 (w + 1)) w 2 (w + 2)) w 3 (w + 3)) w 0 b) L := by
  have hl : (D ++ [(9, 8)]).length = w := by rw [List.length_append]; exact hw
  have h := i_X9 (N := N) (hZ.app (X := [(9, 8)])) (a := w) (b := b) (hw ▸ cqt_last)
  rwa [hl] at h
theorem st_X7 (w : Nat) (hw : D.length + 1 = w) (hZ : Zr D I R L) : F_X7_init N (wz (D ++ [(7, 1)]) I R L) w = some (wz (D ++ [(7, 1)] ++ [(5, 2), (13, 6)]) I (upR (upR R (w + 1) 0 (w + 2)) w 0 (w + 1)) L) ∧ Zr (D ++ [(7, 1)] ++ [(5, 2), (13, 6)]) I (upR (upR R (w + 1) 0 (w + 2)) w 0 (w + 1)) L := by
  have hl : (D ++ [(7, 1)]).length = w := by rw [List.length_append]; exact hw
  have h := i_X7 (N := N) (hZ.app (X := [(7, 1)])) (a := w) (hw ▸ cqt_last)
  rwa [hl] at h
theorem st_X6 (hN : 100 < N) (w : Nat) (hw : D.length + 1 = w) (hZ : Zr D I R L) : F_X6_init N (wz (D ++ [(6, 6)]) I R L) w = some (wz (D ++ [(6, 6)] ++ (S3 ++ cds 30)) I (sR w R) L) ∧ Zr (D ++ [(6, 6)] ++ (S3 ++ cds 30)) I (sR w R) L := by
  have hl : (D ++ [(6, 6)]).length = w := by rw [List.length_append]; exact hw
  have h := i_X6 (N := N) (hZ.app (X := [(6, 6)])) (hl.symm ▸ hw ▸ cqt_last) hN
  rwa [hl] at h
theorem st_X5 (w : Nat) (hw : D.length + 1 = w) (hZ : Zr D I R L) : F_X5_init N (wz (D ++ [(5, 2)]) I R L) w = some (wz (D ++ [(5, 2)] ++ [(13, 6)]) I (upR R w 0 (w + 1)) L) ∧ Zr (D ++ [(5, 2)] ++ [(13, 6)]) I (upR R w 0 (w + 1)) L := by
  have hl : (D ++ [(5, 2)]).length = w := by rw [List.length_append]; exact hw
  have h := i_X5 (N := N) (hZ.app (X := [(5, 2)])) (a := w) (hw ▸ cqt_last)
  rwa [hl] at h
theorem st_X3 (hN : 100 < N) (w : Nat) (hw : D.length + 1 = w) (hZ : Zr D I R L) : F_X3_init N (wz (D ++ [(3, 3)]) I R L) w = some (wz (D ++ [(3, 3)] ++ [(18, 8)] ++ mks' 8) (hsI w I 8) (hsR w (w + 1) (upR R w 0 (w + 1)) 8) L) ∧ Zr (D ++ [(3, 3)] ++ [(18, 8)] ++ mks' 8) (hsI w I 8) (hsR w (w + 1) (upR R w 0 (w + 1)) 8) L := by
  have hl : (D ++ [(3, 3)]).length = w := by rw [List.length_append]; exact hw
  have h := i_X3 (N := N) (hZ.app (X := [(3, 3)])) (hl.symm ▸ hw ▸ cqt_last) hN
  rwa [hl] at h
end
def yD0 : List (Nat × Nat) := [(11, 11)]
def yD1 : List (Nat × Nat) := yD0 ++ [(8, 2)] ++ [(13, 800)]
def yD2 : List (Nat × Nat) := yD1 ++ [(8, 2)] ++ [(13, 800)]
def yD3 : List (Nat × Nat) := yD2 ++ [(9, 8)] ++ [(13, 801), (13, 801), (13, 801)]
def yD4 : List (Nat × Nat) := yD3 ++ [(7, 1)] ++ [(5, 2), (13, 6)]
def yD5 : List (Nat × Nat) := yD4 ++ [(6, 6)] ++ (S3 ++ cds 30)
def yD6 : List (Nat × Nat) := yD5 ++ [(5, 2)] ++ [(13, 6)]
def yD7 : List (Nat × Nat) := yD6 ++ [(4, 16)] ++ mX
def yD8 : List (Nat × Nat) := yD7 ++ [(4, 16)] ++ mX
def yD9 : List (Nat × Nat) := yD8 ++ [(3, 3)] ++ [(18, 8)] ++ mks' 8
def yDa : List (Nat × Nat) := yD9 ++ [(18, 2)]
def yDb : List (Nat × Nat) := yDa ++ [(14, 2)]
def yDc : List (Nat × Nat) := yDb ++ [(4, 16)] ++ mX
def yDd : List (Nat × Nat) := yDc ++ [(4, 16)] ++ mX
theorem yD_C : yDd = cellsC := by decide +kernel
theorem yD_l : yD0.length = 1 ∧ yD1.length = 3 ∧ yD2.length = 5 ∧ yD3.length = 9 ∧ yD4.length = 12 ∧ yD5.length = 166 ∧ yD6.length = 168 ∧ yD7.length = 257 ∧ yD8.length = 346 ∧ yD9.length = 1060 ∧ yDa.length = 1061 ∧ yDb.length = 1062 ∧ yDc.length = 1151 ∧ yDd.length = 1240 := by decide +kernel
def z0 : kInts := fun _ _ => 0
def zR : Nat → Nat → Nat := fun _ _ => 0
def zL : kLngs := fun _ _ => 0
def yR1 : Nat → Nat → Nat := upR (upR zR 2 0 3) 1 0 2
def yR2 : Nat → Nat → Nat := upR (upR yR1 4 0 5) 1 1 4
def yR3 : Nat → Nat → Nat := upR (upR (upR (upR (upR yR2 6 1 7) 6 2 8) 6 3 9) 6 0 2) 1 2 6
def yR4 : Nat → Nat → Nat := upR (upR (upR yR3 11 0 12) 10 0 11) 1 3 10
def yR5 : Nat → Nat → Nat := upR (sR 13 yR4) 1 4 13
def yR6 : Nat → Nat → Nat := upR (upR yR5 167 0 168) 1 5 167
def yR7 : Nat → Nat → Nat := upR (mR 169 yR6) 1 6 169
def yR8 : Nat → Nat → Nat := upR (mR 258 yR7) 1 7 258
def yR9 : Nat → Nat → Nat := upR (hsR 347 348 (upR yR8 347 0 348) 8) 1 8 347
def yRa : Nat → Nat → Nat := upR yR9 1 9 1061
def yRb : Nat → Nat → Nat := upR yRa 1 10 1062
def yRc : Nat → Nat → Nat := upR (mR 1063 yRb) 1061 0 1063
def yRd : Nat → Nat → Nat := upR (mR 1152 yRc) 1061 1 1152
def yI3 : kInts := up z0 6 7 (-1)
def yI7 : kInts := mI 169 yI3
def yI8 : kInts := mI 258 yI7
def yI9 : kInts := hsI 347 yI8 8
def yIc : kInts := mI 1063 yI9
def yId : kInts := mI 1152 yIc
theorem yR_C : yRd = refC := by
  funext a j
  unfold refC
  by_cases h9 : 1240 < a
  · rw [if_neg (by omega)]
    unfold yRd yRc yRb yRa yR9 yR8 yR7 yR6 yR5 yR4 yR3 yR2 yR1 zR
    simp (disch := omega) only [upR_na, mR_na, hsR_na, sR_na]
  rw [if_pos (by omega)]
  unfold refB
  by_cases h1 : a < 17
  · rw [if_pos h1]
    unfold yRd yRc yRb yRa yR9 yR8 yR7 yR6 yR5 yR4 yR3 yR2 yR1
    match a, h1 with
    | 0, _ =>
      simp (disch := omega) only [upR_na, mR_na, hsR_na, sR_na]
      rfl
    | 1, _ =>
      match j with
      | 0 | 1 | 2 | 3 | 4 | 5 | 6 | 7 | 8 | 9 | 10 =>
        simp (disch := omega) only [upR_ne, upR_eq, mR_na, hsR_na, sR_na]
        rfl
      | j + 11 =>
        simp (disch := omega) only [upR_ne, upR_eq, mR_na, hsR_na, sR_na]
        rfl
    | 2, _ =>
      simp (disch := omega) only [upR_na, mR_na, hsR_na, sR_na]
      unfold upR zR
      simp
    | 3, _ =>
      simp (disch := omega) only [upR_na, mR_na, hsR_na, sR_na]
      rfl
    | 4, _ =>
      simp (disch := omega) only [upR_na, mR_na, hsR_na, sR_na]
      unfold upR zR
      simp
    | 5, _ =>
      simp (disch := omega) only [upR_na, mR_na, hsR_na, sR_na]
      rfl
    | 6, _ =>
      simp (disch := omega) only [upR_na, mR_na, hsR_na, sR_na]
      match j with
      | 0 | 1 | 2 | 3 => rfl
      | j + 4 =>
        unfold upR
        simp [zR]
    | 7, _ | 8, _ | 9, _ | 12, _ | 15, _ | 16, _ =>
      simp (disch := omega) only [upR_na, mR_na, hsR_na]
      unfold sR cR
      simp (disch := omega) only [upR_na, if_neg]
      rfl
    | 10, _ =>
      simp (disch := omega) only [upR_na, mR_na, hsR_na, sR_na]
      unfold upR zR
      simp
    | 11, _ =>
      simp (disch := omega) only [upR_na, mR_na, hsR_na, sR_na]
      unfold upR zR
      simp
    | 13, _ =>
      simp (disch := omega) only [upR_na, mR_na, hsR_na]
      unfold sR cR
      simp (disch := omega) only [upR_na, if_neg]
      match j with
      | 0 | 1 | 2 | 3 | 4 => rfl
      | j + 5 =>
        unfold upR
        simp [zR]
    | 14, _ =>
      simp (disch := omega) only [upR_na, mR_na, hsR_na]
      unfold sR cR
      simp (disch := omega) only [upR_na]
      by_cases c : j < 30
      · simp [c]
      · simp [c, zR]
    | a + 17, h => exact absurd h (by omega)
  rw [if_neg h1]
  by_cases h2 : a < 167
  · rw [if_pos h2]
    unfold yRd yRc yRb yRa yR9 yR8 yR7 yR6 yR5 yR4 yR3 yR2 yR1
    simp (disch := omega) only [upR_na, mR_na, hsR_na]
    unfold sR cR
    simp (disch := omega) only [upR_na]
    rw [if_neg (by omega)]
    by_cases c0 : (a - 17) % 5 = 0
    · rw [if_pos c0]
      match j with
      | 0 => rw [if_neg (by omega), if_neg (by omega)]; rfl
      | 1 => rw [if_pos (by omega)]; rfl
      | 2 => rw [if_neg (by omega), if_pos (by omega)]; rfl
      | j + 3 => rw [if_neg (by omega), if_neg (by omega)]; rfl
    rw [if_neg c0]
    by_cases c1 : ((a - 17) % 5 = 1 ∨ (a - 17) % 5 = 3) ∧ j = 0
    · rw [if_pos c1, if_pos (by omega)]
    · rw [if_neg c1, if_neg (by omega), if_neg (by omega)]; rfl
  rw [if_neg h2]
  by_cases h3 : a = 167
  · subst h3
    rw [if_pos rfl]
    unfold yRd yRc yRb yRa yR9 yR8 yR7 yR6 yR5 yR4 yR3 yR2 yR1
    by_cases c : j = 0
    · subst c
      simp (disch := omega) only [upR_ne, upR_eq, mR_na, hsR_na]
      rfl
    · rw [if_neg c]
      simp (disch := omega) only [upR_ne, mR_na, hsR_na, sR_na]
      rfl
  rw [if_neg h3]
  by_cases h4 : a < 169
  · rw [if_pos h4]
    unfold yRd yRc yRb yRa yR9 yR8 yR7 yR6 yR5 yR4 yR3 yR2 yR1
    simp (disch := omega) only [upR_na, mR_na, hsR_na, sR_na]
    rfl
  rw [if_neg h4]
  by_cases h5 : a < 347
  · rw [if_pos h5]
    have h0 : ∀ j, yR6 a j = 0 := fun j => by
      unfold yR6 yR5 yR4 yR3 yR2 yR1
      simp (disch := omega) only [upR_na, sR_na]
      rfl
    unfold yRd yRc yRb yRa yR9 yR8 yR7
    simp (disch := omega) only [upR_na, mR_na, hsR_na]
    by_cases c : a < 258
    · rw [mR_na (by omega), upR_na (by omega), mR_in (by omega) (by omega) h0]
      have e1 : (a - 169) / 89 = 0 := by omega
      have e2 : (a - 169) % 89 = a - 169 := by omega
      rw [e1, e2]
    · rw [mR_in (by omega) (by omega) (fun j => by rw [upR_na (by omega), mR_na (by omega)]; exact h0 j)]
      have e1 : (a - 169) / 89 = 1 := by omega
      have e2 : (a - 169) % 89 = a - 258 := by omega
      rw [e1, e2]
  rw [if_neg h5]
  have h0 : ∀ j, yR8 a j = 0 := fun j => by
    unfold yR8 yR7 yR6 yR5 yR4 yR3 yR2 yR1
    simp (disch := omega) only [upR_na, sR_na, mR_na]
    rfl
  by_cases h6 : a = 347
  · subst h6
    rw [if_pos rfl]
    unfold yRd yRc yRb yRa yR9
    simp (disch := omega) only [upR_na, mR_na, hsR_na]
    by_cases c : j = 0
    · subst c
      rw [upR_eq, if_pos rfl]
    · rw [upR_ne (by omega), if_neg c]
      exact h0 j
  rw [if_neg h6]
  by_cases h7 : a = 348
  · subst h7
    rw [if_pos rfl]
    unfold yRd yRc yRb yRa yR9
    simp (disch := omega) only [upR_na, mR_na]
    rw [hsR_p (by decide) (by decide), upR_na (by omega), h0 j]
  rw [if_neg h7]
  by_cases h8 : a < 1061
  · rw [if_pos h8]
    unfold yRd yRc yRb yRa yR9
    simp (disch := omega) only [upR_na, mR_na]
    rw [hsR_in (by decide) (by decide) (by omega) (by omega) (fun j => by rw [upR_na (by omega)]; exact h0 j)]
  rw [if_neg h8]
  have h00 : ∀ j, yR9 a j = 0 := fun j => by
    unfold yR9
    rw [upR_na (by omega), hsR_na (by decide) (by omega) (by omega), upR_na (by omega)]
    exact h0 j
  by_cases ha : a = 1061
  · subst ha
    rw [if_pos rfl]
    unfold yRd yRc yRb yRa
    match j with
    | 0 => rw [upR_ne (by omega), mR_na (by omega), upR_eq]; rfl
    | 1 => rw [upR_eq]; rfl
    | j + 2 => rw [upR_ne (by omega), mR_na (by omega), upR_ne (by omega), mR_na (by omega), upR_na (by omega), upR_na (by omega), h00, if_neg (by omega)]
  rw [if_neg ha]
  by_cases hb : a = 1062
  · subst hb
    rw [if_pos rfl]
    unfold yRd yRc yRb yRa
    rw [upR_na (by omega), mR_na (by omega), upR_na (by omega), mR_na (by omega), upR_na (by omega), upR_na (by omega), h00]
  rw [if_neg hb, if_pos (by omega)]
  unfold yRd yRc yRb yRa
  by_cases c : a < 1152
  · rw [upR_na (by omega), mR_na (by omega), upR_na (by omega), mR_in (by omega) (by omega) (fun j => by rw [upR_na (by omega), upR_na (by omega)]; exact h00 j)]
    have e1 : (a - 1063) / 89 = 0 := by omega
    have e2 : (a - 1063) % 89 = a - 1063 := by omega
    rw [e1, e2]
  · rw [upR_na (by omega), mR_in (by omega) (by omega) (fun j => by rw [upR_na (by omega), mR_na (by omega), upR_na (by omega), upR_na (by omega)]; exact h00 j)]
    have e1 : (a - 1063) / 89 = 1 := by omega
    have e2 : (a - 1063) % 89 = a - 1152 := by omega
    rw [e1, e2]
