/-! the class is made: its cells, step by step -/
section
variable {N : Nat} {C D D' X Y : List (Nat × Nat)} {I I' : kInts} {R R' : Nat → Nat → Nat} {L : kLngs} {a b t n m s c nf : Nat}
theorem st_new {G : kMem → Nat → Option kMem} {k : kMem → Option kMem} {o : Option kMem} (w f : Nat) (hw : D.length + 1 = w) (hZ : Zr D I R L) (h1 : krm 1 538 8722 (wz D I R L) nf = true) (h2 : kok 1 538 8722 (wz (D ++ [(t, nf)]) I R L) c s = true) (hG : G (wz (D ++ [(t, nf)]) I R L) w = some (wz D' I' R' L)) (h3 : kgr 1 (wz (D ++ [(t, nf)]) I R L) (wz D' I' R' L) c s = true) (h4 : cqt D' 1 11 = true) (hk : k (wz D' I' (upR R' 1 f w) L) = o) :
    (kg (krm 1 538 8722 (wz D I R L) nf) <| kl (kNew (wz D I R L) t nf) fun M1 => kl ((wz D I R L).1.length + 1) fun w2 => kg (kok 1 538 8722 M1 c s) <| (G M1 w2).bind fun M3 => kg (kgr 1 M1 M3 c s) <| kg (kt M3 1 11) <| kl (ksR M3 1 f w2) k) = o := by
  rw [h1, kg_t, wz_new hZ, wz_1, hw]
  unfold kl
  dsimp only
  rw [h2, kg_t, hG, Option.bind_some, h3, kg_t, wz_kt, h4, kg_t]
  exact hk
theorem st_X4 (hN : 100 < N) (w : Nat) (hw : D.length + 1 = w) (hZ : Zr D I R L) : F_X4_init N (wz (D ++ [(4, 16)]) I R L) w = some (wz (D ++ [(4, 16)] ++ mX) (mI w I) (mR w R) L) ∧ Zr (D ++ [(4, 16)] ++ mX) (mI w I) (mR w R) L := by
  have hl : (D ++ [(4, 16)]).length = w := by rw [List.length_append]; exact hw
  have h := i_X4 (N := N) (hZ.app (X := [(4, 16)])) (hl.symm ▸ hw ▸ cqt_last) hN
  rwa [hl] at h
theorem st_X8 (w : Nat) (hw : D.length + 1 = w) (hZ : Zr D I R L) : F_X8_init N (wz (D ++ [(8, 2)]) I R L) w = some (wz (D ++ [(8, 2)] ++ [(13, 800)]) I (upR R w 0 (w + 1)) L) ∧ Zr (D ++ [(8, 2)] ++ [(13, 800)]) I (upR R w 0 (w + 1)) L := by
  have hl : (D ++ [(8, 2)]).length = w := by rw [List.length_append]; exact hw
  have h := i_X8 (N := N) (hZ.app (X := [(8, 2)])) (a := w) (hw ▸ cqt_last)
  rwa [hl] at h
theorem st_X9 (w b : Nat) (hw : D.length + 1 = w) (hZ : Zr D I R L) : F_X9_init N (wz (D ++ [(9, 8)]) I R L) w b = some (wz (D ++ [(9, 8)] ++ [(13, 801), (13, 801), (13, 801)]) (up I w 7 (-1)) (upR (upR (upR (upR R w 1 (w + 1)) w 2 (w + 2)) w 3 (w + 3)) w 0 b) L) ∧ Zr (D ++ [(9, 8)] ++ [(13, 801), (13, 801), (13, 801)]) (up I w 7 (-1)) (upR (upR (upR (upR R w 1 (w + 1)) w 2 (w + 2)) w 3 (w + 3)) w 0 b) L := by
  have hl : (D ++ [(9, 8)]).length = w := by rw [List.length_append]; exact hw
  have h := i_X9 (N := N) (hZ.app (X := [(9, 8)])) (a := w) (b := b) (hw ▸ cqt_last)
  rwa [hl] at h
theorem st_X6 (hN : 100 < N) (w : Nat) (hw : D.length + 1 = w) (hZ : Zr D I R L) : F_X6_init N (wz (D ++ [(6, 6)]) I R L) w = some (wz (D ++ [(6, 6)] ++ (S3 ++ cds 30)) I (sR w R) L) ∧ Zr (D ++ [(6, 6)] ++ (S3 ++ cds 30)) I (sR w R) L := by
  have hl : (D ++ [(6, 6)]).length = w := by rw [List.length_append]; exact hw
  have h := i_X6 (N := N) (hZ.app (X := [(6, 6)])) (hl.symm ▸ hw ▸ cqt_last) hN
  rwa [hl] at h
theorem st_X3 (hN : 100 < N) (w : Nat) (hw : D.length + 1 = w) (hZ : Zr D I R L) : F_X3_init N (wz (D ++ [(3, 3)]) I R L) w = some (wz (D ++ [(3, 3)] ++ [(18, 8)] ++ mks' 8) (hsI w I 8) (hsR w (w + 1) (upR R w 0 (w + 1)) 8) L) ∧ Zr (D ++ [(3, 3)] ++ [(18, 8)] ++ mks' 8) (hsI w I 8) (hsR w (w + 1) (upR R w 0 (w + 1)) 8) L := by
  have hl : (D ++ [(3, 3)]).length = w := by rw [List.length_append]; exact hw
  have h := i_X3 (N := N) (hZ.app (X := [(3, 3)])) (hl.symm ▸ hw ▸ cqt_last) hN
  rwa [hl] at h
end
def yD0 : List (Nat × Nat) := [(11, 9)]
def yD1 : List (Nat × Nat) := yD0 ++ [(8, 2)] ++ [(13, 800)]
def yD2 : List (Nat × Nat) := yD1 ++ [(8, 2)] ++ [(13, 800)]
def yD3 : List (Nat × Nat) := yD2 ++ [(9, 8)] ++ [(13, 801), (13, 801), (13, 801)]
def yD5 : List (Nat × Nat) := yD3 ++ [(6, 6)] ++ (S3 ++ cds 30)
def yD7 : List (Nat × Nat) := yD5 ++ [(4, 16)] ++ mX
def yD8 : List (Nat × Nat) := yD7 ++ [(4, 16)] ++ mX
def yD9 : List (Nat × Nat) := yD8 ++ [(3, 3)] ++ [(18, 8)] ++ mks' 8
def yDa : List (Nat × Nat) := yD9 ++ [(18, 2)]
def yDb : List (Nat × Nat) := yDa ++ [(14, 2)]
def yDc : List (Nat × Nat) := yDb ++ [(4, 16)] ++ mX
def yDd : List (Nat × Nat) := yDc ++ [(4, 16)] ++ mX
theorem yD_C : yDd = cellsC := by decide +kernel
theorem yD_l : yD0.length = 1 ∧ yD1.length = 3 ∧ yD2.length = 5 ∧ yD3.length = 9 ∧ yD5.length = 43 ∧ yD7.length = 84 ∧ yD8.length = 125 ∧ yD9.length = 455 ∧ yDa.length = 456 ∧ yDb.length = 457 ∧ yDc.length = 498 ∧ yDd.length = 539 := by decide +kernel
def z0 : kInts := fun _ _ => 0
def zR : Nat → Nat → Nat := fun _ _ => 0
def zL : kLngs := fun _ _ => 0
def yR1 : Nat → Nat → Nat := upR (upR zR 2 0 3) 1 0 2
def yR2 : Nat → Nat → Nat := upR (upR yR1 4 0 5) 1 1 4
def yR3 : Nat → Nat → Nat := upR (upR (upR (upR (upR yR2 6 1 7) 6 2 8) 6 3 9) 6 0 2) 1 2 6
def yR5 : Nat → Nat → Nat := upR (sR 10 yR3) 1 3 10
def yR7 : Nat → Nat → Nat := upR (mR 44 yR5) 1 4 44
def yR8 : Nat → Nat → Nat := upR (mR 85 yR7) 1 5 85
def yR9 : Nat → Nat → Nat := upR (hsR 126 127 (upR yR8 126 0 127) 8) 1 6 126
def yRa : Nat → Nat → Nat := upR yR9 1 7 456
def yRb : Nat → Nat → Nat := upR yRa 1 8 457
def yRc : Nat → Nat → Nat := upR (mR 458 yRb) 456 0 458
def yRd : Nat → Nat → Nat := upR (mR 499 yRc) 456 1 499
def yI3 : kInts := up z0 6 7 (-1)
def yI7 : kInts := mI 44 yI3
def yI8 : kInts := mI 85 yI7
def yI9 : kInts := hsI 126 yI8 8
def yIc : kInts := mI 458 yI9
def yId : kInts := mI 499 yIc
theorem yR_C : yRd = refC := by
  funext a j
  unfold refC
  by_cases h9 : 539 < a
  · rw [if_neg (by omega)]
    unfold yRd yRc yRb yRa yR9 yR8 yR7 yR5 yR3 yR2 yR1 zR
    simp (disch := omega) only [upR_na, mR_na, hsR_na, sR_na]
  rw [if_pos (by omega)]
  unfold refB
  by_cases h1 : a < 14
  · rw [if_pos h1]
    unfold yRd yRc yRb yRa yR9 yR8 yR7 yR5 yR3 yR2 yR1
    match a, h1 with
    | 0, _ =>
      simp (disch := omega) only [upR_na, mR_na, hsR_na, sR_na]
      rfl
    | 1, _ =>
      match j with
      | 0 | 1 | 2 | 3 | 4 | 5 | 6 | 7 | 8 =>
        simp (disch := omega) only [upR_ne, upR_eq, mR_na, hsR_na, sR_na]
        rfl
      | j + 9 =>
        simp (disch := omega) only [upR_ne, upR_eq, mR_na, hsR_na, sR_na]
        rfl
    | 2, _ =>
      simp (disch := omega) only [upR_na, mR_na, hsR_na, sR_na]
      unfold upR zR
      simp
    | 3, _ =>
      simp (disch := omega) only [upR_na, mR_na, hsR_na, sR_na]
      rfl
    | 4, _ =>
      simp (disch := omega) only [upR_na, mR_na, hsR_na, sR_na]
      unfold upR zR
      simp
    | 5, _ =>
      simp (disch := omega) only [upR_na, mR_na, hsR_na, sR_na]
      rfl
    | 6, _ =>
      simp (disch := omega) only [upR_na, mR_na, hsR_na, sR_na]
      match j with
      | 0 | 1 | 2 | 3 => rfl
      | j + 4 =>
        unfold upR
        simp [zR]
    | 7, _ | 8, _ | 9, _ | 12, _ | 13, _ =>
      simp (disch := omega) only [upR_na, mR_na, hsR_na]
      unfold sR cR
      simp (disch := omega) only [upR_na, if_neg]
      rfl
    | 10, _ =>
      simp (disch := omega) only [upR_na, mR_na, hsR_na]
      unfold sR cR
      simp (disch := omega) only [upR_na, if_neg]
      match j with
      | 0 | 1 | 2 | 3 | 4 => rfl
      | j + 5 =>
        unfold upR
        simp [zR]
    | 11, _ =>
      simp (disch := omega) only [upR_na, mR_na, hsR_na]
      unfold sR cR
      simp (disch := omega) only [upR_na]
      by_cases c : j < 30
      · simp [c]
      · simp [c, zR]
    | a + 14, h => exact absurd h (by omega)
  rw [if_neg h1]
  by_cases h2 : a < 44
  · rw [if_pos h2]
    unfold yRd yRc yRb yRa yR9 yR8 yR7 yR5 yR3 yR2 yR1
    simp (disch := omega) only [upR_na, mR_na, hsR_na]
    unfold sR cR
    simp (disch := omega) only [upR_na]
    rw [if_neg (by omega)]
    rfl
  rw [if_neg h2]
  by_cases h5 : a < 126
  · rw [if_pos h5]
    have h0 : ∀ j, yR5 a j = 0 := fun j => by
      unfold yR5 yR3 yR2 yR1
      simp (disch := omega) only [upR_na, sR_na]
      rfl
    unfold yRd yRc yRb yRa yR9 yR8 yR7
    simp (disch := omega) only [upR_na, mR_na, hsR_na]
    by_cases c : a < 85
    · rw [mR_na (by omega), upR_na (by omega), mR_in (by omega) (by omega) h0]
      have e1 : (a - 44) / 41 = 0 := by omega
      have e2 : (a - 44) % 41 = a - 44 := by omega
      rw [e1, e2]
    · rw [mR_in (by omega) (by omega) (fun j => by rw [upR_na (by omega), mR_na (by omega)]; exact h0 j)]
      have e1 : (a - 44) / 41 = 1 := by omega
      have e2 : (a - 44) % 41 = a - 85 := by omega
      rw [e1, e2]
  rw [if_neg h5]
  have h0 : ∀ j, yR8 a j = 0 := fun j => by
    unfold yR8 yR7 yR5 yR3 yR2 yR1
    simp (disch := omega) only [upR_na, sR_na, mR_na]
    rfl
  by_cases h6 : a = 126
  · subst h6
    rw [if_pos rfl]
    unfold yRd yRc yRb yRa yR9
    simp (disch := omega) only [upR_na, mR_na, hsR_na]
    by_cases c : j = 0
    · subst c
      rw [upR_eq, if_pos rfl]
    · rw [upR_ne (by omega), if_neg c]
      exact h0 j
  rw [if_neg h6]
  by_cases h7 : a = 127
  · subst h7
    rw [if_pos rfl]
    unfold yRd yRc yRb yRa yR9
    simp (disch := omega) only [upR_na, mR_na]
    rw [hsR_p (by decide) (by decide), upR_na (by omega), h0 j]
  rw [if_neg h7]
  by_cases h8 : a < 456
  · rw [if_pos h8]
    unfold yRd yRc yRb yRa yR9
    simp (disch := omega) only [upR_na, mR_na]
    rw [hsR_in (by decide) (by decide) (by omega) (by omega) (fun j => by rw [upR_na (by omega)]; exact h0 j)]
  rw [if_neg h8]
  have h00 : ∀ j, yR9 a j = 0 := fun j => by
    unfold yR9
    rw [upR_na (by omega), hsR_na (by decide) (by omega) (by omega), upR_na (by omega)]
    exact h0 j
  by_cases ha : a = 456
  · subst ha
    rw [if_pos rfl]
    unfold yRd yRc yRb yRa
    match j with
    | 0 => rw [upR_ne (by omega), mR_na (by omega), upR_eq]; rfl
    | 1 => rw [upR_eq]; rfl
    | j + 2 => rw [upR_ne (by omega), mR_na (by omega), upR_ne (by omega), mR_na (by omega), upR_na (by omega), upR_na (by omega), h00, if_neg (by omega)]
  rw [if_neg ha]
  by_cases hb : a = 457
  · subst hb
    rw [if_pos rfl]
    unfold yRd yRc yRb yRa
    rw [upR_na (by omega), mR_na (by omega), upR_na (by omega), mR_na (by omega), upR_na (by omega), upR_na (by omega), h00]
  rw [if_neg hb, if_pos (by omega)]
  unfold yRd yRc yRb yRa
  by_cases c : a < 499
  · rw [upR_na (by omega), mR_na (by omega), upR_na (by omega), mR_in (by omega) (by omega) (fun j => by rw [upR_na (by omega), upR_na (by omega)]; exact h00 j)]
    have e1 : (a - 458) / 41 = 0 := by omega
    have e2 : (a - 458) % 41 = a - 458 := by omega
    rw [e1, e2]
  · rw [upR_na (by omega), mR_in (by omega) (by omega) (fun j => by rw [upR_na (by omega), mR_na (by omega), upR_na (by omega), upR_na (by omega)]; exact h00 j)]
    have e1 : (a - 458) / 41 = 1 := by omega
    have e2 : (a - 458) % 41 = a - 499 := by omega
    rw [e1, e2]
