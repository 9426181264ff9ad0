/-! the class is made: the walk of its constructor, to its slots -/
section
variable {N : Nat} {C D D' X Y : List (Nat × Nat)} {I I' : kInts} {R R' : Nat → Nat → Nat} {L : kLngs} {a b t n m s c nf : Nat}
theorem st_new9 {G : kMem → Nat → Nat → Option kMem} {k : kMem → Option kMem} {o : Option kMem} (w f : Nat) (hw : D.length + 1 = w) (hZ : Zr D I R L) (h1 : krm 1 538 8722 (wz D I R L) nf = true) (h5 : cqt (D ++ [(t, nf)]) 1 11 = true) (h2 : kok 1 538 8722 (wz (D ++ [(t, nf)]) I R L) c s = true) (hG : G (wz (D ++ [(t, nf)]) I R L) w (R 1 0) = some (wz D' I' R' L)) (h3 : kgr 1 (wz (D ++ [(t, nf)]) I R L) (wz D' I' R' L) c s = true) (h4 : cqt D' 1 11 = true) (hk : k (wz D' I' (upR R' 1 f w) L) = o) :
    (kg (krm 1 538 8722 (wz D I R L) nf) <| kl (kNew (wz D I R L) t nf) fun M1 => kl ((wz D I R L).1.length + 1) fun w2 => kg (kt M1 1 11) <| kg (kok 1 538 8722 M1 c s) <| (G M1 w2 (kR M1 1 0)).bind fun M3 => kg (kgr 1 M1 M3 c s) <| kg (kt M3 1 11) <| kl (ksR M3 1 f w2) k) = o := by
  rw [h1, kg_t, wz_new hZ, wz_1, hw]
  unfold kl
  dsimp only
  rw [wz_kt, h5, kg_t, h2, kg_t, wz_kR, hG, Option.bind_some, h3, kg_t, wz_kt, h4, kg_t]
  exact hk
theorem st_arr {k : kMem → Option kMem} {o : Option kMem} (w f : Nat) (hw : D.length + 1 = w) (hZ : Zr D I R L) (h1 : krm 1 538 8722 (wz D I R L) nf = true) (h4 : cqt (D ++ [(t, nf)]) 1 11 = true) (hk : k (wz (D ++ [(t, nf)]) I (upR R 1 f w) L) = o) :
    (kg (krm 1 538 8722 (wz D I R L) nf) <| kl (kNew (wz D I R L) t nf) fun M1 => kl ((wz D I R L).1.length + 1) fun w2 => kg (kt M1 1 11) <| kl (ksR M1 1 f w2) k) = o := by
  rw [h1, kg_t, wz_new hZ, wz_1, hw]
  unfold kl
  dsimp only
  rw [wz_kt, h4, kg_t]
  exact hk
theorem st_slot (i w z : Nat) (hN : 100 < N) (hw : D.length + 1 = w) (hZ : Zr D I R L) (hi : i < 2) (h11 : cqt D 1 11 = true) (h9 : R 1 7 = 456) (h18 : cqt D 456 18 = true) (hn : cqn D 456 = 2) (h1 : krm 1 538 8722 (wz D I R L) 16 = true) (h2 : kok 1 538 8722 (wz (D ++ [(4, 16)]) I R L) 40 351 = true) (h3 : kgr 1 (wz (D ++ [(4, 16)]) I R L) (wz (D ++ [(4, 16)] ++ mX) (mI w I) (mR w R) L) 40 351 = true) (h4 : cqt (D ++ [(4, 16)] ++ mX) 456 18 = true) (h5 : cqn (D ++ [(4, 16)] ++ mX) 456 = 2) (h6 : cqt (D ++ [(4, 16)] ++ mX) w 4 = true) :
    F_X11_init_102 N 1 (z + 1) (wz D I R L) 1 (nI i) = F_X11_init_102 N 1 z (wz (D ++ [(4, 16)] ++ mX) (mI w I) (upR (mR w R) 456 i w) L) 1 (nI (i + 1)) := by
  rw [F_X11_init_102]
  have kk := kin_w (I := mI w I) (R := mR w R) (L := L) h4 h5 hi (by decide)
  have c : nI i < Int32.ofNat 2 := (nI_ltP (b := 2) (by omega) (by decide)).mpr hi
  simp only [wz_kt, h11, kg_t, wz_kR, h9, h18, wz_kn, hn, if_pos c, h1, kl_v, wz_1, wz_new hZ, hw, h2, (st_X4 hN w hw hZ).1, Option.bind_some, h3, kk, h6, Bool.and_self, wz_ksR, kx_nI (show i < 2147483648 by omega), nI_1]
end
theorem y_Z0 : Zr yD0 z0 zR zL := fun a j _ => ⟨rfl, rfl, rfl⟩
theorem y_l1 : yD0.length + 1 = 2 := by rw [yD_l.1]
theorem y_Z1 : Zr yD1 z0 yR1 zL := ((st_X8 (N := 101) 2 y_l1 y_Z0).2).r (by show 1 ≤ yD1.length; rw [yD_l.2.1]; decide)
theorem y_l2 : yD1.length + 1 = 4 := by rw [yD_l.2.1]
theorem y_Z2 : Zr yD2 z0 yR2 zL := ((st_X8 (N := 101) 4 y_l2 y_Z1).2).r (by show 1 ≤ yD2.length; rw [yD_l.2.2.1]; decide)
theorem y_l3 : yD2.length + 1 = 6 := by rw [yD_l.2.2.1]
theorem y_Z3 : Zr yD3 yI3 yR3 zL := ((st_X9 (N := 101) 6 2 y_l3 y_Z2).2).r (by show 1 ≤ yD3.length; rw [yD_l.2.2.2.1]; decide)
theorem y_l5 : yD3.length + 1 = 10 := by rw [yD_l.2.2.2.1]
theorem y_Z5 : Zr yD5 yI3 yR5 zL := ((st_X6 (N := 101) (show 100 < 101 by decide) 10 y_l5 y_Z3).2).r (by show 1 ≤ yD5.length; rw [yD_l.2.2.2.2.1]; decide)
theorem y_l7 : yD5.length + 1 = 44 := by rw [yD_l.2.2.2.2.1]
theorem y_Z7 : Zr yD7 yI7 yR7 zL := ((st_X4 (N := 101) (show 100 < 101 by decide) 44 y_l7 y_Z5).2).r (by show 1 ≤ yD7.length; rw [yD_l.2.2.2.2.2.1]; decide)
theorem y_l8 : yD7.length + 1 = 85 := by rw [yD_l.2.2.2.2.2.1]
theorem y_Z8 : Zr yD8 yI8 yR8 zL := ((st_X4 (N := 101) (show 100 < 101 by decide) 85 y_l8 y_Z7).2).r (by show 1 ≤ yD8.length; rw [yD_l.2.2.2.2.2.2.1]; decide)
theorem y_l9 : yD8.length + 1 = 126 := by rw [yD_l.2.2.2.2.2.2.1]
theorem y_Z9 : Zr yD9 yI9 yR9 zL := ((st_X3 (N := 101) (show 100 < 101 by decide) 126 y_l9 y_Z8).2).r (by show 1 ≤ yD9.length; rw [yD_l.2.2.2.2.2.2.2.1]; decide)
theorem y_la : yD9.length + 1 = 456 := by rw [yD_l.2.2.2.2.2.2.2.1]
theorem y_Za : Zr yDa yI9 yRa zL := (y_Z9.app (X := [(18, 2)])).r (by show 1 ≤ yDa.length; rw [yD_l.2.2.2.2.2.2.2.2.1]; decide)
theorem y_lb : yDa.length + 1 = 457 := by rw [yD_l.2.2.2.2.2.2.2.2.1]
theorem y_Zb : Zr yDb yI9 yRb zL := (y_Za.app (X := [(14, 2)])).r (by show 1 ≤ yDb.length; rw [yD_l.2.2.2.2.2.2.2.2.2.1]; decide)
theorem y_lc : yDb.length + 1 = 458 := by rw [yD_l.2.2.2.2.2.2.2.2.2.1]
theorem y_Zc : Zr yDc yIc yRc zL := ((st_X4 (N := 101) (by decide) 458 y_lc y_Zb).2).r (by show 456 ≤ yDc.length; rw [yD_l.2.2.2.2.2.2.2.2.2.2.1]; decide)
theorem y_ld : yDc.length + 1 = 499 := by rw [yD_l.2.2.2.2.2.2.2.2.2.2.1]
theorem y_Zd : Zr yDd yId yRd zL := ((st_X4 (N := 101) (by decide) 499 y_ld y_Zc).2).r (by show 456 ≤ yDd.length; rw [yD_l.2.2.2.2.2.2.2.2.2.2.2]; decide)
theorem i_X11a {N : Nat} (hN : 100 < N) : F_X11_init N (wz yD0 z0 zR zL) 1 = F_X11_init_102 N 1 N (wz yDb yI9 yRb zL) 1 (nI 0) := by
  unfold F_X11_init
  rw [show (wz yD0 z0 zR zL).1.length = 1 from rfl]
  unfold F_X11_init_b
  rw [show decide ((1 : Nat) ≠ 0) = true from rfl, kg_t]
  refine st_new (G := F_X8_init N) (D := yD0) (I := z0) (R := zR) (L := zL) (D' := yD1) (t := 8) (nf := 2) (c := 1) (s := 800) 2 0 y_l1 y_Z0 (by decide +kernel) (by decide +kernel) (st_X8 (N := N) 2 y_l1 y_Z0).1 (by decide +kernel) (by decide +kernel) ?_
  refine st_new (G := F_X8_init N) (D := yD1) (I := z0) (R := yR1) (L := zL) (D' := yD2) (t := 8) (nf := 2) (c := 1) (s := 800) 4 1 y_l2 y_Z1 (by decide +kernel) (by decide +kernel) (st_X8 (N := N) 4 y_l2 y_Z1).1 (by decide +kernel) (by decide +kernel) ?_
  refine st_new9 (G := F_X9_init N) (D := yD2) (I := z0) (R := yR2) (L := zL) (D' := yD3) (t := 9) (nf := 8) (c := 3) (s := 2403) 6 2 y_l3 y_Z2 (by decide +kernel) (by decide +kernel) (by decide +kernel) (st_X9 (N := N) 6 2 y_l3 y_Z2).1 (by decide +kernel) (by decide +kernel) ?_
  refine st_new (G := F_X6_init N) (D := yD3) (I := yI3) (R := yR3) (L := zL) (D' := yD5) (t := 6) (nf := 6) (c := 33) (s := 282) 10 3 y_l5 y_Z3 (by decide +kernel) (by decide +kernel) (st_X6 (N := N) hN 10 y_l5 y_Z3).1 (by decide +kernel) (by decide +kernel) ?_
  refine st_new (G := F_X4_init N) (D := yD5) (I := yI3) (R := yR5) (L := zL) (D' := yD7) (t := 4) (nf := 16) (c := 40) (s := 351) 44 4 y_l7 y_Z5 (by decide +kernel) (by decide +kernel) (st_X4 (N := N) hN 44 y_l7 y_Z5).1 (by decide +kernel) (by decide +kernel) ?_
  refine st_new (G := F_X4_init N) (D := yD7) (I := yI7) (R := yR7) (L := zL) (D' := yD8) (t := 4) (nf := 16) (c := 40) (s := 351) 85 5 y_l8 y_Z7 (by decide +kernel) (by decide +kernel) (st_X4 (N := N) hN 85 y_l8 y_Z7).1 (by decide +kernel) (by decide +kernel) ?_
  refine st_new (G := F_X3_init N) (D := yD8) (I := yI8) (R := yR8) (L := zL) (D' := yD9) (t := 3) (nf := 3) (c := 329) (s := 2944) 126 6 y_l9 y_Z8 (by decide +kernel) (by decide +kernel) (st_X3 (N := N) hN 126 y_l9 y_Z8).1 (by decide +kernel) (by decide +kernel) ?_
  refine st_arr (D := yD9) (I := yI9) (R := yR9) (L := zL) (t := 18) (nf := (2 : Int32).toNatClampNeg) 456 7 y_la y_Z9 (by decide +kernel) (by decide +kernel) ?_
  refine st_arr (D := yDa) (I := yI9) (R := yRa) (L := zL) (t := 14) (nf := (2 : Int32).toNatClampNeg) 457 8 y_lb y_Za (by decide +kernel) (by decide +kernel) ?_
  rfl
theorem i_X11b {N z : Nat} (hN : 100 < N) : F_X11_init_102 N 1 (z + 2) (wz yDb yI9 yRb zL) 1 (nI 0) = F_X11_init_102 N 1 z (wz yDd yId yRd zL) 1 (nI 2) := by
  refine (st_slot (D := yDb) (I := yI9) (R := yRb) (L := zL) 0 458 (z + 1) hN y_lc y_Zb (by decide) (by decide +kernel) (by decide +kernel) (by decide +kernel) (by decide +kernel) (by decide +kernel) (by decide +kernel) (by decide +kernel) (by decide +kernel) (by decide +kernel) (by decide +kernel)).trans ?_
  exact st_slot (D := yDc) (I := yIc) (R := yRc) (L := zL) 1 499 z hN y_ld y_Zc (by decide) (by decide +kernel) (by decide +kernel) (by decide +kernel) (by decide +kernel) (by decide +kernel) (by decide +kernel) (by decide +kernel) (by decide +kernel) (by decide +kernel) (by decide +kernel)
theorem y_M : wz yDd yId yRd zL = wm Mc yId zL := by
  rw [yD_C, yR_C]
  unfold wz wm Mc
  with_reducible rfl
