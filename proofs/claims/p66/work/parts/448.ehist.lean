/-! a script, a history are made -/
def cds : Nat → List (Nat × Nat)
  | 0 => []
  | i + 1 => cds i ++ [(1, 7)]
def S3 : List (Nat × Nat) := [(19, 30), (13, 2), (13, 40)]
def cR (s i : Nat) (R : Nat → Nat → Nat) : Nat → Nat → Nat := fun a j => if a = s + 1 ∧ j < i then s + 4 + j else R a j
def sR (s : Nat) (R : Nat → Nat → Nat) : Nat → Nat → Nat := cR s 30 (upR (upR (upR R s 0 (s + 1)) s 2 (s + 2)) s 4 (s + 3))
def mks' : Nat → List (Nat × Nat)
  | 0 => []
  | k + 1 => mks' k ++ ((4, 16) :: mX)
def hsI (h : Nat) (I : kInts) : Nat → kInts
  | 0 => I
  | k + 1 => mI (h + 2 + 41 * k) (hsI h I k)
def hsR (h p : Nat) (R : Nat → Nat → Nat) : Nat → Nat → Nat → Nat
  | 0 => R
  | k + 1 => upR (mR (h + 2 + 41 * k) (hsR h p R k)) p k (h + 2 + 41 * k)
section
variable {N : Nat} {C D X Y : List (Nat × Nat)} {I : kInts} {R : Nat → Nat → Nat} {L : kLngs} {a b i t n s mc ms : Nat} {x : Int32}
theorem cds_len : ∀ i, (cds i).length = i ∧ sm (cds i) = 7 * i
  | 0 => ⟨rfl, rfl⟩
  | i + 1 => by
    obtain ⟨h1, h2⟩ := cds_len i
    refine ⟨by unfold cds; rw [List.length_append, h1]; rfl, ?_⟩
    unfold cds
    rw [sm_app, h2]
    show 7 * i + 7 = _
    omega
theorem mX_len : mX.length = 40 ∧ sm mX = 351 := by
  have := xt_len 24
  exact this
theorem mks_len : ∀ k, (mks' k).length = 41 * k ∧ sm (mks' k) = 367 * k
  | 0 => ⟨rfl, rfl⟩
  | k + 1 => by
    obtain ⟨h1, h2⟩ := mks_len k
    have e : sm ((4, 16) :: mX) = 16 + sm mX := rfl
    refine ⟨by unfold mks'; rw [List.length_append, h1, List.length_cons, mX_len.1]; omega, ?_⟩
    unfold mks'
    rw [sm_app, h2, e, mX_len.2]
    omega
theorem xc_len (i : Nat) : (S3 ++ cds i).length = 3 + i ∧ sm (S3 ++ cds i) = 72 + 7 * i := by
  rw [List.length_append, sm_app, (cds_len i).1, (cds_len i).2]
  exact ⟨rfl, rfl⟩
theorem cR_s : upR (cR s i R) (s + 1) i (s + 4 + i) = cR s (i + 1) R := by
  funext a j
  unfold cR
  by_cases h : a = s + 1 ∧ j = i
  · rw [h.1, h.2, upR_eq, if_pos (by omega)]
  rw [upR_ne (by omega)]
  by_cases h5 : a = s + 1 ∧ j < i
  · rw [if_pos h5, if_pos (by omega)]
  rw [if_neg h5, if_neg (show ¬ (a = s + 1 ∧ j < i + 1) by omega)]
theorem cR_m {j : Nat} : cR s i R s j = R s j := by
  unfold cR
  rw [if_neg (by omega)]
theorem mk_cds (hm : cqt C C.length 6 = true) : ∀ (k i z : Nat) (I : kInts) (R : Nat → Nat → Nat), i + k = 30 → k < z → Zr (C ++ (S3 ++ cds i)) I (cR C.length i R) L → R C.length 0 = C.length + 1 → F_X6_init_30 N C.length z (wz (C ++ (S3 ++ cds i)) I (cR C.length i R) L) C.length (nI i) = some (wz (C ++ (S3 ++ cds 30)) I (cR C.length 30 R) L) ∧ Zr (C ++ (S3 ++ cds 30)) I (cR C.length 30 R) L := by
  intro k
  induction k with
  | zero =>
    intro i z I R e hz hZ h0
    have : i = 30 := by omega
    subst this
    obtain ⟨z, rfl⟩ : ∃ w, z = w + 1 := ⟨z - 1, by omega⟩
    have g1 : cqt (C ++ (S3 ++ cds 30)) (C.length + 1) 19 = true := cqt_last
    have g2 : cqn (C ++ (S3 ++ cds 30)) (C.length + 1) = 30 := cqn_last
    have e0 : cR C.length 30 R C.length 0 = C.length + 1 := cR_m.trans h0
    have h3 : kend C.length 33 282 (wz (C ++ (S3 ++ cds 30)) I (cR C.length 30 R) L) = true := kend_w (X := S3 ++ cds 30) rfl (by rw [(xc_len 30).1]; omega) (by rw [(xc_len 30).2]; omega)
    refine ⟨?_, hZ⟩
    rw [F_X6_init_30]
    simp only [wz_kt, cqt_app hm, kg_t, wz_kR, e0, g1, g2, wz_kn, nI_lz (show 30 ≤ 100 by decide) (show 30 ≤ 100 by decide), if_neg (Nat.lt_irrefl _), h3]
  | succ k ih =>
    intro i z I R e hz hZ h0
    obtain ⟨z, rfl⟩ : ∃ w, z = w + 1 := ⟨z - 1, by omega⟩
    have g1 : cqt (C ++ (S3 ++ cds i)) (C.length + 1) 19 = true := cqt_last
    have g2 : cqn (C ++ (S3 ++ cds i)) (C.length + 1) = 30 := cqn_last
    have e0 : cR C.length i R C.length 0 = C.length + 1 := cR_m.trans h0
    obtain ⟨x1, x2⟩ := xc_len i
    have lenD : (C ++ (S3 ++ cds i)).length + 1 = C.length + 4 + i := by rw [List.length_append, x1]; omega
    have h1 : krm C.length 33 282 (wz (C ++ (S3 ++ cds i)) I (cR C.length i R) L) 7 = true := krm_w (X := S3 ++ cds i) rfl (by rw [x1]; omega) (by rw [x2]; omega)
    have h2 : kok C.length 33 282 (wz (C ++ (S3 ++ cds i) ++ [(1, 7)]) I (cR C.length i R) L) 0 0 = true := kok_w (X := (S3 ++ cds i) ++ [(1, 7)]) (List.append_assoc _ _ _) (by rw [List.length_append, x1]; show 3 + i + 1 + 0 ≤ 33; omega) (by rw [sm_app, x2]; show 72 + 7 * i + 7 + 0 ≤ 282; omega)
    have hw : cqt (C ++ (S3 ++ cds i) ++ [(1, 7)]) (C.length + 4 + i) 1 = true := by rw [← lenD]; exact cqt_last
    have lw : (C ++ (S3 ++ cds i) ++ [(1, 7)]).length = C.length + 4 + i := by rw [List.length_append]; exact lenD
    obtain ⟨n1, n2⟩ := i_X1 (N := N) (hZ.app (X := [(1, 7)])) hw
    have eX : C ++ (S3 ++ cds i) ++ [(1, 7)] = C ++ (S3 ++ cds (i + 1)) := by
      show _ = C ++ (S3 ++ (cds i ++ [(1, 7)]))
      simp only [List.append_assoc, List.cons_append, List.nil_append]
    have h3 : kgr C.length (wz (C ++ (S3 ++ cds i) ++ [(1, 7)]) I (cR C.length i R) L) (wz (C ++ (S3 ++ cds i) ++ [(1, 7)]) I (cR C.length i R) L) 0 0 = true := kgr_w (X := (S3 ++ cds i) ++ [(1, 7)]) (Y := []) (List.append_assoc _ _ _) (List.append_nil _).symm rfl rfl
    rw [eX] at n1 n2 h2 h3 hw
    have g3 : cqt (C ++ (S3 ++ cds (i + 1))) (C.length + 1) 19 = true := cqt_last
    have g4 : cqn (C ++ (S3 ++ cds (i + 1))) (C.length + 1) = 30 := cqn_last
    have hw2 : cqt (C ++ (S3 ++ cds (i + 1))) (C.length + 4 + i) 1 = true := hw
    have n3 := n2.r (a := C.length + 1) (j := i) (v := C.length + 4 + i) (by rw [List.length_append, (xc_len (i + 1)).1]; omega)
    rw [cR_s] at n3
    obtain ⟨r1, r2⟩ := ih (i + 1) z I R (by omega) (by omega) n3 h0
    refine ⟨?_, r2⟩
    rw [← r1, F_X6_init_30]
    have kk := kin_w (I := I) (R := cR C.length i R) (L := L) g3 g4 (show i < 30 by omega) (by decide)
    simp only [wz_kt, cqt_app hm, kg_t, wz_kR, e0, g1, g2, wz_kn, nI_lz (show i ≤ 100 by omega) (show 30 ≤ 100 by decide), if_pos (show i < 30 by omega), h1, kl_v, wz_1, wz_new hZ, lenD, eX, h2, n1, Option.bind_some, h3, kk, hw2, Bool.and_self, wz_ksR, kx_nI (show i < 2147483648 by omega), cR_s, nI_1]
theorem i_X6 (hz : Zr C I R L) (hm : cqt C C.length 6 = true) (hN : 100 < N) : F_X6_init N (wz C I R L) C.length = some (wz (C ++ (S3 ++ cds 30)) I (sR C.length R) L) ∧ Zr (C ++ (S3 ++ cds 30)) I (sR C.length R) L := by
  have z1 : Zr (C ++ [(19, 30)]) I (upR R C.length 0 (C.length + 1)) L := (hz.app).r (by rw [List.length_append]; omega)
  have z2 : Zr (C ++ [(19, 30), (13, 2)]) I (upR (upR R C.length 0 (C.length + 1)) C.length 2 (C.length + 2)) L := by
    have := (z1.app (X := [(13, 2)])).r (a := C.length) (j := 2) (v := C.length + 2) (by rw [List.length_append, List.length_append]; omega)
    rwa [ap1] at this
  have z3 : Zr (C ++ (S3 ++ cds 0)) I (upR (upR (upR R C.length 0 (C.length + 1)) C.length 2 (C.length + 2)) C.length 4 (C.length + 3)) L := by
    have := (z2.app (X := [(13, 40)])).r (a := C.length) (j := 4) (v := C.length + 3) (by rw [List.length_append, List.length_append]; omega)
    rwa [ap2] at this
  have c0 : cR C.length 0 (upR (upR (upR R C.length 0 (C.length + 1)) C.length 2 (C.length + 2)) C.length 4 (C.length + 3)) = upR (upR (upR R C.length 0 (C.length + 1)) C.length 2 (C.length + 2)) C.length 4 (C.length + 3) := by
    funext a j
    unfold cR
    rw [if_neg (by omega)]
  obtain ⟨r1, r2⟩ := mk_cds (N := N) (L := L) hm 30 0 N I (upR (upR (upR R C.length 0 (C.length + 1)) C.length 2 (C.length + 2)) C.length 4 (C.length + 3)) rfl (by omega) (by rw [c0]; exact z3) (by rw [upR_ne (by omega), upR_ne (by omega), upR_eq])
  rw [c0] at r1
  refine ⟨?_, r2⟩
  have h1 : krm C.length 33 282 (wz C I R L) 30 = true := krm_w (X := []) (List.append_nil C).symm (by decide) (by decide)
  have h2 : krm C.length 33 282 (wz (C ++ [(19, 30)]) I (upR R C.length 0 (C.length + 1)) L) 2 = true := krm_w (X := [(19, 30)]) rfl (by decide) (by decide)
  have h3 : krm C.length 33 282 (wz (C ++ [(19, 30), (13, 2)]) I (upR (upR R C.length 0 (C.length + 1)) C.length 2 (C.length + 2)) L) 40 = true := krm_w (X := [(19, 30), (13, 2)]) rfl (by decide) (by decide)
  unfold F_X6_init F_X6_init_b
  simp only [wz_1, decide_eq_true (cqt_ne hm), kg_t, show (30 : Int32).toNatClampNeg = 30 from rfl, show (2 : Int32).toNatClampNeg = 2 from rfl, show (40 : Int32).toNatClampNeg = 40 from rfl, h1, kl_v, wz_new hz, wz_kt, cqt_app hm, wz_ksR, h2, wz_new z1, ap1, l1, h3, wz_new z2, ap2, l2]
  exact r1
/-- markets into an array, one behind another: k markets stand behind D, p the array -/
theorem mk_step {h p k z : Nat} (hZ : Zr (D ++ mks' k) (hsI h I k) (hsR h p R k) L) (hD : D.length = h + 1) (hN : 100 < N) : F_X4_init N (wz (D ++ mks' k ++ [(4, 16)]) (hsI h I k) (hsR h p R k) L) (h + 2 + 41 * k) = some (wz (D ++ mks' (k + 1)) (hsI h I (k + 1)) (mR (h + 2 + 41 * k) (hsR h p R k)) L) ∧ Zr (D ++ mks' (k + 1)) (hsI h I (k + 1)) (mR (h + 2 + 41 * k) (hsR h p R k)) L := by
  have lw : (D ++ mks' k ++ [(4, 16)]).length = h + 2 + 41 * k := by rw [List.length_append, List.length_append, (mks_len k).1, hD]; show h + 1 + 41 * k + 1 = _; omega
  have lw2 : (D ++ mks' k).length + 1 = h + 2 + 41 * k := by rw [List.length_append, (mks_len k).1, hD]; omega
  have hw : cqt (D ++ mks' k ++ [(4, 16)]) (D ++ mks' k ++ [(4, 16)]).length 4 = true := by rw [lw, ← lw2]; exact cqt_last
  obtain ⟨n1, n2⟩ := i_X4 (N := N) (hZ.app (X := [(4, 16)])) hw hN
  have eX : D ++ mks' k ++ [(4, 16)] ++ mX = D ++ mks' (k + 1) := by
    show _ = D ++ (mks' k ++ ((4, 16) :: mX))
    simp only [List.append_assoc, List.cons_append, List.nil_append]
  rw [lw, eX] at n1 n2
  exact ⟨n1, n2⟩
theorem hsR_f {h p k : Nat} {j : Nat} (ha : a < h + 2) (hp : a ≠ p) : hsR h p R k a j = R a j := by
  induction k with
  | zero => rfl
  | succ k ih =>
    show upR (mR (h + 2 + 41 * k) (hsR h p R k)) p k (h + 2 + 41 * k) a j = _
    rw [upR_ne (Or.inl hp)]
    unfold mR tR bR hR
    rw [if_neg (by omega), if_neg (by omega), if_neg (by omega), upR_ne (by omega), upR_ne (by omega), upR_ne (by omega), upR_ne (by omega), upR_ne (by omega), upR_ne (by omega)]
    exact ih
theorem mk_hst (hm : cqt C C.length 3 = true) (hN : 100 < N) : ∀ (r k z : Nat), k + r = 8 → r < z → Zr (C ++ [(18, 8)] ++ mks' k) (hsI C.length I k) (hsR C.length (C.length + 1) R k) L → R C.length 0 = C.length + 1 → F_X3_init_15 N C.length z (wz (C ++ [(18, 8)] ++ mks' k) (hsI C.length I k) (hsR C.length (C.length + 1) R k) L) C.length (nI k) = some (wz (C ++ [(18, 8)] ++ mks' 8) (hsI C.length I 8) (hsR C.length (C.length + 1) R 8) L) ∧ Zr (C ++ [(18, 8)] ++ mks' 8) (hsI C.length I 8) (hsR C.length (C.length + 1) R 8) L := by
  intro r
  induction r with
  | zero =>
    intro k z e hz hZ h0
    have : k = 8 := by omega
    subst this
    obtain ⟨z, rfl⟩ : ∃ w, z = w + 1 := ⟨z - 1, by omega⟩
    have g1 : cqt (C ++ [(18, 8)] ++ mks' 8) (C.length + 1) 18 = true := cqt_app cqt_last
    have g2 : cqn (C ++ [(18, 8)] ++ mks' 8) (C.length + 1) = 8 := (cqn_app cqt_last).trans cqn_last
    have gm : cqt (C ++ [(18, 8)] ++ mks' 8) C.length 3 = true := cqt_app (cqt_app hm)
    have e0 : hsR C.length (C.length + 1) R 8 C.length 0 = C.length + 1 := (hsR_f (by omega) (by omega)).trans h0
    have h3 : kend C.length 329 2944 (wz (C ++ [(18, 8)] ++ mks' 8) (hsI C.length I 8) (hsR C.length (C.length + 1) R 8) L) = true := kend_w (X := [(18, 8)] ++ mks' 8) (List.append_assoc _ _ _) (by rw [List.length_append, (mks_len 8).1]; decide) (by rw [sm_app, (mks_len 8).2]; decide)
    refine ⟨?_, hZ⟩
    rw [F_X3_init_15]
    simp only [wz_kt, gm, kg_t, wz_kR, e0, g1, g2, wz_kn, nI_lz (show 8 ≤ 100 by decide) (show 8 ≤ 100 by decide), if_neg (Nat.lt_irrefl _), h3]
  | succ r ih =>
    intro k z e hz hZ h0
    obtain ⟨z, rfl⟩ : ∃ w, z = w + 1 := ⟨z - 1, by omega⟩
    have g1 : cqt (C ++ [(18, 8)] ++ mks' k) (C.length + 1) 18 = true := cqt_app cqt_last
    have g2 : cqn (C ++ [(18, 8)] ++ mks' k) (C.length + 1) = 8 := (cqn_app cqt_last).trans cqn_last
    have gm : cqt (C ++ [(18, 8)] ++ mks' k) C.length 3 = true := cqt_app (cqt_app hm)
    have e0 : hsR C.length (C.length + 1) R k C.length 0 = C.length + 1 := (hsR_f (by omega) (by omega)).trans h0
    have lD : (C ++ [(18, 8)]).length = C.length + 1 := by rw [List.length_append]; rfl
    have lenD : (C ++ [(18, 8)] ++ mks' k).length + 1 = C.length + 2 + 41 * k := by rw [List.length_append, lD, (mks_len k).1]; omega
    obtain ⟨n1, n2⟩ := mk_step (N := N) (z := 0) hZ lD hN
    have h1 : krm C.length 329 2944 (wz (C ++ [(18, 8)] ++ mks' k) (hsI C.length I k) (hsR C.length (C.length + 1) R k) L) 16 = true := krm_w (X := [(18, 8)] ++ mks' k) (List.append_assoc _ _ _) (by rw [List.length_append, (mks_len k).1]; show 1 + 41 * k + 1 ≤ 329; omega) (by rw [sm_app, (mks_len k).2]; show 8 + 367 * k + 16 ≤ 2944; omega)
    have h2 : kok C.length 329 2944 (wz (C ++ [(18, 8)] ++ mks' k ++ [(4, 16)]) (hsI C.length I k) (hsR C.length (C.length + 1) R k) L) 40 351 = true := kok_w (X := [(18, 8)] ++ mks' k ++ [(4, 16)]) (by simp only [List.append_assoc]) (by rw [List.length_append, List.length_append, (mks_len k).1]; show 1 + 41 * k + 1 + 40 ≤ 329; omega) (by rw [sm_app, sm_app, (mks_len k).2]; show 8 + 367 * k + 16 + 351 ≤ 2944; omega)
    have eX : C ++ [(18, 8)] ++ mks' (k + 1) = C ++ [(18, 8)] ++ mks' k ++ [(4, 16)] ++ mX := by
      show C ++ [(18, 8)] ++ (mks' k ++ ((4, 16) :: mX)) = _
      simp only [List.append_assoc, List.cons_append, List.nil_append]
    have h3 := kgr_w (C := C) (D := C ++ [(18, 8)] ++ mks' k ++ [(4, 16)]) (E := C ++ [(18, 8)] ++ mks' (k + 1)) (I := hsI C.length I k) (R := hsR C.length (C.length + 1) R k) (L := L) (I' := hsI C.length I (k + 1)) (R' := mR (C.length + 2 + 41 * k) (hsR C.length (C.length + 1) R k)) (L' := L) (c := 40) (s := 351) (X := [(18, 8)] ++ mks' k ++ [(4, 16)]) (Y := mX) (by simp only [List.append_assoc]) eX mX_len.1 mX_len.2
    have g3 : cqt (C ++ [(18, 8)] ++ mks' (k + 1)) (C.length + 1) 18 = true := cqt_app cqt_last
    have g4 : cqn (C ++ [(18, 8)] ++ mks' (k + 1)) (C.length + 1) = 8 := (cqn_app cqt_last).trans cqn_last
    have hw2 : cqt (C ++ [(18, 8)] ++ mks' (k + 1)) (C.length + 2 + 41 * k) 4 = true := by rw [eX, ← lenD]; exact cqt_app cqt_last
    have n3 := n2.r (a := C.length + 1) (j := k) (v := C.length + 2 + 41 * k) (by rw [List.length_append, lD]; omega)
    obtain ⟨r1, r2⟩ := ih (k + 1) z (by omega) (by omega) n3 h0
    refine ⟨?_, r2⟩
    rw [← r1, F_X3_init_15]
    have kk := kin_w (I := hsI C.length I (k + 1)) (R := mR (C.length + 2 + 41 * k) (hsR C.length (C.length + 1) R k)) (L := L) g3 g4 (show k < 8 by omega) (by decide)
    simp only [wz_kt, gm, kg_t, wz_kR, e0, g1, g2, wz_kn, nI_lz (show k ≤ 100 by omega) (show 8 ≤ 100 by decide), if_pos (show k < 8 by omega), h1, kl_v, wz_1, wz_new hZ, lenD, h2, n1, Option.bind_some, h3, kk, hw2, Bool.and_self, wz_ksR, kx_nI (show k < 2147483648 by omega), nI_1]
    rfl
theorem i_X3 (hz : Zr C I R L) (hm : cqt C C.length 3 = true) (hN : 100 < N) : F_X3_init N (wz C I R L) C.length = some (wz (C ++ [(18, 8)] ++ mks' 8) (hsI C.length I 8) (hsR C.length (C.length + 1) (upR R C.length 0 (C.length + 1)) 8) L) ∧ Zr (C ++ [(18, 8)] ++ mks' 8) (hsI C.length I 8) (hsR C.length (C.length + 1) (upR R C.length 0 (C.length + 1)) 8) L := by
  have z1 : Zr (C ++ [(18, 8)]) I (upR R C.length 0 (C.length + 1)) L := (hz.app).r (by rw [List.length_append]; omega)
  have eX : C ++ [(18, 8)] ++ mks' 0 = C ++ [(18, 8)] := List.append_nil _
  obtain ⟨r1, r2⟩ := mk_hst (N := N) (I := I) (R := upR R C.length 0 (C.length + 1)) (L := L) hm hN 8 0 N rfl (by omega) (by rw [eX]; exact z1) upR_eq
  rw [eX] at r1
  refine ⟨?_, r2⟩
  have h1 : krm C.length 329 2944 (wz C I R L) 8 = true := krm_w (X := []) (List.append_nil C).symm (by decide) (by decide)
  unfold F_X3_init F_X3_init_b
  simp only [wz_1, decide_eq_true (cqt_ne hm), kg_t, show (8 : Int32).toNatClampNeg = 8 from rfl, h1, kl_v, wz_new hz, wz_kt, cqt_app hm, wz_ksR]
  exact r1
end
