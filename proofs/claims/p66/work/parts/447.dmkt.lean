/-! a market is made -/
def H6 : List (Nat × Nat) := [(16, 5), (17, 24), (2, 4), (13, 12), (13, 12), (13, 12)]
def bds : Nat → List (Nat × Nat)
  | 0 => []
  | b + 1 => bds b ++ [(0, 5), (13, 13)]
def tds : Nat → List (Nat × Nat)
  | 0 => []
  | t + 1 => tds t ++ [(10, 8)]
def hR (m : Nat) (R : Nat → Nat → Nat) : Nat → Nat → Nat := upR (upR (upR (upR (upR (upR R m 13 (m + 1)) m 14 (m + 2)) (m + 3) 0 (m + 4)) (m + 3) 1 (m + 5)) (m + 3) 2 (m + 6)) m 15 (m + 3)
def bI (m b : Nat) (I : kInts) : kInts := fun a j => if m + 7 ≤ a ∧ a < m + 7 + 2 * b ∧ (a - (m + 7)) % 2 = 0 ∧ j = 0 then nI ((a - (m + 7)) / 2) else I a j
def bR (m b : Nat) (R : Nat → Nat → Nat) : Nat → Nat → Nat := fun a j => if a = m + 1 ∧ j < b then m + 7 + 2 * j else if m + 7 ≤ a ∧ a < m + 7 + 2 * b ∧ (a - (m + 7)) % 2 = 0 ∧ j = 4 then a + 1 else R a j
def tI (m t : Nat) (I : kInts) : kInts := fun a j => if m + 17 ≤ a ∧ a < m + 17 + t ∧ j = 0 then nI (a - (m + 17)) else I a j
def tR (m t : Nat) (R : Nat → Nat → Nat) : Nat → Nat → Nat := fun a j => if a = m + 2 ∧ j < t then m + 17 + j else R a j
def mX : List (Nat × Nat) := H6 ++ (bds 5 ++ tds 24)
def mI (m : Nat) (I : kInts) : kInts := tI m 24 (bI m 5 I)
def mR (m : Nat) (R : Nat → Nat → Nat) : Nat → Nat → Nat := tR m 24 (bR m 5 (hR m R))
section
variable {N : Nat} {C D X Y : List (Nat × Nat)} {I : kInts} {R : Nat → Nat → Nat} {L : kLngs} {a b t n m mc ms : Nat} {x : Int32}
theorem sm_app : sm (X ++ Y) = sm X + sm Y := by unfold sm; rw [List.map_append, List.sum_append]
theorem bds_len : ∀ b, (bds b).length = 2 * b ∧ sm (bds b) = 18 * b
  | 0 => ⟨rfl, rfl⟩
  | b + 1 => by
    obtain ⟨h1, h2⟩ := bds_len b
    refine ⟨by unfold bds; rw [List.length_append, h1]; show 2 * b + 2 = _; omega, ?_⟩
    show sm (bds b ++ [(0, 5), (13, 13)]) = _
    rw [sm_app, h2]
    show 18 * b + 18 = _
    omega
theorem tds_len : ∀ t, (tds t).length = t ∧ sm (tds t) = 8 * t
  | 0 => ⟨rfl, rfl⟩
  | t + 1 => by
    obtain ⟨h1, h2⟩ := tds_len t
    refine ⟨by unfold tds; rw [List.length_append, h1]; rfl, ?_⟩
    show sm (tds t ++ [(10, 8)]) = _
    rw [sm_app, h2]
    show 8 * t + 8 = _
    omega
theorem xb_len (b : Nat) : (H6 ++ bds b).length = 6 + 2 * b ∧ sm (H6 ++ bds b) = 69 + 18 * b := by
  rw [List.length_append, sm_app, (bds_len b).1, (bds_len b).2]
  exact ⟨rfl, rfl⟩
theorem xt_len (t : Nat) : (H6 ++ (bds 5 ++ tds t)).length = 16 + t ∧ sm (H6 ++ (bds 5 ++ tds t)) = 159 + 8 * t := by
  rw [List.length_append, sm_app, List.length_append, sm_app, (tds_len t).1, (tds_len t).2]
  refine ⟨?_, ?_⟩
  · show 6 + (10 + t) = _; omega
  · show 69 + (90 + 8 * t) = _; omega
theorem cqt_2 {p : Nat × Nat} : cqt (C ++ p :: (t, n) :: X) (C.length + 2) t = true ∧ cqn (C ++ p :: (t, n) :: X) (C.length + 2) = n := by
  have e : C ++ p :: (t, n) :: X = (C ++ [p]) ++ (t, n) :: X := by rw [List.append_assoc]; rfl
  have l : C.length + 2 = (C ++ [p]).length + 1 := by rw [List.length_append]; rfl
  rw [e, l]
  exact ⟨cqt_last, cqn_last⟩
/-- one board -/
theorem bI_s (hb : b ≤ 5) : up (bI m b I) (m + 7 + 2 * b) 0 (nI b) = bI m (b + 1) I := by
  funext a j
  unfold bI
  by_cases h : a = m + 7 + 2 * b ∧ j = 0
  · rw [h.1, h.2, up_eq, if_pos (by omega)]
    congr 1
    omega
  · rw [up_ne (by omega)]
    by_cases h2 : m + 7 ≤ a ∧ a < m + 7 + 2 * b ∧ (a - (m + 7)) % 2 = 0 ∧ j = 0
    · rw [if_pos h2, if_pos (by omega)]
    · rw [if_neg h2, if_neg (by omega)]
theorem bR_s : upR (upR (bR m b R) (m + 7 + 2 * b) 4 (m + 7 + 2 * b + 1)) (m + 1) b (m + 7 + 2 * b) = bR m (b + 1) R := by
  funext a j
  unfold bR
  by_cases h : a = m + 1 ∧ j = b
  · rw [h.1, h.2, upR_eq, if_pos (by omega)]
  · rw [upR_ne (by omega)]
    by_cases h2 : a = m + 7 + 2 * b ∧ j = 4
    · rw [h2.1, h2.2, upR_eq, if_neg (by omega), if_pos (by omega)]
    · rw [upR_ne (by omega)]
      by_cases h3 : a = m + 1 ∧ j < b
      · rw [if_pos h3, if_pos (by omega)]
      · rw [if_neg h3, if_neg (show ¬ (a = m + 1 ∧ j < b + 1) by omega)]
        by_cases h4 : m + 7 ≤ a ∧ a < m + 7 + 2 * b ∧ (a - (m + 7)) % 2 = 0 ∧ j = 4
        · rw [if_pos h4, if_pos (by omega)]
        · rw [if_neg h4, if_neg (by omega)]
theorem tI_s (ht : t ≤ 24) : up (tI m t I) (m + 17 + t) 0 (nI t) = tI m (t + 1) I := by
  funext a j
  unfold tI
  by_cases h : a = m + 17 + t ∧ j = 0
  · rw [h.1, h.2, up_eq, if_pos (by omega)]
    congr 1
    omega
  · rw [up_ne (by omega)]
    by_cases h2 : m + 17 ≤ a ∧ a < m + 17 + t ∧ j = 0
    · rw [if_pos h2, if_pos (by omega)]
    · rw [if_neg h2, if_neg (by omega)]
theorem tR_s : upR (tR m t R) (m + 2) t (m + 17 + t) = tR m (t + 1) R := by
  funext a j
  unfold tR
  by_cases h : a = m + 2 ∧ j = t
  · rw [h.1, h.2, upR_eq, if_pos (by omega)]
  · rw [upR_ne (by omega)]
    by_cases h3 : a = m + 2 ∧ j < t
    · rw [if_pos h3, if_pos (by omega)]
    · rw [if_neg h3, if_neg (show ¬ (a = m + 2 ∧ j < t + 1) by omega)]
theorem bR_m (h : a = m ∨ a = m + 2) {j : Nat} : bR m b R a j = R a j := by
  unfold bR
  rw [if_neg (by omega), if_neg (by omega)]
theorem tR_m {j : Nat} : tR m t R m j = R m j := by
  unfold tR
  rw [if_neg (by omega)]
theorem hR_f : hR m R m 13 = m + 1 ∧ hR m R m 14 = m + 2 := by
  unfold hR
  refine ⟨?_, ?_⟩
  · rw [upR_ne (by omega), upR_ne (by omega), upR_ne (by omega), upR_ne (by omega), upR_ne (by omega), upR_eq]
  · rw [upR_ne (by omega), upR_ne (by omega), upR_ne (by omega), upR_ne (by omega), upR_eq]
theorem nI_lz {k z : Nat} (hk : k ≤ 100) (hz : z ≤ 100) : (nI k < Int32.ofNat z) = (k < z) := nI_ltP (b := z) (by omega) (by omega)
theorem kin_w {k z : Nat} (h1 : cqt C a t = true) (h2 : cqn C a = z) (hk : k < z) (hz : z ≤ 100) : kin (wz C I R L) a t (nI k) = true := by
  have e : (nI k).toNatClampNeg = k := kx_nI (by omega)
  have e0 : (0 : Int32) ≤ nI k := by
    rw [Int32.le_iff_lt_or_eq]
    by_cases y : k = 0
    · exact Or.inr (by rw [y]; rfl)
    · exact Or.inl (nI_lt (a := 0) (by omega) (by omega))
  rw [wz_kin, h1, h2, e]
  simp [e0, hk]
theorem mk_tds (hm : cqt C C.length 4 = true) : ∀ (k t z : Nat) (I : kInts) (R : Nat → Nat → Nat), t + k = 24 → k < z → Zr (C ++ (H6 ++ (bds 5 ++ tds t))) (tI C.length t I) (tR C.length t R) L → R C.length 14 = C.length + 2 → F_X4_init_65 N C.length z (wz (C ++ (H6 ++ (bds 5 ++ tds t))) (tI C.length t I) (tR C.length t R) L) C.length (nI t) = some (wz (C ++ mX) (tI C.length 24 I) (tR C.length 24 R) L) ∧ Zr (C ++ mX) (tI C.length 24 I) (tR C.length 24 R) L := by
  intro k
  induction k with
  | zero =>
    intro t z I R e hz hZ h14
    have : t = 24 := by omega
    subst this
    obtain ⟨z, rfl⟩ : ∃ w, z = w + 1 := ⟨z - 1, by omega⟩
    obtain ⟨g1, g2⟩ : cqt (C ++ (H6 ++ (bds 5 ++ tds 24))) (C.length + 2) 17 = true ∧ cqn (C ++ (H6 ++ (bds 5 ++ tds 24))) (C.length + 2) = 24 := cqt_2
    have e14 : tR C.length 24 R C.length 14 = C.length + 2 := tR_m.trans h14
    have h3 : kend C.length 40 351 (wz (C ++ (H6 ++ (bds 5 ++ tds 24))) (tI C.length 24 I) (tR C.length 24 R) L) = true := kend_w (X := H6 ++ (bds 5 ++ tds 24)) rfl (by rw [(xt_len 24).1]; omega) (by rw [(xt_len 24).2]; omega)
    refine ⟨?_, hZ⟩
    rw [F_X4_init_65]
    simp only [wz_kt, cqt_app hm, kg_t, wz_kR, e14, g1, g2, wz_kn, nI_lz (show 24 ≤ 100 by decide) (show 24 ≤ 100 by decide), if_neg (Nat.lt_irrefl _), h3]
    rfl
  | succ k ih =>
    intro t z I R e hz hZ h14
    obtain ⟨z, rfl⟩ : ∃ w, z = w + 1 := ⟨z - 1, by omega⟩
    obtain ⟨g1, g2⟩ : cqt (C ++ (H6 ++ (bds 5 ++ tds t))) (C.length + 2) 17 = true ∧ cqn (C ++ (H6 ++ (bds 5 ++ tds t))) (C.length + 2) = 24 := cqt_2
    have e14 : tR C.length t R C.length 14 = C.length + 2 := tR_m.trans h14
    obtain ⟨x1, x2⟩ := xt_len t
    have lenD : (C ++ (H6 ++ (bds 5 ++ tds t))).length + 1 = C.length + 17 + t := by rw [List.length_append, x1]; omega
    have h1 : krm C.length 40 351 (wz (C ++ (H6 ++ (bds 5 ++ tds t))) (tI C.length t I) (tR C.length t R) L) 8 = true := krm_w (X := H6 ++ (bds 5 ++ tds t)) rfl (by rw [x1]; omega) (by rw [x2]; omega)
    have h2 : kok C.length 40 351 (wz (C ++ (H6 ++ (bds 5 ++ tds t)) ++ [(10, 8)]) (tI C.length t I) (tR C.length t R) L) 0 0 = true := kok_w (X := (H6 ++ (bds 5 ++ tds t)) ++ [(10, 8)]) (List.append_assoc _ _ _) (by rw [List.length_append, x1]; show 16 + t + 1 + 0 ≤ 40; omega) (by rw [sm_app, x2]; show 159 + 8 * t + 8 + 0 ≤ 351; omega)
    have hw : cqt (C ++ (H6 ++ (bds 5 ++ tds t)) ++ [(10, 8)]) (C.length + 17 + t) 10 = true := by rw [← lenD]; exact cqt_last
    have lw : (C ++ (H6 ++ (bds 5 ++ tds t)) ++ [(10, 8)]).length = C.length + 17 + t := by rw [List.length_append]; exact lenD
    obtain ⟨n1, n2⟩ := i_X10 (N := N) (x := nI t) (hZ.app (X := [(10, 8)])) hw
    have eX : C ++ (H6 ++ (bds 5 ++ tds t)) ++ [(10, 8)] = C ++ (H6 ++ (bds 5 ++ tds (t + 1))) := by
      show _ = C ++ (H6 ++ (bds 5 ++ (tds t ++ [(10, 8)])))
      simp only [List.append_assoc, List.cons_append, List.nil_append]
    have h3 : kgr C.length (wz (C ++ (H6 ++ (bds 5 ++ tds t)) ++ [(10, 8)]) (tI C.length t I) (tR C.length t R) L) (wz (C ++ (H6 ++ (bds 5 ++ tds t)) ++ [(10, 8)]) (tI C.length (t + 1) I) (tR C.length t R) L) 0 0 = true := kgr_w (X := (H6 ++ (bds 5 ++ tds t)) ++ [(10, 8)]) (Y := []) (List.append_assoc _ _ _) (List.append_nil _).symm rfl rfl
    rw [tI_s (by omega)] at n1 n2
    rw [eX] at n1 n2 h2 h3 hw
    obtain ⟨g3, g4⟩ : cqt (C ++ (H6 ++ (bds 5 ++ tds (t + 1)))) (C.length + 2) 17 = true ∧ cqn (C ++ (H6 ++ (bds 5 ++ tds (t + 1)))) (C.length + 2) = 24 := cqt_2
    have hw2 : cqt (C ++ (H6 ++ (bds 5 ++ tds (t + 1)))) (C.length + 17 + t) 10 = true := hw
    have n3 := n2.r (a := C.length + 2) (j := t) (v := C.length + 17 + t) (by rw [List.length_append, (xt_len (t + 1)).1]; omega)
    rw [tR_s] at n3
    obtain ⟨r1, r2⟩ := ih (t + 1) z I R (by omega) (by omega) n3 h14
    refine ⟨?_, r2⟩
    rw [← r1, F_X4_init_65]
    have kk := kin_w (I := tI C.length (t + 1) I) (R := tR C.length t R) (L := L) g3 g4 (show t < 24 by omega) (by decide)
    simp only [wz_kt, cqt_app hm, kg_t, wz_kR, e14, g1, g2, wz_kn, nI_lz (show t ≤ 100 by omega) (show 24 ≤ 100 by decide), if_pos (show t < 24 by omega), h1, kl_v, wz_1, wz_new hZ, lenD, eX, h2, n1, Option.bind_some, h3, kk, hw2, Bool.and_self, wz_ksR, kx_nI (show t < 2147483648 by omega), tR_s, nI_1]
theorem mk_bds (hm : cqt C C.length 4 = true) (hN : 100 < N) : ∀ (k b z : Nat) (I : kInts) (R : Nat → Nat → Nat), b + k = 5 → k < z → Zr (C ++ (H6 ++ bds b)) (bI C.length b I) (bR C.length b R) L → R C.length 13 = C.length + 1 → R C.length 14 = C.length + 2 → F_X4_init_34 N C.length z (wz (C ++ (H6 ++ bds b)) (bI C.length b I) (bR C.length b R) L) C.length (nI b) = some (wz (C ++ mX) (tI C.length 24 (bI C.length 5 I)) (tR C.length 24 (bR C.length 5 R)) L) ∧ Zr (C ++ mX) (tI C.length 24 (bI C.length 5 I)) (tR C.length 24 (bR C.length 5 R)) L := by
  intro k
  induction k with
  | zero =>
    intro b z I R e hz hZ h13 h14
    have : b = 5 := by omega
    subst this
    obtain ⟨z, rfl⟩ : ∃ w, z = w + 1 := ⟨z - 1, by omega⟩
    have g1 : cqt (C ++ (H6 ++ bds 5)) (C.length + 1) 16 = true := cqt_last
    have g2 : cqn (C ++ (H6 ++ bds 5)) (C.length + 1) = 5 := cqn_last
    have e13 : bR C.length 5 R C.length 13 = C.length + 1 := (bR_m (Or.inl rfl)).trans h13
    have z0 : tI C.length 0 (bI C.length 5 I) = bI C.length 5 I := by
      funext a j
      unfold tI
      exact if_neg (by omega)
    have z1 : tR C.length 0 (bR C.length 5 R) = bR C.length 5 R := by
      funext a j
      unfold tR
      rw [if_neg (by omega)]
    have eX : C ++ (H6 ++ (bds 5 ++ tds 0)) = C ++ (H6 ++ bds 5) := by
      show C ++ (H6 ++ (bds 5 ++ [])) = _
      rw [List.append_nil]
    obtain ⟨r1, r2⟩ := mk_tds (N := N) (L := L) hm 24 0 N (bI C.length 5 I) (bR C.length 5 R) rfl (by omega) (by rw [eX, z0, z1]; exact hZ) ((bR_m (Or.inl rfl)).trans h14)
    rw [eX, z0, z1] at r1
    refine ⟨?_, r2⟩
    rw [F_X4_init_34]
    simp only [wz_kt, cqt_app hm, kg_t, wz_kR, e13, g1, g2, wz_kn, nI_lz (show 5 ≤ 100 by decide) (show 5 ≤ 100 by decide), if_neg (Nat.lt_irrefl _)]
    exact r1
  | succ k ih =>
    intro b z I R e hz hZ h13 h14
    obtain ⟨z, rfl⟩ : ∃ w, z = w + 1 := ⟨z - 1, by omega⟩
    have g1 : cqt (C ++ (H6 ++ bds b)) (C.length + 1) 16 = true := cqt_last
    have g2 : cqn (C ++ (H6 ++ bds b)) (C.length + 1) = 5 := cqn_last
    have e13 : bR C.length b R C.length 13 = C.length + 1 := (bR_m (Or.inl rfl)).trans h13
    obtain ⟨x1, x2⟩ := xb_len b
    have lenD : (C ++ (H6 ++ bds b)).length + 1 = C.length + 7 + 2 * b := by rw [List.length_append, x1]; omega
    have h1 : krm C.length 40 351 (wz (C ++ (H6 ++ bds b)) (bI C.length b I) (bR C.length b R) L) 5 = true := krm_w (X := H6 ++ bds b) rfl (by rw [x1]; omega) (by rw [x2]; omega)
    have h2 : kok C.length 40 351 (wz (C ++ (H6 ++ bds b) ++ [(0, 5)]) (bI C.length b I) (bR C.length b R) L) 1 13 = true := kok_w (X := (H6 ++ bds b) ++ [(0, 5)]) (List.append_assoc _ _ _) (by rw [List.length_append, x1]; show 6 + 2 * b + 1 + 1 ≤ 40; omega) (by rw [sm_app, x2]; show 69 + 18 * b + 5 + 13 ≤ 351; omega)
    have hw : cqt (C ++ (H6 ++ bds b) ++ [(0, 5)]) (C.length + 7 + 2 * b) 0 = true := by rw [← lenD]; exact cqt_last
    have lw : (C ++ (H6 ++ bds b) ++ [(0, 5)]).length = C.length + 7 + 2 * b := by rw [List.length_append]; exact lenD
    obtain ⟨n1, n2⟩ := i_X0 (N := N) (x := nI b) (hZ.app (X := [(0, 5)])) hw
    rw [lw] at n1 n2
    have eX : C ++ (H6 ++ bds b) ++ [(0, 5)] ++ [(13, 13)] = C ++ (H6 ++ bds (b + 1)) := by
      show _ = C ++ (H6 ++ (bds b ++ [(0, 5), (13, 13)]))
      simp only [List.append_assoc, List.cons_append, List.nil_append]
    rw [eX, bI_s (by omega)] at n1 n2
    have h3 : kgr C.length (wz (C ++ (H6 ++ bds b) ++ [(0, 5)]) (bI C.length b I) (bR C.length b R) L) (wz (C ++ (H6 ++ bds (b + 1))) (bI C.length (b + 1) I) (upR (bR C.length b R) (C.length + 7 + 2 * b) 4 (C.length + 7 + 2 * b + 1)) L) 1 13 = true := kgr_w (X := (H6 ++ bds b) ++ [(0, 5)]) (Y := [(13, 13)]) (List.append_assoc _ _ _) eX.symm rfl rfl
    have g3 : cqt (C ++ (H6 ++ bds (b + 1))) (C.length + 1) 16 = true := cqt_last
    have g4 : cqn (C ++ (H6 ++ bds (b + 1))) (C.length + 1) = 5 := cqn_last
    have hw2 : cqt (C ++ (H6 ++ bds (b + 1))) (C.length + 7 + 2 * b) 0 = true := by rw [← eX]; exact cqt_app hw
    have n3 := n2.r (a := C.length + 1) (j := b) (v := C.length + 7 + 2 * b) (by rw [List.length_append, (xb_len (b + 1)).1]; omega)
    rw [bR_s] at n3
    obtain ⟨r1, r2⟩ := ih (b + 1) z I R (by omega) (by omega) n3 h13 h14
    refine ⟨?_, r2⟩
    rw [← r1, F_X4_init_34]
    have kk := kin_w (I := bI C.length (b + 1) I) (R := upR (bR C.length b R) (C.length + 7 + 2 * b) 4 (C.length + 7 + 2 * b + 1)) (L := L) g3 g4 (show b < 5 by omega) (by decide)
    simp only [wz_kt, cqt_app hm, kg_t, wz_kR, e13, g1, g2, wz_kn, nI_lz (show b ≤ 100 by omega) (show 5 ≤ 100 by decide), if_pos (show b < 5 by omega), h1, kl_v, wz_1, wz_new hZ, lenD, h2, n1, Option.bind_some, h3, kk, hw2, Bool.and_self, wz_ksR, kx_nI (show b < 2147483648 by omega), bR_s, nI_1]
theorem i_X4 (hz : Zr C I R L) (hm : cqt C C.length 4 = true) (hN : 100 < N) : F_X4_init N (wz C I R L) C.length = some (wz (C ++ mX) (mI C.length I) (mR C.length R) L) ∧ Zr (C ++ mX) (mI C.length I) (mR C.length R) L := by
  have z1 : Zr (C ++ [(16, 5)]) I (upR R C.length 13 (C.length + 1)) L := (hz.app).r (by rw [List.length_append]; omega)
  have z2 : Zr (C ++ [(16, 5), (17, 24)]) I (upR (upR R C.length 13 (C.length + 1)) C.length 14 (C.length + 2)) L := by
    have := (z1.app (X := [(17, 24)])).r (a := C.length) (j := 14) (v := C.length + 2) (by rw [List.length_append, List.length_append]; omega)
    rwa [ap1] at this
  have lw : (C ++ [(16, 5), (17, 24), (2, 4)]).length = C.length + 3 := by rw [List.length_append]; rfl
  have hw : cqt (C ++ [(16, 5), (17, 24), (2, 4)]) (C.length + 3) 2 = true := by
    have e : C ++ [(16, 5), (17, 24), (2, 4)] = (C ++ [(16, 5), (17, 24)]) ++ (2, 4) :: [] := (ap2 _ _ _).symm
    rw [e, ← l2 (16, 5) (17, 24)]
    exact cqt_last
  have z3 : Zr (C ++ [(16, 5), (17, 24), (2, 4)]) I (upR (upR R C.length 13 (C.length + 1)) C.length 14 (C.length + 2)) L := by
    have := z2.app (X := [(2, 4)])
    rwa [ap2] at this
  obtain ⟨n1, n2⟩ := i_X2 (N := N) z3 hw
  rw [lw] at n1 n2
  have eX : C ++ [(16, 5), (17, 24), (2, 4)] ++ [(13, 12), (13, 12), (13, 12)] = C ++ (H6 ++ bds 0) := by
    rw [List.append_assoc]
    rfl
  rw [eX] at n1 n2
  have n3 := n2.r (a := C.length) (j := 15) (v := C.length + 3) (by rw [List.length_append]; omega)
  have bi0 : bI C.length 0 I = I := by
    funext a j
    unfold bI
    exact if_neg (by omega)
  have br0 : bR C.length 0 (hR C.length R) = hR C.length R := by
    funext a j
    unfold bR
    rw [if_neg (by omega), if_neg (by omega)]
  have n3' : Zr (C ++ (H6 ++ bds 0)) (bI C.length 0 I) (bR C.length 0 (hR C.length R)) L := by
    rw [bi0, br0]
    exact n3
  obtain ⟨r1, r2⟩ := mk_bds (N := N) (L := L) hm hN 5 0 N I (hR C.length R) rfl (by omega) n3' hR_f.1 hR_f.2
  rw [bi0, br0] at r1
  refine ⟨?_, r2⟩
  have h1 : krm C.length 40 351 (wz C I R L) 5 = true := krm_w (X := []) (List.append_nil C).symm (by decide) (by decide)
  have h2 : krm C.length 40 351 (wz (C ++ [(16, 5)]) I (upR R C.length 13 (C.length + 1)) L) 24 = true := krm_w (X := [(16, 5)]) rfl (by decide) (by decide)
  have h3 : krm C.length 40 351 (wz (C ++ [(16, 5), (17, 24)]) I (upR (upR R C.length 13 (C.length + 1)) C.length 14 (C.length + 2)) L) 4 = true := krm_w (X := [(16, 5), (17, 24)]) rfl (by decide) (by decide)
  have h4 : kok C.length 40 351 (wz (C ++ [(16, 5), (17, 24), (2, 4)]) I (upR (upR R C.length 13 (C.length + 1)) C.length 14 (C.length + 2)) L) 3 36 = true := kok_w (X := [(16, 5), (17, 24), (2, 4)]) rfl (by decide) (by decide)
  have h5 : kgr C.length (wz (C ++ [(16, 5), (17, 24), (2, 4)]) I (upR (upR R C.length 13 (C.length + 1)) C.length 14 (C.length + 2)) L) (wz (C ++ (H6 ++ bds 0)) I (upR (upR (upR (upR (upR R C.length 13 (C.length + 1)) C.length 14 (C.length + 2)) (C.length + 3) 0 (C.length + 3 + 1)) (C.length + 3) 1 (C.length + 3 + 2)) (C.length + 3) 2 (C.length + 3 + 3)) L) 3 36 = true := kgr_w (X := [(16, 5), (17, 24), (2, 4)]) (Y := [(13, 12), (13, 12), (13, 12)]) rfl eX.symm rfl rfl
  unfold F_X4_init F_X4_init_b
  simp only [wz_1, decide_eq_true (cqt_ne hm), kg_t, show (5 : Int32).toNatClampNeg = 5 from rfl, show (24 : Int32).toNatClampNeg = 24 from rfl, h1, kl_v, wz_new hz, wz_kt, cqt_app hm, wz_ksR, h2, wz_new z1, ap1, l1, h3, wz_new z2, ap2, l2, h4, n1, Option.bind_some, h5]
  exact r1
end
