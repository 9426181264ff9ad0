/-! load, both sides -/
theorem s42 : kt Mb 541 13 = true ∧ kn Mb 541 = 293 := sh_a.2.2.2.1
theorem s43 : kt Mb 542 13 = true ∧ kn Mb 542 = 293 := sh_a.2.2.2.2.1
theorem s44 : kt Mb 543 13 = true ∧ kn Mb 543 = 2344 := sh_a.2.2.2.2.2.1
theorem s45 : kt Mb 544 13 = true ∧ kn Mb 544 = 586 := sh_a.2.2.2.2.2.2.1
theorem s46 : kt Mb 545 14 = true ∧ kn Mb 545 = 2 := sh_a.2.2.2.2.2.2.2.1
theorem s48 : kt Mb 547 13 = true ∧ kn Mb 547 = 800 := sh_a.1 547 (by decide)
theorem s49 : kt Mb 548 13 = true ∧ kn Mb 548 = 800 := sh_a.1 548 (by decide)
def ldT (N : Nat) (M : kMem) (a0 : Nat) : Option (Int32 × kMem) :=
    kg (kt M a0 12) <| (F_X12_starts N M a0).bind fun M4 =>
    kg (kt M4 a0 12) <| (F_X12_setup N M4 a0).bind fun M5 =>
    kg (kt M5 a0 12) <| (F_X12_tellsError N M5 a0).bind fun M6 =>
    kg (kt M6 a0 12) <|
    if (kI M6 a0 16) = 0 then (
      kg (kt M6 a0 12) <|
      kg (kt M6 a0 12) <| (F_X12_allCoins N M6 a0).bind fun r7 =>
      kg (kin M6 (kR M6 a0 0) 13 9) <| kl (ksI M6 (kR M6 a0 0) (kx 9) r7) fun M8 =>
      kg (kt M8 a0 12) <| kl (ksI M8 a0 5 0) fun M9 =>
      kg (kt M9 a0 12) <|
      kg (kin M9 (kR M9 a0 4) 14 0 && ((0 : Int32) == 0 || (0 : Int32) == 1)) <| kl (ksI M9 (kR M9 a0 4) (kx 0) 0) fun M10 =>
      kg (kt M10 a0 12) <|
      kg (kin M10 (kR M10 a0 4) 14 1 && ((0 : Int32) == 0 || (0 : Int32) == 1)) <| kl (ksI M10 (kR M10 a0 4) (kx 1) 0) fun M11 =>
      some (0, M11)) else
    kg (kt M6 a0 12) <|
    kg (kt M6 a0 12) <|
    (F_X12_copies N M6 (kR M6 a0 1) 0 (kR M6 a0 0) 0).bind fun M12 =>
    kg (kt M12 a0 12) <|
    some (kI M12 a0 16, M12)
section
variable {N : Nat} {I : kInts} {L : kLngs} {n c : Nat} {T : Nat → Nat} {r s f : Nat → Int32} {nb nt : Nat}
theorem cpy_step {a0 sp a1 dp i : Nat} (hne : a0 ≠ a1) : up (cpy I a0 sp a1 dp i) a1 (dp + i) (cpy I a0 sp a1 dp i a0 (sp + i)) = cpy I a0 sp a1 dp (i + 1) := by
  funext a j
  by_cases z : a = a1 ∧ j = dp + i
  · rw [z.1, z.2, up_eq, cpy_in (by omega), cpy_out (Or.inl hne)]
    rw [show dp + i - dp = i by omega]
  · rw [up_ne (by omega)]
    by_cases y : a = a1 ∧ dp ≤ j ∧ j < dp + i
    · rw [y.1, cpy_in y.2, cpy_in (by omega)]
    · rw [cpy_out (by omega), cpy_out (by omega)]
theorem cpy_0 {a0 sp a1 dp : Nat} : cpy I a0 sp a1 dp 0 = I := by
  funext a j
  exact cpy_out (by omega)
theorem rx_copies {a c p q la lc : Nat} (ha : kt Mb a 13 = true ∧ kn Mb a = la) (hc : kt Mb c 13 = true ∧ kn Mb c = lc) (hp : p + 293 ≤ la) (hq : q + 293 ≤ lc) (hla : la < 2147483648) (hlc : lc < 2147483648) (hne : a ≠ c) (hN : 1000 < N) : F_X12_copies N (wm Mb I L) a (nI p) c (nI q) = some (wm Mb (cpy I a p c q 293) L) := by
  have loop : ∀ (k i z : Nat), i + k = 293 → k < z → F_X12_copies_3 N z (wm Mb (cpy I a p c q i) L) a (nI p) c (nI q) (nI i) = some (wm Mb (cpy I a p c q 293) L) := by
    intro k
    induction k with
    | zero =>
      intro i z e hz
      obtain ⟨z, rfl⟩ : ∃ v, z = v + 1 := ⟨z - 1, by omega⟩
      have : i = 293 := by omega
      subst this
      unfold F_X12_copies_3
      rw [if_neg (by decide)]
    | succ k ih =>
      intro i z e hz
      obtain ⟨z, rfl⟩ : ∃ v, z = v + 1 := ⟨z - 1, by omega⟩
      have h1 := ih (i + 1) z (by omega) (by omega)
      unfold F_X12_copies_3
      have hi : (nI i < 293) = True := by
        rw [show (293 : Int32) = nI 293 from rfl, nI_ltP (by omega) (by omega)]
        exact eq_true (by omega)
      simp only [hi, if_true, nI_add, wm_kR, wm_kt, wm_kn, wm_kin, wm_kL, wm_kI, wm_ksI, wm_ksL, wm_kJ, wm_ksJ, kg_t, kl_v, Option.bind_some, kin_nI ha.1 ha.2 (show p + i < la by omega) hla, kin_nI hc.1 hc.2 (show q + i < lc by omega) hlc, kx_nI (show p + i < 2147483648 by omega), kx_nI (show q + i < 2147483648 by omega), cpy_step hne, nI_1]
      exact h1
  have h0 := loop 293 0 N (by omega) (by omega)
  rw [cpy_0] at h0
  exact h0
theorem rx_takes (h10 : I 540 10 = nI n) (hb : ∀ k, k < n → I 547 k = nI (T k)) (h800 : n ≤ 800) (hN : 1000 < N) : ∃ I', F_X12_takesText N (wm Mb I L) 540 = some (wm Mb I' L) ∧ RT I' n T ∧ I' 540 10 = 0 ∧ ∀ a j, a ≠ 548 → ¬ (a = 540 ∧ (j = 10 ∨ j = 11)) → I' a j = I a j := by
  have loop : ∀ (k i z : Nat) (J : kInts), i + k = n → k < z → (∀ q, q < i → J 548 q = nI (T q)) → (∀ a j, a ≠ 548 → J a j = I a j) → ∃ I', F_X12_takesText_2 N z (wm Mb J L) 540 (nI i) = some (wm Mb I' L) ∧ RT I' n T ∧ I' 540 10 = 0 ∧ ∀ a j, a ≠ 548 → ¬ (a = 540 ∧ (j = 10 ∨ j = 11)) → I' a j = I a j := by
    intro k
    induction k with
    | zero =>
      intro i z J e hz h1 h2
      obtain ⟨z, rfl⟩ : ∃ v, z = v + 1 := ⟨z - 1, by omega⟩
      have e10 : J 540 10 = nI n := (h2 _ _ (by decide)).trans h10
      refine ⟨up (up J 540 11 (nI n)) 540 10 0, ?_, ⟨(up_ne (Or.inr (by decide))).trans up_eq, fun q hq => (up_ne (Or.inl (by decide))).trans ((up_ne (Or.inl (by decide))).trans (h1 q (by omega)))⟩, up_eq, fun a j x1 x2 => (up_ne (by omega)).trans ((up_ne (by omega)).trans (h2 a j x1))⟩
      unfold F_X12_takesText_2
      simp (disch := omega) only [wm_kR, wm_kt, wm_kn, wm_kin, wm_kL, wm_kI, wm_ksI, wm_ksL, wm_kJ, wm_ksJ, kg_t, kl_v, Option.bind_some, sr_k, sr_0, sr_1, sr_2, sr_3, sr_4, sr_7, sr_8, sr_9, sr_26, sr_27, sr_28, e10, nI_ltP]
      rw [if_neg (by omega)]
    | succ k ih =>
      intro i z J e hz h1 h2
      obtain ⟨z, rfl⟩ : ∃ v, z = v + 1 := ⟨z - 1, by omega⟩
      have e10 : J 540 10 = nI n := (h2 _ _ (by decide)).trans h10
      have eb : J 547 i = nI (T i) := (h2 _ _ (by decide)).trans (hb i (by omega))
      obtain ⟨I', g1, g2⟩ := ih (i + 1) z (up J 548 i (nI (T i))) (by omega) (by omega) (fun q hq => by
        by_cases y : q = i
        · rw [y, up_eq]
        · rw [up_ne (Or.inr y)]; exact h1 q (by omega)) (fun a j x1 => (up_ne (Or.inl x1)).trans (h2 a j x1))
      refine ⟨I', ?_, g2⟩
      unfold F_X12_takesText_2
      simp (disch := omega) only [wm_kR, wm_kt, wm_kn, wm_kin, wm_kL, wm_kI, wm_ksI, wm_ksL, wm_kJ, wm_ksJ, kg_t, kl_v, Option.bind_some, sr_k, sr_0, sr_1, sr_2, sr_3, sr_4, sr_7, sr_8, sr_9, sr_26, sr_27, sr_28, e10, nI_ltP, kin_nI s48.1 s48.2 (show i < 800 by omega) (by decide), kin_nI s49.1 s49.2 (show i < 800 by omega) (by decide), kx_nI, eb, nI_1]
      rw [if_pos (by omega)]
      exact g1
  exact loop n 0 N I (by omega) (by omega) (fun q hq => absurd hq (Nat.not_lt_zero _)) (fun _ _ _ => rfl)
theorem rx_zero (hN : 1000 < N) : ∃ I', F_X12_load_24 N N (wm Mb I L) 540 0 = ldT N (wm Mb I' L) 540 ∧ (∀ k, k < 293 → I' 541 k = 0) ∧ ∀ a j, a ≠ 541 → I' a j = I a j := by
  have loop : ∀ (k i z : Nat) (J : kInts), i + k = 293 → k < z → (∀ q, q < i → J 541 q = 0) → (∀ a j, a ≠ 541 → J a j = I a j) → ∃ I', F_X12_load_24 N z (wm Mb J L) 540 (nI i) = ldT N (wm Mb I' L) 540 ∧ (∀ k, k < 293 → I' 541 k = 0) ∧ ∀ a j, a ≠ 541 → I' a j = I a j := by
    intro k
    induction k with
    | zero =>
      intro i z J e hz h1 h2
      obtain ⟨z, rfl⟩ : ∃ v, z = v + 1 := ⟨z - 1, by omega⟩
      have : i = 293 := by omega
      subst this
      refine ⟨J, ?_, h1, h2⟩
      unfold F_X12_load_24
      rw [if_neg (by decide)]
      rfl
    | succ k ih =>
      intro i z J e hz h1 h2
      obtain ⟨z, rfl⟩ : ∃ v, z = v + 1 := ⟨z - 1, by omega⟩
      obtain ⟨I', g1, g2⟩ := ih (i + 1) z (up J 541 i 0) (by omega) (by omega) (fun q hq => by
        by_cases y : q = i
        · rw [y, up_eq]
        · rw [up_ne (Or.inr y)]; exact h1 q (by omega)) (fun a j x1 => (up_ne (Or.inl x1)).trans (h2 a j x1))
      refine ⟨I', ?_, g2⟩
      have hi : (nI i < 293) = True := by
        rw [show (293 : Int32) = nI 293 from rfl, nI_ltP (by omega) (by omega)]
        exact eq_true (by omega)
      unfold F_X12_load_24
      simp (disch := omega) only [hi, if_true, wm_kR, wm_kt, wm_kn, wm_kin, wm_kL, wm_kI, wm_ksI, wm_ksL, wm_kJ, wm_ksJ, kg_t, kl_v, Option.bind_some, sr_k, sr_0, sr_1, sr_2, sr_3, sr_4, sr_7, sr_8, sr_9, sr_26, sr_27, sr_28, kin_s, kx_nI, nI_1]
      exact g1
  exact loop 293 0 N I (by omega) (by omega) (fun q hq => absurd hq (Nat.not_lt_zero _)) (fun _ _ _ => rfl)
theorem rx_starts (hO : okT n T) (hT : RT I n T) (hN : 1000 < N) : ∃ I' L', F_X12_starts N (wm Mb I L) 540 = some (wm Mb I' L') ∧ RS I' L' n T (.inl 0) ∧ SG I I' ∧ LF L L' := by
  have e : SG I (up (up I 540 12 0) 540 16 0) := (SG.rf'.up (by decide) (by decide)).up (by decide) (by decide)
  obtain ⟨I', L', a1, a2, a3, a4⟩ := rx_scan (N := N) (L := L) hO 0 hN (hT.sg e) ((up_ne (Or.inr (by decide))).trans up_eq)
  refine ⟨I', L', ?_, ⟨⟨hO, (hT.sg e).sf a2⟩, a4, (a2 _ _ (by omega)).trans up_eq⟩, e.trans a2.g, a3⟩
  unfold F_X12_starts
  simp only [wm_kR, wm_kt, wm_kn, wm_kin, wm_kL, wm_kI, wm_ksI, wm_ksL, wm_kJ, wm_ksJ, kg_t, kl_v, Option.bind_some, sr_k, sr_0, sr_1, sr_2, sr_3, sr_4, sr_7, sr_8, sr_9, sr_26, sr_27, sr_28, a1]
theorem rx_tells (N : Nat) (I : kInts) (L : kLngs) : F_X12_tellsError N (wm Mb I L) 540 = some (wm Mb (up (up I 540 18 (I 540 16)) 540 19 (if I 540 16 = 0 then -1 else I 540 17)) L) := by
  have h1 : ∀ v, up I 540 18 v 540 16 = I 540 16 := fun v => up_ne (Or.inr (by decide))
  have h2 : ∀ v, up I 540 18 v 540 17 = I 540 17 := fun v => up_ne (Or.inr (by decide))
  unfold F_X12_tellsError
  simp only [wm_kR, wm_kt, wm_kn, wm_kin, wm_kL, wm_kI, wm_ksI, wm_ksL, wm_kJ, wm_ksJ, kg_t, kl_v, Option.bind_some, sr_k, sr_0, sr_1, sr_2, sr_3, sr_4, sr_7, sr_8, sr_9, sr_26, sr_27, sr_28, h1, h2]
  by_cases z : I 540 16 = 0
  · simp only [z, if_true]
  · simp only [z, if_false]
theorem rx_allL (h24 : nt ≤ 24) (h8 : r 8 = nI nt) : ∀ (k i z : Nat) (x : Int32), i + k = nt → k < z → x = nI (kx (r 5) + sumN (pu r) i) → (∀ t, t < nt → nn (r (89 + 7 * t + 2))) → F_X12_allCoins_9 N (wm Mb (rf I r f) L) z 540 x (nI i) = some (nI (tot r nt)) := by
  intro k
  induction k with
  | zero =>
    intro i z x e hz hx hn
    obtain ⟨z, rfl⟩ : ∃ v, z = v + 1 := ⟨z - 1, by omega⟩
    have : i = nt := by omega
    subst this
    unfold F_X12_allCoins_9
    simp (disch := omega) only [wm_kR, wm_kt, wm_kn, wm_kin, wm_kL, wm_kI, wm_ksI, wm_ksL, wm_kJ, wm_ksJ, kg_t, kl_v, Option.bind_some, sr_k, sr_0, sr_1, sr_2, sr_3, sr_4, sr_7, sr_8, sr_9, sr_26, sr_27, sr_28, kl_0, kl_1, kl_2, kl_3, kl_4, kl_5, kl_6, kl_7, kl_8, kl_9, kl_10, kl_11, kl_12, kl_13, kx_l0, kx_l1, kx_l2, kx_l3, kx_l4, kx_l5, kx_l6, kx_l7, kx_l8, kx_l9, kx_l10, kx_l11, kx_l12, kx_l13, rf_s, h8, nI_ltP]
    rw [if_neg (by omega), hx]
    rfl
  | succ k ih =>
    intro i z x e hz hx hn
    obtain ⟨z, rfl⟩ : ∃ v, z = v + 1 := ⟨z - 1, by omega⟩
    have h1 := ih (i + 1) z (x + r (89 + 7 * i + 2)) (by omega) (by omega) (by
      have h2 : r (89 + 7 * i + 2) = nI (kx (r (89 + 7 * i + 2))) := hn i (by omega)
      rw [hx, h2, nI_add]
      show nI (kx (r 5) + sumN (pu r) i + kx (r (89 + 7 * i + 2))) = nI (kx (r 5) + (sumN (pu r) i + pu r i))
      unfold pu
      rw [Nat.add_assoc]) hn
    unfold F_X12_allCoins_9
    simp (disch := omega) only [wm_kR, wm_kt, wm_kn, wm_kin, wm_kL, wm_kI, wm_ksI, wm_ksL, wm_kJ, wm_ksJ, kg_t, kl_v, Option.bind_some, sr_k, sr_0, sr_1, sr_2, sr_3, sr_4, sr_7, sr_8, sr_9, sr_26, sr_27, sr_28, kl_0, kl_1, kl_2, kl_3, kl_4, kl_5, kl_6, kl_7, kl_8, kl_9, kl_10, kl_11, kl_12, kl_13, kx_l0, kx_l1, kx_l2, kx_l3, kx_l4, kx_l5, kx_l6, kx_l7, kx_l8, kx_l9, kx_l10, kx_l11, kx_l12, kx_l13, rf_s, h8, nI_ltP, rx_has2 (show i < 24 by omega), nI_1]
    rw [if_pos (by omega)]
    exact h1
theorem rx_all (h : RI r nb nt) (hN : 1000 < N) : F_X12_allCoins N (wm Mb (rf I r f) L) 540 = some (nI (tot r nt)) := by
  have h24 := h.nt24
  have h1 := rx_allL (N := N) (I := I) (L := L) (f := f) h24 h.r8 nt 0 N (r 5) (by omega) (by omega) h.c.1 h.c.2.1
  unfold F_X12_allCoins
  simp (disch := omega) only [wm_kR, wm_kt, wm_kn, wm_kin, wm_kL, wm_kI, wm_ksI, wm_ksL, wm_kJ, wm_ksJ, kg_t, kl_v, Option.bind_some, sr_k, sr_0, sr_1, sr_2, sr_3, sr_4, sr_7, sr_8, sr_9, sr_26, sr_27, sr_28, kl_0, kl_1, kl_2, kl_3, kl_4, kl_5, kl_6, kl_7, kl_8, kl_9, kl_10, kl_11, kl_12, kl_13, kx_l0, kx_l1, kx_l2, kx_l3, kx_l4, kx_l5, kx_l6, kx_l7, kx_l8, kx_l9, kx_l10, kx_l11, kx_l12, kx_l13, rf_s]
  exact h1
end
