variable {Mb : SMem}
/-! the first text -/
def fL : List Nat := [109, 97, 114, 107, 101, 116, 32, 51, 32, 52, 32, 50, 32, 52, 48, 32, 53, 32, 50, 48, 48, 59, 32, 98, 111, 97, 114, 100, 32, 51, 32, 49, 48, 32, 54, 48, 59, 32, 98, 111, 97, 114, 100, 32, 50, 32, 53, 32, 51, 48, 59, 116, 114, 97, 100, 101, 114, 32, 97, 110, 110, 32, 49, 48, 32, 51, 48, 32, 48, 59, 32, 116, 114, 97, 100, 101, 114, 32, 98, 111, 98, 32, 54, 32, 50, 53, 32, 49, 50, 59, 32, 116, 114, 97, 100, 101, 114, 32, 99, 97, 116, 32, 56, 32, 49, 50, 32, 51, 56, 59, 32, 116, 114, 97, 100, 101, 114, 32, 100, 97, 110, 32, 49, 53, 32, 52, 48, 32, 53, 59, 115, 101, 97, 116, 32, 97, 110, 110, 32, 48, 32, 108, 101, 102, 116, 32, 50, 59, 32, 115, 101, 97, 116, 32, 98, 111, 98, 32, 48, 32, 114, 105, 103, 104, 116, 32, 51, 59, 32, 115, 101, 97, 116, 32, 99, 97, 116, 32, 49, 32, 114, 105, 103, 104, 116, 32, 49, 59]
def fT (k : Nat) : Nat := fL.getD k 32
theorem f_ok : okT 188 fT := by
  refine ⟨by decide, fun k => ?_⟩
  by_cases h : k < 188
  · have h2 : ∀ k, k < 188 → 1 ≤ fT k ∧ fT k ≤ 255 := by decide +kernel
    exact h2 k h
  · have h2 : fT k = 32 := by
      unfold fT
      rw [List.getD_eq_getElem?_getD, List.getElem?_eq_none (by show 188 ≤ k; omega)]
      rfl
    omega
theorem f_s0 : F_J0_length 0 = some (nI 51) ∧ ∀ k, k < 51 → F_J0_charAt 0 (nI k) = some (nI (fT (0 + k))) := by decide +kernel
theorem f_s1 : F_J0_length 1 = some (nI 79) ∧ ∀ k, k < 79 → F_J0_charAt 1 (nI k) = some (nI (fT (51 + k))) := by decide +kernel
theorem f_s2 : F_J0_length 2 = some (nI 58) ∧ ∀ k, k < 58 → F_J0_charAt 2 (nI k) = some (nI (fT (130 + k))) := by decide +kernel
section
variable {N : Nat} {I : kInts} {L : kLngs}
theorem q_add {T : Nat → Nat} {n0 : Nat} (h : CT I n0 T) (hn : n0 < 800) : F_X8_add N (wm Mb I L) 2 (nI (T n0)) = some (wm Mb (up (up I 3 n0 (nI (T n0))) 2 1 (nI (n0 + 1))) L) := by
  have e1 : I 2 1 = nI n0 := h.1
  have s3 : kt Mb 3 13 = true ∧ kn Mb 3 = 800 := ktB (a := 3) (n := 800) (by decide)
  have c1 : nI n0 < Int32.ofNat 800 := (nI_ltP (b := 800) (by omega) (by decide)).mpr hn
  have c0 : (nI n0 < 0) = False := nI_lt0 (by omega)
  have e2 : up I 3 n0 (nI (T n0)) 2 1 = nI n0 := (up_ne (by omega)).trans e1
  have kk : kin Mb 3 13 (nI n0) = true := kin_nI s3.1 s3.2 (by omega) (by decide)
  unfold F_X8_add
  simp only [wm_kR, wm_kt, wm_kn, wm_kin, wm_kL, wm_kI, wm_ksI, wm_ksL, wm_kJ, wm_ksJ, kg_t, kl_v, Option.bind_some, s2.1, s2.2, e1, c0, if_false, s3.1, s3.2, c1, if_true, kk, kx_nI (show n0 < 2147483648 by omega), e2, nI_1]
theorem q_ct {T : Nat → Nat} {n0 : Nat} (h : CT I n0 T) : CT (up (up I 3 n0 (nI (T n0))) 2 1 (nI (n0 + 1))) (n0 + 1) T := by
  refine ⟨up_eq, fun k hk => ?_⟩
  rw [up_ne (by omega)]
  by_cases e : k = n0
  · rw [e, up_eq]
  · rw [up_ne (by omega)]; exact h.2 k (by omega)
theorem q_adds {T : Nat → Nat} {s len n0 : Nat} (h1 : F_J0_length s = some (nI len)) (h2 : ∀ k, k < len → F_J0_charAt s (nI k) = some (nI (T (n0 + k)))) (hm : n0 + len ≤ 800) : ∀ (k i z : Nat) (I : kInts), i + k = len → k < z → CT I (n0 + i) T → ∃ I', F_X8_addAll_2 N z (wm Mb I L) 2 s (nI i) = some (wm Mb I' L) ∧ CT I' (n0 + len) T ∧ ∀ a j, a ≠ 2 → a ≠ 3 → I' a j = I a j := by
  intro k
  induction k with
  | zero =>
    intro i z I e hz h
    obtain ⟨z, rfl⟩ : ∃ w, z = w + 1 := ⟨z - 1, by omega⟩
    have : i = len := by omega
    subst this
    refine ⟨I, ?_, h, fun _ _ _ _ => rfl⟩
    rw [F_X8_addAll_2]
    simp only [h1, Option.bind_some, nI_ltP (show i < 2147483648 by omega) (show i < 2147483648 by omega), Nat.lt_irrefl, if_false]
  | succ k ih =>
    intro i z I e hz h
    obtain ⟨z, rfl⟩ : ∃ w, z = w + 1 := ⟨z - 1, by omega⟩
    obtain ⟨I', a1, a2, a3⟩ := ih (i + 1) z _ (by omega) (by omega) (q_ct h)
    refine ⟨I', ?_, a2, fun a j x1 x2 => (a3 a j x1 x2).trans ((up_ne (by omega)).trans (up_ne (by omega)))⟩
    rw [← a1, F_X8_addAll_2]
    have hi : i < len := by omega
    simp only [h1, Option.bind_some, nI_ltP (show i < 2147483648 by omega) (show len < 2147483648 by omega), hi, if_true, h2 i hi, wm_kR, wm_kt, wm_kn, wm_kin, wm_kL, wm_kI, wm_ksI, wm_ksL, wm_kJ, wm_ksJ, kg_t, kl_v, Option.bind_some, s2.1, q_add h (by omega), nI_1]
    rfl
theorem q_addAll {T : Nat → Nat} {s len n0 : Nat} (h : F_J0_length s = some (nI len) ∧ ∀ k, k < len → F_J0_charAt s (nI k) = some (nI (T (n0 + k)))) (hm : n0 + len ≤ 800) (hN : 1000 < N) (hC : CT I n0 T) : ∃ I', F_X8_addAll N (wm Mb I L) 2 s = some (wm Mb I' L) ∧ CT I' (n0 + len) T ∧ ∀ a j, a ≠ 2 → a ≠ 3 → I' a j = I a j :=
  q_adds h.1 h.2 hm len 0 N I (by omega) (by omega) hC
end
/-- the first market, as its text makes it -/
def fg0 : Nat → Int32 := hdV 188 fT
def fg1 : Nat → Int32 := boX 188 fT fg0 0 9
def fg2 : Nat → Int32 := boX 188 fT fg1 1 14
def fg3 : Nat → Int32 := trR 188 fT fg2 0 19
def fg4 : Nat → Int32 := trR 188 fT fg3 1 25
def fg5 : Nat → Int32 := trR 188 fT fg4 2 31
def fg6 : Nat → Int32 := trR 188 fT fg5 3 37
def fg7 : Nat → Int32 := (seF 188 fT fg6 2 4 43).2
def fg8 : Nat → Int32 := (seF 188 fT fg7 2 4 49).2
def fg9 : Nat → Int32 := (seF 188 fT fg8 2 4 55).2
theorem f_0 : hd7 188 fT = .inl 8 := by decide +kernel
theorem f_1 : isW 188 fT 2590276 8 = true ∧ bo4 188 fT 9 = .inl 13 := by decide +kernel
theorem f_2 : isW 188 fT 2590276 13 = true ∧ bo4 188 fT 14 = .inl 18 := by decide +kernel
theorem f_2e : isW 188 fT 2590276 18 = false := by decide +kernel
theorem f_3 : isW 188 fT 690000050 18 = true ∧ tr4 188 fT fg2 0 19 = .inl 24 := by decide +kernel
theorem f_4 : isW 188 fT 690000050 24 = true ∧ tr4 188 fT fg3 1 25 = .inl 30 := by decide +kernel
theorem f_5 : isW 188 fT 690000050 30 = true ∧ tr4 188 fT fg4 2 31 = .inl 36 := by decide +kernel
theorem f_6 : isW 188 fT 690000050 36 = true ∧ tr4 188 fT fg5 3 37 = .inl 42 := by decide +kernel
theorem f_6e : isW 188 fT 690000050 42 = false := by decide +kernel
theorem f_7 : isW 188 fT 627764 42 = true ∧ (seF 188 fT fg6 2 4 43).1 = .inl 48 := by decide +kernel
theorem f_8 : isW 188 fT 627764 48 = true ∧ (seF 188 fT fg7 2 4 49).1 = .inl 54 := by decide +kernel
theorem f_9 : isW 188 fT 627764 54 = true ∧ (seF 188 fT fg8 2 4 55).1 = .inl 60 := by decide +kernel
theorem f_9e : isW 188 fT 627764 60 = false := by decide +kernel
theorem f_e : enS 188 fT (.inl 60) = .inl 60 := by decide +kernel
