variable {Mb : SMem}
def TC (I I' : kInts) (a c t : Nat) : Prop := I' (tr a t) 0 = I (tr a t) 0 ∧ (∀ f, 2 ≤ f → f < 8 → I' (tr a t) f = I (tr c t) f) ∧ jn I' (tr a t) 1 = jn I (tr c t) 1
def EC (I I' : kInts) (a c : Nat) : Prop := I' (ev a) 3 = I (ev c) 3 ∧ ∀ k, k < 3 → ∀ j, j < 12 → I' (ek a k) j = I (ek c k) j
def BC (I I' : kInts) (a c b : Nat) : Prop := I' (bd a b) 0 = I (bd a b) 0 ∧ (I' (bd a b) 1 = I (bd c b) 1 ∧ I' (bd a b) 2 = I (bd c b) 2 ∧ I' (bd a b) 3 = I (bd c b) 3) ∧ ∀ q, q < 13 → I' (ow a b) q = I (ow c b) q
def ap (a c : Nat) : Prop := a + 41 ≤ c ∨ c + 41 ≤ a
section
variable {N : Nat} {I : kInts} {L : kLngs} {r f : Nat → Int32} {nb nt a c : Nat}
theorem cpy_in {a0 sp a1 dp n j : Nat} (h : dp ≤ j ∧ j < dp + n) : cpy I a0 sp a1 dp n a1 j = I a0 (sp + (j - dp)) := if_pos ⟨rfl, h⟩
theorem cpy_out {a0 sp a1 dp n b j : Nat} (h : b ≠ a1 ∨ j < dp ∨ dp + n ≤ j) : cpy I a0 sp a1 dp n b j = I b j := if_neg (by omega)
theorem kcpOk_n {a0 a1 n : Nat} (h0 : kt Mb a0 13 = true) (h1 : kn Mb a0 = n) (h2 : kt Mb a1 13 = true) (h3 : kn Mb a1 = n) (hn : n < 2147483648) : kcpOk (wm Mb I L) a0 0 a1 0 (nI n) = true := by
  unfold kcpOk
  have e1 : (0 : Int32).toNatClampNeg = 0 := by decide
  have e2 : (nI n).toNatClampNeg = n := kx_nI hn
  have e3 := nI_0le hn
  simp only [wm_kt, wm_kn, h0, h1, h2, h3, e1, e2, Nat.zero_add, Nat.le_refl, decide_true, Bool.and_true, Bool.true_and]
  simp [e3]
theorem ofNnI (n : Nat) : Int32.ofNat n = nI n := rfl
theorem kx_0' : kx 0 = 0 := by decide
theorem cx_bcopy (ha : a ∈ mks) (hc : c ∈ mks) (hd : ap a c) {b : Nat} (hb : b < 5) : ∃ I', F_X0_copyFrom N (wm Mb I L) (bd a b) (bd c b) = some (wm Mb I' L) ∧ BC I I' a c b ∧ (∀ x j, x ≠ bd a b → x ≠ ow a b → I' x j = I x j) := by
  have d1 : bd c b ≠ bd a b := by unfold bd; unfold ap at hd; omega
  have d2 : ow c b ≠ bd a b := by unfold bd ow; unfold ap at hd; omega
  have d3 : bd a b ≠ ow a b := by unfold bd ow; omega
  have d4 : ow a b ≠ bd a b := d3.symm
  refine ⟨cpy (up (up (up I (bd a b) 1 (I (bd c b) 1)) (bd a b) 2 (I (bd c b) 2)) (bd a b) 3 (I (bd c b) 3)) (ow c b) 0 (ow a b) 0 13, ?_, ⟨?_, ⟨?_, ?_, ?_⟩, fun q hq => ?_⟩, fun x j h1 h2 => ?_⟩
  · unfold F_X0_copyFrom
    have x1 : ∀ v, up I (bd a b) 1 v (bd c b) 2 = I (bd c b) 2 := fun v => up_ne (Or.inl d1)
    have x2 : ∀ v w, up (up I (bd a b) 1 v) (bd a b) 2 w (bd c b) 3 = I (bd c b) 3 := fun v w => (up_ne (Or.inl d1)).trans (up_ne (Or.inl d1))
    simp only [wm_kR, wm_kt, wm_kn, wm_kin, wm_kL, wm_kI, wm_ksI, wm_ksL, wm_kJ, wm_ksJ, kg_t, kl_v, Option.bind_some, bb_k ha hb, bb_k hc hb, bb_o ha hb, bb_o hc hb, bb_ok ha hb, bb_on ha hb, x1, x2, ofNnI, kcpOk_n (bb_ok hc hb) (bb_on hc hb) (bb_ok ha hb) (bb_on ha hb) (show 13 < 2147483648 by decide), wm_kcp, kx_0', kx_nI (show 13 < 2147483648 by decide)]
  · rw [cpy_out (Or.inl d3), up_ne (Or.inr (by decide)), up_ne (Or.inr (by decide)), up_ne (Or.inr (by decide))]
  · rw [cpy_out (Or.inl d3), up_ne (Or.inr (by decide)), up_ne (Or.inr (by decide)), up_eq]
  · rw [cpy_out (Or.inl d3), up_ne (Or.inr (by decide)), up_eq]
  · rw [cpy_out (Or.inl d3), up_eq]
  · rw [cpy_in (by omega), up_ne (Or.inl d2), up_ne (Or.inl d2), up_ne (Or.inl d2)]
    congr 1
    omega
  · rw [cpy_out (Or.inl h2), up_ne (Or.inl h1), up_ne (Or.inl h1), up_ne (Or.inl h1)]
theorem cx_tcopy (ha : a ∈ mks) (hc : c ∈ mks) (hd : ap a c) {t : Nat} (ht : t < 24) (hbo : I (tr c t) 5 = 0 ∨ I (tr c t) 5 = 1) : ∃ I', F_X10_copyFrom N (wm Mb I L) (tr a t) (tr c t) = some (wm Mb I' L) ∧ TC I I' a c t ∧ (∀ x j, x ≠ tr a t → I' x j = I x j) := by
  have e1 : tr a t = a + 17 + t := rfl
  have e4 : tr c t = c + 17 + t := rfl
  unfold ap at hd
  have x0 : ∀ j, upJ I (tr a t) 1 (jn I (tr c t) 1) (tr c t) j = I (tr c t) j := fun j => upJ_ne (Or.inl (by omega))
  have xs : ∀ (J : kInts) (p : Nat) (v : Int32) (j : Nat), up J (tr a t) p v (tr c t) j = J (tr c t) j := fun J p v j => up_ne (Or.inl (by omega))
  have hb : ((I (tr c t) 5 == 0 || I (tr c t) 5 == 1)) = true := by rcases hbo with z | z <;> rw [z] <;> rfl
  refine ⟨up (up (up (up (up (up (upJ I (tr a t) 1 (jn I (tr c t) 1)) (tr a t) 2 (I (tr c t) 2)) (tr a t) 3 (I (tr c t) 3)) (tr a t) 4 (I (tr c t) 4)) (tr a t) 5 (I (tr c t) 5)) (tr a t) 6 (I (tr c t) 6)) (tr a t) 7 (I (tr c t) 7), ?_, ⟨?_, fun f h2 h8 => ?_, ?_⟩, fun x j h1 => ?_⟩
  · unfold F_X10_copyFrom
    simp only [wm_kR, wm_kt, wm_kn, wm_kin, wm_kL, wm_kI, wm_ksI, wm_ksL, wm_kJ, wm_ksJ, kg_t, kl_v, Option.bind_some, tt_k ha ht, tt_k hc ht, x0, xs, hb, Bool.and_self]
  · rw [up_ne (Or.inr (by decide)), up_ne (Or.inr (by decide)), up_ne (Or.inr (by decide)), up_ne (Or.inr (by decide)), up_ne (Or.inr (by decide)), up_ne (Or.inr (by decide)), upJ_ne (Or.inr (by decide))]
  · have : f = 2 ∨ f = 3 ∨ f = 4 ∨ f = 5 ∨ f = 6 ∨ f = 7 := by omega
    rcases this with rfl | rfl | rfl | rfl | rfl | rfl
    · rw [up_ne (Or.inr (by decide)), up_ne (Or.inr (by decide)), up_ne (Or.inr (by decide)), up_ne (Or.inr (by decide)), up_ne (Or.inr (by decide)), up_eq]
    · rw [up_ne (Or.inr (by decide)), up_ne (Or.inr (by decide)), up_ne (Or.inr (by decide)), up_ne (Or.inr (by decide)), up_eq]
    · rw [up_ne (Or.inr (by decide)), up_ne (Or.inr (by decide)), up_ne (Or.inr (by decide)), up_eq]
    · rw [up_ne (Or.inr (by decide)), up_ne (Or.inr (by decide)), up_eq]
    · rw [up_ne (Or.inr (by decide)), up_eq]
    · rw [up_eq]
  · rw [jn_up (Or.inr (by decide)), jn_up (Or.inr (by decide)), jn_up (Or.inr (by decide)), jn_up (Or.inr (by decide)), jn_up (Or.inr (by decide)), jn_up (Or.inr (by decide)), jn_eq]
  · rw [up_ne (Or.inl h1), up_ne (Or.inl h1), up_ne (Or.inl h1), up_ne (Or.inl h1), up_ne (Or.inl h1), up_ne (Or.inl h1), upJ_ne (Or.inl h1)]
theorem cx_ecopy (ha : a ∈ mks) (hc : c ∈ mks) (hd : ap a c) : ∃ I', F_X2_copyFrom N (wm Mb I L) (ev a) (ev c) = some (wm Mb I' L) ∧ EC I I' a c ∧ (∀ x j, x < a + 3 ∨ a + 6 < x → I' x j = I x j) := by
  have e0 : ev a = a + 3 := rfl
  have e1 : ev c = c + 3 := rfl
  have f0 : ∀ k, ek a k = a + 4 + k := fun _ => rfl
  have f1 : ∀ k, ek c k = c + 4 + k := fun _ => rfl
  have g0 := f0 0
  have g1 := f0 1
  have g2 := f0 2
  have k0 := f1 0
  have k1 := f1 1
  have k2 := f1 2
  unfold ap at hd
  have A0 := sh_e (Mb := Mb) a ha 0 (by decide)
  have A1 := sh_e (Mb := Mb) a ha 1 (by decide)
  have A2 := sh_e (Mb := Mb) a ha 2 (by decide)
  have C0 := sh_e (Mb := Mb) c hc 0 (by decide)
  have C1 := sh_e (Mb := Mb) c hc 1 (by decide)
  have C2 := sh_e (Mb := Mb) c hc 2 (by decide)
  refine ⟨cpy (cpy (cpy (up I (ev a) 3 (I (ev c) 3)) (ek c 0) 0 (ek a 0) 0 12) (ek c 1) 0 (ek a 1) 0 12) (ek c 2) 0 (ek a 2) 0 12, ?_, ⟨?_, fun k hk j hj => ?_⟩, fun x j h1 => ?_⟩
  · unfold F_X2_copyFrom
    simp only [wm_kR, wm_kt, wm_kn, wm_kin, wm_kL, wm_kI, wm_ksI, wm_ksL, wm_kJ, wm_ksJ, kg_t, kl_v, Option.bind_some, mm_ek ha, mm_ek hc, A0.1, A1.1, A2.1, C0.1, C1.1, C2.1, A0.2.1, A1.2.1, A2.2.1, A0.2.2, A1.2.2, A2.2.2, ofNnI, kcpOk_n C0.2.1 C0.2.2 A0.2.1 A0.2.2 (show 12 < 2147483648 by decide), kcpOk_n C1.2.1 C1.2.2 A1.2.1 A1.2.2 (show 12 < 2147483648 by decide), kcpOk_n C2.2.1 C2.2.2 A2.2.1 A2.2.2 (show 12 < 2147483648 by decide), wm_kcp, kx_0', kx_nI (show 12 < 2147483648 by decide)]
  · rw [cpy_out (Or.inl (by omega)), cpy_out (Or.inl (by omega)), cpy_out (Or.inl (by omega)), up_eq]
  · have : k = 0 ∨ k = 1 ∨ k = 2 := by omega
    rcases this with rfl | rfl | rfl
    · rw [cpy_out (Or.inl (by omega)), cpy_out (Or.inl (by omega)), cpy_in (by omega), up_ne (Or.inl (by omega))]
      congr 1
      omega
    · rw [cpy_out (Or.inl (by omega)), cpy_in (by omega), cpy_out (Or.inl (by omega)), up_ne (Or.inl (by omega))]
      congr 1
      omega
    · rw [cpy_in (by omega), cpy_out (Or.inl (by omega)), cpy_out (Or.inl (by omega)), up_ne (Or.inl (by omega))]
      congr 1
      omega
  · rw [cpy_out (Or.inl (by omega)), cpy_out (Or.inl (by omega)), cpy_out (Or.inl (by omega)), up_ne (Or.inl (by omega))]
theorem cx_c138 (ha : a ∈ mks) (hc : c ∈ mks) (hd : ap a c) : ∀ (k i n : Nat) (I : kInts), (∀ t, t < 24 → I (tr c t) 5 = 0 ∨ I (tr c t) 5 = 1) → i + k = 24 → k < n → ∃ I', F_X4_copyFrom_138 N n (wm Mb I L) a c (nI i) = some (wm Mb I' L) ∧ (∀ t, i ≤ t → t < 24 → TC I I' a c t) ∧ EC I I' a c ∧ (∀ x j, x < a + 3 ∨ a + 6 < x ∧ x < a + 17 + i ∨ a + 41 ≤ x → I' x j = I x j)
  | k, i, 0, I, _, _, h => absurd h (Nat.not_lt_zero _)
  | 0, i, n + 1, I, hbo, e, _ => by
    obtain ⟨I', a1, a2, a3⟩ := cx_ecopy (Mb := Mb) (N := N) (I := I) (L := L) ha hc hd
    refine ⟨I', ?_, fun t h1 h2 => by omega, a2, fun x j h => a3 x j (by omega)⟩
    unfold F_X4_copyFrom_138
    simp (disch := omega) only [wm_kR, wm_kt, wm_kn, wm_kin, wm_kL, wm_kI, wm_ksI, wm_ksL, wm_kJ, wm_ksJ, kg_t, kl_v, Option.bind_some, mm_k ha, mm_k hc, mm_ts ha, mm_tn ha, ofNnI, nI_ltP, mm_e ha, mm_e hc, mm_ek ha, a1]
    rw [if_neg (by omega)]
  | k + 1, i, n + 1, I, hbo, e, hn => by
    have ht : i < 24 := by omega
    obtain ⟨I1, a1, a2, a3⟩ := cx_tcopy (Mb := Mb) (N := N) (I := I) (L := L) ha hc hd ht (hbo i ht)
    have hda := hd
    unfold ap at hda
    have e1 : tr a i = a + 17 + i := rfl
    have hc1 : ∀ x j, c ≤ x → x < c + 41 → I1 x j = I x j := fun x j h1 h2 => a3 x j (by omega)
    obtain ⟨I2, b1, b2, b3, b4⟩ := cx_c138 ha hc hd k (i + 1) n I1 (fun t ht => by rw [hc1 _ _ (by unfold tr; omega) (by unfold tr; omega)]; exact hbo t ht) (by omega) (by omega)
    refine ⟨I2, ?_, fun t h1 h2 => ?_, ⟨b3.1.trans (hc1 _ _ (by unfold ev; omega) (by unfold ev; omega)), fun q hq j hj => (b3.2 q hq j hj).trans (hc1 _ _ (by unfold ek; omega) (by unfold ek; omega))⟩, fun x j h => (b4 x j (by omega)).trans (a3 x j (by omega))⟩
    · unfold F_X4_copyFrom_138
      simp (disch := omega) only [wm_kR, wm_kt, wm_kn, wm_kin, wm_kL, wm_kI, wm_ksI, wm_ksL, wm_kJ, wm_ksJ, kg_t, kl_v, Option.bind_some, mm_k ha, mm_k hc, mm_ts ha, mm_tn ha, ofNnI, nI_ltP, kin_t ha ht, kin_t hc ht, kx_nI, tt_r ha ht, tt_r hc ht, tt_k ha ht, a1, nI_1]
      rw [if_pos ht]
      exact b1
    · by_cases z : t = i
      · subst z
        obtain ⟨c1, c2, c3⟩ := a2
        exact ⟨(b4 _ _ (by omega)).trans c1, fun f h2 h8 => (b4 _ _ (by omega)).trans (c2 f h2 h8), (jn_cg (fun j _ => b4 _ _ (by omega))).trans c3⟩
      · obtain ⟨c1, c2, c3⟩ := b2 t (by omega) h2
        exact ⟨c1.trans (a3 _ _ (by unfold tr; omega)), fun f h2 h8 => (c2 f h2 h8).trans (hc1 _ _ (by unfold tr; omega) (by unfold tr; omega)), c3.trans (jn_cg (fun j _ => hc1 _ _ (by unfold tr; omega) (by unfold tr; omega)))⟩
theorem cx_c106 (ha : a ∈ mks) (hc : c ∈ mks) (hd : ap a c) (hN : 100 < N) : ∀ (k i n : Nat) (I : kInts), (∀ t, t < 24 → I (tr c t) 5 = 0 ∨ I (tr c t) 5 = 1) → i + k = 5 → k < n → ∃ I', F_X4_copyFrom_106 N n (wm Mb I L) a c (nI i) = some (wm Mb I' L) ∧ (∀ b, i ≤ b → b < 5 → BC I I' a c b) ∧ (∀ t, t < 24 → TC I I' a c t) ∧ EC I I' a c ∧ (∀ x j, x < a + 3 ∨ a + 6 < x ∧ x < a + 7 + 2 * i ∨ a + 41 ≤ x → I' x j = I x j)
  | k, i, 0, I, _, _, h => absurd h (Nat.not_lt_zero _)
  | 0, i, n + 1, I, hbo, e, _ => by
    obtain ⟨I', a1, a2, a3, a4⟩ := cx_c138 (Mb := Mb) (N := N) (L := L) ha hc hd 24 0 N I hbo (by omega) (by omega)
    refine ⟨I', ?_, fun b h1 h2 => by omega, fun t ht => a2 t (Nat.zero_le _) ht, a3, fun x j h => a4 x j (by omega)⟩
    unfold F_X4_copyFrom_106
    simp (disch := omega) only [wm_kR, wm_kt, wm_kn, wm_kin, wm_kL, wm_kI, wm_ksI, wm_ksL, wm_kJ, wm_ksJ, kg_t, kl_v, Option.bind_some, mm_k ha, mm_k hc, mm_bs ha, mm_bn ha, ofNnI, nI_ltP]
    rw [if_neg (by omega)]
    exact a1
  | k + 1, i, n + 1, I, hbo, e, hn => by
    have hb : i < 5 := by omega
    obtain ⟨I1, a1, a2, a3⟩ := cx_bcopy (Mb := Mb) (N := N) (I := I) (L := L) ha hc hd hb
    have hda := hd
    unfold ap at hda
    have e1 : bd a i = a + 7 + 2 * i := rfl
    have e2 : ow a i = a + 8 + 2 * i := rfl
    have hc1 : ∀ x j, c ≤ x → x < c + 41 → I1 x j = I x j := fun x j h1 h2 => a3 x j (by omega) (by omega)
    obtain ⟨I2, b1, b2, b3, b4, b5⟩ := cx_c106 ha hc hd hN k (i + 1) n I1 (fun t ht => by rw [hc1 _ _ (by unfold tr; omega) (by unfold tr; omega)]; exact hbo t ht) (by omega) (by omega)
    refine ⟨I2, ?_, fun b h1 h2 => ?_, fun t ht => ?_, ⟨b4.1.trans (hc1 _ _ (by unfold ev; omega) (by unfold ev; omega)), fun q hq j hj => (b4.2 q hq j hj).trans (hc1 _ _ (by unfold ek; omega) (by unfold ek; omega))⟩, fun x j h => (b5 x j (by omega)).trans (a3 x j (by omega) (by omega))⟩
    · unfold F_X4_copyFrom_106
      simp (disch := omega) only [wm_kR, wm_kt, wm_kn, wm_kin, wm_kL, wm_kI, wm_ksI, wm_ksL, wm_kJ, wm_ksJ, kg_t, kl_v, Option.bind_some, mm_k ha, mm_k hc, mm_bs ha, mm_bn ha, ofNnI, nI_ltP, kin_b ha hb, kin_b hc hb, kx_nI, bb_r ha hb, bb_r hc hb, bb_k ha hb, a1, nI_1]
      rw [if_pos hb]
      exact b1
    · by_cases z : b = i
      · subst z
        obtain ⟨c1, ⟨c2, c3, c4⟩, c5⟩ := a2
        exact ⟨(b5 _ _ (by omega)).trans c1, ⟨(b5 _ _ (by omega)).trans c2, (b5 _ _ (by omega)).trans c3, (b5 _ _ (by omega)).trans c4⟩, fun q hq => (b5 _ _ (by omega)).trans (c5 q hq)⟩
      · obtain ⟨c1, ⟨c2, c3, c4⟩, c5⟩ := b2 b (by omega) h2
        exact ⟨c1.trans (a3 _ _ (by unfold bd; omega) (by unfold bd; omega)), ⟨c2.trans (hc1 _ _ (by unfold bd; omega) (by unfold bd; omega)), c3.trans (hc1 _ _ (by unfold bd; omega) (by unfold bd; omega)), c4.trans (hc1 _ _ (by unfold bd; omega) (by unfold bd; omega))⟩, fun q hq => (c5 q hq).trans (hc1 _ _ (by unfold ow; omega) (by unfold ow; omega))⟩
    · obtain ⟨c1, c2, c3⟩ := b3 t ht
      exact ⟨c1.trans (a3 _ _ (by unfold tr bd; omega) (by unfold tr ow; omega)), fun f h2 h8 => (c2 f h2 h8).trans (hc1 _ _ (by unfold tr; omega) (by unfold tr; omega)), c3.trans (jn_cg (fun j _ => hc1 _ _ (by unfold tr; omega) (by unfold tr; omega)))⟩
theorem cx_copy (ha : a ∈ mks) (hc : c ∈ mks) (hd : ap a c) (hN : 100 < N) (hna : Nu I a) (hnc : Nu I c) : ∃ I', F_X4_copyFrom N (wm Mb I L) a c = some (wm Mb I' L) ∧ (∀ r nb nt, nb ≤ 5 → nt ≤ 24 → RM I c r nb nt → RM I' a r nb nt) ∧ Nu I' a ∧ FR a I I' := by
  have hda := hd
  unfold ap at hda
  have e13 : ∃ J, (up (up (up (up (up (up (up (up (up (up (up (up (up I a 0 (I c 0)) a 1 (I c 1)) a 2 (I c 2)) a 3 (I c 3)) a 4 (I c 4)) a 5 (I c 5)) a 6 (I c 6)) a 7 (I c 7)) a 8 (I c 8)) a 9 (I c 9)) a 10 (I c 10)) a 11 (I c 11)) a 12 (I c 12)) = J ∧ (∀ j, j < 13 → J a j = I c j) ∧ (∀ x j, x ≠ a → J x j = I x j) := by
    refine ⟨_, rfl, fun j hj => ?_, fun x j hx => ?_⟩
    · have : j = 0 ∨ j = 1 ∨ j = 2 ∨ j = 3 ∨ j = 4 ∨ j = 5 ∨ j = 6 ∨ j = 7 ∨ j = 8 ∨ j = 9 ∨ j = 10 ∨ j = 11 ∨ j = 12 := by omega
      rcases this with rfl | rfl | rfl | rfl | rfl | rfl | rfl | rfl | rfl | rfl | rfl | rfl | rfl <;> simp [up]
    · simp only [up_ne (Or.inl hx)]
  obtain ⟨J, hJ, j1, j2⟩ := e13
  obtain ⟨I', a1, a2, a3, a4, a5⟩ := cx_c106 (Mb := Mb) (N := N) (L := L) ha hc hd hN 5 0 N J (fun t ht => by rw [j2 _ _ (by unfold tr; omega)]; exact hnc.2.2 t ht) (by omega) (by omega)
  have hc1 : ∀ x j, c ≤ x → x < c + 41 → J x j = I x j := fun x j h1 h2 => j2 x j (by omega)
  have hNu : Nu I' a := by
    refine ⟨fun b hb => ?_, fun t ht => ?_, fun t ht => ?_⟩
    · rw [(a2 b (Nat.zero_le _) hb).1, j2 _ _ (by unfold bd; omega)]; exact hna.1 b hb
    · rw [(a3 t ht).1, j2 _ _ (by unfold tr; omega)]; exact hna.2.1 t ht
    · rw [(a3 t ht).2.1 5 (by decide) (by decide), hc1 _ _ (by unfold tr; omega) (by unfold tr; omega)]; exact hnc.2.2 t ht
  refine ⟨I', ?_, fun r nb nt h5 h24 h => ⟨hNu, ?_, fun b hb => ?_, fun t ht => ?_, fun t ht => ?_, ?_⟩, hNu, fun x j hx => (a5 x j (by omega)).trans (j2 x j (by omega))⟩
  · have x : ∀ (K : kInts) p v j, up K a p v c j = K c j := fun K p v j => up_ne (Or.inl (by omega))
    unfold F_X4_copyFrom
    simp only [wm_kR, wm_kt, wm_kn, wm_kin, wm_kL, wm_kI, wm_ksI, wm_ksL, wm_kJ, wm_ksJ, kg_t, kl_v, Option.bind_some, mm_k ha, mm_k hc, x, hJ]
    exact a1
  · have e : ∀ j, j < 13 → I' a j = I c j := fun j hj => (a5 a j (by omega)).trans (j1 j hj)
    unfold RMg
    rw [e 0 (by decide), e 1 (by decide), e 2 (by decide), e 3 (by decide), e 4 (by decide), e 5 (by decide), e 6 (by decide), e 7 (by decide), e 8 (by decide), e 9 (by decide), e 10 (by decide), e 11 (by decide), e 12 (by decide)]
    exact h.g
  · obtain ⟨c1, ⟨c2, c3, c4⟩, c5⟩ := a2 b (Nat.zero_le _) (by omega)
    have hh := hc1 (bd c b)
    have ho := hc1 (ow c b)
    rw [c2, c3, c4, c5 6 (by decide), hh _ (by unfold bd; omega) (by unfold bd; omega), hh _ (by unfold bd; omega) (by unfold bd; omega), hh _ (by unfold bd; omega) (by unfold bd; omega), ho _ (by unfold ow; omega) (by unfold ow; omega)]
    obtain ⟨d1, d2, d3, d4, d5⟩ := h.bb b hb
    exact ⟨d1, d2, d3, fun q hq h6 => by rw [c5 q hq, ho _ (by unfold ow; omega) (by unfold ow; omega)]; exact d4 q hq h6, d5⟩
  · have hh := fun f h2 h8 => ((a3 t (by omega)).2.1 f h2 h8).trans (hc1 (tr c t) f (by unfold tr; omega) (by unfold tr; omega))
    rw [hh 2 (by decide) (by decide), hh 3 (by decide) (by decide), hh 4 (by decide) (by decide), hh 5 (by decide) (by decide), hh 6 (by decide) (by decide), hh 7 (by decide) (by decide)]
    exact h.tt t ht
  · rw [(a3 t (by omega)).2.2, jn_cg (fun j _ => hc1 _ _ (by unfold tr; omega) (by unfold tr; omega))]
    exact h.n t ht
  · obtain ⟨h1, h2⟩ := h.e
    refine ⟨(a4.1.trans (hc1 _ _ (by unfold ev; omega) (by unfold ev; omega))).trans h1, fun e he h13 k hk => ?_⟩
    rw [a4.2 0 (by decide) k (by omega), a4.2 1 (by decide) k (by omega), a4.2 2 (by decide) k (by omega), hc1 _ _ (by unfold ek; omega) (by unfold ek; omega), hc1 _ _ (by unfold ek; omega) (by unfold ek; omega), hc1 _ _ (by unfold ek; omega) (by unfold ek; omega)]
    exact h2 e he h13 k hk
end
