variable {Mb : SMem}
def codeN (f : Nat → Nat) : Nat → Nat
  | 0 => 0
  | n + 1 => 32 * codeN f n + f n
def pkN (f : Nat → Nat) : Nat → Nat → Nat
  | 0, _ => 0
  | k + 1, i => (96 + f i) + 256 * pkN f k (i + 1)
def nmV (v : Int64) (c : Int32) : Prop := ∃ (n : Nat) (f : Nat → Nat), (1 ≤ n ∧ n ≤ 6) ∧ (∀ k, k < n → 1 ≤ f k ∧ f k ≤ 26) ∧ v = lN (pkN f n 0) ∧ c = nI (codeN f n)
def Nu (I : kInts) (m : Nat) : Prop := (∀ b, b < 5 → I (bd m b) 0 = nI b) ∧ (∀ t, t < 24 → I (tr m t) 0 = nI t) ∧ (∀ t, t < 24 → I (tr m t) 5 = 0 ∨ I (tr m t) 5 = 1)
def RMg (I : kInts) (m : Nat) (r : Nat → Int32) : Prop := I m 0 = r 6 ∧ I m 1 = r 5 ∧ I m 2 = r 0 ∧ I m 3 = r 1 ∧ I m 4 = r 2 ∧ I m 5 = r 3 ∧ I m 6 = r 4 ∧ I m 7 = r 9 ∧ I m 8 = r 10 ∧ I m 9 = r 11 ∧ I m 10 = r 12 ∧ I m 11 = r 7 ∧ I m 12 = r 8
def RMb (I : kInts) (m : Nat) (r : Nat → Int32) (nb : Nat) : Prop := ∀ b, b < nb → I (bd m b) 1 = r (14 + 15 * b + 0) ∧ I (bd m b) 2 = r (14 + 15 * b + 1) ∧ I (bd m b) 3 = r (14 + 15 * b + 2) ∧ (∀ q, q < 13 → q ≠ 6 → I (ow m b) q = r (si b q) - 1) ∧ I (ow m b) 6 = -1
def RMt (I : kInts) (m : Nat) (r : Nat → Int32) (nt : Nat) : Prop := ∀ t, t < nt → I (tr m t) 2 = r (89 + 7 * t + 1) ∧ I (tr m t) 3 = r (89 + 7 * t + 2) ∧ I (tr m t) 4 = r (89 + 7 * t + 3) ∧ I (tr m t) 5 = r (89 + 7 * t + 4) ∧ I (tr m t) 6 = r (89 + 7 * t + 5) ∧ I (tr m t) 7 = r (89 + 7 * t + 6)
def RMn (I : kInts) (m : Nat) (r : Nat → Int32) (nt : Nat) : Prop := ∀ t, t < nt → nmV (jn I (tr m t) 1) (r (89 + 7 * t + 0))
def RMe (I : kInts) (m : Nat) (r : Nat → Int32) : Prop := I (ev m) 3 = r 13 ∧ ∀ e, e ≤ 12 → r 13 = nI e → ∀ k, k < e → I (ek m 0) k = r (257 + 3 * k) ∧ I (ek m 1) k = r (258 + 3 * k) ∧ I (ek m 2) k = r (259 + 3 * k)
def RM (I : kInts) (m : Nat) (r : Nat → Int32) (nb nt : Nat) : Prop := Nu I m ∧ RMg I m r ∧ RMb I m r nb ∧ RMt I m r nt ∧ RMn I m r nt ∧ RMe I m r
section
variable {N : Nat} {I : kInts} {L : kLngs} {r : Nat → Int32} {nb nt m b t q : Nat}
theorem mm_k (hm : m ∈ mks) : kt Mb m 4 = true := (sh_m (Mb := Mb) m hm).1
theorem mm_bs (hm : m ∈ mks) : kt Mb (kR Mb m 13) 16 = true := (sh_m (Mb := Mb) m hm).2.1
theorem mm_bn (hm : m ∈ mks) : kn Mb (kR Mb m 13) = 5 := (sh_m (Mb := Mb) m hm).2.2.1
theorem mm_ts (hm : m ∈ mks) : kt Mb (kR Mb m 14) 17 = true := (sh_m (Mb := Mb) m hm).2.2.2.1
theorem mm_tn (hm : m ∈ mks) : kn Mb (kR Mb m 14) = 24 := (sh_m (Mb := Mb) m hm).2.2.2.2.1
theorem mm_e (hm : m ∈ mks) : kR Mb m 15 = ev m := (sh_m (Mb := Mb) m hm).2.2.2.2.2.1
theorem mm_ek (hm : m ∈ mks) : kt Mb (ev m) 2 = true := (sh_m (Mb := Mb) m hm).2.2.2.2.2.2
theorem bb_r (hm : m ∈ mks) (hb : b < 5) : kR Mb (kR Mb m 13) b = bd m b := (sh_b (Mb := Mb) m hm b hb).1
theorem bb_k (hm : m ∈ mks) (hb : b < 5) : kt Mb (bd m b) 0 = true := (sh_b (Mb := Mb) m hm b hb).2.1
theorem bb_o (hm : m ∈ mks) (hb : b < 5) : kR Mb (bd m b) 4 = ow m b := (sh_b (Mb := Mb) m hm b hb).2.2.1
theorem bb_ok (hm : m ∈ mks) (hb : b < 5) : kt Mb (ow m b) 13 = true := (sh_b (Mb := Mb) m hm b hb).2.2.2.1
theorem bb_on (hm : m ∈ mks) (hb : b < 5) : kn Mb (ow m b) = 13 := (sh_b (Mb := Mb) m hm b hb).2.2.2.2
theorem tt_r (hm : m ∈ mks) (ht : t < 24) : kR Mb (kR Mb m 14) t = tr m t := (sh_t (Mb := Mb) m hm t ht).1
theorem tt_k (hm : m ∈ mks) (ht : t < 24) : kt Mb (tr m t) 10 = true := (sh_t (Mb := Mb) m hm t ht).2
theorem kin_b (hm : m ∈ mks) (hb : b < 5) : kin Mb (kR Mb m 13) 16 (nI b) = true := kin_nI (mm_bs hm) (mm_bn hm) hb (by decide)
theorem kin_t (hm : m ∈ mks) (ht : t < 24) : kin Mb (kR Mb m 14) 17 (nI t) = true := kin_nI (mm_ts hm) (mm_tn hm) ht (by decide)
theorem kin_o (hm : m ∈ mks) (hb : b < 5) (hq : q < 13) : kin Mb (ow m b) 13 (nI q) = true := kin_nI (bb_ok hm hb) (bb_on hm hb) hq (by decide)
theorem nI_ltP {a b : Nat} (ha : a < 2147483648) (hb : b < 2147483648) : (nI a < nI b) = (a < b) := propext (nI_ltI ha hb)
theorem nI_lt0 {a : Nat} (ha : a < 2147483648) : (nI a < 0) = False := eq_false (nI_pos ha)
theorem ofN13 : Int32.ofNat 13 = nI 13 := rfl
theorem ofN5 : Int32.ofNat 5 = nI 5 := rfl
theorem ofN24 : Int32.ofNat 24 = nI 24 := rfl
theorem one0 : ¬ (1 : Int32) = 0 := by decide
theorem zero0 : (0 : Int32) = 0 := rfl
theorem cx_own (hm : m ∈ mks) (hb : b < 5) (hq : q < 13) : F_X0_ownerAt N (wm Mb I L) (bd m b) (pz q) = some (I (ow m b) q) := by
  unfold F_X0_ownerAt
  simp (disch := omega) only [wm_kR, wm_kt, wm_kn, wm_kin, wm_kL, wm_kI, wm_ksI, wm_ksL, wm_kJ, wm_ksJ, kg_t, kl_v, Option.bind_some, bb_r hm hb, bb_k hm hb, bb_o hm hb, bb_ok hm hb, bb_on hm hb, kin_o hm hb hq, pz_p6, nI_lt0, ofN13, nI_ltP, hq, if_true, if_false, kx_nI]
theorem cx_setOwn (hm : m ∈ mks) (hb : b < 5) (hq : q < 13) (v : Int32) : F_X0_setOwner N (wm Mb I L) (bd m b) (pz q) v = some (wm Mb (up I (ow m b) q v) L) := by
  unfold F_X0_setOwner
  simp (disch := omega) only [wm_kR, wm_kt, wm_kn, wm_kin, wm_kL, wm_kI, wm_ksI, wm_ksL, wm_kJ, wm_ksJ, kg_t, kl_v, Option.bind_some, bb_r hm hb, bb_k hm hb, bb_o hm hb, bb_ok hm hb, bb_on hm hb, kin_o hm hb hq, pz_p6, nI_lt0, ofN13, nI_ltP, hq, if_true, if_false, kx_nI]
theorem cx_hasSeat (hm : m ∈ mks) (hb : b < 5) {a : Nat} (ha : I (bd m b) 1 = nI a) (x : Int32) : F_X0_hasSeat N (wm Mb I L) (bd m b) x = some (if x ≠ 0 ∧ ¬ x < -nI a ∧ ¬ nI a < x then 1 else 0) := by
  unfold F_X0_hasSeat
  simp only [wm_kR, wm_kt, wm_kn, wm_kin, wm_kL, wm_kI, wm_ksI, wm_ksL, wm_kJ, wm_ksJ, kg_t, kl_v, Option.bind_some, bb_r hm hb, bb_k hm hb, bb_o hm hb, bb_ok hm hb, bb_on hm hb, ha]
  by_cases h1 : x = 0
  · simp [h1]
  by_cases h2 : x < -nI a
  · simp [h1, h2]
  by_cases h3 : nI a < x
  · simp [h1, h2, h3]
  simp [h1, h2, h3]
theorem pos_of {x : Int32} {a : Nat} (ha : a ≤ 6) (h1 : x ≠ 0) (h2 : ¬ x < -nI a) (h3 : ¬ nI a < x) : ∃ q, 6 - a ≤ q ∧ q ≤ 6 + a ∧ q ≠ 6 ∧ x = pz q := by
  have e1 : (-nI a).toInt = -(a : Int) := sb_negT (by omega)
  have e2 : (nI a).toInt = (a : Int) := nI_toInt (by omega)
  rw [Int32.lt_iff_toInt_lt, e1] at h2
  rw [Int32.lt_iff_toInt_lt, e2] at h3
  have hz : ∀ p, p < 13 → (pz p).toInt = (p : Int) - 6 := by decide
  refine ⟨(x.toInt + 6).toNat, by omega, by omega, ?_, ?_⟩
  · intro e
    apply h1
    rw [← Int32.toInt_inj]
    have : (0 : Int32).toInt = 0 := rfl
    omega
  · rw [← Int32.toInt_inj, hz _ (by omega)]
    omega
theorem pos_in {a : Nat} (ha : a ≤ 6) (h1 : 6 - a ≤ q) (h2 : q ≤ 6 + a) (h6 : q ≠ 6) : pz q ≠ 0 ∧ ¬ pz q < -nI a ∧ ¬ nI a < pz q := by
  refine ⟨pz_ne (by omega) h6, ?_, ?_⟩
  · rw [pz_na ha, pz_lt (by omega) (by omega)]; omega
  · rw [pz_a, pz_lt (by omega) (by omega)]; omega
theorem cx_tips (hm : m ∈ mks) (hb : b < 5) (h : I (bd m b) 3 = r (14 + 15 * b + 2)) (x : Int32) : F_X0_tipsUnder N (wm Mb I L) (bd m b) x = some (tmu r b x) := by
  unfold F_X0_tipsUnder tmu
  simp only [wm_kR, wm_kt, wm_kn, wm_kin, wm_kL, wm_kI, wm_ksI, wm_ksL, wm_kJ, wm_ksJ, kg_t, kl_v, Option.bind_some, bb_r hm hb, bb_k hm hb, bb_o hm hb, bb_ok hm hb, bb_on hm hb, h]
  split <;> rfl
theorem cx_tilt (hm : m ∈ mks) (hb : b < 5) {s : Nat} (h : I (bd m b) 2 = r (14 + 15 * b + 1)) (hs : r (14 + 15 * b + 1) = nI s) (h1 : 1 ≤ s) (h2 : s ≤ 99) (x : Int32) : F_X0_tiltUnder N (wm Mb I L) (bd m b) x = some (tl r b x) := by
  unfold F_X0_tiltUnder tl
  have e1 : (1 : Int32) = nI 1 := rfl
  simp only [wm_kR, wm_kt, wm_kn, wm_kin, wm_kL, wm_kI, wm_ksI, wm_ksL, wm_kJ, wm_ksJ, kg_t, kl_v, Option.bind_some, bb_r hm hb, bb_k hm hb, bb_o hm hb, bb_ok hm hb, bb_on hm hb, h, hs, e1]
  rw [if_neg (by rw [nI_ltI (by omega) (by omega)]; omega), kg_of _ (by have h4 := nI_ne0 (show 0 < s by omega) (show s < 2 ^ 31 by omega); simpa using h4)]
theorem RM.nu (h : RM I m r nb nt) : Nu I m := h.1
theorem RM.g (h : RM I m r nb nt) : RMg I m r := h.2.1
theorem RM.bb (h : RM I m r nb nt) : RMb I m r nb := h.2.2.1
theorem RM.tt (h : RM I m r nb nt) : RMt I m r nt := h.2.2.2.1
theorem RM.n (h : RM I m r nb nt) : RMn I m r nt := h.2.2.2.2.1
theorem RM.e (h : RM I m r nb nt) : RMe I m r := h.2.2.2.2.2
theorem RM.tc (h : RM I m r nb nt) : I m 12 = r 8 := h.2.1.2.2.2.2.2.2.2.2.2.2.2.2
theorem RM.bc (h : RM I m r nb nt) : I m 11 = r 7 := h.2.1.2.2.2.2.2.2.2.2.2.2.2.1
theorem RM.base (h : RM I m r nb nt) : I m 3 = r 1 := h.2.1.2.2.2.1
theorem RM.wp (h : RM I m r nb nt) : I m 4 = r 2 := h.2.1.2.2.2.2.1
theorem RM.wage (h : RM I m r nb nt) : I m 2 = r 0 := h.2.1.2.2.1
theorem cx_tqL (hm : m ∈ mks) (hb : b < 5) (h24 : nt ≤ 24) (hi : RM I m r nb nt) (h8 : r 8 = nI nt) : ∀ (k i n : Nat) (acc : Int32), i + k = nt → k < n → F_X4_torqueOn_4 N (wm Mb I L) n m (bd m b) acc (nI i) = some (acc + sumI (fun j => tqf r b (i + j)) k)
  | k, i, 0, acc, _, h => absurd h (Nat.not_lt_zero _)
  | 0, i, n + 1, acc, h1, h2 => by
    unfold F_X4_torqueOn_4
    simp (disch := omega) only [wm_kR, wm_kt, wm_kn, wm_kin, wm_kL, wm_kI, wm_ksI, wm_ksL, wm_kJ, wm_ksJ, kg_t, kl_v, Option.bind_some, mm_k hm, mm_bs hm, mm_bn hm, mm_ts hm, mm_tn hm, mm_e hm, mm_ek hm, hi.tc, h8, nI_ltP]
    rw [if_neg (by omega)]
    show some acc = some (acc + 0)
    rw [Int32.add_zero]
  | k + 1, i, n + 1, acc, h1, h2 => by
    have ht : i < 24 := by omega
    obtain ⟨e2, -, -, -, e6, e7⟩ := hi.tt i (by omega)
    unfold F_X4_torqueOn_4
    simp (disch := omega) only [wm_kR, wm_kt, wm_kn, wm_kin, wm_kL, wm_kI, wm_ksI, wm_ksL, wm_kJ, wm_ksJ, kg_t, kl_v, Option.bind_some, mm_k hm, mm_bs hm, mm_bn hm, mm_ts hm, mm_tn hm, mm_e hm, mm_ek hm, bb_r hm hb, bb_k hm hb, bb_o hm hb, bb_ok hm hb, bb_on hm hb, tt_r hm ht, tt_k hm ht, kin_t hm ht, hi.tc, h8, nI_ltP, kx_nI, e2, e6, e7, hi.nu.1 b hb]
    have ih := fun acc => cx_tqL hm hb h24 hi h8 k (i + 1) n acc (by omega) (by omega)
    have e9 : (fun j => tqf r b (i + (j + 1))) = (fun j => tqf r b (i + 1 + j)) := by funext j; congr 1; omega
    rw [if_pos (by omega), sumI_front, e9]
    have e10 : tqf r b (i + 0) = if r (89 + 7 * i + 5) = nI b then r (89 + 7 * i + 6) * r (89 + 7 * i + 1) else 0 := rfl
    rw [e10]
    by_cases h6 : r (89 + 7 * i + 5) = nI b
    · rw [if_pos h6, if_pos h6, nI_1, ih, Int32.add_assoc]
    · rw [if_neg h6, if_neg h6, nI_1, ih, Int32.zero_add]
theorem cx_tq (hm : m ∈ mks) (hb : b < 5) (hR : RI r nb nt) (hi : RM I m r nb nt) (hN : 100 < N) : F_X4_torqueOn N (wm Mb I L) m (bd m b) = some (tqr r nt b) := by
  have h24 := hR.nt24
  have h := cx_tqL (Mb := Mb) (N := N) (L := L) hm hb h24 hi hR.r8 nt 0 N 0 (by omega) (by omega)
  unfold F_X4_torqueOn
  rw [show (0 : Int32) = nI 0 from rfl] at h ⊢
  rw [h]
  rw [show nI 0 = 0 from rfl, Int32.zero_add]
  unfold tqr
  congr 2
  funext j
  rw [Nat.zero_add]
end
