variable {Mb : SMem}
def gdN (n : Nat) : Prop := ∃ s E T : Nat, n = (s * 2048 + E) * 4503599627370496 + T ∧ s ≤ 1 ∧ T < 4503599627370496 ∧ (E ≤ 2046 ∨ E = 2047 ∧ T = 0)
theorem b64_t : FP.Core.b64.tails = 4503599627370496 := by decide
theorem b64_e : FP.Core.b64.exps = 2048 := by decide
theorem b64_p : 2 ^ FP.Core.b64.p = 9007199254740992 := by decide
theorem b64_q : FP.Core.b64.qmin = -1074 := by decide
theorem b64_x : FP.Core.b64.qmax = 971 := by decide
theorem toNat_le (s : Bool) : s.toNat ≤ 1 := by cases s <;> decide
theorem gd_inf (s : Bool) : gdN (FP.Core.encode FP.Core.b64 (.inf s)) := by
  refine ⟨s.toNat, 2047, 0, ?_, toNat_le s, by decide, Or.inr ⟨rfl, rfl⟩⟩
  show FP.Core.assemble FP.Core.b64 s (FP.Core.b64.exps - 1) 0 = _
  unfold FP.Core.assemble
  rw [b64_e, b64_t]
theorem gd_fin (s : Bool) (c : Nat) (q : Int) (hc : c < 9007199254740992) (hq : q ≤ 971) : gdN (FP.Core.encode FP.Core.b64 (.fin s c q)) := by
  unfold FP.Core.encode FP.Core.assemble
  simp only [b64_e, b64_t, b64_q]
  by_cases h : c < 4503599627370496
  · rw [if_pos h]
    exact ⟨s.toNat, 0, c, rfl, toNat_le s, h, Or.inl (by decide)⟩
  · rw [if_neg h]
    exact ⟨s.toNat, (q - -1074).toNat + 1, c - 4503599627370496, rfl, toNat_le s, by omega, Or.inl (by omega)⟩
theorem gd_round (s : Bool) (num den : Nat) (e : Int) : gdN (FP.Core.encode FP.Core.b64 (FP.Core.roundRatio FP.Core.b64 s num den e)) := by
  unfold FP.Core.roundRatio
  by_cases h : num = 0
  · rw [if_pos h]
    exact gd_fin s 0 _ (by decide) (by rw [b64_q]; decide)
  · rw [if_neg h]
    unfold FP.Core.roundAt FP.Core.settle FP.Core.bound
    rw [b64_p, b64_x]
    split
    · rename_i hc
      split
      · rename_i hq
        exact gd_fin s _ _ hc hq
      · exact gd_inf s
    · split
      · rename_i hq
        exact gd_fin s _ _ (by rw [b64_t]; decide) hq
      · exact gd_inf s
theorem gd_lt {n : Nat} (h : gdN n) : n < 18446744073709551616 := by
  obtain ⟨s, E, T, e, h1, h2, h3⟩ := h
  omega
theorem gd_dec {n : Nat} (h : gdN n) : FP.Core.decode FP.Core.b64 n ≠ .nan := by
  obtain ⟨s, E, T, e, h1, h2, h3⟩ := h
  have eE : FP.Core.fieldE FP.Core.b64 n = E := by
    unfold FP.Core.fieldE
    rw [b64_t, b64_e]
    omega
  have eT : FP.Core.fieldT FP.Core.b64 n = T := by
    unfold FP.Core.fieldT
    rw [b64_t]
    omega
  unfold FP.Core.decode
  rw [eE, eT, b64_e]
  by_cases c : E = 2048 - 1
  · rw [if_pos c, if_pos (by omega)]
    intro z
    cases z
  · rw [if_neg c]
    by_cases d : E = 0
    · rw [if_pos d]; intro z; cases z
    · rw [if_neg d]; intro z; cases z
theorem gd_quo {x : FP.Core.Datum} {t : Bool} {d : Nat} {r : Int} (hx : x ≠ .nan) (hd : d ≠ 0) : gdN (FP.Core.encode FP.Core.b64 (FP.Core.quotient FP.Core.b64 x (.fin t d r))) := by
  cases x with
  | nan => exact absurd rfl hx
  | inf s => exact gd_inf _
  | fin s c q =>
    show gdN (FP.Core.encode FP.Core.b64 (if d = 0 then (if c = 0 then .nan else .inf (s != t)) else FP.Core.roundRatio FP.Core.b64 (s != t) c d (q - r)))
    rw [if_neg hd]
    exact gd_round _ _ _ _
theorem gd_mask {n : Nat} (h : gdN n) : decide (UInt64.ofNat n &&& 0x7fffffffffffffff ≤ 0x7ff0000000000000) = true := by
  have hl := gd_lt h
  obtain ⟨s, E, T, e, h1, h2, h3⟩ := h
  rw [decide_eq_true_eq, UInt64.le_iff_toNat_le, UInt64.toNat_and]
  have e1 : (UInt64.ofNat n).toNat = n := by
    rw [UInt64.toNat_ofNat']
    omega
  have e2 : (0x7fffffffffffffff : UInt64).toNat = 2 ^ 63 - 1 := by decide
  have e3 : (0x7ff0000000000000 : UInt64).toNat = 9218868437227405312 := by decide
  rw [e1, e2, e3, Nat.and_two_pow_sub_one_eq_mod]
  omega
theorem gd_i2d (a : Int32) : gdN (FP.Core.i2d a).toNat := by
  have h : gdN (FP.Core.fromInt FP.Core.b64 a.toInt) := gd_round _ _ _ _
  have hl := gd_lt h
  unfold FP.Core.i2d
  rw [UInt64.toNat_ofNat', Nat.mod_eq_of_lt hl]
  exact h
def finD : FP.Core.Datum → Bool
  | .fin _ d _ => decide (d ≠ 0)
  | .inf _ => false
  | .nan => false
theorem den_ok : ∀ p, p < 25 → p ≠ 0 → finD (FP.Core.decode FP.Core.b64 (FP.Core.i2d (nI p)).toNat) = true := by decide +kernel
theorem dq_ok (a : Int32) {p : Nat} (hp : p < 25) (h0 : p ≠ 0) : decide (FP.ddiv (FP.i2d a) (FP.i2d (nI p)) &&& 0x7fffffffffffffff ≤ 0x7ff0000000000000) = true := by
  show decide (FP.Core.ddiv (FP.Core.i2d a) (FP.Core.i2d (nI p)) &&& 0x7fffffffffffffff ≤ 0x7ff0000000000000) = true
  unfold FP.Core.ddiv FP.Core.div
  apply gd_mask
  have hd := den_ok p hp h0
  cases hz : FP.Core.decode FP.Core.b64 (FP.Core.i2d (nI p)).toNat with
  | nan => rw [hz] at hd; cases hd
  | inf s => rw [hz] at hd; cases hd
  | fin t d r =>
    rw [hz] at hd
    exact gd_quo (gd_dec (gd_i2d a)) (of_decide_eq_true hd)
def avC (r : Nat → Int32) : Nat → Nat → Nat → Nat
  | 0, _, x => x
  | k + 1, i, x => avC r k (i + 1) (if r (89 + 7 * i + 4) = 0 then x else x + 1)
def avP (r : Nat → Int32) : Nat → Nat → Int32 → Int32
  | 0, _, x => x
  | k + 1, i, x => avP r k (i + 1) (x + r (89 + 7 * i + 2))
def avV (C : Nat) (P : Int32) : UInt64 := if C = 0 then FP.dconst0 else FP.ddiv (FP.i2d P) (FP.i2d (nI C))
section
variable {N : Nat} {I : kInts} {L : kLngs} {r s f : Nat → Int32} {nb nt m : Nat}
theorem avC_le (k : Nat) : ∀ i x, avC r k i x ≤ x + k := by
  induction k with
  | zero => intro i x; exact Nat.le_refl _
  | succ k ih =>
    intro i x
    have h := ih (i + 1) (if r (89 + 7 * i + 4) = 0 then x else x + 1)
    show avC r k (i + 1) (if r (89 + 7 * i + 4) = 0 then x else x + 1) ≤ _
    split at h <;> rename_i c <;> simp only [c, if_true, if_false] <;> omega
theorem cx_avP (hm : m ∈ mks) (hR : RI r nb nt) (hM : RM I m r nb nt) (k : Nat) : ∀ (i w : Nat) (x : Int32), i + k = nt → k < w → F_X4_coinsInPurses_4 N (wm Mb I L) w m x (nI i) = some (avP r k i x) := by
  have h24 := hR.nt24
  induction k with
  | zero =>
    intro i w x e hw
    obtain ⟨w, rfl⟩ : ∃ v, w = v + 1 := ⟨w - 1, by omega⟩
    unfold F_X4_coinsInPurses_4
    simp (disch := omega) only [wm_kR, wm_kt, wm_kn, wm_kin, wm_kL, wm_kI, wm_ksI, wm_ksL, wm_kJ, wm_ksJ, kg_t, kl_v, Option.bind_some, mm_k hm, hM.tc, hR.r8, nI_ltP]
    rw [if_neg (by omega)]
    rfl
  | succ k ih =>
    intro i w x e hw
    obtain ⟨w, rfl⟩ : ∃ v, w = v + 1 := ⟨w - 1, by omega⟩
    have hi : i < 24 := by omega
    have h1 := ih (i + 1) w (x + r (89 + 7 * i + 2)) (by omega) (by omega)
    unfold F_X4_coinsInPurses_4
    simp (disch := omega) only [wm_kR, wm_kt, wm_kn, wm_kin, wm_kL, wm_kI, wm_ksI, wm_ksL, wm_kJ, wm_ksJ, kg_t, kl_v, Option.bind_some, mm_k hm, hM.tc, hR.r8, nI_ltP, kin_t hm hi, kx_nI, tt_r hm hi, tt_k hm hi, (hM.tt i (show i < nt by omega)).2.1, nI_1]
    rw [if_pos (by omega)]
    exact h1
end
