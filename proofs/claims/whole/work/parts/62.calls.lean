/-! what all calls share -/
def SameI (fc : kMem → Option Int32) (fr : kMem → Option (Int32 × kMem)) (I : kInts) : Prop := ∀ L, ∃ v, fc (wm Mb I L) = some v ∧ ∀ L', ∃ I2 L2, fr (wm Mb I L') = some (v, wm Mb I2 L2) ∧ Rel I2 ∧ LF L' L2
def SameX (lst : List (Nat × Nat)) (fc : kMem → Option ((Int32 ⊕ Nat) × kMem)) (fr : kMem → Option (Int32 × kMem)) (I : kInts) : Prop := ∀ L, ∃ o I1, fc (wm Mb I L) = some (o, wm Mb I1 L) ∧ ∀ L', ∃ v I2 L2, fr (wm Mb I1 L') = some (v, wm Mb I2 L2) ∧ Rel I2 ∧ LF L' L2 ∧ (o = .inl v ∧ I2 540 6 = 0 ∨ ∃ c k, o = .inr c ∧ (c, k) ∈ lst ∧ I2 540 6 = nI k)
/-- the reference's memory with what it tells of a refusal -/
def tw6 (I : kInts) (v : Int32) : kInts := up I 540 6 v
section
variable {N : Nat} {I : kInts} {L : kLngs} {r s f : Nat → Int32} {nb nt : Nat}
theorem tw_6 {v : Int32} : tw6 I v 540 6 = v := up_eq
theorem tw_tw {v w : Int32} : up (tw6 I v) 540 6 w = tw6 I w := by
  funext a j
  unfold tw6
  by_cases z : a = 540 ∧ j = 6
  · rw [z.1, z.2, up_eq, up_eq]
  · rw [up_ne (by omega), up_ne (by omega), up_ne (by omega)]
theorem tw_o {v : Int32} {a j : Nat} (h : a ≠ 540 ∨ j ≠ 6) : tw6 I v a j = I a j := up_ne h
theorem tw_rf {v : Int32} : rf (tw6 I v) (I 541) (I 546) = tw6 I v := by
  have h := @rf_self (tw6 I v)
  have e1 : tw6 I v 541 = I 541 := funext fun j => tw_o (Or.inl (by decide))
  have e2 : tw6 I v 546 = I 546 := funext fun j => tw_o (Or.inl (by decide))
  rw [e1, e2] at h
  exact h
theorem Rel.tw {v : Int32} (h : Rel I) : Rel (tw6 I v) := by
  obtain ⟨hT, hE, hM, hNu, hH, hSl, hOu, hNm⟩ := h
  refine ⟨hT.kp (fun x j y => tw_o (by omega)), ⟨?_, ?_⟩, hM.kp (fun x j y1 y2 => tw_o (by omega)) (fun k hk => tw_o (by omega)), fun m hm => (hNu m hm).kp (fun x j y1 y2 => tw_o (by have := mks_sep hm; omega)), hH.kp (fun x j y => tw_o (by omega)), hSl.kp (fun x j y => tw_o (by omega)), hOu.kp (fun x j y => tw_o (by omega)), hNm.kp (fun x j y => tw_o (by omega))⟩
  · rw [tw_o (by omega), tw_o (by omega)]; exact hE.1
  · rw [tw_o (by omega), tw_o (by omega)]; exact hE.2
theorem rx_stopT {e x : Int32} (he : ¬ e = 0) (hx : ¬ x = 0) : F_X12_stops N (wm Mb (tw6 I 0) L) 540 x e = some (1, wm Mb (tw6 I e) L) := by
  unfold F_X12_stops
  simp only [wm_kR, wm_kt, wm_kn, wm_kin, wm_kL, wm_kI, wm_ksI, wm_ksL, wm_kJ, wm_ksJ, kg_t, kl_v, Option.bind_some, sr_k, sr_0, sr_1, sr_2, sr_3, sr_4, sr_7, sr_8, sr_9, sr_26, sr_27, sr_28, tw_6, if_true, hx, if_false, tw_tw, he]
theorem rx_stopF {e : Int32} : F_X12_stops N (wm Mb (tw6 I 0) L) 540 0 e = some (0, wm Mb (tw6 I 0) L) := by
  unfold F_X12_stops
  simp only [wm_kR, wm_kt, wm_kn, wm_kin, wm_kL, wm_kI, wm_ksI, wm_ksL, wm_kJ, wm_ksJ, kg_t, kl_v, Option.bind_some, sr_k, sr_0, sr_1, sr_2, sr_3, sr_4, sr_7, sr_8, sr_9, sr_26, sr_27, sr_28, tw_6, if_true]
theorem nn_of {x : Int32} (h : ¬ x < 0) : nn x := by
  have h1 : ¬ x.toInt < 0 := fun z => h (Int32.lt_iff_toInt_lt.mpr z)
  have h3 : x.toInt < 2147483648 := by have := Int32.toInt_lt x; exact this
  have h4 : kx x = x.toInt.toNat := rfl
  unfold nn
  apply Int32.toInt_inj.mp
  rw [h4, nI_toInt (by omega)]
  omega
theorem num_cases (x : Int32) {n : Nat} (hn : n < 1000) : (∃ t, t < n ∧ x = nI t) ∨ (x < 0 ∨ nI n ≤ x) := by
  by_cases h0 : x < 0
  · exact Or.inr (Or.inl h0)
  · by_cases h1 : nI n ≤ x
    · exact Or.inr (Or.inr h1)
    · left
      have h2 : x = nI (kx x) := by
        have := nn_of (x := x) h0
        exact this
      refine ⟨kx x, ?_, h2⟩
      have h3 : x < nI n := Int32.not_le.mp h1
      rw [h2] at h3
      exact (nI_ltI nn_lt (by omega)).mp h3
theorem in0 (M : kMem) (x : Int32) {n : Nat} (hn : n < 1000) : F_X12_in N M x.toInt64 0 ((nI n - 1).toInt64) = some (if x < 0 ∨ nI n ≤ x then 0 else 1) := by
  have h := in_ok (N := N) M x 0 (nI n - 1)
  rw [show (0 : Int32).toInt64 = 0 from rfl] at h
  rw [h]
  by_cases c1 : x < 0
  · simp [c1]
  · have e : (nI n - 1 < x) = (nI n ≤ x) := by
      apply propext
      have h0 := nI_0le (a := n) (by omega)
      have hn2 : nI n < nI 1000 := (nI_ltI (by omega) (by omega)).mpr hn
      have : nI 1000 = 1000 := rfl
      rw [this] at hn2
      constructor <;> intro z <;> grind
    simp only [c1, if_false, e, false_or]
end
