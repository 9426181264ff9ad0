/-! writeBoard: the output, both sides -/
abbrev oT : Type := Nat × (Nat → Int32)
def adO (p : oT) (v : Int32) : oT := (p.1 + 1, fun j => if j = p.1 then v else p.2 j)
def adN (f : Nat → Nat) : Nat → Nat → oT → oT
  | 0, _, p => p
  | k + 1, i, p => adN f k (i + 1) (adO p (nI (96 + f i)))
def OC (I : kInts) (p : oT) : Prop := I 4 1 = nI p.1 ∧ ∀ j, j < p.1 → I 5 j = p.2 j
def OR (I : kInts) (p : oT) : Prop := I 540 29 = nI p.1 ∧ ∀ j, j < p.1 → I 551 j = p.2 j
def CO (I I' : kInts) : Prop := ∀ a j, ¬ (a = 4 ∧ j = 1) → a ≠ 5 → I' a j = I a j
def RO (I I' : kInts) : Prop := ∀ a j, ¬ (a = 540 ∧ j = 29) → a ≠ 551 → I' a j = I a j
section
variable {N : Nat} {I : kInts} {L : kLngs} {r s f : Nat → Int32} {nb nt m : Nat} {p : oT}
theorem CO.trans {I1 I2 : kInts} (h : CO I I1) (h2 : CO I1 I2) : CO I I2 := fun a j x1 x2 => (h2 a j x1 x2).trans (h a j x1 x2)
theorem RO.trans {I1 I2 : kInts} (h : RO I I1) (h2 : RO I1 I2) : RO I I2 := fun a j x1 x2 => (h2 a j x1 x2).trans (h a j x1 x2)
theorem s5o : kt Mb 5 13 = true ∧ kn Mb 5 = 800 := sh_a.1 5 (by decide)
theorem s52o : kt Mb 551 13 = true ∧ kn Mb 551 = 200 := kt_of 551 (by decide)
theorem cx_put (h : OC I p) (hp : p.1 < 200) (v : Int32) : ∃ I', F_X8_add N (wm Mb I L) 4 v = some (wm Mb I' L) ∧ OC I' (adO p v) ∧ CO I I' := by
  have e1 : I 4 1 = nI p.1 := h.1
  have ea : nI p.1 + 1 = nI (p.1 + 1) := by rw [nI_succ]
  have e2 : ∀ v, up I 5 p.1 v 4 1 = nI p.1 := fun v => (up_ne (by omega)).trans e1
  refine ⟨up (up I 5 p.1 v) 4 1 (nI (p.1 + 1)), ?_, ⟨up_eq, fun j hj => ?_⟩, fun a j x1 x2 => (up_ne (by omega)).trans (up_ne (by omega))⟩
  · unfold F_X8_add
    simp (disch := omega) only [wm_kR, wm_kt, wm_kn, wm_kin, wm_kL, wm_kI, wm_ksI, wm_ksL, wm_kJ, wm_ksJ, kg_t, kl_v, Option.bind_some, s4.1, s4.2, s5o.1, s5o.2, ofNnI, e1, nI_lt0, if_false, nI_ltP, kin_nI s5o.1 s5o.2 (show p.1 < 800 by omega) (by decide), kx_nI, e2, ea]
    rw [if_pos (by omega)]
  · show up (up I 5 p.1 v) 4 1 (nI (p.1 + 1)) 5 j = if j = p.1 then v else p.2 j
    have hj' : j < p.1 + 1 := hj
    rw [up_ne (by omega)]
    by_cases d : j = p.1
    · rw [if_pos d, d, up_eq]
    · rw [if_neg d, up_ne (by omega)]
      exact h.2 j (by omega)
theorem rx_put (h : OR I p) (hp : p.1 < 200) (v : Int32) : ∃ I', F_X12_writes N (wm Mb I L) 540 v = some (wm Mb I' L) ∧ OR I' (adO p v) ∧ RO I I' := by
  have e1 : I 540 29 = nI p.1 := h.1
  have ea : nI p.1 + 1 = nI (p.1 + 1) := by rw [nI_succ]
  have e2 : ∀ v, up I 551 p.1 v 540 29 = nI p.1 := fun v => (up_ne (by omega)).trans e1
  refine ⟨up (up I 551 p.1 v) 540 29 (nI (p.1 + 1)), ?_, ⟨up_eq, fun j hj => ?_⟩, fun a j x1 x2 => (up_ne (by omega)).trans (up_ne (by omega))⟩
  · unfold F_X12_writes
    simp (disch := omega) only [wm_kR, wm_kt, wm_kn, wm_kin, wm_kL, wm_kI, wm_ksI, wm_ksL, wm_kJ, wm_ksJ, kg_t, kl_v, Option.bind_some, sr_k, sr_0, sr_1, sr_2, sr_3, sr_4, sr_7, sr_8, sr_9, sr_26, sr_27, sr_28, e1, kin_nI s52o.1 s52o.2 hp (by decide), kx_nI, e2, ea]
  · show up (up I 551 p.1 v) 540 29 (nI (p.1 + 1)) 551 j = if j = p.1 then v else p.2 j
    have hj' : j < p.1 + 1 := hj
    rw [up_ne (by omega)]
    by_cases d : j = p.1
    · rw [if_pos d, d, up_eq]
    · rw [if_neg d, up_ne (by omega)]
      exact h.2 j (by omega)
theorem adN_n (f : Nat → Nat) (k : Nat) : ∀ (i : Nat) (p : oT), (adN f k i p).1 = p.1 + k := by
  induction k with
  | zero => intro i p; rfl
  | succ k ih =>
    intro i p
    show (adN f k (i + 1) (adO p (nI (96 + f i)))).1 = _
    rw [ih]
    show p.1 + 1 + k = p.1 + (k + 1)
    omega
theorem cx_name {n : Nat} {f : Nat → Nat} (h6 : n ≤ 6) (hf : ∀ j, j < n → 1 ≤ f j ∧ f j ≤ 26) (k : Nat) : ∀ (i w : Nat) (I : kInts) (p : oT), OC I p → p.1 + k ≤ 200 → i + k = n → k < w → ∃ I', F_X8_addName_2 N w (wm Mb I L) 4 (lN (pkN f n 0)) (nI i) = some (wm Mb I' L) ∧ OC I' (adN f k i p) ∧ CO I I' := by
  induction k with
  | zero =>
    intro i w I p hp hl e hw
    obtain ⟨w, rfl⟩ : ∃ v, w = v + 1 := ⟨w - 1, by omega⟩
    refine ⟨I, ?_, hp, fun _ _ _ _ => rfl⟩
    unfold F_X8_addName_2
    by_cases c : i < 6
    · rw [if_pos (show nI i < 6 from nI_lt (b := 6) c (by decide)), cx_letterOf _ h6 hf, if_pos (Or.inr (nI_le (by omega) (by omega))), Option.bind_some, if_pos rfl]
    · rw [if_neg (show ¬ nI i < 6 from nI_nlt (a := i) (b := 6) (by omega) (by omega))]
  | succ k ih =>
    intro i w I p hp hl e hw
    obtain ⟨w, rfl⟩ : ∃ v, w = v + 1 := ⟨w - 1, by omega⟩
    obtain ⟨I1, a1, a2, a3⟩ := cx_put (N := N) (L := L) hp (by omega) (nI (96 + f i))
    obtain ⟨I2, b1, b2, b3⟩ := ih (i + 1) w I1 (adO p (nI (96 + f i))) a2 (by show p.1 + 1 + k ≤ 200; omega) (by omega) (by omega)
    refine ⟨I2, ?_, b2, a3.trans b3⟩
    have hb := hf i (by omega)
    have hno : ¬ (nI i < 0 ∨ nI n ≤ nI i) := by
      rintro (z | z)
      · exact nI_pos (by omega) z
      · rw [nI_leI (by omega) (by omega)] at z; omega
    unfold F_X8_addName_2
    rw [if_pos (show nI i < 6 from nI_lt (b := 6) (by omega) (by decide)), cx_letterOf _ h6 hf, if_neg hno, kx_nI (by omega), Option.bind_some, if_neg (nI_ne1 (by omega)), Option.bind_some]
    simp only [wm_kR, wm_kt, wm_kn, wm_kin, wm_kL, wm_kI, wm_ksI, wm_ksL, wm_kJ, wm_ksJ, kg_t, kl_v, Option.bind_some, s4.1, a1, nI_1]
    exact b1
end
