variable {Mb : SMem}
abbrev oT : Type := Nat × (Nat → Int32)
def adO (p : oT) (v : Int32) : oT := (p.1 + 1, fun j => if j = p.1 then v else p.2 j)
def adN (f : Nat → Nat) : Nat → Nat → oT → oT
  | 0, _, p => p
  | k + 1, i, p => adN f k (i + 1) (adO p (nI (96 + f i)))
def OC (I : kInts) (p : oT) : Prop := I 4 1 = nI p.1 ∧ ∀ j, j < p.1 → I 5 j = p.2 j
def OR (I : kInts) (p : oT) : Prop := I 540 29 = nI p.1 ∧ ∀ j, j < p.1 → I 551 j = p.2 j
def CO (I I' : kInts) : Prop := ∀ a j, ¬ (a = 4 ∧ j = 1) → a ≠ 5 → I' a j = I a j
def RO (I I' : kInts) : Prop := ∀ a j, ¬ (a = 540 ∧ j = 29) → a ≠ 551 → I' a j = I a j
section
variable {N : Nat} {I : kInts} {L : kLngs} {r s f : Nat → Int32} {nb nt m : Nat} {p : oT}
theorem CO.trans {I1 I2 : kInts} (h : CO I I1) (h2 : CO I1 I2) : CO I I2 := fun a j x1 x2 => (h2 a j x1 x2).trans (h a j x1 x2)
theorem RO.trans {I1 I2 : kInts} (h : RO I I1) (h2 : RO I1 I2) : RO I I2 := fun a j x1 x2 => (h2 a j x1 x2).trans (h a j x1 x2)
theorem s5o : kt Mb 5 13 = true ∧ kn Mb 5 = 800 := sh_a.1 5 (by decide)
theorem cx_put (h : OC I p) (hp : p.1 < 200) (v : Int32) : ∃ I', F_X8_add N (wm Mb I L) 4 v = some (wm Mb I' L) ∧ OC I' (adO p v) ∧ CO I I' := by
  have e1 : I 4 1 = nI p.1 := h.1
  have ea : nI p.1 + 1 = nI (p.1 + 1) := by rw [nI_succ]
  have e2 : ∀ v, up I 5 p.1 v 4 1 = nI p.1 := fun v => (up_ne (by omega)).trans e1
  refine ⟨up (up I 5 p.1 v) 4 1 (nI (p.1 + 1)), ?_, ⟨up_eq, fun j hj => ?_⟩, fun a j x1 x2 => (up_ne (by omega)).trans (up_ne (by omega))⟩
  · unfold F_X8_add
    simp (disch := omega) only [wm_kR, wm_kt, wm_kn, wm_kin, wm_kL, wm_kI, wm_ksI, wm_ksL, wm_kJ, wm_ksJ, kg_t, kl_v, Option.bind_some, s4.1, s4.2, s5o.1, s5o.2, ofNnI, e1, nI_lt0, if_false, nI_ltP, kin_nI s5o.1 s5o.2 (show p.1 < 800 by omega) (by decide), kx_nI, e2, ea]
    rw [if_pos (by omega)]
  · show up (up I 5 p.1 v) 4 1 (nI (p.1 + 1)) 5 j = if j = p.1 then v else p.2 j
    have hj' : j < p.1 + 1 := hj
    rw [up_ne (by omega)]
    by_cases d : j = p.1
    · rw [if_pos d, d, up_eq]
    · rw [if_neg d, up_ne (by omega)]
      exact h.2 j (by omega)
theorem adN_n (f : Nat → Nat) (k : Nat) : ∀ (i : Nat) (p : oT), (adN f k i p).1 = p.1 + k := by
  induction k with
  | zero => intro i p; rfl
  | succ k ih =>
    intro i p
    show (adN f k (i + 1) (adO p (nI (96 + f i)))).1 = _
    rw [ih]
    show p.1 + 1 + k = p.1 + (k + 1)
    omega
end
