variable {Mb : SMem}
def kcd (q : Nat) : Nat := if q = 1 then 343342 else if q = 2 then 2745 else if q = 3 then 12748485 else if q = 4 then 628108 else if q = 5 then 646192 else if q = 6 then 754917 else if q = 7 then 132915 else 609752116
def OG (I I' : kInts) : Prop := ∀ a x, ¬ (a = 540 ∧ (12 ≤ x ∧ x ≤ 17 ∨ 22 ≤ x ∧ x ≤ 25)) → a ≠ 549 → a ≠ 550 → I' a x = I a x
section
variable {N : Nat} {I I' : kInts} {L L' : kLngs} {n c i j k d q nb nt : Nat} {T : Nat → Nat} {σ : sg}
theorem OG.rf' : OG I I := fun _ _ _ _ _ => rfl
theorem OG.trans {I1 I2 : kInts} (h : OG I I1) (h2 : OG I1 I2) : OG I I2 := fun a x y1 y2 y3 => (h2 a x y1 y2 y3).trans (h a x y1 y2 y3)
theorem SG_og (h : SG I I') : OG I I' := fun a x y1 _ _ => h a x (by omega)
theorem OG.u {x : Nat} {v : Int32} (h : OG I I') (hx : 22 ≤ x ∧ x ≤ 25) : OG I (up I' 540 x v) := fun a y y1 y2 y3 => (up_ne (by omega)).trans (h a y y1 y2 y3)
theorem OG.o {b x : Nat} {v : Int32} (h : OG I I') (hb : b = 549 ∨ b = 550) : OG I (up I' b x v) := fun a y y1 y2 y3 => (up_ne (Or.inl (by omega))).trans (h a y y1 y2 y3)
theorem OG.s (h : OG I I') : I' 541 = I 541 := funext fun j => h _ _ (by omega) (by omega) (by omega)
theorem isW_w {w : Nat} (h : isW n T w j = true) : wv T (tS n T j) (tL n T j) = w := by
  unfold isW at h
  rw [Bool.and_eq_true, Bool.and_eq_true] at h
  exact of_decide_eq_true h.2.2
theorem kcd_w (h : ¬ kdW n T j = 0) : wv T (tS n T j) (tL n T j) = kcd (kdW n T j) := by
  unfold kdW at h ⊢
  by_cases c1 : isW n T 343342 j = true
  · simp only [c1, if_true]; exact isW_w c1
  by_cases c2 : isW n T 2745 j = true
  · simp only [c1, c2, if_true]; exact isW_w c2
  by_cases c3 : isW n T 12748485 j = true
  · simp only [c1, c2, c3, if_true]; exact isW_w c3
  by_cases c4 : isW n T 628108 j = true
  · simp only [c1, c2, c3, c4, if_true]; exact isW_w c4
  by_cases c5 : isW n T 646192 j = true
  · simp only [c1, c2, c3, c4, c5, if_true]; exact isW_w c5
  by_cases c6 : isW n T 754917 j = true
  · simp only [c1, c2, c3, c4, c5, c6, if_true]; exact isW_w c6
  by_cases c7 : isW n T 132915 j = true
  · simp only [c1, c2, c3, c4, c5, c6, c7, if_true]; exact isW_w c7
  by_cases c8 : isW n T 609752116 j = true
  · simp only [c1, c2, c3, c4, c5, c6, c7, c8, if_true]; exact isW_w c8
  simp only [c1, c2, c3, c4, c5, c6, c7, c8] at h
  exact absurd rfl h
end
