variable {Mb : SMem}
def US (I : kInts) (S : List Nat) : Prop := S.length ≤ 40 ∧ I 10 5 = nI S.length ∧ ∀ i, i < S.length → I 13 i = nI (S.getD i 0)
def UF (I I' : kInts) : Prop := ∀ a x, a ≠ 13 → ¬ (a = 10 ∧ x = 5) → I' a x = I a x
def fsT (F : List (Nat × Nat)) : List Nat := F.map Prod.fst
section
variable {N : Nat} {I I' J : kInts} {L L' : kLngs} {n c i j k d q nb nt : Nat} {T : Nat → Nat}
theorem UF.rf' : UF I I := fun _ _ _ _ => rfl
theorem UF.trans {I1 I2 : kInts} (h : UF I I1) (h2 : UF I1 I2) : UF I I2 := fun a x y1 y2 => (h2 a x y1 y2).trans (h a x y1 y2)
theorem take40 (l m : List Nat) : (l.take 40 ++ m).take 40 = (l ++ m).take 40 := by
  by_cases h : l.length ≤ 40
  · rw [List.take_of_length_le h]
  · have e : (l.take 40).length = 40 := by rw [List.length_take]; omega
    rw [List.take_append_of_le_length (by omega), List.take_append_of_le_length (by omega), List.take_take, Nat.min_self]
theorem take40_full (l m : List Nat) (h : l.length = 40) : (l ++ m).take 40 = l := by
  rw [List.take_append_of_le_length (by omega), List.take_of_length_le (by omega)]
theorem take40_le (l : List Nat) : (l.take 40).length ≤ 40 := by rw [List.length_take]; omega
theorem US_push {S : List Nat} (h : US I S) (hl : S.length < 40) : US (up (up I 13 S.length (nI k)) 10 5 (nI (S.length + 1))) (S ++ [k]) := by
  refine ⟨by rw [List.length_append]; exact hl, by rw [List.length_append]; exact up_eq, fun i hi => ?_⟩
  rw [List.length_append] at hi
  have hi' : i < S.length + 1 := hi
  rw [up_ne (by omega)]
  by_cases e : i = S.length
  · subst e
    rw [up_eq]
    congr 1
    rw [List.getD_eq_getElem?_getD, List.getElem?_append_right (Nat.le_refl _), Nat.sub_self]
    rfl
  · rw [up_ne (by omega), h.2.2 i (by omega)]
    congr 1
    rw [List.getD_eq_getElem?_getD, List.getD_eq_getElem?_getD, List.getElem?_append_left (by omega)]
theorem US.uf {S : List Nat} (h : US I S) (e1 : ∀ x, I' 13 x = I 13 x) (e2 : I' 10 5 = I 10 5) : US I' S := ⟨h.1, e2.trans h.2.1, fun i hi => (e1 i).trans (h.2.2 i hi)⟩
theorem nI_lt40 {a : Nat} (h : a < 2147483648) : (nI a < 40) = (a < 40) := nI_ltP (b := 40) h (by decide)
theorem cN_rep (h : hdO n T d j) (h8 : kdW n T j = 8) : cN n T 1 21 (j + 1) = 0 ∧ isG n T 40 (j + 2) = true ∧ d < 2 ∧ nxT n T j = j + 3 := by
  have h2 := h.2
  have e : lsT n T (kdW n T j) ++ [endC n T (kdW n T j) d] = [cN n T 1 21, cBr n T d] := by
    rw [h8]
    rfl
  rw [e] at h2
  obtain ⟨o1, ok2, -⟩ := wlk_ok h2
  obtain ⟨o2, -, -⟩ := wlk_ok ok2
  have o2' : cBr n T d (j + 2) = 0 := o2
  unfold cBr at o2'
  refine ⟨o1, ?_, ?_, by unfold nxT; rw [h8]; rfl⟩
  · by_cases z : isG n T 40 (j + 2) = true
    · exact z
    · rw [if_neg z] at o2'; cases o2'
  · by_cases z : isG n T 40 (j + 2) = true
    · rw [if_pos z] at o2'
      by_cases y : d < 2
      · exact y
      · rw [if_neg y] at o2'; cases o2'
    · rw [if_neg z] at o2'; cases o2'
end
