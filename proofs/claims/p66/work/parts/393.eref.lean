variable {Mb : SMem}
section
variable {N : Nat} {I : kInts} {L : kLngs} {n c i j k nb nt : Nat} {T : Nat → Nat} {σ : sg}
theorem RS_16 (h : RS I L n T σ) : (I 540 16 = 0) = (okS σ = true) := by
  cases σ with
  | inl j => exact propext ⟨fun _ => rfl, fun _ => RS_ok h⟩
  | inr x => exact propext ⟨fun z => absurd z (RS_err h), fun z => by cases z⟩
theorem isM_1 (h : isM n T j = true) : tK n T j = 1 := by
  unfold isM at h
  rw [Bool.and_eq_true] at h
  exact of_decide_eq_true h.1
theorem rx_lw {i : Nat} (h : RS I L n T (.inl i)) (hm : tK n T i = 1) : (L 540 20).toInt32 = nmc n T i := by
  have := h.2.1.2.2.2.2 hm
  rw [this, lN_i32]
  rfl
theorem SG_21 {I' : kInts} (h : SG I I') {x : Nat} (hx : 18 ≤ x) : I' 540 x = I 540 x := h _ _ (by omega)
end
