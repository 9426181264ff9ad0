variable {Mb : SMem}
section
variable {N : Nat} {I : kInts} {L : kLngs} {n c : Nat} {T : Nat → Nat} {σ : sg} {r s : Nat → Int32} {nb nt : Nat}
theorem RS_u {j : Nat} {v : Int32} (h : RS I L n T σ) : RS (up I 541 j v) L n T σ := h.sg (fun a k ha => up_ne (Or.inl (by omega))) rfl
def E2 (K : kInts) (X : Nat → Int32) : Prop := ∀ j, K 541 j = X j
theorem E2.st {K K' : kInts} {X : Nat → Int32} (h : E2 K X) (e : SG K K') : E2 K' X := fun j => (e _ _ (by omega)).trans (h j)
theorem E2.u {K : kInts} {X : Nat → Int32} {j : Nat} {v : Int32} (h : E2 K X) : E2 (up K 541 j v) (setr X j v) := by
  intro k
  by_cases z : k = j
  · rw [z, up_eq, setr_eq]
  · rw [up_ne (Or.inr z), setr_ne z]; exact h k
theorem RFr_u {K K' : kInts} {j : Nat} {v : Int32} (h : RFr K K') : RFr K (up K' 541 j v) := fun a k x1 x2 => (up_ne (Or.inl x2)).trans (h a k x1 x2)
end
