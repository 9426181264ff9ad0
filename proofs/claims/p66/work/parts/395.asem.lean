variable {Mb : SMem}
def VL (I : kInts) (n : Nat) (T : Nat → Nat) (F : List (Nat × Nat)) : Prop := ∀ e, e ∈ F → HDK I n T e.1 e.2 ∧ ¬ kdW n T e.2 = 8 ∧ ∃ d, hdO n T d e.2
section
variable {N : Nat} {I I' J : kInts} {L L' : kLngs} {n c i j k d q nb nt : Nat} {T : Nat → Nat} {r : Nat → Int32} {p : (Nat → Int32) × Nat}
theorem Sq_vl : ∀ (z d k j k' j' : Nat) (F : List (Nat × Nat)), Sq I n T z d k j k' j' F → VL I n T F := by
  intro z
  induction z with
  | zero =>
    intro d k j k' j' F h e he
    rw [h.2.2] at he
    cases he
  | succ z ih =>
    intro d k j k' j' F h e he
    rcases h with h | ⟨F', h1, h2, h3, h4, h5⟩ | ⟨k1, j1, Fb, F', h1, h2, h3, h4, h5⟩
    · rw [h.2.2] at he
      cases he
    · rw [h1] at he
      rcases List.mem_cons.mp he with rfl | he
      · exact ⟨h4, h3, d, h2⟩
      · exact ih _ _ _ _ _ _ h5 e he
    · rw [h1] at he
      rcases List.mem_append.mp he with he | he
      · obtain ⟨l, hl, he⟩ := List.mem_flatten.mp he
        rw [(List.mem_replicate.mp hl).2] at he
        exact ih _ _ _ _ _ _ h3 e he
      · exact ih _ _ _ _ _ _ h5 e he
theorem VL.kp {F : List (Nat × Nat)} (h : VL I n T F) (e : ∀ a x, 14 ≤ a → a < 44 → I' a x = I a x) : VL I' n T F := fun y hy => ⟨(h y hy).1.kp (fun a x y1 y2 _ => e a x (by omega) (by have := (h y hy).1.1; omega)), (h y hy).2⟩
end
