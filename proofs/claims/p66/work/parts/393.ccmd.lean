variable {Mb : SMem}
def hdO (n : Nat) (T : Nat → Nat) (d j : Nat) : Prop := ¬ kdW n T j = 0 ∧ okS (wlk n T (lsT n T (kdW n T j) ++ [endC n T (kdW n T j) d]) (.inl (j + 1))) = true
def nxT (n : Nat) (T : Nat → Nat) (j : Nat) : Nat := j + (lsT n T (kdW n T j)).length + 2
def HDK (I : kInts) (n : Nat) (T : Nat → Nat) (k j : Nat) : Prop := k < 30 ∧ I (14 + k) 0 = nI (kdW n T j) ∧ ARG I n T k (kdW n T j) (j + 1)
def Sq (I : kInts) (n : Nat) (T : Nat → Nat) : Nat → Nat → Nat → Nat → Nat → Nat → List (Nat × Nat) → Prop
  | 0, _, k, j, k', j', F => k' = k ∧ j' = j ∧ F = []
  | z + 1, d, k, j, k', j', F => (k' = k ∧ j' = j ∧ F = []) ∨
    (∃ F', F = (k, j) :: F' ∧ hdO n T d j ∧ ¬ kdW n T j = 8 ∧ HDK I n T k j ∧ Sq I n T z d (k + 1) (nxT n T j) k' j' F') ∨
    (∃ k1 j1 Fb F', F = (List.replicate (nuv n T (j + 1)) Fb).flatten ++ F' ∧ (hdO n T d j ∧ kdW n T j = 8 ∧ HDK I n T k j) ∧ Sq I n T z (d + 1) (k + 1) (nxT n T j) k1 j1 Fb ∧ (isG n T 41 j1 = true ∧ isG n T 59 (j1 + 1) = true ∧ I (14 + k) 6 = nI k1) ∧ Sq I n T z d k1 (j1 + 2) k' j' F')
def Stk (I : kInts) (n : Nat) (T : Nat → Nat) : Nat → Nat → Nat → Prop
  | 0, k, j => ∃ z F, Sq I n T z 0 0 0 k j F
  | d + 1, k, j => ∃ k0 j0 z F, Stk I n T d k0 j0 ∧ (hdO n T d j0 ∧ kdW n T j0 = 8 ∧ HDK I n T k0 j0) ∧ I 12 d = nI k0 ∧ Sq I n T z (d + 1) (k0 + 1) (nxT n T j0) k j F
def PSc (I : kInts) (n : Nat) (T : Nat → Nat) (c k d : Nat) (σ : sg) : Prop := CS I n T c σ ∧ (k ≤ 30 ∧ d ≤ 2) ∧ (I 10 1 = nI k ∧ I 10 3 = nI d ∧ I 10 5 = 0) ∧ (∀ i, i < 30 → nm2 I i) ∧ ∀ j, σ = .inl j → Stk I n T d k j
def SC (I I' : kInts) : Prop := ∀ a j, ¬ (a = 6 ∧ 5 ≤ j ∧ j ≤ 7) → a < 10 ∨ 44 ≤ a → I' a j = I a j
section
variable {N : Nat} {I I' : kInts} {L : kLngs} {n c k d i j : Nat} {T : Nat → Nat} {σ : sg}
theorem SC.rf' : SC I I := fun _ _ _ _ => rfl
theorem SC.trans {I1 I2 : kInts} (h : SC I I1) (h2 : SC I1 I2) : SC I I2 := fun a j x1 x2 => (h2 a j x1 x2).trans (h a j x1 x2)
theorem CF_sc (h : CF I I') : SC I I' := fun a j x1 _ => h a j x1
theorem CC_sc (h : CC i I I') (hi : i < 30) : SC I I' := fun a j x1 x2 => h a j x1 (by omega)
theorem SC.up {a q : Nat} {v : Int32} (h : SC I I') (h1 : 10 ≤ a) (h2 : a < 44) : SC I (up I' a q v) := fun b j x1 x2 => (up_ne (Or.inl (by omega))).trans (h b j x1 x2)
theorem wlk_len : ∀ (l : List (Nat → Nat)) (j : Nat), okS (wlk n T l (.inl j)) = true → wlk n T l (.inl j) = .inl (j + l.length)
  | [], j, _ => rfl
  | f :: l, j, h => by
    obtain ⟨h1, h2, h3⟩ := wlk_ok h
    rw [h3, wlk_len l (j + 1) h2]
    simp only [List.length_cons]
    congr 1
    omega
theorem hdO.nx (h : hdO n T d j) : wlk n T (lsT n T (kdW n T j) ++ [endC n T (kdW n T j) d]) (.inl (j + 1)) = .inl (nxT n T j) := by
  rw [wlk_len _ _ h.2]
  unfold nxT
  simp only [List.length_append, List.length_cons, List.length_nil]
  congr 1
  omega
theorem ordS_hd (hk : k < 30) (h : okS (ordS n T k d j) = true) : hdO n T d j ∧ ordS n T k d j = .inl (nxT n T j) := by
  unfold ordS at h ⊢
  by_cases c1 : kdW n T j = 0
  · rw [if_pos c1] at h; cases h
  · rw [if_neg c1, if_neg (by omega)] at h ⊢
    have h1 : hdO n T d j := ⟨c1, h⟩
    exact ⟨h1, h1.nx⟩
theorem Sq_mono : ∀ (z d k j k' j' : Nat) (F : List (Nat × Nat)), Sq I n T z d k j k' j' F → Sq I n T (z + 1) d k j k' j' F := by
  intro z
  induction z with
  | zero => intro d k j k' j' F h; exact Or.inl h
  | succ z ih =>
    intro d k j k' j' F h
    rcases h with h | ⟨F', h1, h2, h3, h4, h5⟩ | ⟨k1, j1, Fb, F', h1, h2, h3, h4, h5⟩
    · exact Or.inl h
    · exact Or.inr (Or.inl ⟨F', h1, h2, h3, h4, ih _ _ _ _ _ _ h5⟩)
    · exact Or.inr (Or.inr ⟨k1, j1, Fb, F', h1, h2, ih _ _ _ _ _ _ h3, h4, ih _ _ _ _ _ _ h5⟩)
theorem Sq_mon {z z' : Nat} (h : z ≤ z') {d k j k' j' : Nat} {F : List (Nat × Nat)} (h2 : Sq I n T z d k j k' j' F) : Sq I n T z' d k j k' j' F := by
  induction h with
  | refl => exact h2
  | step _ ih => exact Sq_mono _ _ _ _ _ _ _ ih
theorem Sq_app {z' k2 j2 : Nat} {F2 : List (Nat × Nat)} : ∀ (z d k j k1 j1 : Nat) (F : List (Nat × Nat)), Sq I n T z d k j k1 j1 F → Sq I n T z' d k1 j1 k2 j2 F2 → Sq I n T (z + z') d k j k2 j2 (F ++ F2) := by
  intro z
  induction z with
  | zero =>
    intro d k j k1 j1 F h h2
    obtain ⟨rfl, rfl, rfl⟩ := h
    rw [Nat.zero_add]
    exact h2
  | succ z ih =>
    intro d k j k1 j1 F h hh
    rcases h with ⟨rfl, rfl, rfl⟩ | ⟨F', h1, h2, h3, h4, h5⟩ | ⟨k3, j3, Fb, F', h1, h2, h3, h4, h5⟩
    · exact Sq_mon (Nat.le_add_left _ _) hh
    · rw [show z + 1 + z' = (z + z') + 1 by omega]
      exact Or.inr (Or.inl ⟨F' ++ F2, by rw [h1]; rfl, h2, h3, h4, ih _ _ _ _ _ _ h5 hh⟩)
    · rw [show z + 1 + z' = (z + z') + 1 by omega]
      exact Or.inr (Or.inr ⟨k3, j3, Fb, F' ++ F2, by rw [h1, List.append_assoc], h2, Sq_mon (by omega) h3, h4, ih _ _ _ _ _ _ h5 hh⟩)
theorem Sq_le : ∀ (z d k j k' j' : Nat) (F : List (Nat × Nat)), Sq I n T z d k j k' j' F → k ≤ k' := by
  intro z
  induction z with
  | zero => intro d k j k' j' F h; exact Nat.le_of_eq h.1.symm
  | succ z ih =>
    intro d k j k' j' F h
    rcases h with h | ⟨F', h1, h2, h3, h4, h5⟩ | ⟨k1, j1, Fb, F', h1, h2, h3, h4, h5⟩
    · exact Nat.le_of_eq h.1.symm
    · have := ih _ _ _ _ _ _ h5; omega
    · have := ih _ _ _ _ _ _ h3
      have := ih _ _ _ _ _ _ h5
      omega
theorem ARG.kp {q j : Nat} (h : ARG I n T k q j) (e : ∀ a x, 14 + k ≤ a → a < 15 + k → ¬ (a = 14 + k ∧ x = 6) → I' a x = I a x) : ARG I' n T k q j := by
  obtain ⟨h1, h2, h3, h4, h5, h6⟩ := h
  have e3 := e (14 + k) 3 (by omega) (by omega) (by omega)
  have e4 := e (14 + k) 4 (by omega) (by omega) (by omega)
  have e5 := e (14 + k) 5 (by omega) (by omega) (by omega)
  have ej : ∀ q, jn I' (14 + k) q = jn I (14 + k) q := fun q => jn_cg (fun x _ => e _ _ (by omega) (by omega) (by omega))
  refine ⟨fun z => by rw [ej]; exact h1 z, fun z => by rw [ej]; exact h2 z, fun z => ?_, fun z => ?_, fun z => ?_, fun z => ?_⟩
  · rw [e3, e4]; exact h3 z
  · rw [e3, e5]; exact h4 z
  · rw [e3]; exact h5 z
  · rw [e3]; exact h6 z
theorem HDK.kp (h : HDK I n T k j) (e : ∀ a x, 14 + k ≤ a → a < 15 + k → ¬ (a = 14 + k ∧ x = 6) → I' a x = I a x) : HDK I' n T k j := ⟨h.1, (e _ _ (by omega) (by omega) (by omega)).trans h.2.1, h.2.2.kp e⟩
theorem Sq_kp : ∀ (z d k j k' j' : Nat) (F : List (Nat × Nat)), Sq I n T z d k j k' j' F → (∀ a x, 14 + k ≤ a → a < 14 + k' → I' a x = I a x) → Sq I' n T z d k j k' j' F := by
  intro z
  induction z with
  | zero => intro d k j k' j' F h _; exact h
  | succ z ih =>
    intro d k j k' j' F h e
    rcases h with h | ⟨F', h1, h2, h3, h4, h5⟩ | ⟨k1, j1, Fb, F', h1, h2, h3, h4, h5⟩
    · exact Or.inl h
    · have l5 := Sq_le _ _ _ _ _ _ _ h5
      exact Or.inr (Or.inl ⟨F', h1, h2, h3, h4.kp (fun a x y1 y2 _ => e a x (by omega) (by omega)), ih _ _ _ _ _ _ h5 (fun a x y1 y2 => e a x (by omega) (by omega))⟩)
    · have l3 := Sq_le _ _ _ _ _ _ _ h3
      have l5 := Sq_le _ _ _ _ _ _ _ h5
      exact Or.inr (Or.inr ⟨k1, j1, Fb, F', h1, ⟨h2.1, h2.2.1, h2.2.2.kp (fun a x y1 y2 _ => e a x (by omega) (by omega))⟩, ih _ _ _ _ _ _ h3 (fun a x y1 y2 => e a x (by omega) (by omega)), ⟨h4.1, h4.2.1, (e _ _ (by omega) (by omega)).trans h4.2.2⟩, ih _ _ _ _ _ _ h5 (fun a x y1 y2 => e a x (by omega) (by omega))⟩)
theorem Stk_kp : ∀ (d k j : Nat), Stk I n T d k j → (∀ a x, 14 ≤ a → a < 14 + k → I' a x = I a x) → (∀ x, x < d → I' 12 x = I 12 x) → Stk I' n T d k j
  | 0, k, j, ⟨z, F, h⟩, e, _ => ⟨z, F, Sq_kp _ _ _ _ _ _ _ h (fun a x y1 y2 => e a x (by omega) y2)⟩
  | d + 1, k, j, ⟨k0, j0, z, F, h1, h2, h3, h4⟩, e, e2 => by
    have l4 := Sq_le _ _ _ _ _ _ _ h4
    exact ⟨k0, j0, z, F, Stk_kp d k0 j0 h1 (fun a x y1 y2 => e a x y1 (by omega)) (fun x hx => e2 x (by omega)), ⟨h2.1, h2.2.1, h2.2.2.kp (fun a x y1 y2 _ => e a x (by omega) (by omega))⟩, (e2 _ (by omega)).trans h3, Sq_kp _ _ _ _ _ _ _ h4 (fun a x y1 y2 => e a x (by omega) (by omega))⟩
theorem Stk_app {z k1 j1 : Nat} {F : List (Nat × Nat)} (h : Stk I n T d k j) (h2 : Sq I n T z d k j k1 j1 F) : Stk I n T d k1 j1 := by
  cases d with
  | zero =>
    obtain ⟨z0, F0, h1⟩ := h
    exact ⟨_, _, Sq_app _ _ _ _ _ _ _ h1 h2⟩
  | succ d =>
    obtain ⟨k0, j0, z0, F0, a1, a2, a3, a4⟩ := h
    exact ⟨k0, j0, _, _, a1, a2, a3, Sq_app _ _ _ _ _ _ _ a4 h2⟩
end
