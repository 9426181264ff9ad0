variable {Mb : SMem}
def cMn (n : Nat) (T : Nat → Nat) (j : Nat) : Nat := if isM n T j then 0 else 1
def cOt (n : Nat) (T : Nat → Nat) (j : Nat) : Nat := if isM n T j then (if nmc n T j = nmc n T (j - 1) then 3 else 0) else 1
def cBr (n : Nat) (T : Nat → Nat) (d j : Nat) : Nat := if isG n T 40 j then (if d < 2 then 0 else 5) else 1
def lsT (n : Nat) (T : Nat → Nat) (k : Nat) : List (Nat → Nat) :=
  if k = 1 then [cMn n T, cN n T 1 100, cN n T 0 10000] else if k = 2 then [cMn n T, cN n T 0 5, sdC n T, cN n T 1 7] else if k = 3 then [cMn n T]
  else if k = 4 then [cMn n T, cOt n T, cN n T 1 51] else if k = 5 then [cMn n T, cOt n T] else if k = 6 then [cN n T 0 21] else if k = 7 then [cN n T 1 31] else [cN n T 1 21]
def wlk (n : Nat) (T : Nat → Nat) : List (Nat → Nat) → sg → sg
  | [], σ => σ
  | f :: l, σ => wlk n T l (stp n T σ f)
def kdW (n : Nat) (T : Nat → Nat) (j : Nat) : Nat := if isW n T 343342 j then 1 else if isW n T 2745 j then 2 else if isW n T 12748485 j then 3 else if isW n T 628108 j then 4 else if isW n T 646192 j then 5 else if isW n T 754917 j then 6 else if isW n T 132915 j then 7 else if isW n T 609752116 j then 8 else 0
def endC (n : Nat) (T : Nat → Nat) (k d : Nat) : Nat → Nat := if k = 8 then cBr n T d else cG n T 59
def ordS (n : Nat) (T : Nat → Nat) (k d j : Nat) : sg := if kdW n T j = 0 then erS n T j 1 else if 30 ≤ k then erS n T j 5 else wlk n T (lsT n T (kdW n T j) ++ [endC n T (kdW n T j) d]) (.inl (j + 1))
def ARG (I : kInts) (n : Nat) (T : Nat → Nat) (i k j : Nat) : Prop :=
  (k = 1 ∨ k = 2 ∨ k = 3 ∨ k = 4 ∨ k = 5 → nmV (jn I (14 + i) 1) (nmc n T j)) ∧ (k = 4 ∨ k = 5 → nmV (jn I (14 + i) 2) (nmc n T (j + 1))) ∧
  (k = 1 → I (14 + i) 3 = nI (nuv n T (j + 1)) ∧ I (14 + i) 4 = nI (nuv n T (j + 2))) ∧
  (k = 2 → I (14 + i) 3 = nI (nuv n T (j + 1)) ∧ I (14 + i) 5 = sdV n T (.inl (j + 2)) * nI (nuv n T (j + 3))) ∧
  (k = 4 → I (14 + i) 3 = nI (nuv n T (j + 2))) ∧ (k = 6 ∨ k = 7 ∨ k = 8 → I (14 + i) 3 = nI (nuv n T j))
def CC (i : Nat) (I I' : kInts) : Prop := ∀ a j, ¬ (a = 6 ∧ 5 ≤ j ∧ j ≤ 7) → a < 14 + i ∨ 15 + i ≤ a ∨ a = 14 + i ∧ (j = 0 ∨ 6 ≤ j ∧ j < 1000) → I' a j = I a j
def nm2 (_ : kInts) (_ : Nat) : Prop := True
section
variable {N : Nat} {I : kInts} {L : kLngs} {n c i j k : Nat} {T : Nat → Nat} {σ : sg}
theorem wlk_r {x : Nat × Nat} : ∀ l, wlk n T l (.inr x) = .inr x
  | [] => rfl
  | f :: l => wlk_r l
theorem wlk_app : ∀ (l l2 : List (Nat → Nat)) (σ : sg), wlk n T (l ++ l2) σ = wlk n T l2 (wlk n T l σ)
  | [], _, _ => rfl
  | f :: l, l2, σ => wlk_app l l2 (stp n T σ f)
theorem wlk_ok {f : Nat → Nat} {l : List (Nat → Nat)} (h : okS (wlk n T (f :: l) (.inl j)) = true) : f j = 0 ∧ okS (wlk n T l (.inl (j + 1))) = true ∧ wlk n T (f :: l) (.inl j) = wlk n T l (.inl (j + 1)) := by
  have e : wlk n T (f :: l) (.inl j) = wlk n T l (stp n T (.inl j) f) := rfl
  by_cases c : f j = 0
  · rw [stp_0 c] at e
    rw [e] at h
    exact ⟨c, h, e⟩
  · rw [stp_e c] at e
    rw [e] at h
    unfold erS at h
    rw [wlk_r] at h
    cases h
theorem okS_app {l l2 : List (Nat → Nat)} (h : okS (wlk n T (l ++ l2) σ) = true) : okS (wlk n T l σ) = true := by
  rw [wlk_app] at h
  generalize wlk n T l σ = τ at h ⊢
  cases τ with
  | inl j => rfl
  | inr x => rw [wlk_r] at h; exact h
theorem CC.rf' : CC i I I := fun _ _ _ _ => rfl
theorem CC.trans {I1 I2 : kInts} (h : CC i I I1) (h2 : CC i I1 I2) : CC i I I2 := fun a j x1 x2 => (h2 a j x1 x2).trans (h a j x1 x2)
theorem CF_cc {I' : kInts} (h : CF I I') : CC i I I' := fun a j x1 _ => h a j x1
theorem CC.up {I' : kInts} {v : Int32} {q : Nat} (h : CC i I I') (hq : 3 ≤ q ∧ q ≤ 5) : CC i I (up I' (14 + i) q v) := fun a j x1 x2 => (up_ne (by omega)).trans (h a j x1 x2)
theorem CC.upJ {I' : kInts} {v : Int64} {q : Nat} (h : CC i I I') : CC i I (upJ I' (14 + i) q v) := fun a j x1 x2 => (upJ_ne (by omega)).trans (h a j x1 x2)
theorem CS_upJ (h : CS I n T c σ) {v : Int64} {q : Nat} (hi : i < 30) : CS (upJ I (14 + i) q v) n T c σ := h.fr (fun a j ha => upJ_ne (Or.inl (by omega)))
theorem jn_cf {I' : kInts} {a q : Nat} (e : CF I I') (h : 9 < a) : jn I' a q = jn I a q := jn_cg (fun k _ => e _ _ (by omega))
theorem CS_up (h : CS I n T c σ) {v : Int32} {q : Nat} (hi : i < 30) : CS (up I (14 + i) q v) n T c σ := h.fr (fun a j ha => up_ne (by omega))
theorem nm2.up (_ : nm2 I i) {v : Int32} {q : Nat} : nm2 (up I (14 + i) q v) i := trivial
theorem nm2.cf {I' : kInts} (_ : nm2 I i) (_ : CF I I') : nm2 I' i := trivial
theorem kdW_8 : kdW n T j ≤ 8 := by
  unfold kdW
  repeat' split
  all_goals decide
theorem kdW_tk (h : ¬ kdW n T j = 0) : tK n T j = 1 := by
  unfold kdW at h
  by_cases c1 : isW n T 343342 j = true
  · exact isW_4 c1
  by_cases c2 : isW n T 2745 j = true
  · exact isW_4 c2
  by_cases c3 : isW n T 12748485 j = true
  · exact isW_4 c3
  by_cases c4 : isW n T 628108 j = true
  · exact isW_4 c4
  by_cases c5 : isW n T 646192 j = true
  · exact isW_4 c5
  by_cases c6 : isW n T 754917 j = true
  · exact isW_4 c6
  by_cases c7 : isW n T 132915 j = true
  · exact isW_4 c7
  by_cases c8 : isW n T 609752116 j = true
  · exact isW_4 c8
  exact absurd (by simp only [if_neg c1, if_neg c2, if_neg c3, if_neg c4, if_neg c5, if_neg c6, if_neg c7, if_neg c8]) h
theorem cx_name1 (h : CS I n T c σ) (hN : 1000 < N) : ∃ I' v, F_X9_takeName N (wm Mb I L) 6 = some (v, wm Mb I' L) ∧ CS I' n T c (stp n T σ (cMn n T)) ∧ CF I I' ∧ (∀ j, σ = .inl j → cMn n T j = 0 → nmV v (nmc n T j)) := by
  obtain ⟨I', v, a1, a2, a3, a4, -⟩ := cx_takeName (N := N) (L := L) h hN
  refine ⟨I', v, a1, a2, a3, fun j e y => a4 j e ?_⟩
  unfold cMn at y
  by_cases z : isM n T j = true
  · exact z
  · rw [if_neg z] at y; cases y
end
