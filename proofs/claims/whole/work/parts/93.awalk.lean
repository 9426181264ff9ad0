/-! a script's text: what reading it gives; the class reads a command's words -/
def cMn (n : Nat) (T : Nat → Nat) (j : Nat) : Nat := if isM n T j then 0 else 1
def cOt (n : Nat) (T : Nat → Nat) (j : Nat) : Nat := if isM n T j then (if nmc n T j = nmc n T (j - 1) then 3 else 0) else 1
def cBr (n : Nat) (T : Nat → Nat) (d j : Nat) : Nat := if isG n T 40 j then (if d < 2 then 0 else 5) else 1
def lsT (n : Nat) (T : Nat → Nat) (k : Nat) : List (Nat → Nat) :=
  if k = 1 then [cMn n T, cN n T 1 100, cN n T 0 10000] else if k = 2 then [cMn n T, cN n T 0 5, sdC n T, cN n T 1 7] else if k = 3 then [cMn n T]
  else if k = 4 then [cMn n T, cOt n T, cN n T 1 51] else if k = 5 then [cMn n T, cOt n T] else if k = 6 then [cN n T 0 21] else if k = 7 then [cN n T 1 31] else [cN n T 1 21]
def wlk (n : Nat) (T : Nat → Nat) : List (Nat → Nat) → sg → sg
  | [], σ => σ
  | f :: l, σ => wlk n T l (stp n T σ f)
def kdW (n : Nat) (T : Nat → Nat) (j : Nat) : Nat := if isW n T 343342 j then 1 else if isW n T 2745 j then 2 else if isW n T 12748485 j then 3 else if isW n T 628108 j then 4 else if isW n T 646192 j then 5 else if isW n T 754917 j then 6 else if isW n T 132915 j then 7 else if isW n T 609752116 j then 8 else 0
def endC (n : Nat) (T : Nat → Nat) (k d : Nat) : Nat → Nat := if k = 8 then cBr n T d else cG n T 59
/-- a command at token j, k commands and d open brackets ahead of it -/
def ordS (n : Nat) (T : Nat → Nat) (k d j : Nat) : sg := if kdW n T j = 0 then erS n T j 1 else if 30 ≤ k then erS n T j 5 else wlk n T (lsT n T (kdW n T j) ++ [endC n T (kdW n T j) d]) (.inl (j + 1))
/-- what a command's words are in the class, read at token j -/
def ARG (I : kInts) (n : Nat) (T : Nat → Nat) (i k j : Nat) : Prop :=
  (k = 1 ∨ k = 2 ∨ k = 3 ∨ k = 4 ∨ k = 5 → nmR I (18 + 5 * i) (19 + 5 * i) (nmc n T j)) ∧ (k = 4 ∨ k = 5 → nmR I (20 + 5 * i) (21 + 5 * i) (nmc n T (j + 1))) ∧
  (k = 1 → I (17 + 5 * i) 3 = nI (nuv n T (j + 1)) ∧ I (17 + 5 * i) 4 = nI (nuv n T (j + 2))) ∧
  (k = 2 → I (17 + 5 * i) 3 = nI (nuv n T (j + 1)) ∧ I (17 + 5 * i) 5 = sdV n T (.inl (j + 2)) * nI (nuv n T (j + 3))) ∧
  (k = 4 → I (17 + 5 * i) 3 = nI (nuv n T (j + 2))) ∧ (k = 6 ∨ k = 7 ∨ k = 8 → I (17 + 5 * i) 3 = nI (nuv n T j))
/-- reading a command changes only the place in the tokens and the command -/
def CC (i : Nat) (I I' : kInts) : Prop := ∀ a j, ¬ (a = 6 ∧ 5 ≤ j ∧ j ≤ 7) → a < 17 + 5 * i ∨ 22 + 5 * i ≤ a ∨ a = 17 + 5 * i ∧ (j = 0 ∨ 6 ≤ j) → I' a j = I a j
def nm2 (I : kInts) (i : Nat) : Prop := nmE I (18 + 5 * i) (19 + 5 * i) ∧ nmE I (20 + 5 * i) (21 + 5 * i)
section
variable {N : Nat} {I : kInts} {L : kLngs} {n c i j k : Nat} {T : Nat → Nat} {σ : sg}
theorem wlk_r {x : Nat × Nat} : ∀ l, wlk n T l (.inr x) = .inr x
  | [] => rfl
  | f :: l => wlk_r l
theorem wlk_app : ∀ (l l2 : List (Nat → Nat)) (σ : sg), wlk n T (l ++ l2) σ = wlk n T l2 (wlk n T l σ)
  | [], _, _ => rfl
  | f :: l, l2, σ => wlk_app l l2 (stp n T σ f)
theorem wlk_ok {f : Nat → Nat} {l : List (Nat → Nat)} (h : okS (wlk n T (f :: l) (.inl j)) = true) : f j = 0 ∧ okS (wlk n T l (.inl (j + 1))) = true ∧ wlk n T (f :: l) (.inl j) = wlk n T l (.inl (j + 1)) := by
  have e : wlk n T (f :: l) (.inl j) = wlk n T l (stp n T (.inl j) f) := rfl
  by_cases c : f j = 0
  · rw [stp_0 c] at e
    rw [e] at h
    exact ⟨c, h, e⟩
  · rw [stp_e c] at e
    rw [e] at h
    unfold erS at h
    rw [wlk_r] at h
    cases h
theorem okS_app {l l2 : List (Nat → Nat)} (h : okS (wlk n T (l ++ l2) σ) = true) : okS (wlk n T l σ) = true := by
  rw [wlk_app] at h
  generalize wlk n T l σ = τ at h ⊢
  cases τ with
  | inl j => rfl
  | inr x => rw [wlk_r] at h; exact h
theorem sh_c (h : i < 30) : (kt Mb (17 + 5 * i) 1 = true ∧ kR Mb (17 + 5 * i) 1 = 18 + 5 * i ∧ kR Mb (17 + 5 * i) 2 = 20 + 5 * i) ∧ NA (18 + 5 * i) (19 + 5 * i) ∧ NA (20 + 5 * i) (21 + 5 * i) := by
  have z : ∀ i, i < 30 → (((1 ≤ 17 + 5 * i ∧ 17 + 5 * i ≤ 1253) ∧ cellAt (17 + 5 * i) = (1, 7)) ∧ refB (17 + 5 * i) 1 = 18 + 5 * i ∧ refB (17 + 5 * i) 2 = 20 + 5 * i) ∧ (((1 ≤ 18 + 5 * i ∧ 18 + 5 * i ≤ 1253) ∧ cellAt (18 + 5 * i) = (5, 2)) ∧ refB (18 + 5 * i) 0 = 19 + 5 * i ∧ (1 ≤ 19 + 5 * i ∧ 19 + 5 * i ≤ 1253) ∧ cellAt (19 + 5 * i) = (13, 6)) ∧ (((1 ≤ 20 + 5 * i ∧ 20 + 5 * i ≤ 1253) ∧ cellAt (20 + 5 * i) = (5, 2)) ∧ refB (20 + 5 * i) 0 = 21 + 5 * i ∧ (1 ≤ 21 + 5 * i ∧ 21 + 5 * i ≤ 1253) ∧ cellAt (21 + 5 * i) = (13, 6)) := by decide +kernel
  obtain ⟨⟨a1, a2, a3⟩, ⟨b1, b2, b3⟩, ⟨c1, c2, c3⟩⟩ := z i h
  exact ⟨⟨(ktB a1).1, a2, a3⟩, ⟨⟨(ktB b1).1, b2⟩, ktB b3⟩, ⟨⟨(ktB c1).1, c2⟩, ktB c3⟩⟩
theorem CC.rf' : CC i I I := fun _ _ _ _ => rfl
theorem CC.trans {I1 I2 : kInts} (h : CC i I I1) (h2 : CC i I1 I2) : CC i I I2 := fun a j x1 x2 => (h2 a j x1 x2).trans (h a j x1 x2)
theorem CF_cc {I' : kInts} (h : CF I I') : CC i I I' := fun a j x1 _ => h a j x1
theorem CC.up {I' : kInts} {v : Int32} {q : Nat} (h : CC i I I') (hq : 3 ≤ q ∧ q ≤ 5) : CC i I (up I' (17 + 5 * i) q v) := fun a j x1 x2 => (up_ne (by omega)).trans (h a j x1 x2)
theorem CS_up (h : CS I n T c σ) {v : Int32} {q : Nat} (hi : i < 30) : CS (up I (17 + 5 * i) q v) n T c σ := h.fr (fun a j ha => up_ne (by omega))
theorem nm2.up (h : nm2 I i) {v : Int32} {q : Nat} : nm2 (up I (17 + 5 * i) q v) i := ⟨h.1.kp (fun j => up_ne (by omega)) (fun j => up_ne (by omega)), h.2.kp (fun j => up_ne (by omega)) (fun j => up_ne (by omega))⟩
theorem nm2.cf {I' : kInts} (h : nm2 I i) (e : CF I I') : nm2 I' i := ⟨h.1.kp (fun j => e _ _ (by omega)) (fun j => e _ _ (by omega)), h.2.kp (fun j => e _ _ (by omega)) (fun j => e _ _ (by omega))⟩
theorem nmR.kp {a b : Nat} {q : Int32} {I' : kInts} (h : nmR I a b q) (e1 : ∀ j, I' a j = I a j) (e2 : ∀ j, I' b j = I b j) : nmR I' a b q := by
  obtain ⟨z, f, h1, h2, h3, h4, h5⟩ := h
  exact ⟨z, f, h1, h2, (e1 _).trans h3, fun y hy => (e2 _).trans (h4 y hy), h5⟩
theorem cx_kindW (h : CS I n T c (.inl j)) (hN : 1000 < N) : F_X1_kindOfWord N (wm Mb I L) 6 = some (if kdW n T j = 0 then -1 else nI (kdW n T j)) := by
  unfold F_X1_kindOfWord
  simp only [wm_kR, wm_kt, wm_kn, wm_kin, wm_kL, wm_kI, wm_ksI, wm_ksL, kg_t, kl_v, Option.bind_some, s6.1, cx_atWord kw_join h hN, cx_atWord kw_buy h hN, cx_atWord kw_leave h hN, cx_atWord kw_sell h hN, cx_atWord kw_swap h hN, cx_atWord kw_wage h hN, cx_atWord kw_days h hN, cx_atWord kw_repeat h hN, qs]
  unfold kdW
  by_cases c1 : isW n T 343342 j = true
  · simp only [c1, if_true, if_neg one0]; rfl
  by_cases c2 : isW n T 2745 j = true
  · simp only [c1, c2, if_true, if_neg one0]; rfl
  by_cases c3 : isW n T 12748485 j = true
  · simp only [c1, c2, c3, if_true, if_neg one0]; rfl
  by_cases c4 : isW n T 628108 j = true
  · simp only [c1, c2, c3, c4, if_true, if_neg one0]; rfl
  by_cases c5 : isW n T 646192 j = true
  · simp only [c1, c2, c3, c4, c5, if_true, if_neg one0]; rfl
  by_cases c6 : isW n T 754917 j = true
  · simp only [c1, c2, c3, c4, c5, c6, if_true, if_neg one0]; rfl
  by_cases c7 : isW n T 132915 j = true
  · simp only [c1, c2, c3, c4, c5, c6, c7, if_true, if_neg one0]; rfl
  by_cases c8 : isW n T 609752116 j = true
  · simp only [c1, c2, c3, c4, c5, c6, c7, c8, if_true, if_neg one0]; rfl
  simp only [c1, c2, c3, c4, c5, c6, c7, c8, if_true]
  rfl
theorem kdW_8 : kdW n T j ≤ 8 := by
  unfold kdW
  repeat' split
  all_goals decide
theorem kdW_tk (h : ¬ kdW n T j = 0) : tK n T j = 1 := by
  unfold kdW at h
  by_cases c1 : isW n T 343342 j = true
  · exact isW_4 c1
  by_cases c2 : isW n T 2745 j = true
  · exact isW_4 c2
  by_cases c3 : isW n T 12748485 j = true
  · exact isW_4 c3
  by_cases c4 : isW n T 628108 j = true
  · exact isW_4 c4
  by_cases c5 : isW n T 646192 j = true
  · exact isW_4 c5
  by_cases c6 : isW n T 754917 j = true
  · exact isW_4 c6
  by_cases c7 : isW n T 132915 j = true
  · exact isW_4 c7
  by_cases c8 : isW n T 609752116 j = true
  · exact isW_4 c8
  exact absurd (by simp only [if_neg c1, if_neg c2, if_neg c3, if_neg c4, if_neg c5, if_neg c6, if_neg c7, if_neg c8]) h
/-- a name taken into a command -/
theorem cx_name1 (h : CS I n T c σ) (hi : i < 30) (hn : nm2 I i) (hN : 1000 < N) : ∃ I', F_X9_takeName N (wm Mb I L) 6 (18 + 5 * i) = some (wm Mb I' L) ∧ CS I' n T c (stp n T σ (cMn n T)) ∧ CC i I I' ∧ nm2 I' i ∧ (∀ j, σ = .inl j → cMn n T j = 0 → nmR I' (18 + 5 * i) (19 + 5 * i) (nmc n T j)) ∧ (∀ j, I' (17 + 5 * i) j = I (17 + 5 * i) j) := by
  obtain ⟨I', a1, a2, a3, a4, a5, a6⟩ := cx_takeName (N := N) (L := L) (sh_c hi).2.1 ⟨by omega, by omega, by omega⟩ ⟨by omega, by omega, by omega, by omega⟩ h hN
  refine ⟨I', a1, a2, fun a j x1 x2 => a3 a j (by omega) (by omega) x1, ⟨a6 hn.1, hn.2.kp (fun j => a3 _ _ (by omega) (by omega) (by omega)) (fun j => a3 _ _ (by omega) (by omega) (by omega))⟩, fun j e y => a5 j e ?_, fun j => a3 _ _ (by omega) (by omega) (by omega)⟩
  unfold cMn at y
  by_cases z : isM n T j = true
  · exact z
  · rw [if_neg z] at y; cases y
theorem cx_name2 (h : CS I n T c σ) (hi : i < 30) (hn : nm2 I i) (hN : 1000 < N) : ∃ I', F_X9_takeName N (wm Mb I L) 6 (20 + 5 * i) = some (wm Mb I' L) ∧ CS I' n T c (stp n T σ (cMn n T)) ∧ CC i I I' ∧ nm2 I' i ∧ (∀ j, σ = .inl j → cMn n T j = 0 → nmR I' (20 + 5 * i) (21 + 5 * i) (nmc n T j)) ∧ (∀ a j, 17 + 5 * i ≤ a → a ≤ 19 + 5 * i → I' a j = I a j) := by
  obtain ⟨I', a1, a2, a3, a4, a5, a6⟩ := cx_takeName (N := N) (L := L) (sh_c hi).2.2 ⟨by omega, by omega, by omega⟩ ⟨by omega, by omega, by omega, by omega⟩ h hN
  refine ⟨I', a1, a2, fun a j x1 x2 => a3 a j (by omega) (by omega) x1, ⟨hn.1.kp (fun j => a3 _ _ (by omega) (by omega) (by omega)) (fun j => a3 _ _ (by omega) (by omega) (by omega)), a6 hn.2⟩, fun j e y => a5 j e ?_, fun a j y1 y2 => a3 _ _ (by omega) (by omega) (by omega)⟩
  unfold cMn at y
  by_cases z : isM n T j = true
  · exact z
  · rw [if_neg z] at y; cases y
end
