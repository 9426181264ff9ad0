/-! what a list of commands does; the class does it -/
noncomputable def exC (N n : Nat) (T : Nat → Nat) (nb w : Nat) (p : (Nat → Int32) × Nat) : Option ((Nat → Int32) × Nat) := @dite _ (∃ o, EFF N n T p.1 nb p.2 (kdW n T w) (w + 1) o) (Classical.propDecidable _) (fun h => Classical.choose h) (fun _ => none)
noncomputable def exL (N n : Nat) (T : Nat → Nat) (nb : Nat) : List (Nat × Nat) → ((Nat → Int32) × Nat) → Nat → ((Nat → Int32) × Nat) × Nat × Bool
  | [], p, d => (p, d, false)
  | e :: F, p, d => match exC N n T nb e.2 p with
    | none => (p, d, true)
    | some p' => if d + 1 = 40 then (p', d + 1, true) else exL N n T nb F p' (d + 1)
def VL (I : kInts) (n : Nat) (T : Nat → Nat) (F : List (Nat × Nat)) : Prop := ∀ e, e ∈ F → HDK I n T e.1 e.2 ∧ ¬ kdW n T e.2 = 8 ∧ ∃ d, hdO n T d e.2
section
variable {N : Nat} {I I' J : kInts} {L L' : kLngs} {n c i j k d q nb nt : Nat} {T : Nat → Nat} {r : Nat → Int32} {p : (Nat → Int32) × Nat}
theorem x14 : kR Mb 1 3 = 10 := rfl
theorem exC_eff {w : Nat} (hR : RI p.1 nb p.2) (h : hdO n T d w) (h8 : ¬ kdW n T w = 8) (hN : 1000 < N) : EFF N n T p.1 nb p.2 (kdW n T w) (w + 1) (exC N n T nb w p) := by
  have k8 := @kdW_8 n w T
  have k0 := h.1
  have ex : ∃ o, EFF N n T p.1 nb p.2 (kdW n T w) (w + 1) o := eff hR (by omega) (okS_app h.2) hN
  unfold exC
  rw [dif_pos ex]
  exact Classical.choose_spec ex
theorem Sq_vl : ∀ (z d k j k' j' : Nat) (F : List (Nat × Nat)), Sq I n T z d k j k' j' F → VL I n T F := by
  intro z
  induction z with
  | zero =>
    intro d k j k' j' F h e he
    rw [h.2.2] at he
    cases he
  | succ z ih =>
    intro d k j k' j' F h e he
    rcases h with h | ⟨F', h1, h2, h3, h4, h5⟩ | ⟨k1, j1, Fb, F', h1, h2, h3, h4, h5⟩
    · rw [h.2.2] at he
      cases he
    · rw [h1] at he
      rcases List.mem_cons.mp he with rfl | he
      · exact ⟨h4, h3, d, h2⟩
      · exact ih _ _ _ _ _ _ h5 e he
    · rw [h1] at he
      rcases List.mem_append.mp he with he | he
      · obtain ⟨l, hl, he⟩ := List.mem_flatten.mp he
        rw [(List.mem_replicate.mp hl).2] at he
        exact ih _ _ _ _ _ _ h3 e he
      · exact ih _ _ _ _ _ _ h5 e he
theorem VL.kp {F : List (Nat × Nat)} (h : VL I n T F) (e : ∀ a x, 14 ≤ a → a < 44 → I' a x = I a x) : VL I' n T F := fun y hy => ⟨(h y hy).1.kp (fun a x y1 y2 _ => e a x (by omega) (by have := (h y hy).1.1; omega)), (h y hy).2⟩
theorem exL_app : ∀ (A B : List (Nat × Nat)) (p : (Nat → Int32) × Nat) (d : Nat), exL N n T nb (A ++ B) p d = if (exL N n T nb A p d).2.2 = true then exL N n T nb A p d else exL N n T nb B (exL N n T nb A p d).1 (exL N n T nb A p d).2.1
  | [], B, p, d => by
    show exL N n T nb B p d = if false = true then _ else exL N n T nb B p d
    rw [if_neg (by decide)]
  | e :: A, B, p, d => by
    show exL N n T nb (e :: (A ++ B)) p d = _
    cases hx : exC N n T nb e.2 p with
    | none =>
      have e1 : exL N n T nb (e :: (A ++ B)) p d = (p, d, true) := by rw [exL, hx]
      have e2 : exL N n T nb (e :: A) p d = (p, d, true) := by rw [exL, hx]
      rw [e1, e2, if_pos rfl]
    | some p' =>
      by_cases h : d + 1 = 40
      · have e1 : exL N n T nb (e :: (A ++ B)) p d = (p', d + 1, true) := by rw [exL, hx]; exact if_pos h
        have e2 : exL N n T nb (e :: A) p d = (p', d + 1, true) := by rw [exL, hx]; exact if_pos h
        rw [e1, e2, if_pos rfl]
      · have e1 : exL N n T nb (e :: (A ++ B)) p d = exL N n T nb (A ++ B) p' (d + 1) := by rw [exL, hx]; exact if_neg h
        have e2 : exL N n T nb (e :: A) p d = exL N n T nb A p' (d + 1) := by rw [exL, hx]; exact if_neg h
        rw [e1, e2]
        exact exL_app A B p' (d + 1)
theorem exL_take : ∀ (F : List (Nat × Nat)) (m d : Nat) (p : (Nat → Int32) × Nat), d + m = 40 → 1 ≤ m → (exL N n T nb (F.take m) p d).1 = (exL N n T nb F p d).1 ∧ (exL N n T nb (F.take m) p d).2.1 = (exL N n T nb F p d).2.1
  | [], m, d, p, _, _ => by rw [List.take_nil]; exact ⟨rfl, rfl⟩
  | e :: F, 0, d, p, _, h => absurd h (by decide)
  | e :: F, m + 1, d, p, h, _ => by
    rw [List.take_succ_cons]
    unfold exL
    cases exC N n T nb e.2 p with
    | none => exact ⟨rfl, rfl⟩
    | some p' =>
      dsimp only
      by_cases h1 : d + 1 = 40
      · simp only [if_pos h1]
        exact ⟨trivial, trivial⟩
      · simp only [if_neg h1]
        exact exL_take F m (d + 1) p' (by omega) (by omega)
theorem cx_stepAt {S : List Nat} (hU : US I S) {i k : Nat} (hi : i < S.length) (hk : S.getD i 0 = k) (hk30 : k < 30) : F_X6_stepAt N (wm Mb I L) 10 (nI i) = some (14 + k) := by
  have h40 := hU.1
  have e := hU.2.2 i hi
  rw [hk] at e
  unfold F_X6_stepAt
  simp (disch := omega) only [wm_kR, wm_kt, wm_kn, wm_kin, wm_kL, wm_kI, wm_ksI, wm_ksL, wm_kJ, wm_ksJ, kg_t, kl_v, Option.bind_some, sh13.1, sh13.2.2.2, sh16.1, sh16.2, nI_lt0, if_false, ofNnI, nI_ltP, if_pos (show i < 40 by omega), kin_nI sh16.1 sh16.2 (show i < 40 by omega) (by decide), kx_nI, e, cx_cmAt hk30]
theorem cx_steps (hN : 1000 < N) : ∀ (R A : List (Nat × Nat)) (I : kInts) (p : (Nat → Int32) × Nat) (z : Nat), US I (fsT (A ++ R)) → VL I n T R → RM I 44 p.1 nb p.2 → RI p.1 nb p.2 → R.length < z → ∃ I', F_X11_runScript_51 N z (wm Mb I L) 1 (nI A.length) = some (nI (exL N n T nb R p A.length).2.1, wm Mb I' L) ∧ RM I' 44 (exL N n T nb R p A.length).1.1 nb (exL N n T nb R p A.length).1.2 ∧ RI (exL N n T nb R p A.length).1.1 nb (exL N n T nb R p A.length).1.2 ∧ FR 44 I I' := by
  intro R
  induction R with
  | nil =>
    intro A I p z hU hV hM hR hz
    obtain ⟨z, rfl⟩ : ∃ w, z = w + 1 := ⟨z - 1, by omega⟩
    have h40 := hU.1
    have e5 := hU.2.1
    rw [List.append_nil] at h40 e5
    have el : (fsT A).length = A.length := List.length_map _
    rw [el] at h40 e5
    refine ⟨I, ?_, hM, hR, FR.rfl'⟩
    rw [F_X11_runScript_51]
    simp (disch := omega) only [wm_kR, wm_kt, wm_kn, wm_kin, wm_kL, wm_kI, wm_ksI, wm_ksL, wm_kJ, wm_ksJ, kg_t, kl_v, Option.bind_some, x1_t.1, x14, sh13.1, e5, nI_ltP, if_neg (Nat.lt_irrefl _)]
    show _ = some (nI A.length, wm Mb I L)
    simp only []
  | cons e R ih =>
    intro A I p z hU hV hM hR hz
    obtain ⟨z, rfl⟩ : ∃ w, z = w + 1 := ⟨z - 1, by omega⟩
    have hz' : R.length + 1 < z + 1 := hz
    have h40 := hU.1
    have e5 := hU.2.1
    have el : (fsT (A ++ e :: R)).length = A.length + (R.length + 1) := by
      unfold fsT
      rw [List.length_map, List.length_append]
      rfl
    obtain ⟨v1, v2, d, v3⟩ := hV e (List.mem_cons_self ..)
    have hk30 : e.1 < 30 := v1.1
    have hg : (fsT (A ++ e :: R)).getD A.length 0 = e.1 := by
      unfold fsT
      rw [List.map_append, List.getD_eq_getElem?_getD, List.getElem?_append_right (by rw [List.length_map]; exact Nat.le_refl _), List.length_map, Nat.sub_self]
      rfl
    have hsa := cx_stepAt (N := N) (L := L) hU (i := A.length) (by omega) hg hk30
    obtain ⟨f1, f2, -⟩ := exC_eff hR v3 v2 hN
    obtain ⟨g1, g2⟩ := f2 I L e.1 hk30 hM v1.2.1 v1.2.2
    rw [el] at e5 h40
    cases hx : exC N n T nb e.2 p with
    | none =>
      have ee : exL N n T nb (e :: R) p A.length = (p, A.length, true) := by unfold exL; rw [hx]
      rw [ee]
      refine ⟨I, ?_, hM, hR, FR.rfl'⟩
      rw [F_X11_runScript_51]
      simp (disch := omega) only [wm_kR, wm_kt, wm_kn, wm_kin, wm_kL, wm_kI, wm_ksI, wm_ksL, wm_kJ, wm_ksJ, kg_t, kl_v, Option.bind_some, x1_t.1, x14, x1_t.2.1, sh13.1, e5, nI_ltP, if_pos (show A.length < A.length + (R.length + 1) by omega), hsa, sh_c hk30, g1 hx, if_true]
    | some p' =>
      obtain ⟨I1, a1, a2, a3⟩ := g2 p' hx
      have hR1 := f1 p' hx
      have eA : (A ++ [e]) ++ R = A ++ e :: R := by rw [List.append_assoc]; rfl
      have lA : (A ++ [e]).length = A.length + 1 := by rw [List.length_append]; rfl
      have st : F_X11_runScript_51 N (z + 1) (wm Mb I L) 1 (nI A.length) = F_X11_runScript_51 N z (wm Mb I1 L) 1 (nI (A ++ [e]).length) := by
        rw [F_X11_runScript_51, lA]
        simp (disch := omega) only [wm_kR, wm_kt, wm_kn, wm_kin, wm_kL, wm_kI, wm_ksI, wm_ksL, wm_kJ, wm_ksJ, kg_t, kl_v, Option.bind_some, x1_t.1, x14, x1_t.2.1, sh13.1, e5, nI_ltP, if_pos (show A.length < A.length + (R.length + 1) by omega), hsa, sh_c hk30, a1, if_neg one0, nI_1]
      have u1 : US I1 (fsT ((A ++ [e]) ++ R)) := by
        rw [eA]
        exact hU.uf (fun x => a3 _ _ (by omega)) (a3 _ _ (by omega))
      obtain ⟨I2, b1, b2, b3, b4⟩ := ih (A ++ [e]) I1 p' z u1 (VL.kp (I := I) (F := R) (fun y hy => hV y (List.mem_cons_of_mem _ hy)) (fun a x y1 y2 => a3 a x (by omega))) a2 hR1 (by omega)
      by_cases h1 : A.length + 1 = 40
      · have eR : R = [] := by
          cases R with
          | nil => rfl
          | cons y R => exfalso; simp only [List.length_cons] at h40; omega
        subst eR
        have ee : exL N n T nb (e :: []) p A.length = (p', A.length + 1, true) := by
          unfold exL
          rw [hx]
          exact if_pos h1
        have e2 : exL N n T nb [] p' (A ++ [e]).length = (p', A.length + 1, false) := by rw [lA]; rfl
        rw [ee]
        rw [e2] at b1 b2 b3
        exact ⟨I2, st.trans b1, b2, b3, a3.trans b4⟩
      · have ee : exL N n T nb (e :: R) p A.length = exL N n T nb R p' (A ++ [e]).length := by
          rw [lA, exL, hx]
          exact if_neg h1
        rw [ee]
        exact ⟨I2, st.trans b1, b2, b3, a3.trans b4⟩
end
