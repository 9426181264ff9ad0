/-! the class unrolls what it read -/
def US (I : kInts) (S : List Nat) : Prop := S.length ≤ 40 ∧ I 10 5 = nI S.length ∧ ∀ i, i < S.length → I 13 i = nI (S.getD i 0)
def UF (I I' : kInts) : Prop := ∀ a x, a ≠ 13 → ¬ (a = 10 ∧ x = 5) → I' a x = I a x
def fsT (F : List (Nat × Nat)) : List Nat := F.map Prod.fst
section
variable {N : Nat} {I I' J : kInts} {L L' : kLngs} {n c i j k d q nb nt : Nat} {T : Nat → Nat}
theorem UF.rf' : UF I I := fun _ _ _ _ => rfl
theorem UF.trans {I1 I2 : kInts} (h : UF I I1) (h2 : UF I1 I2) : UF I I2 := fun a x y1 y2 => (h2 a x y1 y2).trans (h a x y1 y2)
theorem take40 (l m : List Nat) : (l.take 40 ++ m).take 40 = (l ++ m).take 40 := by
  by_cases h : l.length ≤ 40
  · rw [List.take_of_length_le h]
  · have e : (l.take 40).length = 40 := by rw [List.length_take]; omega
    rw [List.take_append_of_le_length (by omega), List.take_append_of_le_length (by omega), List.take_take, Nat.min_self]
theorem take40_full (l m : List Nat) (h : l.length = 40) : (l ++ m).take 40 = l := by
  rw [List.take_append_of_le_length (by omega), List.take_of_length_le (by omega)]
theorem take40_le (l : List Nat) : (l.take 40).length ≤ 40 := by rw [List.length_take]; omega
theorem US_push {S : List Nat} (h : US I S) (hl : S.length < 40) : US (up (up I 13 S.length (nI k)) 10 5 (nI (S.length + 1))) (S ++ [k]) := by
  refine ⟨by rw [List.length_append]; exact hl, by rw [List.length_append]; exact up_eq, fun i hi => ?_⟩
  rw [List.length_append] at hi
  have hi' : i < S.length + 1 := hi
  rw [up_ne (by omega)]
  by_cases e : i = S.length
  · subst e
    rw [up_eq]
    congr 1
    rw [List.getD_eq_getElem?_getD, List.getElem?_append_right (Nat.le_refl _), Nat.sub_self]
    rfl
  · rw [up_ne (by omega), h.2.2 i (by omega)]
    congr 1
    rw [List.getD_eq_getElem?_getD, List.getD_eq_getElem?_getD, List.getElem?_append_left (by omega)]
theorem US.uf {S : List Nat} (h : US I S) (e1 : ∀ x, I' 13 x = I 13 x) (e2 : I' 10 5 = I 10 5) : US I' S := ⟨h.1, e2.trans h.2.1, fun i hi => (e1 i).trans (h.2.2 i hi)⟩
theorem nI_lt40 {a : Nat} (h : a < 2147483648) : (nI a < 40) = (a < 40) := nI_ltP (b := 40) h (by decide)
/-- indices ahead of the following one are passed over -/
theorem cx_skip (kf : kMem → Nat → Int32 → Int32 → Int32 → Option kMem) {S : List Nat} (hU : US I S) {k1 k' : Nat} (hl : S.length < 40) (h30 : k1 ≤ k') (h3 : k' ≤ 30) (x3 : Int32) : ∀ (s i y : Nat), i + s = k1 → F_X6_unroll_6 N kf (y + s) (wm Mb I L) 10 (nI k') x3 (nI k1) (nI i) = F_X6_unroll_6 N kf y (wm Mb I L) 10 (nI k') x3 (nI k1) (nI k1)
  | 0, i, y, e => by rw [show i = k1 by omega]; rfl
  | s + 1, i, y, e => by
    have ih := cx_skip kf hU hl h30 h3 x3 s (i + 1) y (by omega)
    rw [← ih, show y + (s + 1) = (y + s) + 1 by omega, F_X6_unroll_6]
    simp (disch := omega) only [wm_kR, wm_kt, wm_kn, wm_kin, wm_kL, wm_kI, wm_ksI, wm_ksL, wm_kJ, wm_ksJ, kg_t, kl_v, Option.bind_some, sh13.1, sh13.2.2.2, sh16.1, sh16.2, ofNnI, nI_ltP, hU.2.1, nI_1, if_pos hl, if_pos (show i < k' by omega), if_pos (show i < k1 by omega)]
theorem cx_full (kf : kMem → Nat → Int32 → Int32 → Int32 → Option kMem) {S : List Nat} (hU : US I S) (hl : S.length = 40) (x2 x3 x4 x5 : Int32) (y : Nat) : F_X6_unroll_6 N kf (y + 1) (wm Mb I L) 10 x2 x3 x4 x5 = some (wm Mb I L) := by
  have e : I 10 5 = nI 40 := by rw [hU.2.1, hl]
  rw [F_X6_unroll_6]
  simp (disch := omega) only [wm_kR, wm_kt, wm_kn, wm_kin, wm_kL, wm_kI, wm_ksI, wm_ksL, wm_kJ, wm_ksJ, kg_t, kl_v, Option.bind_some, sh13.1, sh13.2.2.2, sh16.1, sh16.2, ofNnI, nI_ltP, e, if_neg (show ¬ 40 < 40 by decide)]
  split <;> rfl
theorem cN_rep (h : hdO n T d j) (h8 : kdW n T j = 8) : cN n T 1 21 (j + 1) = 0 ∧ isG n T 40 (j + 2) = true ∧ d < 2 ∧ nxT n T j = j + 3 := by
  have h2 := h.2
  have e : lsT n T (kdW n T j) ++ [endC n T (kdW n T j) d] = [cN n T 1 21, cBr n T d] := by
    rw [h8]
    rfl
  rw [e] at h2
  obtain ⟨o1, ok2, -⟩ := wlk_ok h2
  obtain ⟨o2, -, -⟩ := wlk_ok ok2
  have o2' : cBr n T d (j + 2) = 0 := o2
  unfold cBr at o2'
  refine ⟨o1, ?_, ?_, by unfold nxT; rw [h8]; rfl⟩
  · by_cases z : isG n T 40 (j + 2) = true
    · exact z
    · rw [if_neg z] at o2'; cases o2'
  · by_cases z : isG n T 40 (j + 2) = true
    · rw [if_pos z] at o2'
      by_cases y : d < 2
      · exact y
      · rw [if_neg y] at o2'; cases o2'
    · rw [if_neg z] at o2'; cases o2'
theorem cx_unrl (hN : 1000 < N) : ∀ (z d k j k' j' : Nat) (F : List (Nat × Nat)) (I : kInts) (S : List Nat) (f y : Nat), Sq I n T z d k j k' j' F → k' ≤ 30 → d ≤ 2 → US I S → f ≤ k → k' + 1 ≤ y + k → ∃ I', F_X6_unroll_6 N (F_X6_unroll N (2 - d)) y (wm Mb I L) 10 (nI k') (nI d) (nI f) (nI k) = some (wm Mb I' L) ∧ US I' ((S ++ fsT F).take 40) ∧ UF I I' := by
  intro z
  induction z with
  | zero =>
    intro d k j k' j' F I S f y h h30 hd hU hf hy
    obtain ⟨rfl, rfl, rfl⟩ := h
    obtain ⟨y, rfl⟩ : ∃ w, y = w + 1 := ⟨y - 1, by omega⟩
    refine ⟨I, ?_, ?_, UF.rf'⟩
    · rw [F_X6_unroll_6]
      simp (disch := omega) only [nI_ltP, if_neg (Nat.lt_irrefl _)]
    · show US I ((S ++ []).take 40)
      rw [List.append_nil, List.take_of_length_le hU.1]
      exact hU
  | succ z ih =>
    intro d k j k' j' F I S f y h h30 hd hU hf hy
    have le0 := Sq_le _ _ _ _ _ _ _ h
    obtain ⟨y, rfl⟩ : ∃ w, y = w + 1 := ⟨y - 1, by omega⟩
    have hS40 : S.length = 40 ∨ S.length < 40 := by have := hU.1; omega
    rcases hS40 with hf40 | hl
    · refine ⟨I, cx_full _ hU hf40 _ _ _ _ y, ?_, UF.rf'⟩
      rw [take40_full _ _ hf40]
      exact hU
    rcases h with ⟨rfl, rfl, rfl⟩ | ⟨F', h1, h2, h3, h4, h5⟩ | ⟨k1, j1, Fb, F', h1, h2, h3, h4, h5⟩
    · refine ⟨I, ?_, ?_, UF.rf'⟩
      · rw [F_X6_unroll_6]
        simp (disch := omega) only [nI_ltP, if_neg (Nat.lt_irrefl _)]
      · show US I ((S ++ []).take 40)
        rw [List.append_nil, List.take_of_length_le hU.1]
        exact hU
    · subst h1
      have le := Sq_le _ _ _ _ _ _ _ h5
      have hk8 := @kdW_8 n j T
      have hU1 := US_push (k := k) hU hl
      have fr : ∀ a x, 14 + (k + 1) ≤ a → a < 14 + k' → up (up I 13 S.length (nI k)) 10 5 (nI (S.length + 1)) a x = I a x := fun a x y1 y2 => (up_ne (by omega)).trans (up_ne (by omega))
      obtain ⟨I2, a1, a2, a3⟩ := ih d (k + 1) (nxT n T j) k' j' F' _ (S ++ [k]) f y (Sq_kp _ _ _ _ _ _ _ h5 fr) h30 hd hU1 (by omega) (by omega)
      refine ⟨I2, ?_, ?_, fun a x y1 y2 => (a3 a x y1 y2).trans ((up_ne (by omega)).trans (up_ne (by omega)))⟩
      · rw [← a1, F_X6_unroll_6]
        have k0 : ¬ nI (kdW n T j) = 8 := fun e => h3 (by
          have := congrArg kx e
          rw [kx_nI (by omega)] at this
          exact this)
        have e5 : up I 13 S.length (nI k) 10 5 = nI S.length := (up_ne (by omega)).trans hU.2.1
        simp (disch := omega) only [wm_kR, wm_kt, wm_kn, wm_kin, wm_kL, wm_kI, wm_ksI, wm_ksL, wm_kJ, wm_ksJ, kg_t, kl_v, Option.bind_some, sh13.1, sh13.2.2.2, sh16.1, sh16.2, ofNnI, nI_ltP, hU.2.1, nI_lt40, nI_1, if_pos hl, if_pos (show k < k' by omega), if_neg (show ¬ k < f by omega), cx_cmAt (show k < 30 by omega), sh_c (show k < 30 by omega), h4.2.1, if_neg k0, kin_nI sh16.1 sh16.2 hl (by decide), kx_nI, e5]
      · have e : S ++ fsT ((k, j) :: F') = (S ++ [k]) ++ fsT F' := by
          show S ++ (k :: fsT F') = _
          rw [List.append_assoc]
          rfl
        rw [e]
        exact a2
    · subst h1
      obtain ⟨⟨q1, q2, q3⟩, q4, q5, q6⟩ := h2, h4
      have le3 := Sq_le _ _ _ _ _ _ _ h3
      have le5 := Sq_le _ _ _ _ _ _ _ h5
      obtain ⟨r1, r2, r3, r4⟩ := cN_rep q1 q2
      have rn := cN_in r1
      have hk30 : k < 30 := q3.1
      obtain ⟨D, hD⟩ : ∃ D, 2 - d = D + 1 ∧ 2 - (d + 1) = D := ⟨1 - d, by omega, by omega⟩
      -- one round of the body
      have body : ∀ (I1 : kInts) (S1 : List Nat), US I1 S1 → UF I I1 → ∃ I2, F_X6_unroll N (D + 1) (wm Mb I1 L) 10 (nI (k + 1)) (nI k1) (nI (d + 1)) = some (wm Mb I2 L) ∧ US I2 ((S1 ++ fsT Fb).take 40) ∧ UF I1 I2 := by
        intro I1 S1 u1 u2
        have h3' : Sq I1 n T z (d + 1) (k + 1) (nxT n T j) k1 j1 Fb := Sq_kp _ _ _ _ _ _ _ h3 (fun a x y1 y2 => u2 a x (by omega) (by omega))
        obtain ⟨I2, a1, a2, a3⟩ := ih (d + 1) (k + 1) (nxT n T j) k1 j1 Fb I1 S1 (k + 1) N h3' (by omega) (by omega) u1 (Nat.le_refl _) (by omega)
        rw [hD.2] at a1
        exact ⟨I2, a1, a2, a3⟩
      have hnum : I (14 + k) 3 = nI (nuv n T (j + 1)) := q3.2.2.2.2.2.2.2 (by omega)
      have rounds : ∀ (s t v : Nat) (I1 : kInts) (S1 : List Nat), t + s = nuv n T (j + 1) → s < v → US I1 S1 → UF I I1 → ∃ I2, F_X6_unroll_79 N (F_X6_unroll N (D + 1)) (fun M a0 x2 x3 x4 x5 => F_X6_unroll_6 N (F_X6_unroll N (D + 1)) y M a0 x2 x3 x4 x5) v (wm Mb I1 L) 10 (nI k') (nI d) (nI k) (14 + k) (nI t) = F_X6_unroll_6 N (F_X6_unroll N (D + 1)) y (wm Mb I2 L) 10 (nI k') (nI d) (nI k1) (nI (k + 1)) ∧ US I2 ((S1 ++ fsT ((List.replicate s Fb).flatten)).take 40) ∧ UF I I2 := by
        intro s
        induction s with
        | zero =>
          intro t v I1 S1 e hv u1 u2
          obtain ⟨v, rfl⟩ : ∃ w, v = w + 1 := ⟨v - 1, by omega⟩
          have n1 : I1 (14 + k) 3 = nI (nuv n T (j + 1)) := (u2 _ _ (by omega) (by omega)).trans hnum
          have n6 : I1 (14 + k) 6 = nI k1 := (u2 _ _ (by omega) (by omega)).trans q6
          refine ⟨I1, ?_, ?_, u2⟩
          · rw [F_X6_unroll_79]
            simp (disch := omega) only [wm_kR, wm_kt, wm_kn, wm_kin, wm_kL, wm_kI, wm_ksI, wm_ksL, wm_kJ, wm_ksJ, kg_t, kl_v, Option.bind_some, sh_c hk30, n1, n6, nI_ltP, if_neg (show ¬ t < nuv n T (j + 1) by omega), nI_1]
          · show US I1 ((S1 ++ []).take 40)
            rw [List.append_nil, List.take_of_length_le u1.1]
            exact u1
        | succ s ihs =>
          intro t v I1 S1 e hv u1 u2
          obtain ⟨v, rfl⟩ : ∃ w, v = w + 1 := ⟨v - 1, by omega⟩
          have n1 : I1 (14 + k) 3 = nI (nuv n T (j + 1)) := (u2 _ _ (by omega) (by omega)).trans hnum
          have n6 : I1 (14 + k) 6 = nI k1 := (u2 _ _ (by omega) (by omega)).trans q6
          obtain ⟨I2, a1, a2, a3⟩ := body I1 S1 u1 u2
          obtain ⟨I3, b1, b2, b3⟩ := ihs (t + 1) v I2 _ (by omega) (by omega) a2 (u2.trans a3)
          refine ⟨I3, ?_, ?_, b3⟩
          · rw [← b1, F_X6_unroll_79]
            simp (disch := omega) only [wm_kR, wm_kt, wm_kn, wm_kin, wm_kL, wm_kI, wm_ksI, wm_ksL, wm_kJ, wm_ksJ, kg_t, kl_v, Option.bind_some, sh_c hk30, sh13.1, n1, n6, nI_ltP, nI_lt2, if_pos r3, if_pos (show t < nuv n T (j + 1) by omega), nI_1, a1]
          · rw [take40] at b2
            have e2 : S1 ++ fsT ((List.replicate (s + 1) Fb).flatten) = (S1 ++ fsT Fb) ++ fsT ((List.replicate s Fb).flatten) := by
              rw [List.replicate_succ, List.flatten_cons]
              unfold fsT
              rw [List.map_append, List.append_assoc]
            rw [e2]
            exact b2
      obtain ⟨I2, a1, a2, a3⟩ := rounds (nuv n T (j + 1)) 0 N I S (by omega) (by omega) hU UF.rf'
      have start : F_X6_unroll_6 N (F_X6_unroll N (2 - d)) (y + 1) (wm Mb I L) 10 (nI k') (nI d) (nI f) (nI k) = F_X6_unroll_6 N (F_X6_unroll N (D + 1)) y (wm Mb I2 L) 10 (nI k') (nI d) (nI k1) (nI (k + 1)) := by
        rw [← a1, hD.1, F_X6_unroll_6]
        have k0 : I (14 + k) 0 = 8 := by rw [q3.2.1, q2]; rfl
        simp (disch := omega) only [wm_kR, wm_kt, wm_kn, wm_kin, wm_kL, wm_kI, wm_ksI, wm_ksL, wm_kJ, wm_ksJ, kg_t, kl_v, Option.bind_some, sh13.1, sh13.2.2.2, sh16.1, sh16.2, ofNnI, nI_ltP, hU.2.1, nI_lt40, nI_1, if_pos hl, if_pos (show k < k' by omega), if_neg (show ¬ k < f by omega), cx_cmAt hk30, sh_c hk30, k0, if_true]
        rfl
      have e3 : (S ++ fsT ((List.replicate (nuv n T (j + 1)) Fb).flatten ++ F')).take 40 = ((S ++ fsT ((List.replicate (nuv n T (j + 1)) Fb).flatten)).take 40 ++ fsT F').take 40 := by
        rw [take40]
        unfold fsT
        rw [List.map_append, List.append_assoc]
      rw [e3]
      have len2 := a2.1
      by_cases hfull : ((S ++ fsT ((List.replicate (nuv n T (j + 1)) Fb).flatten)).take 40).length = 40
      · obtain ⟨y', rfl⟩ : ∃ w, y = w + 1 := ⟨y - 1, by omega⟩
        refine ⟨I2, start.trans (cx_full _ a2 hfull _ _ _ _ y'), ?_, a3⟩
        rw [take40_full _ _ hfull]
        exact a2
      · have h5' : Sq I2 n T z d k1 (j1 + 2) k' j' F' := Sq_kp _ _ _ _ _ _ _ h5 (fun a x y1 y2 => a3 a x (by omega) (by omega))
        obtain ⟨I3, b1, b2, b3⟩ := ih d k1 (j1 + 2) k' j' F' I2 _ k1 (y - (k1 - (k + 1))) h5' h30 hd a2 (Nat.le_refl _) (by omega)
        have sk := cx_skip (N := N) (L := L) (F_X6_unroll N (D + 1)) a2 (k1 := k1) (k' := k') (by omega) le5 h30 (nI d) (k1 - (k + 1)) (k + 1) (y - (k1 - (k + 1))) (by omega)
        rw [show y - (k1 - (k + 1)) + (k1 - (k + 1)) = y by omega] at sk
        rw [hD.1] at b1
        exact ⟨I3, start.trans (sk.trans b1), b2, a3.trans b3⟩
end
