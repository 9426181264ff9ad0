/-! the constructors, over a memory of which nothing is made behind its cells -/
def wz (C : List (Nat × Nat)) (I : kInts) (R : Nat → Nat → Nat) (L : kLngs) : kMem := (C, I, R, L)
def upR (R : Nat → Nat → Nat) (a j v : Nat) : Nat → Nat → Nat := fun a' j' => if a' = a ∧ j' = j then v else R a' j'
def Zr (C : List (Nat × Nat)) (I : kInts) (R : Nat → Nat → Nat) (L : kLngs) : Prop := ∀ a j, C.length < a → I a j = 0 ∧ R a j = 0 ∧ L a j = 0
def cqt (C : List (Nat × Nat)) (a t : Nat) : Bool := match a with
  | 0 => false
  | k + 1 => (C[k]?).map Prod.fst == some t
def cqn (C : List (Nat × Nat)) (a : Nat) : Nat := match a with
  | 0 => 0
  | k + 1 => ((C[k]?).map Prod.snd).getD 0
def sm (X : List (Nat × Nat)) : Nat := (X.map Prod.snd).sum
section
variable {N : Nat} {C D X Y : List (Nat × Nat)} {I : kInts} {R : Nat → Nat → Nat} {L : kLngs} {a b t n mc ms : Nat} {x : Int32}
theorem wz_1 : (wz C I R L).1 = C := rfl
theorem wz_kI (j : Nat) : kI (wz C I R L) a j = I a j := rfl
theorem wz_kR (j : Nat) : kR (wz C I R L) a j = R a j := rfl
theorem wz_ksI (j : Nat) (v : Int32) : ksI (wz C I R L) a j v = wz C (up I a j v) R L := rfl
theorem wz_ksR (j v : Nat) : ksR (wz C I R L) a j v = wz C I (upR R a j v) L := rfl
theorem wz_kt : kt (wz C I R L) a t = cqt C a t := by
  cases a with
  | zero => rfl
  | succ k => rfl
theorem wz_kn : kn (wz C I R L) a = cqn C a := by
  cases a with
  | zero => rfl
  | succ k => rfl
theorem wz_kin (i : Int32) : kin (wz C I R L) a t i = (cqt C a t && (decide (0 ≤ i) && decide (i.toNatClampNeg < cqn C a))) := by
  unfold kin
  rw [wz_kt, wz_kn]
theorem cqt_ne (h : cqt C a t = true) : a ≠ 0 := by
  rintro rfl
  cases h
theorem cqt_get (h : cqt C a t = true) : ∃ k n, a = k + 1 ∧ C[k]? = some (t, n) ∧ k < C.length ∧ cqn C a = n := by
  cases a with
  | zero => cases h
  | succ k =>
    unfold cqt at h
    dsimp only at h
    cases e : C[k]? with
    | none => rw [e] at h; cases h
    | some p =>
      obtain ⟨t', n⟩ := p
      rw [e] at h
      have : t' = t := by simpa using h
      subst this
      exact ⟨k, n, rfl, e, (List.getElem?_eq_some_iff.mp e).1, by unfold cqn; dsimp only; rw [e]; rfl⟩
theorem cqt_le (h : cqt C a t = true) : a ≤ C.length := by
  obtain ⟨k, n, rfl, -, h1, -⟩ := cqt_get h
  exact h1
theorem cqt_app (h : cqt C a t = true) : cqt (C ++ X) a t = true := by
  obtain ⟨k, n, rfl, h1, h2, -⟩ := cqt_get h
  unfold cqt
  dsimp only
  rw [List.getElem?_append_left h2, h1]
  simp
theorem cqn_app (h : cqt C a t = true) : cqn (C ++ X) a = cqn C a := by
  obtain ⟨k, n, rfl, h1, h2, -⟩ := cqt_get h
  unfold cqn
  dsimp only
  rw [List.getElem?_append_left h2]
theorem cqt_last : cqt (C ++ (t, n) :: X) (C.length + 1) t = true := by
  unfold cqt
  dsimp only
  rw [List.getElem?_append_right (Nat.le_refl _), Nat.sub_self]
  simp
theorem cqn_last : cqn (C ++ (t, n) :: X) (C.length + 1) = n := by
  unfold cqn
  dsimp only
  rw [List.getElem?_append_right (Nat.le_refl _), Nat.sub_self]
  rfl
theorem wz_new (h : Zr C I R L) : kNew (wz C I R L) t n = wz (C ++ [(t, n)]) I R L := by
  unfold kNew wz
  simp only
  have h1 : (fun a j => if a = C.length + 1 then (0 : Int32) else I a j) = I := by
    funext a j
    by_cases e : a = C.length + 1
    · rw [if_pos e, (h a j (by omega)).1]
    · rw [if_neg e]
  have h2 : (fun a j => if a = C.length + 1 then (0 : Nat) else R a j) = R := by
    funext a j
    by_cases e : a = C.length + 1
    · rw [if_pos e, (h a j (by omega)).2.1]
    · rw [if_neg e]
  have h3 : (fun a j => if a = C.length + 1 then (0 : Int64) else L a j) = L := by
    funext a j
    by_cases e : a = C.length + 1
    · rw [if_pos e, (h a j (by omega)).2.2]
    · rw [if_neg e]
  rw [h1, h2, h3]
theorem Zr.app (h : Zr C I R L) : Zr (C ++ X) I R L := fun a j ha => h a j (by rw [List.length_append] at ha; omega)
theorem Zr.i (h : Zr C I R L) {j : Nat} {v : Int32} (ha : a ≤ C.length) : Zr C (up I a j v) R L := fun b k hb => ⟨(up_ne (by omega)).trans (h b k hb).1, (h b k hb).2⟩
theorem upR_eq {j v : Nat} : upR R a j v a j = v := if_pos ⟨rfl, rfl⟩
theorem upR_ne {j v a' j' : Nat} (h : a' ≠ a ∨ j' ≠ j) : upR R a j v a' j' = R a' j' := if_neg (by omega)
theorem Zr.r (h : Zr C I R L) {j v : Nat} (ha : a ≤ C.length) : Zr C I (upR R a j v) L := fun b k hb => ⟨(h b k hb).1, (upR_ne (by omega)).trans (h b k hb).2.1, (h b k hb).2.2⟩
theorem ksl_w (hD : D = C ++ X) : ksl C.length (wz D I R L) = sm X ∧ D.length - C.length = X.length ∧ C.length ≤ D.length := by
  subst hD
  refine ⟨?_, by rw [List.length_append]; omega, by rw [List.length_append]; omega⟩
  unfold ksl sm
  rw [wz_1, List.drop_left]
theorem krm_w (hD : D = C ++ X) (h1 : X.length + 1 ≤ mc) (h2 : sm X + n ≤ ms) : krm C.length mc ms (wz D I R L) n = true := by
  obtain ⟨e1, e2, e3⟩ := ksl_w (I := I) (R := R) (L := L) hD
  unfold krm
  rw [e1, wz_1, e2]
  simp [e3, h1, h2]
theorem kok_w {c s : Nat} (hD : D = C ++ X) (h1 : X.length + c ≤ mc) (h2 : sm X + s ≤ ms) : kok C.length mc ms (wz D I R L) c s = true := by
  obtain ⟨e1, e2, e3⟩ := ksl_w (I := I) (R := R) (L := L) hD
  unfold kok
  rw [e1, wz_1, e2]
  simp [e3, h1, h2]
theorem kend_w (hD : D = C ++ X) (h1 : X.length ≤ mc) (h2 : sm X ≤ ms) : kend C.length mc ms (wz D I R L) = true := by
  obtain ⟨e1, e2, e3⟩ := ksl_w (I := I) (R := R) (L := L) hD
  unfold kend
  rw [e1, wz_1, e2]
  simp [e3, h1, h2]
theorem kgr_w {E : List (Nat × Nat)} {I' : kInts} {R' : Nat → Nat → Nat} {L' : kLngs} {c s : Nat} (hD : D = C ++ X) (hE : E = D ++ Y) (h1 : Y.length = c) (h2 : sm Y = s) : kgr C.length (wz D I R L) (wz E I' R' L') c s = true := by
  obtain ⟨e1, e2, e3⟩ := ksl_w (I := I) (R := R) (L := L) hD
  obtain ⟨f1, f2, f3⟩ := ksl_w (I := I') (R := R') (L := L') (show E = C ++ (X ++ Y) by rw [hE, hD, List.append_assoc])
  have e4 : sm (X ++ Y) = sm X + sm Y := by unfold sm; rw [List.map_append, List.sum_append]
  unfold kgr
  rw [e1, f1, wz_1, wz_1, e2, f2, List.length_append, e4, h1, h2]
  simp
theorem e_n (k : Nat) (h : k ≤ 2000) : (nI k).toNatClampNeg = k := kx_nI (by omega)
theorem l1 (p : Nat × Nat) : (C ++ [p]).length + 1 = C.length + 2 := by rw [List.length_append]; rfl
theorem l2 (p q : Nat × Nat) : (C ++ [p, q]).length + 1 = C.length + 3 := by rw [List.length_append]; rfl
theorem l3 (p q s : Nat × Nat) : (C ++ [p, q, s]).length + 1 = C.length + 4 := by rw [List.length_append]; rfl
theorem ap1 (p q : Nat × Nat) : C ++ [p] ++ [q] = C ++ [p, q] := by rw [List.append_assoc]; rfl
theorem ap2 (p q s : Nat × Nat) : C ++ [p, q] ++ [s] = C ++ [p, q, s] := by rw [List.append_assoc]; rfl
theorem i_X8 (hz : Zr C I R L) (ha : cqt C a 8 = true) : F_X8_init N (wz C I R L) a = some (wz (C ++ [(13, 800)]) I (upR R a 0 (C.length + 1)) L) ∧ Zr (C ++ [(13, 800)]) I (upR R a 0 (C.length + 1)) L := by
  have hl := cqt_le ha
  have h1 : krm C.length 1 800 (wz C I R L) 800 = true := krm_w (X := []) (List.append_nil C).symm (by decide) (by decide)
  have h3 : kend C.length 1 800 (wz (C ++ [(13, 800)]) I (upR R a 0 (C.length + 1)) L) = true := kend_w (X := [(13, 800)]) rfl (by decide) (by decide)
  refine ⟨?_, (hz.app).r (by rw [List.length_append]; omega)⟩
  unfold F_X8_init F_X8_init_b
  simp only [wz_1, show (800 : Int32).toNatClampNeg = 800 from rfl, decide_eq_true (cqt_ne ha), kg_t, h1, kl_v, wz_new hz, wz_kt, cqt_app ha, wz_ksR, h3]
theorem i_X0 (hz : Zr C I R L) (ha : cqt C a 0 = true) : F_X0_init N (wz C I R L) a x = some (wz (C ++ [(13, 13)]) (up I a 0 x) (upR R a 4 (C.length + 1)) L) ∧ Zr (C ++ [(13, 13)]) (up I a 0 x) (upR R a 4 (C.length + 1)) L := by
  have hl := cqt_le ha
  have hl2 : a ≤ (C ++ [(13, 13)]).length := by rw [List.length_append]; omega
  have h1 : krm C.length 1 13 (wz C I R L) 13 = true := krm_w (X := []) (List.append_nil C).symm (by decide) (by decide)
  have h3 : kend C.length 1 13 (wz (C ++ [(13, 13)]) (up I a 0 x) (upR R a 4 (C.length + 1)) L) = true := kend_w (X := [(13, 13)]) rfl (by decide) (by decide)
  refine ⟨?_, ((hz.app).r hl2).i hl2⟩
  unfold F_X0_init F_X0_init_b
  simp only [wz_1, show (13 : Int32).toNatClampNeg = 13 from rfl, decide_eq_true (cqt_ne ha), kg_t, h1, kl_v, wz_new hz, wz_kt, cqt_app ha, wz_ksR, wz_ksI, h3]
theorem i_X2 (hz : Zr C I R L) (ha : cqt C a 2 = true) : F_X2_init N (wz C I R L) a = some (wz (C ++ [(13, 12), (13, 12), (13, 12)]) I (upR (upR (upR R a 0 (C.length + 1)) a 1 (C.length + 2)) a 2 (C.length + 3)) L) ∧ Zr (C ++ [(13, 12), (13, 12), (13, 12)]) I (upR (upR (upR R a 0 (C.length + 1)) a 1 (C.length + 2)) a 2 (C.length + 3)) L := by
  have hl := cqt_le ha
  have z1 : Zr (C ++ [(13, 12)]) I (upR R a 0 (C.length + 1)) L := (hz.app).r (by rw [List.length_append]; omega)
  have z2 : Zr (C ++ [(13, 12), (13, 12)]) I (upR (upR R a 0 (C.length + 1)) a 1 (C.length + 2)) L := by
    have := (z1.app (X := [(13, 12)])).r (a := a) (j := 1) (v := C.length + 2) (by rw [List.length_append, List.length_append]; omega)
    rwa [ap1] at this
  have z3 : Zr (C ++ [(13, 12), (13, 12), (13, 12)]) I (upR (upR (upR R a 0 (C.length + 1)) a 1 (C.length + 2)) a 2 (C.length + 3)) L := by
    have := (z2.app (X := [(13, 12)])).r (a := a) (j := 2) (v := C.length + 3) (by rw [List.length_append, List.length_append]; omega)
    rwa [ap2] at this
  have h1 : krm C.length 3 36 (wz C I R L) 12 = true := krm_w (X := []) (List.append_nil C).symm (by decide) (by decide)
  have h2 : krm C.length 3 36 (wz (C ++ [(13, 12)]) I (upR R a 0 (C.length + 1)) L) 12 = true := krm_w (X := [(13, 12)]) rfl (by decide) (by decide)
  have h3 : krm C.length 3 36 (wz (C ++ [(13, 12), (13, 12)]) I (upR (upR R a 0 (C.length + 1)) a 1 (C.length + 2)) L) 12 = true := krm_w (X := [(13, 12), (13, 12)]) rfl (by decide) (by decide)
  have h4 : kend C.length 3 36 (wz (C ++ [(13, 12), (13, 12), (13, 12)]) I (upR (upR (upR R a 0 (C.length + 1)) a 1 (C.length + 2)) a 2 (C.length + 3)) L) = true := kend_w (X := [(13, 12), (13, 12), (13, 12)]) rfl (by decide) (by decide)
  refine ⟨?_, z3⟩
  unfold F_X2_init F_X2_init_b
  simp only [wz_1, show (12 : Int32).toNatClampNeg = 12 from rfl, decide_eq_true (cqt_ne ha), kg_t, h1, h2, h3, h4, kl_v, wz_new hz, wz_new z1, wz_new z2, ap1, ap2, l1, l2, wz_kt, cqt_app ha, wz_ksR]
theorem i_X9 (hz : Zr C I R L) (ha : cqt C a 9 = true) : F_X9_init N (wz C I R L) a b = some (wz (C ++ [(13, 801), (13, 801), (13, 801)]) (up I a 7 (-1)) (upR (upR (upR (upR R a 1 (C.length + 1)) a 2 (C.length + 2)) a 3 (C.length + 3)) a 0 b) L) ∧ Zr (C ++ [(13, 801), (13, 801), (13, 801)]) (up I a 7 (-1)) (upR (upR (upR (upR R a 1 (C.length + 1)) a 2 (C.length + 2)) a 3 (C.length + 3)) a 0 b) L := by
  have hl := cqt_le ha
  have z1 : Zr (C ++ [(13, 801)]) I (upR R a 1 (C.length + 1)) L := (hz.app).r (by rw [List.length_append]; omega)
  have z2 : Zr (C ++ [(13, 801), (13, 801)]) I (upR (upR R a 1 (C.length + 1)) a 2 (C.length + 2)) L := by
    have := (z1.app (X := [(13, 801)])).r (a := a) (j := 2) (v := C.length + 2) (by rw [List.length_append, List.length_append]; omega)
    rwa [ap1] at this
  have z3 : Zr (C ++ [(13, 801), (13, 801), (13, 801)]) I (upR (upR (upR R a 1 (C.length + 1)) a 2 (C.length + 2)) a 3 (C.length + 3)) L := by
    have := (z2.app (X := [(13, 801)])).r (a := a) (j := 3) (v := C.length + 3) (by rw [List.length_append, List.length_append]; omega)
    rwa [ap2] at this
  have hl3 : a ≤ (C ++ [(13, 801), (13, 801), (13, 801)]).length := by rw [List.length_append]; omega
  have h1 : krm C.length 3 2403 (wz C I R L) 801 = true := krm_w (X := []) (List.append_nil C).symm (by decide) (by decide)
  have h2 : krm C.length 3 2403 (wz (C ++ [(13, 801)]) I (upR R a 1 (C.length + 1)) L) 801 = true := krm_w (X := [(13, 801)]) rfl (by decide) (by decide)
  have h3 : krm C.length 3 2403 (wz (C ++ [(13, 801), (13, 801)]) I (upR (upR R a 1 (C.length + 1)) a 2 (C.length + 2)) L) 801 = true := krm_w (X := [(13, 801), (13, 801)]) rfl (by decide) (by decide)
  have h4 : kend C.length 3 2403 (wz (C ++ [(13, 801), (13, 801), (13, 801)]) (up I a 7 (-1)) (upR (upR (upR (upR R a 1 (C.length + 1)) a 2 (C.length + 2)) a 3 (C.length + 3)) a 0 b) L) = true := kend_w (X := [(13, 801), (13, 801), (13, 801)]) rfl (by decide) (by decide)
  refine ⟨?_, (z3.i hl3).r hl3⟩
  unfold F_X9_init F_X9_init_b
  simp only [wz_1, show (801 : Int32).toNatClampNeg = 801 from rfl, decide_eq_true (cqt_ne ha), kg_t, h1, h2, h3, h4, kl_v, wz_new hz, wz_new z1, wz_new z2, ap1, ap2, l1, l2, wz_kt, cqt_app ha, wz_ksR, wz_ksI]
theorem i_X10 (hz : Zr C I R L) (ha : cqt C a 10 = true) : F_X10_init N (wz C I R L) a x = some (wz C (up I a 0 x) R L) ∧ Zr C (up I a 0 x) R L := by
  have hl := cqt_le ha
  have h4 : kend C.length 0 0 (wz C (up I a 0 x) R L) = true := kend_w (X := []) (List.append_nil C).symm (by decide) (by decide)
  refine ⟨?_, hz.i hl⟩
  unfold F_X10_init F_X10_init_b
  simp only [wz_1, decide_eq_true (cqt_ne ha), kg_t, kl_v, wz_kt, ha, wz_ksI, h4]
theorem i_X1 (hz : Zr C I R L) (ha : cqt C a 1 = true) : F_X1_init N (wz C I R L) a = some (wz C I R L) ∧ Zr C I R L := by
  have h4 : kend C.length 0 0 (wz C I R L) = true := kend_w (X := []) (List.append_nil C).symm (by decide) (by decide)
  refine ⟨?_, hz⟩
  unfold F_X1_init F_X1_init_b
  simp only [wz_1, decide_eq_true (cqt_ne ha), kg_t, h4]
end
