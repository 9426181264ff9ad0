/-! the class reads a command's words -/
section
variable {N : Nat} {I : kInts} {L : kLngs} {n c i j k : Nat} {T : Nat → Nat} {σ : sg}
/-- what reading the words of a command of kind k gives -/
def WD (N : Nat) (I : kInts) (L : kLngs) (n : Nat) (T : Nat → Nat) (c i k j : Nat) : Prop := ∃ I', F_X1_readWords N (wm Mb I L) (14 + i) 6 = some (wm Mb I' L) ∧ CS I' n T c (wlk n T (lsT n T k) (.inl j)) ∧ CC i I I' ∧ nm2 I' i ∧ (okS (wlk n T (lsT n T k) (.inl j)) = true → ARG I' n T i k j)
theorem wd_6 (hS : CS I n T c (.inl j)) (hi : i < 30) (hn : nm2 I i) (h0 : I (14 + i) 0 = nI 6) (hN : 1000 < N) : WD N I L n T c i 6 j := by
  obtain ⟨I1, a1, a2, a3⟩ := cx_number (N := N) (L := L) (x2 := 20) hS (lo := 0) (hh := 21) (by decide) (by decide) (by decide) hN
  rw [show nI 0 = 0 from rfl] at a1
  refine ⟨up I1 (14 + i) 3 (nuV n T 0 21 (.inl j)), ?_, CS_up a2 hi, (CF_cc a3).up (by omega), (hn.cf a3).up, fun ok => ?_⟩
  · unfold F_X1_readWords
    rw [show wm Mb I L = wm Mb I L from rfl]
    simp (disch := decide) only [wm_kR, wm_kt, wm_kn, wm_kin, wm_kL, wm_kI, wm_ksI, wm_ksL, wm_kJ, wm_ksJ, kg_t, kl_v, Option.bind_some, sh_c hi, h0, s6.1, show ¬ ((6 : Int32) = 1) by decide, show ¬ ((6 : Int32) = 2) by decide, show ¬ ((6 : Int32) = 3) by decide, show ¬ ((6 : Int32) = 4) by decide, show ¬ ((6 : Int32) = 5) by decide, show nI 6 = 6 from rfl, if_false, if_true, a1]
  · obtain ⟨o1, -, -⟩ := wlk_ok (f := cN n T 0 21) (l := []) ok
    refine ⟨fun z => by omega, fun z => by omega, fun z => by omega, fun z => by omega, fun z => by omega, fun _ => ?_⟩
    rw [up_eq, nuV_0 o1]
theorem wd_7 (hS : CS I n T c (.inl j)) (hi : i < 30) (hn : nm2 I i) (h0 : I (14 + i) 0 = nI 7) (hN : 1000 < N) : WD N I L n T c i 7 j := by
  obtain ⟨I1, a1, a2, a3⟩ := cx_number (N := N) (L := L) (x2 := 30) hS (lo := 1) (hh := 31) (by decide) (by decide) (by decide) hN
  rw [show nI 1 = 1 from rfl] at a1
  refine ⟨up I1 (14 + i) 3 (nuV n T 1 31 (.inl j)), ?_, CS_up a2 hi, (CF_cc a3).up (by omega), (hn.cf a3).up, fun ok => ?_⟩
  · unfold F_X1_readWords
    simp (disch := decide) only [wm_kR, wm_kt, wm_kn, wm_kin, wm_kL, wm_kI, wm_ksI, wm_ksL, wm_kJ, wm_ksJ, kg_t, kl_v, Option.bind_some, sh_c hi, h0, s6.1, show ¬ ((7 : Int32) = 1) by decide, show ¬ ((7 : Int32) = 2) by decide, show ¬ ((7 : Int32) = 3) by decide, show ¬ ((7 : Int32) = 4) by decide, show ¬ ((7 : Int32) = 5) by decide, show ¬ ((7 : Int32) = 6) by decide, show nI 7 = 7 from rfl, if_false, if_true, a1]
  · obtain ⟨o1, -, -⟩ := wlk_ok (f := cN n T 1 31) (l := []) ok
    refine ⟨fun z => by omega, fun z => by omega, fun z => by omega, fun z => by omega, fun z => by omega, fun _ => ?_⟩
    rw [up_eq, nuV_0 o1]
theorem wd_8 (hS : CS I n T c (.inl j)) (hi : i < 30) (hn : nm2 I i) (h0 : I (14 + i) 0 = nI 8) (hN : 1000 < N) : WD N I L n T c i 8 j := by
  obtain ⟨I1, a1, a2, a3⟩ := cx_number (N := N) (L := L) (x2 := 20) hS (lo := 1) (hh := 21) (by decide) (by decide) (by decide) hN
  rw [show nI 1 = 1 from rfl] at a1
  refine ⟨up I1 (14 + i) 3 (nuV n T 1 21 (.inl j)), ?_, CS_up a2 hi, (CF_cc a3).up (by omega), (hn.cf a3).up, fun ok => ?_⟩
  · unfold F_X1_readWords
    simp (disch := decide) only [wm_kR, wm_kt, wm_kn, wm_kin, wm_kL, wm_kI, wm_ksI, wm_ksL, wm_kJ, wm_ksJ, kg_t, kl_v, Option.bind_some, sh_c hi, h0, s6.1, show ¬ ((8 : Int32) = 1) by decide, show ¬ ((8 : Int32) = 2) by decide, show ¬ ((8 : Int32) = 3) by decide, show ¬ ((8 : Int32) = 4) by decide, show ¬ ((8 : Int32) = 5) by decide, show ¬ ((8 : Int32) = 6) by decide, show ¬ ((8 : Int32) = 7) by decide, show nI 8 = 8 from rfl, if_false, if_true, a1]
  · obtain ⟨o1, -, -⟩ := wlk_ok (f := cN n T 1 21) (l := []) ok
    refine ⟨fun z => by omega, fun z => by omega, fun z => by omega, fun z => by omega, fun z => by omega, fun _ => ?_⟩
    rw [up_eq, nuV_0 o1]
theorem wd_3 (hS : CS I n T c (.inl j)) (hi : i < 30) (hn : nm2 I i) (h0 : I (14 + i) 0 = nI 3) (hN : 1000 < N) : WD N I L n T c i 3 j := by
  obtain ⟨I1, v, a1, a2, a3, a5⟩ := cx_name1 (N := N) (L := L) hS hN
  refine ⟨upJ I1 (14 + i) 1 v, ?_, CS_upJ a2 hi, (CF_cc a3).upJ, trivial, fun ok => ?_⟩
  · unfold F_X1_readWords
    simp (disch := decide) only [wm_kR, wm_kt, wm_kn, wm_kin, wm_kL, wm_kI, wm_ksI, wm_ksL, wm_kJ, wm_ksJ, kg_t, kl_v, Option.bind_some, sh_c hi, h0, s6.1, show ¬ ((3 : Int32) = 1) by decide, show ¬ ((3 : Int32) = 2) by decide, show nI 3 = 3 from rfl, if_false, if_true, a1]
  · obtain ⟨o1, -, -⟩ := wlk_ok (f := cMn n T) (l := []) ok
    exact ⟨fun _ => by rw [jn_eq]; exact a5 j rfl o1, fun z => by omega, fun z => by omega, fun z => by omega, fun z => by omega, fun z => by omega⟩
theorem wd_1 (hS : CS I n T c (.inl j)) (hi : i < 30) (hn : nm2 I i) (h0 : I (14 + i) 0 = nI 1) (hN : 1000 < N) : WD N I L n T c i 1 j := by
  obtain ⟨I1, v, a1, a2, a3, a5⟩ := cx_name1 (N := N) (L := L) hS hN
  have a2' := CS_upJ (q := 1) (v := v) a2 hi
  obtain ⟨I2, b1, b2, b3⟩ := cx_number (N := N) (L := L) (x2 := 99) a2' (lo := 1) (hh := 100) (by decide) (by decide) (by decide) hN
  have b2' := CS_up (q := 3) (v := nuV n T 1 100 (stp n T (.inl j) (cMn n T))) b2 hi
  obtain ⟨I3, d1, d2, d3⟩ := cx_number (N := N) (L := L) (x2 := 9999) b2' (lo := 0) (hh := 10000) (by decide) (by decide) (by decide) hN
  rw [show nI 1 = 1 from rfl] at b1
  rw [show nI 0 = 0 from rfl] at d1
  refine ⟨up I3 (14 + i) 4 (nuV n T 0 10000 (stp n T (stp n T (.inl j) (cMn n T)) (cN n T 1 100))), ?_, CS_up d2 hi, (((CF_cc a3).upJ.trans ((CF_cc b3).up (by omega))).trans (CF_cc d3)).up (by omega), trivial, fun ok => ?_⟩
  · unfold F_X1_readWords
    simp (disch := decide) only [wm_kR, wm_kt, wm_kn, wm_kin, wm_kL, wm_kI, wm_ksI, wm_ksL, wm_kJ, wm_ksJ, kg_t, kl_v, Option.bind_some, sh_c hi, h0, s6.1, show nI 1 = 1 from rfl, if_false, if_true, a1, b1, d1]
  · obtain ⟨o1, ok2, e1⟩ := wlk_ok (f := cMn n T) (l := [cN n T 1 100, cN n T 0 10000]) ok
    obtain ⟨o2, ok3, e2⟩ := wlk_ok (f := cN n T 1 100) (l := [cN n T 0 10000]) ok2
    obtain ⟨o3, -, -⟩ := wlk_ok (f := cN n T 0 10000) (l := []) ok3
    refine ⟨fun _ => ?_, fun z => by omega, fun _ => ⟨?_, ?_⟩, fun z => by omega, fun z => by omega, fun z => by omega⟩
    · rw [jn_up (Or.inr (by decide)), jn_cf d3 (by omega), jn_up (Or.inr (by decide)), jn_cf b3 (by omega), jn_eq]
      exact a5 j rfl o1
    · rw [up_ne (by omega), d3 _ _ (by omega), up_eq, stp_0 o1, nuV_0 o2]
    · rw [up_eq, stp_0 o1, stp_0 o2, nuV_0 o3]
theorem wd_2 (hS : CS I n T c (.inl j)) (hi : i < 30) (hn : nm2 I i) (h0 : I (14 + i) 0 = nI 2) (hN : 1000 < N) : WD N I L n T c i 2 j := by
  obtain ⟨I1, v, a1, a2, a3, a5⟩ := cx_name1 (N := N) (L := L) hS hN
  have a2' := CS_upJ (q := 1) (v := v) a2 hi
  obtain ⟨I2, b1, b2, b3⟩ := cx_number (N := N) (L := L) (x2 := 4) a2' (lo := 0) (hh := 5) (by decide) (by decide) (by decide) hN
  have b2' := CS_up (q := 3) (v := nuV n T 0 5 (stp n T (.inl j) (cMn n T))) b2 hi
  obtain ⟨I3, d1, d2, d3⟩ := cx_side (N := N) (L := L) b2' hN
  obtain ⟨I4, g1, g2, g3⟩ := cx_number (N := N) (L := L) (x2 := 6) d2 (lo := 1) (hh := 7) (by decide) (by decide) (by decide) hN
  rw [show nI 0 = 0 from rfl] at b1
  rw [show nI 1 = 1 from rfl] at g1
  refine ⟨up I4 (14 + i) 5 (sdV n T (stp n T (stp n T (.inl j) (cMn n T)) (cN n T 0 5)) * nuV n T 1 7 (stp n T (stp n T (stp n T (.inl j) (cMn n T)) (cN n T 0 5)) (sdC n T))), ?_, CS_up g2 hi, ((((CF_cc a3).upJ.trans ((CF_cc b3).up (by omega))).trans (CF_cc d3)).trans (CF_cc g3)).up (by omega), trivial, fun ok => ?_⟩
  · unfold F_X1_readWords
    simp (disch := decide) only [wm_kR, wm_kt, wm_kn, wm_kin, wm_kL, wm_kI, wm_ksI, wm_ksL, wm_kJ, wm_ksJ, kg_t, kl_v, Option.bind_some, sh_c hi, h0, s6.1, show ¬ ((2 : Int32) = 1) by decide, show nI 2 = 2 from rfl, if_false, if_true, a1, b1, d1, g1]
  · obtain ⟨o1, ok2, e1⟩ := wlk_ok (f := cMn n T) (l := [cN n T 0 5, sdC n T, cN n T 1 7]) ok
    obtain ⟨o2, ok3, e2⟩ := wlk_ok (f := cN n T 0 5) (l := [sdC n T, cN n T 1 7]) ok2
    obtain ⟨o3, ok4, e3⟩ := wlk_ok (f := sdC n T) (l := [cN n T 1 7]) ok3
    obtain ⟨o4, -, -⟩ := wlk_ok (f := cN n T 1 7) (l := []) ok4
    refine ⟨fun _ => ?_, fun z => by omega, fun z => by omega, fun _ => ⟨?_, ?_⟩, fun z => by omega, fun z => by omega⟩
    · rw [jn_up (Or.inr (by decide)), jn_cf g3 (by omega), jn_cf d3 (by omega), jn_up (Or.inr (by decide)), jn_cf b3 (by omega), jn_eq]
      exact a5 j rfl o1
    · rw [up_ne (by omega), g3 _ _ (by omega), d3 _ _ (by omega), up_eq, stp_0 o1, nuV_0 o2]
    · rw [up_eq, stp_0 o1, stp_0 o2, stp_0 o3, nuV_0 o4]
/-- two names: the second isn't the first -/
theorem cx_two (hS : CS I n T c (.inl j)) (hi : i < 30) (hN : 1000 < N) : ∃ I', F_X1_readTwoNames N (wm Mb I L) (14 + i) 6 = some (wm Mb I' L) ∧ CS I' n T c (stp n T (stp n T (.inl j) (cMn n T)) (cOt n T)) ∧ CC i I I' ∧ (cMn n T j = 0 → cOt n T (j + 1) = 0 → nmV (jn I' (14 + i) 1) (nmc n T j) ∧ nmV (jn I' (14 + i) 2) (nmc n T (j + 1))) := by
  obtain ⟨I1, v1, a1, a2, a3, a5⟩ := cx_name1 (N := N) (L := L) hS hN
  have a2' := CS_upJ (q := 1) (v := v1) a2 hi
  obtain ⟨I2, v2, b1, b2, b3, b5⟩ := cx_name1 (N := N) (L := L) a2' hN
  have b2' := CS_upJ (q := 2) (v := v2) b2 hi
  have j1 : jn (upJ I2 (14 + i) 2 v2) (14 + i) 1 = v1 := by rw [jn_ne (Or.inr (by decide)), jn_cf b3 (by omega), jn_eq]
  have j2 : jn (upJ I2 (14 + i) 2 v2) (14 + i) 2 = v2 := jn_eq
  have cc : CC i I (upJ I2 (14 + i) 2 v2) := ((CF_cc a3).upJ.trans (CF_cc b3)).upJ
  -- what the check of both names does
  have key : F_X1_readTwoNames N (wm Mb I L) (14 + i) 6 = if v1 = v2 then F_X9_refuseTaken N (wm Mb (upJ I2 (14 + i) 2 v2) L) 6 3 else some (wm Mb (upJ I2 (14 + i) 2 v2) L) := by
    unfold F_X1_readTwoNames
    simp only [wm_kR, wm_kt, wm_kn, wm_kin, wm_kL, wm_kI, wm_ksI, wm_ksL, wm_kJ, wm_ksJ, kg_t, kl_v, Option.bind_some, sh_c hi, s6.1, a1, b1, j1, j2, lgc0]
    by_cases z : v1 = v2
    · simp only [if_pos z]
      cases F_X9_refuseTaken N (wm Mb (upJ I2 (14 + i) 2 v2) L) 6 3 <;> rfl
    · simp only [if_neg z]
  have err : ∀ x : Nat × Nat, CS (upJ I2 (14 + i) 2 v2) n T c (.inr x) → F_X1_readTwoNames N (wm Mb I L) (14 + i) 6 = some (wm Mb (upJ I2 (14 + i) 2 v2) L) := by
    intro x hx
    rw [key, ce_refuseT hx.err]
    split <;> rfl
  by_cases o1 : cMn n T j = 0
  · have e1 : stp n T (.inl j) (cMn n T) = .inl (j + 1) := stp_0 o1
    rw [e1] at b2' b5 ⊢
    by_cases o2 : cMn n T (j + 1) = 0
    · have n1 := a5 j rfl o1
      have n2 := b5 (j + 1) rfl o2
      have em : isM n T (j + 1) = true := by
        unfold cMn at o2
        by_cases z : isM n T (j + 1) = true
        · exact z
        · rw [if_neg z] at o2; cases o2
      have eo : cOt n T (j + 1) = if nmc n T (j + 1) = nmc n T j then 3 else 0 := by
        unfold cOt
        rw [if_pos em, Nat.add_sub_cancel]
      rw [stp_0 o2] at b2'
      have ev := n1.z.eq n2.z
      by_cases z : nmc n T j = nmc n T (j + 1)
      · obtain ⟨I3, d1, d2, d3⟩ := cx_refuseT (N := N) (L := L) b2' (e := 3) (by decide) (fun q hq => by cases hq; omega)
        refine ⟨I3, ?_, ?_, cc.trans (CF_cc d3), fun _ o3 => ?_⟩
        · rw [key, if_pos (by rw [ev]; exact z)]
          exact d1
        · have e3 : stp n T (.inl (j + 1)) (cOt n T) = .inr (3, tS n T (j + 1)) := by
            rw [stp_e (by rw [eo, if_pos z.symm]; decide), eo, if_pos z.symm]
            rfl
          rw [e3]
          exact d2
        · rw [eo, if_pos z.symm] at o3
          cases o3
      · refine ⟨_, ?_, ?_, cc, fun _ _ => ⟨by rw [j1]; exact n1, by rw [j2]; exact n2⟩⟩
        · rw [key, if_neg (by rw [ev]; exact z)]
        · rw [stp_0 (by rw [eo, if_neg (fun y => z y.symm)])]
          exact b2'
    · have em : ¬ isM n T (j + 1) = true := by
        intro z
        exact o2 (by unfold cMn; rw [if_pos z])
      have eo : cOt n T (j + 1) = 1 := by unfold cOt; rw [if_neg em]
      have ec : cMn n T (j + 1) = 1 := by unfold cMn; rw [if_neg em]
      rw [stp_e o2, ec] at b2'
      refine ⟨_, err _ b2', ?_, cc, fun _ o3 => ?_⟩
      · rw [stp_e (by rw [eo]; decide), eo]
        exact b2'
      · rw [eo] at o3; cases o3
  · have e1 : stp n T (.inl j) (cMn n T) = erS n T j (cMn n T j) := stp_e o1
    rw [e1] at b2' ⊢
    exact ⟨_, err _ b2', b2', cc, fun o => absurd o o1⟩
theorem wd_5 (hS : CS I n T c (.inl j)) (hi : i < 30) (hn : nm2 I i) (h0 : I (14 + i) 0 = nI 5) (hN : 1000 < N) : WD N I L n T c i 5 j := by
  obtain ⟨I1, a1, a2, a3, a5⟩ := cx_two (N := N) (L := L) hS hi hN
  refine ⟨I1, ?_, a2, a3, trivial, fun ok => ?_⟩
  · unfold F_X1_readWords
    simp (disch := decide) only [wm_kR, wm_kt, wm_kn, wm_kin, wm_kL, wm_kI, wm_ksI, wm_ksL, wm_kJ, wm_ksJ, kg_t, kl_v, Option.bind_some, sh_c hi, h0, s6.1, show ¬ ((5 : Int32) = 1) by decide, show ¬ ((5 : Int32) = 2) by decide, show ¬ ((5 : Int32) = 3) by decide, show ¬ ((5 : Int32) = 4) by decide, show nI 5 = 5 from rfl, if_false, if_true, a1]
  · obtain ⟨o1, ok2, e1⟩ := wlk_ok (f := cMn n T) (l := [cOt n T]) ok
    obtain ⟨o2, -, -⟩ := wlk_ok (f := cOt n T) (l := []) ok2
    obtain ⟨n1, n2⟩ := a5 o1 o2
    exact ⟨fun _ => n1, fun _ => n2, fun z => by omega, fun z => by omega, fun z => by omega, fun z => by omega⟩
theorem wd_4 (hS : CS I n T c (.inl j)) (hi : i < 30) (hn : nm2 I i) (h0 : I (14 + i) 0 = nI 4) (hN : 1000 < N) : WD N I L n T c i 4 j := by
  obtain ⟨I1, a1, a2, a3, a5⟩ := cx_two (N := N) (L := L) hS hi hN
  obtain ⟨I2, b1, b2, b3⟩ := cx_number (N := N) (L := L) (x2 := 50) a2 (lo := 1) (hh := 51) (by decide) (by decide) (by decide) hN
  rw [show nI 1 = 1 from rfl] at b1
  refine ⟨up I2 (14 + i) 3 (nuV n T 1 51 (stp n T (stp n T (.inl j) (cMn n T)) (cOt n T))), ?_, CS_up b2 hi, (a3.trans (CF_cc b3)).up (by omega), trivial, fun ok => ?_⟩
  · unfold F_X1_readWords
    simp (disch := decide) only [wm_kR, wm_kt, wm_kn, wm_kin, wm_kL, wm_kI, wm_ksI, wm_ksL, wm_kJ, wm_ksJ, kg_t, kl_v, Option.bind_some, sh_c hi, h0, s6.1, show ¬ ((4 : Int32) = 1) by decide, show ¬ ((4 : Int32) = 2) by decide, show ¬ ((4 : Int32) = 3) by decide, show nI 4 = 4 from rfl, if_false, if_true, a1, b1]
  · obtain ⟨o1, ok2, e1⟩ := wlk_ok (f := cMn n T) (l := [cOt n T, cN n T 1 51]) ok
    obtain ⟨o2, ok3, e2⟩ := wlk_ok (f := cOt n T) (l := [cN n T 1 51]) ok2
    obtain ⟨o3, -, -⟩ := wlk_ok (f := cN n T 1 51) (l := []) ok3
    obtain ⟨n1, n2⟩ := a5 o1 o2
    refine ⟨fun _ => by rw [jn_up (Or.inr (by decide)), jn_cf b3 (by omega)]; exact n1, fun _ => by rw [jn_up (Or.inr (by decide)), jn_cf b3 (by omega)]; exact n2, fun z => by omega, fun z => by omega, fun _ => ?_, fun z => by omega⟩
    rw [up_eq, stp_0 o1, stp_0 o2, nuV_0 o3]
theorem cx_words (hS : CS I n T c (.inl j)) (hi : i < 30) (hn : nm2 I i) (hk : 1 ≤ k ∧ k ≤ 8) (h0 : I (14 + i) 0 = nI k) (hN : 1000 < N) : WD N I L n T c i k j := by
  have : k = 1 ∨ k = 2 ∨ k = 3 ∨ k = 4 ∨ k = 5 ∨ k = 6 ∨ k = 7 ∨ k = 8 := by omega
  rcases this with rfl | rfl | rfl | rfl | rfl | rfl | rfl | rfl
  · exact wd_1 hS hi hn h0 hN
  · exact wd_2 hS hi hn h0 hN
  · exact wd_3 hS hi hn h0 hN
  · exact wd_4 hS hi hn h0 hN
  · exact wd_5 hS hi hn h0 hN
  · exact wd_6 hS hi hn h0 hN
  · exact wd_7 hS hi hn h0 hN
  · exact wd_8 hS hi hn h0 hN
end
