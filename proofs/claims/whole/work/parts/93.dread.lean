/-! the class reads a command, closes a bracket -/
section
variable {N : Nat} {I I' : kInts} {L : kLngs} {n c k d i j : Nat} {T : Nat → Nat} {σ : sg}
theorem nm2.kp (_ : nm2 I i) (_ : ∀ a x, 15 + i ≤ a → a < 15 + i → I' a x = I a x) : nm2 I' i := trivial
theorem PSc.err (h : PSc I n T c k d σ) (hS : CS I' n T c (erS n T i j)) (e : CF I I') : PSc I' n T c k d (erS n T i j) := ⟨hS, h.2.1, ⟨(e _ _ (by omega)).trans h.2.2.1.1, (e _ _ (by omega)).trans h.2.2.1.2.1, (e _ _ (by omega)).trans h.2.2.1.2.2⟩, fun i hi => (h.2.2.2.1 i hi).cf e, fun j hj => by cases hj⟩
/-- the bracket of a repeat -/
theorem cx_open (h : CS I n T c σ) (hd : d ≤ 2) (hk : k < 30) (h1 : I 10 1 = nI (k + 1)) (h3 : I 10 3 = nI d) : ∃ I' d', F_X6_openBracket N (wm Mb I L) 10 6 = some (wm Mb I' L) ∧ CS I' n T c (stp n T σ (cBr n T d)) ∧ d' ≤ 2 ∧ I' 10 3 = nI d' ∧ (okS (stp n T σ (cBr n T d)) = true → d' = d + 1 ∧ I' 12 d = nI k) ∧ ∀ a x, ¬ (a = 6 ∧ 5 ≤ x ∧ x ≤ 7) → ¬ (a = 12 ∧ x = d) → ¬ (a = 10 ∧ x = 3) → I' a x = I a x := by
  by_cases hd2 : d < 2
  · have e : cBr n T d = cG n T 40 := funext fun q => by unfold cBr cG; rw [if_pos hd2]
    rw [e]
    obtain ⟨I1, a1, a2, a3⟩ := cx_sg (N := N) (L := L) h (ch := 40) (by decide)
    have q1 : I1 10 1 = nI (k + 1) := (a3 _ _ (by omega)).trans h1
    have q3 : I1 10 3 = nI d := (a3 _ _ (by omega)).trans h3
    have e3 : up I1 12 d (nI k) 10 3 = nI d := (up_ne (by omega)).trans q3
    have es : nI (k + 1) - 1 = nI k := pk_sub (a := k + 1) (b := 1) (by omega)
    refine ⟨up (up I1 12 d (nI k)) 10 3 (nI (d + 1)), d + 1, ?_, a2.fr (fun a x y => (up_ne (by omega)).trans (up_ne (by omega))), by omega, up_eq, fun _ => ⟨rfl, (up_ne (by omega)).trans up_eq⟩, fun a x y1 y2 y3 => (up_ne (by omega)).trans ((up_ne (by omega)).trans (a3 a x y1))⟩
    unfold F_X6_openBracket
    rw [show nI 40 = 40 from rfl] at a1
    simp (disch := omega) only [wm_kR, wm_kt, wm_kn, wm_kin, wm_kL, wm_kI, wm_ksI, wm_ksL, wm_kJ, wm_ksJ, kg_t, kl_v, Option.bind_some, sh13.1, sh13.2.2.1, sh15.1, sh15.2, s6.1, ofNnI, h3, nI_ltP, if_pos hd2, a1, q1, q3, es, kin_nI sh15.1 sh15.2 hd2 (by decide), kx_nI, e3, nI_1]
  · have e2 : d = 2 := by omega
    subst e2
    have hat := cx_sign (N := N) (L := L) h (ch := 40) (by decide)
    rw [show nI 40 = 40 from rfl] at hat
    have fin : ∀ e, (1 ≤ e ∧ e ≤ 5) → (∀ j, σ = .inl j → cBr n T 2 j = e) → ∃ I', F_X9_refuse N (wm Mb I L) 6 (nI e) = some (wm Mb I' L) ∧ CS I' n T c (stp n T σ (cBr n T 2)) ∧ CF I I' := by
      intro e he hc
      obtain ⟨I1, a1, a2, a3⟩ := cx_refuse (N := N) (L := L) h he
      refine ⟨I1, a1, ?_, a3⟩
      cases σ with
      | inr x => exact a2
      | inl j =>
        rw [stp_e (by rw [hc j rfl]; omega), hc j rfl]
        exact a2
    have nok : ¬ okS (stp n T σ (cBr n T 2)) = true := by
      cases σ with
      | inr x => exact fun z => by cases z
      | inl j =>
        rw [stp_e (by unfold cBr; split <;> decide)]
        exact fun z => by cases z
    by_cases hg : qs σ (isG n T 40) = true
    · rw [if_pos hg] at hat
      obtain ⟨I1, a1, a2, a3⟩ := fin 5 (by decide) (fun j hj => by subst hj; unfold cBr; rw [if_pos (by exact hg)]; rfl)
      rw [show nI 5 = 5 from rfl] at a1
      refine ⟨I1, 2, ?_, a2, by omega, (a3 _ _ (by omega)).trans h3, fun z => absurd z nok, fun a x y1 y2 y3 => a3 a x y1⟩
      unfold F_X6_openBracket
      simp (disch := omega) only [wm_kR, wm_kt, wm_kn, wm_kin, wm_kL, wm_kI, wm_ksI, wm_ksL, wm_kJ, wm_ksJ, kg_t, kl_v, Option.bind_some, sh13.1, sh13.2.2.1, sh15.1, sh15.2, s6.1, ofNnI, h3, nI_ltP, if_neg (show ¬ 2 < 2 by decide), hat, if_neg one0, a1]
    · rw [if_neg hg] at hat
      obtain ⟨I1, a1, a2, a3⟩ := fin 1 (by decide) (fun j hj => by subst hj; unfold cBr; rw [if_neg (by exact hg)])
      rw [show nI 1 = 1 from rfl] at a1
      refine ⟨I1, 2, ?_, a2, by omega, (a3 _ _ (by omega)).trans h3, fun z => absurd z nok, fun a x y1 y2 y3 => a3 a x y1⟩
      unfold F_X6_openBracket
      simp (disch := omega) only [wm_kR, wm_kt, wm_kn, wm_kin, wm_kL, wm_kI, wm_ksI, wm_ksL, wm_kJ, wm_ksJ, kg_t, kl_v, Option.bind_some, sh13.1, sh13.2.2.1, sh15.1, sh15.2, s6.1, ofNnI, h3, nI_ltP, if_neg (show ¬ 2 < 2 by decide), hat, if_true, a1]
theorem cx_cmd (h : PSc I n T c k d (.inl j)) (hN : 1000 < N) : ∃ I' k' d', F_X6_readCommand N (wm Mb I L) 10 6 = some (wm Mb I' L) ∧ PSc I' n T c k' d' (ordS n T k d j) ∧ SC I I' ∧ (okS (ordS n T k d j) = true → k' = k + 1 ∧ d' = if kdW n T j = 8 then d + 1 else d) := by
  obtain ⟨hS, ⟨hk, hd⟩, ⟨h1, h3, h5⟩, hn, hst⟩ := id h
  have hkd := cx_kindW (N := N) (L := L) hS hN
  have hk8 := @kdW_8 n j T
  unfold ordS
  by_cases c1 : kdW n T j = 0
  · rw [if_pos c1] at hkd ⊢
    obtain ⟨I1, a1, a2, a3⟩ := cx_refuse (N := N) (L := L) hS (e := 1) (by decide)
    rw [show nI 1 = 1 from rfl] at a1
    refine ⟨I1, k, d, ?_, h.err a2 a3, CF_sc a3, fun z => by cases z⟩
    unfold F_X6_readCommand
    simp only [wm_kR, wm_kt, wm_kn, wm_kin, wm_kL, wm_kI, wm_ksI, wm_ksL, wm_kJ, wm_ksJ, kg_t, kl_v, Option.bind_some, s6.1, hkd, if_true, a1]
  · rw [if_neg c1] at hkd ⊢
    have ne1 : ¬ nI (kdW n T j) = -1 := nI_ne1 (by omega)
    by_cases c2 : 30 ≤ k
    · rw [if_pos c2]
      obtain ⟨I1, a1, a2, a3⟩ := cx_refuse (N := N) (L := L) hS (e := 5) (by decide)
      rw [show nI 5 = 5 from rfl] at a1
      refine ⟨I1, k, d, ?_, h.err a2 a3, CF_sc a3, fun z => by cases z⟩
      unfold F_X6_readCommand
      simp (disch := omega) only [wm_kR, wm_kt, wm_kn, wm_kin, wm_kL, wm_kI, wm_ksI, wm_ksL, wm_kJ, wm_ksJ, kg_t, kl_v, Option.bind_some, s6.1, hkd, if_neg ne1, sh13.1, sh13.2.1, sh14.1, sh14.2, ofNnI, h1, nI_ltP, if_neg (show ¬ k < 30 by omega), a1]
    · rw [if_neg c2]
      have hk30 : k < 30 := by omega
      let I2 := up (up I 10 1 (nI (k + 1))) (14 + k) 0 (nI (kdW n T j))
      have f2 : SC I I2 := (SC.rf'.up (by omega) (by omega)).up (by omega) (by omega)
      have S2 : CS I2 n T c (.inl j) := hS.fr (fun a x y => (up_ne (by omega)).trans (up_ne (by omega)))
      obtain ⟨I3, b1, b2, b3⟩ := cx_anyWord (N := N) (L := L) S2
      have S3 : CS I3 n T c (.inl (j + 1)) := by
        rw [stp_0 (by rw [kdW_tk c1]; rfl)] at b2
        exact b2
      have n3 : ∀ i, i < 30 → nm2 I3 i := fun i hi => ((hn i hi).kp (fun a x y1 y2 => (up_ne (by omega)).trans (up_ne (by omega)))).cf b3
      have z3 : I3 (14 + k) 0 = nI (kdW n T j) := (b3 _ _ (by omega)).trans up_eq
      obtain ⟨I4, g1, g2, g3, g4, g5⟩ := cx_words (N := N) (L := L) S3 hk30 (n3 k hk30) ⟨by omega, hk8⟩ z3 hN
      have p13 : ∀ x, x ≠ 1 → I4 10 x = I 10 x := fun x hx => (g3 _ _ (by omega) (by omega)).trans ((b3 _ _ (by omega)).trans ((up_ne (by omega)).trans (up_ne (by omega))))
      have p131 : I4 10 1 = nI (k + 1) := (g3 _ _ (by omega) (by omega)).trans ((b3 _ _ (by omega)).trans ((up_ne (by omega)).trans up_eq))
      have p4 : ∀ a x, 14 ≤ a → a < 14 + k → I4 a x = I a x := fun a x y1 y2 => (g3 _ _ (by omega) (by omega)).trans ((b3 _ _ (by omega)).trans ((up_ne (by omega)).trans (up_ne (by omega))))
      have p15 : ∀ x, I4 12 x = I 12 x := fun x => (g3 _ _ (by omega) (by omega)).trans ((b3 _ _ (by omega)).trans ((up_ne (by omega)).trans (up_ne (by omega))))
      have n4 : ∀ i, i < 30 → nm2 I4 i := fun i hi => by
        by_cases e : i = k
        · subst e; exact g4
        · exact (n3 i hi).kp (fun a x y1 y2 => g3 a x (by omega) (by omega))
      have z4 : I4 (14 + k) 0 = nI (kdW n T j) := (g3 _ _ (by omega) (by omega)).trans z3
      have f4 : SC I I4 := (f2.trans (CF_sc b3)).trans (CC_sc g3 hk30)
      have hfold : F_X6_readCommand N (wm Mb I L) 10 6 = if nI (kdW n T j) = 8 then (F_X6_openBracket N (wm Mb I4 L) 10 6).bind some else (F_X9_takeSign N (wm Mb I4 L) 6 59).bind some := by
        unfold F_X6_readCommand
        have es : nI k + 1 = nI (k + 1) := nI_1 k
        simp (disch := omega) only [wm_kR, wm_kt, wm_kn, wm_kin, wm_kL, wm_kI, wm_ksI, wm_ksL, wm_kJ, wm_ksJ, kg_t, kl_v, Option.bind_some, s6.1, hkd, if_neg ne1, sh13.1, sh13.2.1, sh14.1, sh14.2, ofNnI, h1, nI_ltP, if_pos hk30, kin_nI sh14.1 sh14.2 hk30 (by decide), kx_nI, cm_r hk30, es, sh_c hk30]
        rw [show up (up I 10 1 (nI (k + 1))) (14 + k) 0 (nI (kdW n T j)) = I2 from rfl]
        simp only [b1, wm_kR, wm_kt, wm_kn, wm_kin, wm_kL, wm_kI, wm_ksI, wm_ksL, wm_kJ, wm_ksJ, kg_t, kl_v, Option.bind_some, g1, sh_c hk30, sh13.1, s6.1]
      by_cases c8 : kdW n T j = 8
      · have q8 : nI (kdW n T j) = 8 := by rw [c8]; rfl
        have eE : endC n T (kdW n T j) d = cBr n T d := by unfold endC; rw [if_pos c8]
        rw [if_pos q8] at hfold
        obtain ⟨I5, d', a1, a2, a3, a4, a5, a6⟩ := cx_open (N := N) (L := L) g2 hd hk30 p131 ((p13 3 (by decide)).trans h3)
        have ew : stp n T (wlk n T (lsT n T (kdW n T j)) (.inl (j + 1))) (cBr n T d) = wlk n T (lsT n T (kdW n T j) ++ [endC n T (kdW n T j) d]) (.inl (j + 1)) := by
          rw [wlk_app, eE]; rfl
        rw [ew] at a2 a5
        refine ⟨I5, k + 1, d', by rw [hfold, a1]; rfl, ⟨a2, ⟨by omega, a3⟩, ⟨(a6 _ _ (by omega) (by omega) (by omega)).trans p131, a4, (a6 _ _ (by omega) (by omega) (by omega)).trans ((p13 5 (by decide)).trans h5)⟩, fun i hi => (n4 i hi).kp (fun a x y1 y2 => a6 a x (by omega) (by omega) (by omega)), fun q hq => ?_⟩, fun a x y1 y2 => (a6 a x y1 (by omega) (by omega)).trans (f4 a x y1 y2), fun ok => ⟨rfl, by rw [if_pos c8]; exact (a5 ok).1⟩⟩
        have ok : okS (wlk n T (lsT n T (kdW n T j) ++ [endC n T (kdW n T j) d]) (.inl (j + 1))) = true := by rw [hq]; rfl
        have hd' : hdO n T d j := ⟨c1, ok⟩
        obtain ⟨e1, e2⟩ := a5 ok
        have eq : q = nxT n T j := by have := hd'.nx; rw [hq] at this; cases this; rfl
        subst e1
        refine ⟨k, j, 0, [], Stk_kp d k j (hst j rfl) (fun a x y1 y2 => (a6 a x (by omega) (by omega) (by omega)).trans (p4 a x y1 y2)) (fun x hx => (a6 _ _ (by omega) (by omega) (by omega)).trans (p15 x)), ⟨hd', c8, hk30, (a6 _ _ (by omega) (by omega) (by omega)).trans z4, (g5 (okS_app ok)).kp (fun a x y1 y2 y3 => a6 a x (by omega) (by omega) (by omega))⟩, e2, rfl, eq, rfl⟩
      · have q8 : ¬ nI (kdW n T j) = 8 := fun z => c8 (by
          have := congrArg kx z
          rw [kx_nI (by omega)] at this
          exact this)
        have eE : endC n T (kdW n T j) d = cG n T 59 := by unfold endC; rw [if_neg c8]
        rw [if_neg q8] at hfold
        obtain ⟨I5, a1, a2, a3⟩ := cx_sg (N := N) (L := L) g2 (ch := 59) (by decide)
        rw [show nI 59 = 59 from rfl] at a1
        have ew : stp n T (wlk n T (lsT n T (kdW n T j)) (.inl (j + 1))) (cG n T 59) = wlk n T (lsT n T (kdW n T j) ++ [endC n T (kdW n T j) d]) (.inl (j + 1)) := by
          rw [wlk_app, eE]; rfl
        rw [ew] at a2
        refine ⟨I5, k + 1, d, by rw [hfold, a1]; rfl, ⟨a2, ⟨by omega, hd⟩, ⟨(a3 _ _ (by omega)).trans p131, (a3 _ _ (by omega)).trans ((p13 3 (by decide)).trans h3), (a3 _ _ (by omega)).trans ((p13 5 (by decide)).trans h5)⟩, fun i hi => (n4 i hi).cf a3, fun q hq => ?_⟩, f4.trans (CF_sc a3), fun ok => ⟨rfl, by rw [if_neg c8]⟩⟩
        have ok : okS (wlk n T (lsT n T (kdW n T j) ++ [endC n T (kdW n T j) d]) (.inl (j + 1))) = true := by rw [hq]; rfl
        have hd' : hdO n T d j := ⟨c1, ok⟩
        have eq : q = nxT n T j := by have := hd'.nx; rw [hq] at this; cases this; rfl
        have s1 : Stk I5 n T d k j := Stk_kp d k j (hst j rfl) (fun a x y1 y2 => (a3 a x (by omega)).trans (p4 a x y1 y2)) (fun x hx => (a3 _ _ (by omega)).trans (p15 x))
        have hk' : HDK I5 n T k j := ⟨hk30, (a3 _ _ (by omega)).trans z4, (g5 (okS_app ok)).kp (fun a x y1 y2 y3 => a3 a x (by omega))⟩
        exact Stk_app s1 (z := 1) (F := [(k, j)]) (Or.inr (Or.inl ⟨[], rfl, hd', c8, hk', rfl, eq, rfl⟩))
theorem cx_close (h : PSc I n T c k (d + 1) (.inl j)) (hg : isG n T 41 j = true) : ∃ I', F_X6_closeBracket N (wm Mb I L) 10 6 = some (wm Mb I' L) ∧ PSc I' n T c k d (stp n T (.inl (j + 1)) (cG n T 59)) ∧ SC I I' := by
  obtain ⟨hS, ⟨hk, hd⟩, ⟨h1, h3, h5⟩, hn, hst⟩ := id h
  obtain ⟨I1, a1, a2, a3⟩ := cx_sg (N := N) (L := L) hS (ch := 41) (by decide)
  rw [stp_0 (by unfold cG; rw [if_pos hg])] at a2
  obtain ⟨I2, b1, b2, b3⟩ := cx_sg (N := N) (L := L) a2 (ch := 59) (by decide)
  have f2 : CF I I2 := a3.trans b3
  obtain ⟨k0, j0, z, F, s1, ⟨s2, s3, s4⟩, s5, s6'⟩ := hst j rfl
  have le := Sq_le _ _ _ _ _ _ _ s6'
  have hk0 : k0 < 30 := s4.1
  have q3 : I2 10 3 = nI (d + 1) := (f2 _ _ (by omega)).trans h3
  have es : nI (d + 1) - 1 = nI d := pk_sub (a := d + 1) (b := 1) (by omega)
  have q15 : I2 12 d = nI k0 := (f2 _ _ (by omega)).trans s5
  have e15 : up I2 10 3 (nI d) 12 d = nI k0 := (up_ne (by omega)).trans q15
  have e1 : up I2 10 3 (nI d) 10 1 = nI k := (up_ne (by omega)).trans ((f2 _ _ (by omega)).trans h1)
  have e3 : up I2 10 3 (nI d) 10 3 = nI d := up_eq
  rw [show nI 41 = 41 from rfl] at a1
  rw [show nI 59 = 59 from rfl] at b1
  refine ⟨up (up I2 10 3 (nI d)) (14 + k0) 6 (nI k), ?_, ⟨b2.fr (fun a x y => (up_ne (by omega)).trans (up_ne (by omega))), ⟨hk, by omega⟩, ⟨(up_ne (by omega)).trans e1, (up_ne (by omega)).trans e3, (up_ne (by omega)).trans ((up_ne (by omega)).trans ((f2 _ _ (by omega)).trans h5))⟩, fun i hi => ((hn i hi).cf f2).kp (fun a x y1 y2 => (up_ne (by omega)).trans (up_ne (by omega))), fun q hq => ?_⟩, ((CF_sc f2).up (by omega) (by omega)).up (by omega) (by omega)⟩
  · have e0 : ((0 : Int32) < nI (d + 1)) = True := eq_true (nI_lt (a := 0) (by omega) (by omega))
    unfold F_X6_closeBracket
    simp (disch := omega) only [wm_kR, wm_kt, wm_kn, wm_kin, wm_kL, wm_kI, wm_ksI, wm_ksL, wm_kJ, wm_ksJ, kg_t, kl_v, Option.bind_some, s6.1, a1, b1, sh13.1, sh13.2.2.1, sh15.1, sh15.2, ofNnI, q3, nI_ltP, e0, if_true, if_neg (show ¬ 2 < d + 1 by omega), es, e3, e15, kin_nI sh15.1 sh15.2 (show d < 2 by omega) (by decide), kx_nI, cx_cmAt hk0, sh_c hk0, e1]
  · have hg2 : isG n T 59 (j + 1) = true ∧ q = j + 2 := by
      by_cases y : isG n T 59 (j + 1) = true
      · rw [stp_0 (by unfold cG; rw [if_pos y])] at hq
        cases hq
        exact ⟨y, rfl⟩
      · rw [stp_e (by unfold cG; rw [if_neg y]; decide)] at hq
        cases hq
    rw [hg2.2]
    have hfr : ∀ a x, 14 ≤ a → ¬ (a = 14 + k0 ∧ x = 6) → up (up I2 10 3 (nI d)) (14 + k0) 6 (nI k) a x = I a x := fun a x y1 y2 => (up_ne (by omega)).trans ((up_ne (by omega)).trans (f2 a x (by omega)))
    have t1 : Stk (up (up I2 10 3 (nI d)) (14 + k0) 6 (nI k)) n T d k0 j0 := Stk_kp d k0 j0 s1 (fun a x y1 y2 => hfr a x y1 (by omega)) (fun x hx => (up_ne (by omega)).trans ((up_ne (by omega)).trans (f2 _ _ (by omega))))
    have t2 : Sq (up (up I2 10 3 (nI d)) (14 + k0) 6 (nI k)) n T z (d + 1) (k0 + 1) (nxT n T j0) k j F := Sq_kp _ _ _ _ _ _ _ s6' (fun a x y1 y2 => hfr a x (by omega) (by omega))
    have t3 : HDK (up (up I2 10 3 (nI d)) (14 + k0) 6 (nI k)) n T k0 j0 := s4.kp (fun a x y1 y2 y3 => hfr a x (by omega) y3)
    refine Stk_app t1 (z := z + 1) (F := (List.replicate (nuv n T (j0 + 1)) F).flatten ++ []) (Or.inr (Or.inr ⟨k, j, F, [], rfl, ⟨s2, s3, t3⟩, t2, ⟨hg, hg2.1, up_eq⟩, ?_⟩))
    cases z with
    | zero => exact ⟨rfl, rfl, rfl⟩
    | succ z => exact Or.inl ⟨rfl, rfl, rfl⟩
end
