/-! the class, made: its first state -/
theorem y_Nu : ∀ m, m ∈ mks → Nu yId m := by
  have h : ∀ m, m ∈ mks → (∀ b, b < 5 → yId (bd m b) 0 = nI b) ∧ (∀ t, t < 24 → yId (tr m t) 0 = nI t) ∧ (∀ t, t < 24 → yId (tr m t) 5 = 0 ∨ yId (tr m t) 5 = 1) := by decide +kernel
  exact h
theorem y_0 : yId 2 1 = 0 ∧ yId 4 1 = 0 ∧ yId 126 1 = 0 := by decide +kernel
theorem y_z (a j : Nat) (h : 539 < a) : yId a j = 0 := (y_Zd a j (by rw [yD_l.2.2.2.2.2.2.2.2.2.2.2]; exact h)).1
theorem mk44 : ∀ m, m ∈ mks → 44 ≤ m := by decide
theorem q_kend {I : kInts} {L : kLngs} : kend 1 538 8722 (wm Mc I L) = true := by
  have h : (decide (1 ≤ cellsC.length) && (decide (cellsC.length - 1 ≤ 538) && decide (((cellsC.drop 1).map Prod.snd).sum ≤ 8722))) = true := by decide +kernel
  unfold kend ksl wm
  rw [Mc1]
  exact h
theorem q_kgr {I I' : kInts} {L L' : kLngs} : kgr 1 (wm Mc I L) (wm Mc I' L') 0 0 = true := by
  unfold kgr ksl wm
  rw [Mc1]
  simp
theorem mc_S : SMp Mc := ⟨fun a h1 h2 => cC h1 h2, fun a j h => if_pos h⟩
/-- the text is read into the market -/
theorem q_begin {Mb : SMem} {N : Nat} {I : kInts} {L : kLngs} (hC : CT I 188 fT) (hNu : ∀ m, m ∈ mks → Nu I m) (hN : 1000 < N) : ∃ I', F_X11_beginMarketOfText N (wm Mb I L) 1 = some (wm Mb I' L) ∧ (∃ h : RI fg9 2 4, RM I' 44 fg9 2 4) ∧ I' 2 1 = 0 ∧ I' 6 6 = 0 ∧ I' 6 7 = -1 ∧ Nu I' 44 ∧ Nu I' 85 ∧ I' 126 2 = 0 ∧ I' 457 0 = 0 ∧ I' 457 1 = 0 ∧ ∀ a j, a ≠ 2 → ¬ (6 ≤ a ∧ a ≤ 9) → ¬ (44 ≤ a ∧ a < 126) → ¬ (a = 126 ∧ j = 2) → a ≠ 457 → I' a j = I a j := by
  obtain ⟨I1, c, b1, b2, b3, b4, b5, b6⟩ := cx_begin (Mb := Mb) (N := N) (L := L) f_ok hC hN
  have hS : CS I1 188 fT c (.inl 0) := ⟨⟨f_ok, ⟨(b6 _ _ (by omega)).trans hC.1, fun k hk => (b6 _ _ (by omega)).trans (hC.2 k hk)⟩, b2⟩, b3, Nat.zero_le _, b4, b5⟩
  have hNu1 : ∀ m, m ∈ mks → Nu I1 m := fun m hm => (hNu m hm).kp (fun x j h1 h2 => b6 _ _ (by
    have := mk44 m hm
    omega))
  obtain ⟨v, rfl⟩ : ∃ v, N = v + 10 := ⟨N - 10, by omega⟩
  obtain ⟨I2, c1, D2, F2⟩ := q_hd (Mb := Mb) (N := v + 10) (L := L) hS (hNu1 85 (by decide)) (by rw [f_0]; rfl) hN
  rw [f_0] at D2
  obtain ⟨I3, c2, D3, Z3, F3⟩ := q_bo (Mb := Mb) (N := v + 10) (L := L) (z := v + 9) (i := 0) D2 ZS_hd f_1.1 (by decide) (by decide) (by rw [f_1.2]; rfl) hN
  rw [f_1.2] at D3
  obtain ⟨I4, c3, D4, Z4, F4⟩ := q_bo (Mb := Mb) (N := v + 10) (L := L) (z := v + 8) (i := 1) D3 Z3 f_2.1 (by decide) (by decide) (by rw [f_2.2]; rfl) hN
  rw [f_2.2] at D4
  have c4 := q_boE (Mb := Mb) (N := v + 10) (L := L) (z := v + 7) (i := 2) D4 f_2e (by decide) hN
  have D4' : DS I4 188 fT c (.inl 18) fg2 2 0 := D4
  obtain ⟨I5, c5, D5, F5⟩ := q_tr (Mb := Mb) (N := v + 10) (L := L) (z := v + 9) (i := 0) D4' f_3.1 (by decide) (by decide) (by rw [f_3.2]; rfl) hN
  rw [f_3.2] at D5
  have D5' : DS I5 188 fT c (.inl 24) fg3 2 1 := D5
  obtain ⟨I6, c6, D6, F6⟩ := q_tr (Mb := Mb) (N := v + 10) (L := L) (z := v + 8) (i := 1) D5' f_4.1 (by decide) (by decide) (by rw [f_4.2]; rfl) hN
  rw [f_4.2] at D6
  have D6' : DS I6 188 fT c (.inl 30) fg4 2 2 := D6
  obtain ⟨I7, c7, D7, F7⟩ := q_tr (Mb := Mb) (N := v + 10) (L := L) (z := v + 7) (i := 2) D6' f_5.1 (by decide) (by decide) (by rw [f_5.2]; rfl) hN
  rw [f_5.2] at D7
  have D7' : DS I7 188 fT c (.inl 36) fg5 2 3 := D7
  obtain ⟨I8, c8, D8, F8⟩ := q_tr (Mb := Mb) (N := v + 10) (L := L) (z := v + 6) (i := 3) D7' f_6.1 (by decide) (by decide) (by rw [f_6.2]; rfl) hN
  rw [f_6.2] at D8
  have D8' : DS I8 188 fT c (.inl 42) fg6 2 4 := D8
  have c9 := q_trE (Mb := Mb) (N := v + 10) (L := L) (z := v + 5) (i := 4) D8' f_6e (by decide) hN
  obtain ⟨I9, d1, D9, F9⟩ := q_se (Mb := Mb) (N := v + 10) (L := L) (z := v + 9) (i := 0) D8' f_7.1 (by decide) (by rw [f_7.2]; rfl) hN
  rw [f_7.2] at D9
  have D9' : DS I9 188 fT c (.inl 48) fg7 2 4 := D9
  obtain ⟨Ia, d2, Da, Fa⟩ := q_se (Mb := Mb) (N := v + 10) (L := L) (z := v + 8) (i := 1) D9' f_8.1 (by decide) (by rw [f_8.2]; rfl) hN
  rw [f_8.2] at Da
  have Da' : DS Ia 188 fT c (.inl 54) fg8 2 4 := Da
  obtain ⟨Ib, d3, Db, Fb⟩ := q_se (Mb := Mb) (N := v + 10) (L := L) (z := v + 7) (i := 2) Da' f_9.1 (by decide) (by rw [f_9.2]; rfl) hN
  rw [f_9.2] at Db
  have Db' : DS Ib 188 fT c (.inl 60) fg9 2 4 := Db
  obtain ⟨Ic, d4, Sc, Fc⟩ := q_seE (Mb := Mb) (N := v + 10) (L := L) (z := v + 6) (i := 3) Db' f_9e (by decide) hN
  rw [f_e] at Sc
  have hF : EF I1 Ib := (((((((((F2.trans F3).trans F4).trans F5).trans F6).trans F7).trans F8).trans F9).trans Fa).trans Fb)
  have hread : F_X7_read (v + 10) (wm Mb I1 L) 6 85 = some (wm Mb Ic L) := by
    rw [c1, c2, c3, c4]
    rw [show (0 : Int32) = nI 0 from rfl, c5, c6, c7, c8, c9]
    rw [show (0 : Int32) = nI 0 from rfl, d1, d2, d3, d4]
  obtain ⟨_, Mb9, _, R9⟩ := Db'
  obtain ⟨hR9, -, -⟩ := R9 rfl
  have Mc9 : RM Ic 85 fg9 2 4 := Mb9.cf (by decide) (by decide) Fc
  have Md : RM (up Ic 2 1 0) 85 fg9 2 4 := Mc9.cI (by decide) (by decide) (fun x j h1 h2 => up_ne (by omega))
  have n44 : Nu (up Ic 2 1 0) 44 := (hNu1 44 (by decide)).kp (fun x j h1 h2 => (up_ne (by omega)).trans ((Fc _ _ (by omega)).trans (hF _ _ (by omega) (by omega))))
  obtain ⟨Ie, e1, e2, e3, e4⟩ := cx_copy (Mb := Mb) (N := v + 10) (L := L) (a := 44) (c := 85) (by decide) (by decide) (by unfold ap; omega) (Nat.lt_trans (by decide) hN) n44 Md.1
  have hRMe := e2 _ _ _ (by decide) (by decide) Md
  have u1 := cx_unfill (Mb := Mb) (N := v + 10) (I := up Ie 126 2 0) (L := L) hN
  have o6 : Ic 6 6 = 0 := Sc.2.2.2.1
  have o7 : Ic 6 7 = -1 := Sc.2.2.2.2
  have fr : ∀ a j, ¬ (44 ≤ a ∧ a < 85) → Ie a j = up Ic 2 1 0 a j := fun a j h => e4 a j (by omega)
  have hz : up Ic 2 1 0 6 6 = 0 := (up_ne (by omega)).trans o6
  have un : ∀ a j, a ≠ 457 → ¬ (a = 126 ∧ j = 2) → up (up (up Ie 126 2 0) 457 0 0) 457 1 0 a j = Ie a j := fun a j h1 h2 => (up_ne (by omega)).trans ((up_ne (by omega)).trans (up_ne (by omega)))
  refine ⟨up (up (up Ie 126 2 0) 457 0 0) 457 1 0, ?_, ⟨hR9, hRMe.cI (by decide) (by decide) (fun x j h1 h2 => un _ _ (by omega) (by omega))⟩, ?_, ?_, ?_, ?_, ?_, ?_, ?_, ?_, ?_⟩
  · unfold F_X11_beginMarketOfText F_X3_forget
    simp only [wm_kR, wm_kt, wm_kn, wm_kin, wm_kL, wm_kI, wm_ksI, wm_ksL, wm_kJ, wm_ksJ, kg_t, kl_v, Option.bind_some, sh_x.1, sh_x.2, s6.1, b1, hread, s2.1, cx_failed, hz, if_true, mm_k (show 44 ∈ mks by decide), e1, s47h.1, u1]
  · exact (un _ _ (by omega) (by omega)).trans ((fr _ _ (by omega)).trans up_eq)
  · exact (un _ _ (by omega) (by omega)).trans ((fr _ _ (by omega)).trans hz)
  · exact (un _ _ (by omega) (by omega)).trans ((fr _ _ (by omega)).trans ((up_ne (by omega)).trans o7))
  · exact e3.kp (fun x j h1 h2 => un _ _ (by omega) (by omega))
  · exact Md.1.kp (fun x j h1 h2 => (un _ _ (by omega) (by omega)).trans (fr _ _ (by omega)))
  · exact (up_ne (by omega)).trans ((up_ne (by omega)).trans up_eq)
  · exact (up_ne (by omega)).trans up_eq
  · exact up_eq
  · intro a j h1 h2 h3 h4 h5
    exact (un _ _ h5 h4).trans ((fr _ _ (by omega)).trans ((up_ne (by omega)).trans ((Fc _ _ (by omega)).trans ((hF _ _ (by omega) (by omega)).trans (b6 _ _ (by omega))))))
/-- the class is made -/
theorem i_first {N : Nat} (hN : 1000 < N) : ∃ I', F_X11_init N (wz yD0 z0 zR zL) 1 = some (wm Mc I' zL) ∧ (RI fg9 2 4 ∧ RM I' 44 fg9 2 4) ∧ I' 2 1 = 0 ∧ I' 6 6 = 0 ∧ I' 6 7 = -1 ∧ (∀ m, m ∈ mks → Nu I' m) ∧ (I' 126 1 = 0 ∧ I' 126 2 = 0) ∧ (I' 457 0 = 0 ∧ I' 457 1 = 0) ∧ I' 4 1 = 0 ∧ RelN I' ∧ ∀ a j, 539 < a → I' a j = 0 := by
  have hC0 : CT yId 0 fT := ⟨y_0.1, fun k hk => absurd hk (Nat.not_lt_zero _)⟩
  obtain ⟨Ia, a1, a2, a3⟩ := q_addAll (Mb := ⟨Mc, mc_S⟩) (N := N) (L := zL) (T := fT) f_s0 (by decide) hN hC0
  obtain ⟨Ib, b1, b2, b3⟩ := q_addAll (Mb := ⟨Mc, mc_S⟩) (N := N) (L := zL) (T := fT) f_s1 (by decide) hN a2
  obtain ⟨Ic, c1, c2, c3⟩ := q_addAll (Mb := ⟨Mc, mc_S⟩) (N := N) (L := zL) (T := fT) f_s2 (by decide) hN b2
  have fr : ∀ a j, a ≠ 2 → a ≠ 3 → Ic a j = yId a j := fun a j h1 h2 => (c3 a j h1 h2).trans ((b3 a j h1 h2).trans (a3 a j h1 h2))
  have hNu : ∀ m, m ∈ mks → Nu Ic m := fun m hm => (y_Nu m hm).kp (fun x j h1 h2 => by
    have := mk44 m hm
    exact fr _ _ (by omega) (by omega))
  obtain ⟨I', d1, ⟨d2, d3⟩, d4, d5, d6, d7, d8, d9, d10, d11, d13⟩ := q_begin (Mb := ⟨Mc, mc_S⟩) (N := N) (L := zL) c2 hNu hN
  have ff : ∀ a j, ¬ (2 ≤ a ∧ a ≤ 3) → ¬ (6 ≤ a ∧ a ≤ 9) → ¬ (44 ≤ a ∧ a < 126) → ¬ (a = 126 ∧ j = 2) → a ≠ 457 → I' a j = yId a j := fun a j h1 h2 h3 h4 h5 => (d13 a j (by omega) h2 h3 h4 h5).trans (fr _ _ (by omega) (by omega))
  refine ⟨I', ?_, ⟨d2, d3⟩, d4, d5, d6, fun m hm => ?_, ⟨(ff _ _ (by omega) (by omega) (by omega) (by omega) (by omega)).trans y_0.2.2, d9⟩, ⟨d10, d11⟩, (ff _ _ (by omega) (by omega) (by omega) (by omega) (by omega)).trans y_0.2.1, trivial, fun a j h => (ff _ _ (by omega) (by omega) (by omega) (by omega) (by omega)).trans (y_z a j h)⟩
  · obtain ⟨v, rfl⟩ : ∃ v, N = v + 3 := ⟨N - 3, by omega⟩
    rw [i_X11a (by omega), i_X11b (z := v + 1) (by omega), y_M, F_X11_init_102]
    have k9 : kt Mc 456 18 = true ∧ kn Mc 456 = 2 := ktB (Mb := ⟨Mc, mc_S⟩) (by decide)
    have shx := sh_x (Mb := ⟨Mc, mc_S⟩)
    have ss2 := s2 (Mb := ⟨Mc, mc_S⟩)
    dsimp only at shx ss2
    have cc : (nI 2 < Int32.ofNat 2) = False := by
      rw [show Int32.ofNat 2 = nI 2 from rfl, nI_ltP (by decide) (by decide)]
      simp
    simp only [wm_kR, wm_kt, wm_kn, wm_kin, wm_kL, wm_kI, wm_ksI, wm_ksL, wm_kJ, wm_ksJ, kg_t, kl_v, Option.bind_some, shx.1, shx.2, k9.1, k9.2, cc, if_false, q_kend, ss2.1, a1, q_kgr, b1, c1, d1]
  · by_cases e1 : m = 44
    · rw [e1]; exact d7
    by_cases e2 : m = 85
    · rw [e2]; exact d8
    have := mk44 m hm
    have h3 : 128 ≤ m ∧ (m + 41 ≤ 456 ∨ 458 ≤ m) := by
      have h9 : ∀ m, m ∈ mks → m ≠ 44 → m ≠ 85 → 128 ≤ m ∧ (m + 41 ≤ 456 ∨ 458 ≤ m) := by decide
      exact h9 m hm e1 e2
    exact (y_Nu m hm).kp (fun x j h1 h2 => ff _ _ (by omega) (by omega) (by omega) (by omega) (by omega))
