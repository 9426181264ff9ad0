/-! runScript: both answer alike -/
section
variable {N : Nat} {I I' J K : kInts} {L L' : kLngs} {n c i j k d q nb nt dn : Nat} {T : Nat → Nat} {r : Nat → Int32}
/-- what a script's text leaves: all but the text, the tokens, the commands, the reference's place -/
theorem Rel.scr (h : Rel I) (k1 : ∀ a x, a ≠ 2 → a < 6 ∨ 9 < a → a < 10 ∨ 43 < a → ¬ (a = 540 ∧ (x = 6 ∨ 10 ≤ x ∧ x ≤ 25)) → a ≠ 548 → a ≠ 549 → a ≠ 550 → K a x = I a x) (k2 : K 2 1 = 0) (k3 : K 540 10 = 0) (k4 : K 6 6 = K 540 18) (k5 : K 6 7 = K 540 19) (k6 : ∀ i, i < 30 → nm2 K i) : Rel K := by
  obtain ⟨hT, hE, hMM, hNu, hH, hSl, hOu, hNm⟩ := h
  refine ⟨⟨0, fun _ => 1, ⟨by omega, fun _ => ⟨Nat.le_refl 1, show 1 ≤ 255 by decide⟩⟩, ⟨k2, fun k hk => absurd hk (Nat.not_lt_zero _)⟩, k3, fun k hk => absurd hk (Nat.not_lt_zero _)⟩, ⟨k4, k5⟩, hMM.kp (fun x j y1 y2 => k1 x j (by omega) (by omega) (by omega) (by omega) (by omega) (by omega) (by omega)) (fun k hk => k1 _ _ (by omega) (by omega) (by omega) (by omega) (by omega) (by omega) (by omega)), fun m hm => (hNu m hm).kp (fun x j y1 y2 => ?_), hH.kp (fun x j y => k1 x j (by omega) (by omega) (by omega) (by omega) (by omega) (by omega) (by omega)), hSl.kp (fun x j y => k1 x j (by omega) (by omega) (by omega) (by omega) (by omega) (by omega) (by omega)), hOu.kp (fun x j y => k1 x j (by omega) (by omega) (by omega) (by omega) (by omega) (by omega) (by omega)), trivial⟩
  have h1 := mks_sep hm
  have h2 : m = 44 ∨ m = 85 ∨ 126 < m := by
    by_cases y : m = 44
    · exact Or.inl y
    · by_cases z : m = 85
      · exact Or.inr (Or.inl z)
      · exact Or.inr (Or.inr (by have := mks_far hm y z; omega))
  exact k1 x j (by omega) (by omega) (by omega) (by omega) (by omega) (by omega) (by omega)
/-- the class, up to what it does -/
theorem cx_script1 (h : Rel I) (hR : RI (I 541) nb nt) (hN : 20000 < N) : ∃ I5 n T σ, F_X11_runScript N (wm Mb I L) 1 = (if okS σ = true then (F_X3_record N (wm Mb I5 L) 126 44).bind fun M5 => F_X11_runScript_51 N N M5 1 0 else some (-1, wm Mb I5 L)) ∧ (okT n T ∧ I 540 10 = nI n ∧ ∀ k, k < n → I 547 k = nI (T k)) ∧ (match σ with | .inl _ => I5 6 6 = 0 ∧ I5 6 7 = -1 | .inr x => I5 6 6 = nI x.1 ∧ I5 6 7 = nI x.2) ∧ (okS σ = true → ∃ z k' c F, Sq I5 n T z 0 0 0 k' c F ∧ k' ≤ 30 ∧ tK n T c = 4 ∧ US I5 ((fsT F).take 40)) ∧ (∀ i, i < 30 → nm2 I5 i) ∧ I5 2 1 = 0 ∧ (∀ a x, a ≠ 2 → a < 6 ∨ 9 < a → a < 10 ∨ 43 < a → I5 a x = I a x) ∧ ∀ J LJ, RPs J LJ n T 0 0 (.inl 0) → RI (J 541) nb nt → ∃ J' LJ', F_X12_goesThrough_29 N N (wm Mb J LJ) 540 = some (wm Mb J' LJ') ∧ RS J' LJ' n T σ ∧ OG J J' ∧ LF LJ LJ' := by
  obtain ⟨⟨n, T, hO, hT, h10, hb⟩, hE, hM, hNu, hH, hSl, hOu, hNm⟩ := h
  obtain ⟨I1, c, a1, a2, a3, a4, a5, a6⟩ := cx_begin (N := N) (L := L) hO hT (by omega)
  have hS : CS I1 n T c (.inl 0) := ⟨⟨hO, ⟨(a6 _ _ (by omega)).trans hT.1, fun k hk => (a6 _ _ (by omega)).trans (hT.2 k hk)⟩, a2⟩, a3, Nat.zero_le _, a4, a5⟩
  let I2 := up (up (up I1 10 1 0) 10 3 0) 10 5 0
  have f2 : ∀ a x, a ≠ 10 → I2 a x = I1 a x := fun a x y => (up_ne (by omega)).trans ((up_ne (by omega)).trans (up_ne (by omega)))
  have P2' : PSc I2 n T c 0 0 (.inl 0) := ⟨hS.fr (fun a x y => f2 a x (by omega)), ⟨by omega, by omega⟩, ⟨(up_ne (by omega)).trans ((up_ne (by omega)).trans up_eq), (up_ne (by omega)).trans up_eq, up_eq⟩, fun i hi => trivial, fun j hj => by cases hj; exact ⟨0, [], rfl, rfl, rfl⟩⟩
  obtain ⟨I3, σ, k', b1, b2, b3, ⟨⟨b4, b5⟩, b6, b7⟩, b8, b9⟩ := lk_sread (N := N) (L := L) (nb := nb) (nt := nt) (by omega) c 0 0 N 0 0 I2 (by omega) (by omega) (by omega) P2'
  have c800 : c ≤ 800 := hS.1.2.2.2.1
  have h4 : tK n T c = 4 := hS.1.2.2.2.2.1
  have ref : ∀ J LJ, RPs J LJ n T 0 0 (.inl 0) → RI (J 541) nb nt → ∃ J' LJ', F_X12_goesThrough_29 N N (wm Mb J LJ) 540 = some (wm Mb J' LJ') ∧ RS J' LJ' n T σ ∧ OG J J' ∧ LF LJ LJ' := fun J LJ y1 y2 => b9 J LJ N (by omega) y1 y2
  have x14' : kR Mb 1 3 = 10 := rfl
  have f3 : ∀ a x, a < 6 ∨ 9 < a → a < 10 ∨ 43 < a → I3 a x = I a x := fun a x y1 y2 => (b3 a x (by omega) (by omega)).trans ((f2 a x (by omega)).trans (a6 a x (by omega)))
  have rd : F_X6_read N (wm Mb I1 L) 10 6 = F_X6_read_78 N (wm Mb I3 L) 10 6 := by
    unfold F_X6_read
    simp only [wm_kR, wm_kt, wm_kn, wm_kin, wm_kL, wm_kI, wm_ksI, wm_ksL, wm_kJ, wm_ksJ, kg_t, kl_v, Option.bind_some, sh13.1]
    exact b1
  by_cases hok : okS σ = true
  · obtain ⟨z, F, g1, g2⟩ := b8 hok
    have ok66 : I3 6 6 = 0 := by rw [g2] at b2; exact b2.ok
    have ok67 : I3 6 7 = -1 := by rw [g2] at b2; exact b2.2.2.2.2
    obtain ⟨I4, d1, d2, d3⟩ := cx_unrl (N := N) (L := L) (by omega) z 0 0 0 k' c F I3 [] 0 N g1 b4 (by omega) ⟨by decide, b6, fun i hi => absurd hi (Nat.not_lt_zero _)⟩ (Nat.le_refl _) (by omega)
    rw [List.nil_append] at d2
    have e78 : F_X6_read_78 N (wm Mb I3 L) 10 6 = some (wm Mb I4 L) := by
      have hu : F_X6_unroll N 3 (wm Mb I3 L) 10 0 (nI k') 0 = some (wm Mb I4 L) := d1
      unfold F_X6_read_78
      simp only [wm_kR, wm_kt, wm_kn, wm_kin, wm_kL, wm_kI, wm_ksI, wm_ksL, wm_kJ, wm_ksJ, kg_t, kl_v, Option.bind_some, s6.1, sh13.1, cx_failed, if_pos ok66, if_true, b5, hu]
    have e4 : ∀ a x, a ≠ 13 → a ≠ 10 → I4 a x = I3 a x := fun a x y1 y2 => d3 a x y1 (by omega)
    have u6 : ∀ x, up I4 2 1 0 6 x = I3 6 x := fun x => (up_ne (by omega)).trans (e4 _ _ (by omega) (by omega))
    refine ⟨up I4 2 1 0, n, T, σ, ?_, ⟨hO, h10, hb⟩, by rw [g2]; exact ⟨(u6 6).trans ok66, (u6 7).trans ok67⟩, fun _ => ⟨z, k', c, F, ?_, b4, h4, ?_⟩, fun i hi => (b7 i hi).kp (fun a x y1 y2 => (up_ne (by omega)).trans (e4 a x (by omega) (by omega))), up_eq, fun a x y1 y2 y3 => (up_ne (by omega)).trans ((e4 a x (by omega) (by omega)).trans (f3 a x y2 y3)), ref⟩
    · have ef : F_X9_failed N (wm Mb (up I4 2 1 0) L) 6 = some 0 := by rw [cx_failed, u6, if_pos ok66]
      rw [if_pos hok]
      unfold F_X11_runScript
      simp only [wm_kR, wm_kt, wm_kn, wm_kin, wm_kL, wm_kI, wm_ksI, wm_ksL, wm_kJ, wm_ksJ, kg_t, kl_v, Option.bind_some, x1_t.1, x1_t.2.1, x1_t.2.2.1, x1_t.2.2.2.1, x1_t.2.2.2.2.2.1, x14', s6.1, s2.1, s47h.1, sh13.1, a1, rd, e78, ef, if_true]
    · exact Sq_kp _ _ _ _ _ _ _ g1 (fun a x y1 y2 => (up_ne (by omega)).trans (e4 a x (by omega) (by omega)))
    · exact d2.uf (fun x => up_ne (by omega)) (up_ne (by omega))
  · obtain ⟨x, hx⟩ : ∃ x, σ = .inr x := by
      cases σ with
      | inl j => exact absurd rfl hok
      | inr x => exact ⟨x, rfl⟩
    subst hx
    have er := b2.err
    have e78 : F_X6_read_78 N (wm Mb I3 L) 10 6 = some (wm Mb I3 L) := by
      unfold F_X6_read_78
      simp only [wm_kR, wm_kt, wm_kn, wm_kin, wm_kL, wm_kI, wm_ksI, wm_ksL, wm_kJ, wm_ksJ, kg_t, kl_v, Option.bind_some, s6.1, cx_failed, if_neg er, if_neg one0]
    have u6 : ∀ x, up I3 2 1 0 6 x = I3 6 x := fun x => up_ne (by omega)
    refine ⟨up I3 2 1 0, n, T, .inr x, ?_, ⟨hO, h10, hb⟩, ⟨(u6 6).trans b2.2.1, (u6 7).trans b2.2.2.2.1⟩, fun y => absurd y hok, fun i hi => (b7 i hi).kp (fun a x y1 y2 => up_ne (by omega)), up_eq, fun a x y1 y2 y3 => (up_ne (by omega)).trans (f3 a x y2 y3), ref⟩
    have ef : F_X9_failed N (wm Mb (up I3 2 1 0) L) 6 = some 1 := by rw [cx_failed, u6, if_neg er]
    rw [if_neg hok]
    unfold F_X11_runScript
    simp only [wm_kR, wm_kt, wm_kn, wm_kin, wm_kL, wm_kI, wm_ksI, wm_ksL, wm_kJ, wm_ksJ, kg_t, kl_v, Option.bind_some, x1_t.1, x1_t.2.1, x1_t.2.2.1, x1_t.2.2.2.1, x1_t.2.2.2.2.2.1, x14', s6.1, s2.1, s47h.1, sh13.1, a1, rd, e78, ef, if_neg one0]
/-- a pass of the reference begins -/
theorem rx_go {b : Int32} (hb : b = 0 ∨ b = 1) (hO : okT n T) (hT : RT J n T) (hN : 1000 < N) : ∃ J' L', F_X12_goesThrough N (wm Mb J L) 540 b = F_X12_goesThrough_29 N N (wm Mb J' L') 540 ∧ RS J' L' n T (.inl 0) ∧ J' 540 21 = b ∧ J' 540 22 = 0 ∧ J' 540 23 = 0 ∧ J' 540 24 = 0 ∧ J' 540 25 = 0 ∧ (∀ a x, ¬ (a = 540 ∧ (12 ≤ x ∧ x ≤ 17 ∨ 21 ≤ x ∧ x ≤ 25)) → J' a x = J a x) ∧ LF L L' := by
  let J1 := up (up (up (up (up J 540 21 b) 540 22 0) 540 23 0) 540 24 0) 540 25 0
  have f1 : ∀ a x, ¬ (a = 540 ∧ 21 ≤ x ∧ x ≤ 25) → J1 a x = J a x := fun a x y => (up_ne (by omega)).trans ((up_ne (by omega)).trans ((up_ne (by omega)).trans ((up_ne (by omega)).trans (up_ne (by omega)))))
  obtain ⟨J2, L2, a1, a2, a3, a4⟩ := rx_starts (N := N) (I := J1) (L := L) hO ⟨(f1 _ _ (by omega)).trans hT.1, fun k hk => (f1 _ _ (by omega)).trans (hT.2 k hk)⟩ hN
  refine ⟨J2, L2, ?_, a2, (SG_21 a3 (by decide)).trans ((up_ne (by omega)).trans ((up_ne (by omega)).trans ((up_ne (by omega)).trans ((up_ne (by omega)).trans up_eq)))), (SG_21 a3 (by decide)).trans ((up_ne (by omega)).trans ((up_ne (by omega)).trans ((up_ne (by omega)).trans up_eq))), (SG_21 a3 (by decide)).trans ((up_ne (by omega)).trans ((up_ne (by omega)).trans up_eq)), (SG_21 a3 (by decide)).trans ((up_ne (by omega)).trans up_eq), (SG_21 a3 (by decide)).trans up_eq, fun a x y => (a3 a x (by omega)).trans (f1 a x (by omega)), a4⟩
  have hbb : (b == 0 || b == 1) = true := by rcases hb with rfl | rfl <;> rfl
  unfold F_X12_goesThrough
  simp only [wm_kR, wm_kt, wm_kn, wm_kin, wm_kL, wm_kI, wm_ksI, wm_ksL, wm_kJ, wm_ksJ, kg_t, kl_v, Option.bind_some, sr_k, sr_0, sr_1, sr_2, sr_3, sr_4, sr_7, sr_8, sr_9, sr_26, sr_27, sr_28, hbb, hb01.2, Bool.and_self]
  rw [show up (up (up (up (up J 540 21 b) 540 22 0) 540 23 0) 540 24 0) 540 25 0 = J1 from rfl]
  simp only [a1, wm_kR, wm_kt, wm_kn, wm_kin, wm_kL, wm_kI, wm_ksI, wm_ksL, wm_kJ, wm_ksJ, kg_t, kl_v, Option.bind_some]
end
