/-! runScript -/
def erE (σ : sg) (v w : Int32) : Prop := match σ with
  | .inl _ => v = 0 ∧ w = -1
  | .inr x => v = nI x.1 ∧ w = nI x.2
section
variable {N : Nat} {I I' J K : kInts} {L L' : kLngs} {n c i j k d q nb nt dn : Nat} {T : Nat → Nat} {r : Nat → Int32}
theorem lk_runScript (h : Rel I) (hN : 20000 < N) : Same0 (fun M => F_X11_runScript N M 1) (fun M => F_X12_runScript N M 540) I := by
  intro L
  obtain ⟨nb, nt, hR, hM⟩ := h.2.2.1.row
  have h5 := hR.nb5
  have h24 := hR.nt24
  obtain ⟨I5, n, T, σ, a1, ⟨hO, h10, hb⟩, a3, a4, a5, a6, a7, a8⟩ := cx_script1 (L := L) h hR hN
  -- the reference's first pass, from any memory of the class that keeps the row and the text
  have first : ∀ (I7 : kInts) (L' : kLngs), (∀ a x, 540 ≤ a → I7 a x = I a x) → ∃ J4 L4, F_X12_runScript N (wm Mb I7 L') 540 = (if okS σ = true then (F_X12_keepsPast N (wm Mb J4 L4) 540).bind fun M5 => (F_X12_goesThrough N M5 540 1).bind fun M6 => kg (kt M6 540 12) <| some (kI M6 540 25, M6) else some (-1, wm Mb J4 L4)) ∧ RT J4 n T ∧ (J4 540 10 = 0 ∧ erE σ (J4 540 18) (J4 540 19)) ∧ (∀ a x, ¬ (a = 540 ∧ (x = 6 ∨ 10 ≤ x ∧ x ≤ 25)) → a ≠ 548 → a ≠ 549 → a ≠ 550 → J4 a x = I7 a x) ∧ LF L' L4 := by
    intro I7 L' e7
    obtain ⟨J1, b1, b2, b3, b4⟩ := rx_takes (N := N) (I := up I7 540 6 0) (L := L') (n := n) (T := T) ((up_ne (Or.inr (by decide))).trans ((e7 _ _ (by omega)).trans h10)) (fun k hk => (up_ne (Or.inl (by decide))).trans ((e7 _ _ (by omega)).trans (hb k hk))) hO.1 (by omega)
    obtain ⟨J2, L2, d1, d2, d3, d4, d5, d6, d7, d8, d9⟩ := rx_go (N := N) (J := J1) (L := L') (b := 0) (Or.inl rfl) hO b2 (by omega)
    have r2 : J2 541 = I 541 := funext fun x => (d8 _ _ (by omega)).trans ((b4 _ _ (by omega) (by omega)).trans ((up_ne (by omega)).trans (e7 _ _ (by omega))))
    obtain ⟨J3, L3, g1, g2, g3, g4⟩ := a8 J2 L2 ⟨d2, ⟨d3, d4⟩, fun _ => ⟨d5, d6⟩⟩ (by rw [r2]; exact hR)
    have ht := rx_tells N J3 L3
    let J4 := up (up J3 540 18 (J3 540 16)) 540 19 (if J3 540 16 = 0 then -1 else J3 540 17)
    have k4 : ∀ a x, ¬ (a = 540 ∧ (x = 18 ∨ x = 19)) → J4 a x = J3 a x := fun a x y => (up_ne (by omega)).trans (up_ne (by omega))
    have kp : ∀ a x, ¬ (a = 540 ∧ (x = 6 ∨ 10 ≤ x ∧ x ≤ 25)) → a ≠ 548 → a ≠ 549 → a ≠ 550 → J4 a x = I7 a x := fun a x y1 y2 y3 y4 => (k4 a x (by omega)).trans ((g3 a x (by omega) y3 y4).trans ((d8 a x (by omega)).trans ((b4 a x y2 (by omega)).trans (up_ne (by omega)))))
    have e10 : J4 540 10 = 0 := (k4 _ _ (by omega)).trans ((g3 _ _ (by omega) (by omega) (by omega)).trans ((d8 _ _ (by omega)).trans b3))
    have e18 : J4 540 18 = J3 540 16 := (up_ne (by omega)).trans up_eq
    have e19 : J4 540 19 = if J3 540 16 = 0 then -1 else J3 540 17 := up_eq
    have e16 : J4 540 16 = J3 540 16 := k4 _ _ (by omega)
    refine ⟨J4, L3, ?_, ⟨(k4 _ _ (by omega)).trans ((g3 _ _ (by omega) (by omega) (by omega)).trans ((d8 _ _ (by omega)).trans b2.1)), fun k hk => (k4 _ _ (by omega)).trans ((g3 _ _ (by omega) (by omega) (by omega)).trans ((d8 _ _ (by omega)).trans (b2.2 k hk)))⟩, ⟨e10, ?_⟩, kp, d9.trans g4⟩
    · have pre : F_X12_runScript N (wm Mb I7 L') 540 = if J4 540 16 = 0 then (F_X12_keepsPast N (wm Mb J4 L3) 540).bind fun M5 => kg (kt M5 540 12) <| (F_X12_goesThrough N M5 540 1).bind fun M6 => kg (kt M6 540 12) <| some (kI M6 540 25, M6) else some (-1, wm Mb J4 L3) := by
        unfold F_X12_runScript
        simp only [wm_kR, wm_kt, wm_kn, wm_kin, wm_kL, wm_kI, wm_ksI, wm_ksL, wm_kJ, wm_ksJ, kg_t, kl_v, Option.bind_some, sr_k, sr_0, sr_1, sr_2, sr_3, sr_4, sr_7, sr_8, sr_9, sr_26, sr_27, sr_28, b1, d1, g1, ht]
        rfl
      rw [pre]
      by_cases hok : okS σ = true
      · have z : J4 540 16 = 0 := by rw [e16]; exact (RS_16 g2).mpr hok
        rw [if_pos z, if_pos hok]
        cases hk : F_X12_keepsPast N (wm Mb J4 L3) 540 with
        | none => rfl
        | some M5 =>
          simp only [Option.bind_some]
          unfold F_X12_goesThrough
          cases hb : kt M5 540 12 with
          | true => rfl
          | false =>
            simp only [Bool.false_and]
            rfl
      · have z : ¬ J4 540 16 = 0 := by rw [e16]; exact fun y => hok ((RS_16 g2).mp y)
        rw [if_neg z, if_neg hok]
    · cases σ with
      | inl j =>
        have z : J3 540 16 = 0 := RS_ok g2
        exact ⟨by rw [e18, z], by rw [e19, if_pos z]⟩
      | inr x =>
        obtain ⟨y1, y2, y3⟩ := g2.2
        have z := RS_err g2
        exact ⟨by rw [e18, y1], by rw [e19, if_neg z, y3]⟩
  by_cases hok : okS σ = true
  · rw [if_pos hok] at a1
    obtain ⟨z, k', c, F, s1, s2, s3, s4⟩ := a4 hok
    obtain ⟨er1, er2⟩ : I5 6 6 = 0 ∧ I5 6 7 = -1 := by
      cases σ with
      | inl j => exact a3
      | inr x => cases hok
    -- where both stand between the two passes
    let Js := up (up (up I5 540 10 0) 540 18 0) 540 19 (-1)
    have js : ∀ a x, ¬ (a = 540 ∧ (x = 10 ∨ x = 18 ∨ x = 19)) → Js a x = I5 a x := fun a x y => (up_ne (by omega)).trans ((up_ne (by omega)).trans (up_ne (by omega)))
    have js18 : Js 540 18 = 0 := (up_ne (by omega)).trans up_eq
    have js19 : Js 540 19 = -1 := up_eq
    have js10 : Js 540 10 = 0 := (up_ne (by omega)).trans ((up_ne (by omega)).trans up_eq)
    have hJs : Rel Js := h.scr (fun a x y1 y2 y3 y4 _ _ _ => (js a x (by omega)).trans (a7 a x y1 y2 y3)) ((js _ _ (by omega)).trans a6) js10 (by rw [js _ _ (by omega), js18, er1]) (by rw [js _ _ (by omega), js19, er2]) (fun i hi => (a5 i hi).kp (fun a x y1 y2 => js a x (by omega)))
    have rowJs : Js 541 = I 541 := funext fun x => (js _ _ (by omega)).trans (a7 _ _ (by omega) (by omega) (by omega))
    obtain ⟨nx, u, h1, h2, h3, h4, h5', h6⟩ := hJs.2.2.2.2.1
    have hle := hs_le nx
    have hM5 : RM I5 44 (I 541) nb nt := hM.cI h5 h24 (fun a x y1 y2 => a7 a x (by omega) (by omega) (by omega))
    have nu5 : ∀ m, m ∈ mks → Nu I5 m := fun m hm => (hJs.2.2.2.1 m hm).kp (fun x j y1 y2 => (js x j (by have := mks_sep hm; omega)).symm)
    obtain ⟨I6, b1, b2, b3, b4, b5, b6⟩ := cx_record (N := N) (I := I5) (L := L) h1 h2 ((js _ _ (by omega)).symm.trans h3) ((js _ _ (by omega)).symm.trans h4) nu5 (by omega)
    have e6 : ∀ a j, a < 126 ∨ 456 ≤ a → I6 a j = I5 a j := fun a j y => b6 a j (by omega) (by omega)
    have hM6 : RM I6 44 (I 541) nb nt := hM5.cI h5 h24 (fun a j y1 y2 => e6 a j (by omega))
    have u6 : US I6 (fsT ([] ++ F.take 40)) := by
      have e : fsT ([] ++ F.take 40) = (fsT F).take 40 := by
        rw [List.nil_append]
        unfold fsT
        rw [List.map_take]
      rw [e]
      exact s4.uf (fun x => e6 _ _ (by omega)) (e6 _ _ (by omega))
    have v6 : VL I6 n T (F.take 40) := VL.kp (I := I5) (F := F.take 40) (fun y hy => Sq_vl _ _ _ _ _ _ _ s1 y (List.mem_of_mem_take hy)) (fun a x y1 y2 => e6 a x (by omega))
    have len40 : (F.take 40).length < N := by rw [List.length_take]; omega
    obtain ⟨I7, d1, d2, d3, d4⟩ := cx_steps (N := N) (L := L) (nb := nb) (by omega) (F.take 40) [] I6 (I 541, nt) N u6 v6 hM6 hR len40
    have tk := exL_take (N := N) (n := n) (T := T) (nb := nb) F 40 0 (I 541, nt) rfl (by decide)
    have l0 : ([] : List (Nat × Nat)).length = 0 := rfl
    rw [l0] at d1 d2 d3
    rw [tk.1] at d2 d3
    rw [tk.2] at d1
    have e7 : ∀ a j, a < 44 ∨ 85 ≤ a → I7 a j = I6 a j := fun a j y => d4 a j (by omega)
    refine ⟨nI (exL N n T nb F (I 541, nt) 0).2.1, I7, ?_, fun L' => ?_⟩
    · show F_X11_runScript N (wm Mb I L) 1 = _
      rw [a1, b1]
      exact d1
    · have t7 : ∀ a x, 540 ≤ a → I7 a x = I a x := fun a x y => (e7 a x (by omega)).trans ((e6 a x (by omega)).trans (a7 a x (by omega) (by omega) (by omega)))
      obtain ⟨J4, L4, f1, f2, ⟨f3, f4⟩, f5, f6⟩ := first I7 L' t7
      rw [if_pos hok] at f1
      obtain ⟨f18, f19⟩ : J4 540 18 = 0 ∧ J4 540 19 = -1 := by
        cases σ with
        | inl j => exact f4
        | inr x => cases hok
      have q5 : J4 540 5 = nI u := (f5 _ _ (by omega) (by omega) (by omega) (by omega)).trans ((t7 _ _ (by omega)).trans ((a7 _ _ (by omega) (by omega) (by omega)).symm.trans ((js _ _ (by omega)).symm.trans h5')))
      obtain ⟨J5, g1, g2, g3, g4, g5, g6⟩ := rx_keeps (N := N) (I := J4) (L := L4) h2 q5 (by omega)
      have T5 : RT J5 n T := ⟨(g6 _ _ (by omega) (by omega)).trans f2.1, fun k hk => (g6 _ _ (by omega) (by omega)).trans (f2.2 k hk)⟩
      obtain ⟨J6, L6, o1, o2, o3, o4, o5, o6, o7, o8, o9⟩ := rx_go (N := N) (J := J5) (L := L4) (b := 1) (Or.inr rfl) hO T5 (by omega)
      have row4 : ∀ x, J4 541 x = I 541 x := fun x => (f5 _ _ (by omega) (by omega) (by omega) (by omega)).trans (t7 _ _ (by omega))
      have row6 : J6 541 = I 541 := funext fun x => (o8 _ _ (by omega)).trans ((g6 _ _ (by omega) (by omega)).trans (row4 x))
      have P6 : P2 J6 L6 n T 0 0 0 (I 541, nt).1 := ⟨o2, ⟨by rw [o3]; decide, o4⟩, ⟨o6, o7⟩, row6⟩
      obtain ⟨K, LK, p1, p2, p3, p4, p5⟩ := rx_pass2 (N := N) (p := (I 541, nt)) s1 s2 s3 P6 hR hN
      have kb : ∀ a x, a < 540 → K a x = I7 a x := fun a x y => (p4 a x (by omega) (by omega) (by omega) (by omega) (by omega)).trans ((o8 a x (by omega)).trans ((g6 a x (by omega) (by omega)).trans (f5 a x (by omega) (by omega) (by omega) (by omega))))
      have kc : ∀ a x, a < 44 ∨ 85 ≤ a → a < 126 ∨ 456 ≤ a → a < 540 → K a x = I5 a x := fun a x y1 y2 y3 => (kb a x y3).trans ((e7 a x y1).trans (e6 a x y2))
      have kj5 : ∀ a x, a ≠ 541 → a ≠ 546 → a ≠ 548 → a ≠ 549 → a ≠ 550 → ¬ (a = 540 ∧ (12 ≤ x ∧ x ≤ 17 ∨ 21 ≤ x ∧ x ≤ 25)) → K a x = J5 a x := fun a x y1 y2 y3 y4 y5 y6 => (p4 a x (by omega) y1 y2 y4 y5).trans (o8 a x (by omega))
      have kj4 : ∀ a x, a ≠ 541 → a ≠ 546 → a ≠ 548 → a ≠ 549 → a ≠ 550 → a ≠ 543 → ¬ (a = 540 ∧ (x = 5 ∨ 12 ≤ x ∧ x ≤ 17 ∨ 21 ≤ x ∧ x ≤ 25)) → K a x = J4 a x := fun a x y1 y2 y3 y4 y5 y6 y7 => (kj5 a x y1 y2 y3 y4 y5 (by omega)).trans (g6 a x y6 (by omega))
      refine ⟨K, LK, ?_, ?_, ((f6.trans o9).trans p5)⟩
      · show F_X12_runScript N (wm Mb I7 L') 540 = _
        rw [f1, g1]
        simp only [Option.bind_some, o1, p1, wm_kR, wm_kt, wm_kn, wm_kin, wm_kL, wm_kI, wm_ksI, wm_ksL, wm_kJ, wm_ksJ, kg_t, kl_v, Option.bind_some, sr_k, sr_0, sr_1, sr_2, sr_3, sr_4, sr_7, sr_8, sr_9, sr_26, sr_27, sr_28, p2]
      · refine hJs.chg (nb := nb) (nt := nt) (nb' := nb) (nt' := (exL N n T nb F (I 541, nt) 0).1.2) h1 h2 h6 ?_ ?_ ?_ (fun a j y1 y2 y3 => ?_) ?_ (by rw [rowJs]; exact hR) (fun k hk => ?_) (fun y k hk => ?_) (fun y k hk => ?_) (fun a j y => ?_) ?_ (by rw [p3]; exact d3) ?_
        · rw [kb _ _ (by omega), e7 _ _ (by omega)]; exact b4
        · rw [kb _ _ (by omega), e7 _ _ (by omega)]; exact b5
        · rw [kj5 _ _ (by omega) (by omega) (by omega) (by omega) (by omega) (by omega)]; exact g2
        · rw [kb _ _ (by omega), e7 _ _ (by omega), b6 a j (by omega) y3, js _ _ (by omega)]
        · rw [rowJs]
          exact (b2 (I 541) nb nt h5 h24 hM5).cI h5 h24 (fun a j y1 y2 => (kb a j (by omega)).trans (e7 a j (by omega)))
        · rw [kj5 _ _ (by omega) (by omega) (by omega) (by omega) (by omega) (by omega), g3 k hk, row4, rowJs]
        · rw [kj5 _ _ (by omega) (by omega) (by omega) (by omega) (by omega) (by omega), g4 y k hk, f5 _ _ (by omega) (by omega) (by omega) (by omega), t7 _ _ (by omega), js _ _ (by omega), a7 _ _ (by omega) (by omega) (by omega)]
        · rw [kj5 _ _ (by omega) (by omega) (by omega) (by omega) (by omega) (by omega), g5 y k hk, f5 _ _ (by omega) (by omega) (by omega) (by omega), t7 _ _ (by omega), js _ _ (by omega), a7 _ _ (by omega) (by omega) (by omega)]
        · by_cases w : a < 540
          · rw [kc a j (by omega) (by omega) w, js _ _ (by omega)]
          · rw [kj4 a j (by omega) (by omega) (by omega) (by omega) (by omega) (by omega) (by omega)]
            by_cases v : a = 540
            · subst v
              have : j = 18 ∨ j = 19 ∨ j = 29 := by omega
              rcases this with rfl | rfl | rfl
              · rw [f18, js18]
              · rw [f19, js19]
              · rw [f5 _ _ (by omega) (by omega) (by omega) (by omega), t7 _ _ (by omega), js _ _ (by omega), a7 _ _ (by omega) (by omega) (by omega)]
            · rw [f5 _ _ (by omega) (by omega) (by omega) (by omega), t7 _ _ (by omega), js _ _ (by omega), a7 _ _ (by omega) (by omega) (by omega)]
        · exact ⟨0, fun _ => 1, ⟨by omega, fun _ => ⟨Nat.le_refl 1, show 1 ≤ 255 by decide⟩⟩, ⟨(kc _ _ (by omega) (by omega) (by omega)).trans a6, fun k hk => absurd hk (Nat.not_lt_zero _)⟩, (kj4 _ _ (by omega) (by omega) (by omega) (by omega) (by omega) (by omega) (by omega)).trans f3, fun k hk => absurd hk (Nat.not_lt_zero _)⟩
        · rw [p3]
          exact d2.cI h5 d3.nt24 (fun a j y1 y2 => kb a j (by omega))
  · rw [if_neg hok] at a1
    refine ⟨-1, I5, a1, fun L' => ?_⟩
    obtain ⟨J4, L4, f1, f2, ⟨f3, f4⟩, f5, f6⟩ := first I5 L' (fun a x y => a7 a x (by omega) (by omega) (by omega))
    rw [if_neg hok] at f1
    obtain ⟨x, hx⟩ : ∃ x, σ = .inr x := by
      cases σ with
      | inl j => exact absurd rfl hok
      | inr x => exact ⟨x, rfl⟩
    subst hx
    have kb : ∀ a x, a < 540 → J4 a x = I5 a x := fun a x y => f5 a x (by omega) (by omega) (by omega) (by omega)
    refine ⟨J4, L4, f1, h.scr (fun a x y1 y2 y3 y4 y5 y6 y7 => (f5 a x y4 y5 y6 y7).trans (a7 a x y1 y2 y3)) ((kb _ _ (by omega)).trans a6) f3 ?_ ?_ (fun i hi => (a5 i hi).kp (fun a x y1 y2 => kb a x (by omega))), f6⟩
    · rw [kb _ _ (by omega), f4.1, a3.1]
    · rw [kb _ _ (by omega), f4.2, a3.2]
end
