/-! the second pass of the reference: the loop -/
def wL (l : Nat) : Nat := if l = 0 then 441 else if l = 1 then 21 else 1
/-- after the list F was to be done from row p, dn commands done before: over, or at token j, d brackets open -/
def AF (N n : Nat) (T : Nat → Nat) (nb : Nat) (J : kInts) (L : kLngs) (j d : Nat) (e : ((Nat → Int32) × Nat) × Nat × Bool) : Prop := (e.2.2 = true → OV J L n T e.2.1 e.1.1) ∧ (e.2.2 = false → P2 J L n T j d e.2.1 e.1.1 ∧ RI e.1.1 nb e.1.2 ∧ e.2.1 < 40)
section
variable {N : Nat} {I I' J : kInts} {L L' : kLngs} {n c i j k d q nb nt dn : Nat} {T : Nat → Nat} {r : Nat → Int32} {p : (Nat → Int32) × Nat}
theorem rx_29o (hP : P2 J L n T j d dn r) (hk : ¬ kdW n T j = 0) (y : Nat) : F_X12_goesThrough_29 N (y + 1) (wm Mb J L) 540 = (F_X12_order N (wm Mb J L) 540).bind fun M11 => F_X12_goesThrough_29 N y M11 540 := by
  obtain ⟨h1, ⟨h21, h22⟩, ⟨h24, h25⟩, hr⟩ := hP
  have t1 := kdW_tk hk
  have g14 : ¬ J 540 14 = 0 := by
    rw [h1.2.1.2.2.1, rK_1.mpr t1]
    decide
  have hg : ¬ isG n T 41 j = true := by
    intro z
    unfold isG at z
    rw [Bool.and_eq_true] at z
    have t3 := of_decide_eq_true z.1
    omega
  have hs := rx_isG (N := N) h1 (ch := 41) (by omega)
  rw [show nI 41 = 41 from rfl, if_neg (by exact hg)] at hs
  rw [F_X12_goesThrough_29]
  simp only [wm_kR, wm_kt, wm_kn, wm_kin, wm_kL, wm_kI, wm_ksI, wm_ksL, wm_kJ, wm_ksJ, kg_t, kl_v, Option.bind_some, sr_k, sr_0, sr_1, sr_2, sr_3, sr_4, sr_7, sr_8, sr_9, sr_26, sr_27, sr_28, RS_ok h1, h22, if_true, if_neg g14, hs]
theorem rx_29c (hP : P2 J L n T j d dn r) (hg : isG n T 41 j = true) (y : Nat) : F_X12_goesThrough_29 N (y + 1) (wm Mb J L) 540 = (F_X12_closes N (wm Mb J L) 540).bind fun M11 => F_X12_goesThrough_29 N y M11 540 := by
  obtain ⟨h1, ⟨h21, h22⟩, ⟨h24, h25⟩, hr⟩ := hP
  have t3 : tK n T j = 3 := by
    unfold isG at hg
    rw [Bool.and_eq_true] at hg
    exact of_decide_eq_true hg.1
  have g14 : ¬ J 540 14 = 0 := by
    rw [h1.2.1.2.2.1]
    have h4 : ¬ tK n T j = 4 := by omega
    have := mt (rK_0 (n := n) (T := T) (j := j)).mp h4
    have := @rK_le n T j
    exact nI_ne0 (by omega) (by omega)
  have hs := rx_isG (N := N) h1 (ch := 41) (by omega)
  rw [show nI 41 = 41 from rfl, if_pos (by exact hg)] at hs
  rw [F_X12_goesThrough_29]
  simp only [wm_kR, wm_kt, wm_kn, wm_kin, wm_kL, wm_kI, wm_ksI, wm_ksL, wm_kJ, wm_ksJ, kg_t, kl_v, Option.bind_some, sr_k, sr_0, sr_1, sr_2, sr_3, sr_4, sr_7, sr_8, sr_9, sr_26, sr_27, sr_28, RS_ok h1, h22, if_true, if_neg g14, hs, if_neg one0]
theorem AF_app {J' : kInts} {L' : kLngs} {A B : List (Nat × Nat)} {j1 d1 : Nat} (h : AF N n T nb J L j1 d1 (exL N n T nb A p dn)) (h2 : (exL N n T nb A p dn).2.2 = false → AF N n T nb J' L' j d (exL N n T nb B (exL N n T nb A p dn).1 (exL N n T nb A p dn).2.1)) (h3 : (exL N n T nb A p dn).2.2 = true → J' = J ∧ L' = L) : AF N n T nb J' L' j d (exL N n T nb (A ++ B) p dn) := by
  rw [exL_app]
  by_cases z : (exL N n T nb A p dn).2.2 = true
  · rw [if_pos z]
    obtain ⟨rfl, rfl⟩ := h3 z
    exact ⟨h.1, fun y => by rw [z] at y; cases y⟩
  · rw [if_neg z]
    exact h2 (by simpa using z)
theorem rx_run2 (hN : 1000 < N) : ∀ (z l k j k' j' : Nat) (F : List (Nat × Nat)) (J : kInts) (L : kLngs) (p : (Nat → Int32) × Nat) (dn y : Nat), Sq I n T z l k j k' j' F → l ≤ 2 → P2 J L n T j l dn p.1 → RI p.1 nb p.2 → dn < 40 → ∃ J' L' y', y ≤ y' ∧ F_X12_goesThrough_29 N (wL l * (k' - k) + y) (wm Mb J L) 540 = F_X12_goesThrough_29 N y' (wm Mb J' L') 540 ∧ QF J J' ∧ LF L L' ∧ (∀ x, x < l → J' 549 x = J 549 x ∧ J' 550 x = J 550 x) ∧ AF N n T nb J' L' j' l (exL N n T nb F p dn) := by
  intro z
  induction z with
  | zero =>
    intro l k j k' j' F J L p dn y h hl hP hR hd
    obtain ⟨rfl, rfl, rfl⟩ := h
    refine ⟨J, L, y, Nat.le_refl _, by rw [Nat.sub_self, Nat.mul_zero, Nat.zero_add], QF.rf', LF.rf', fun x _ => ⟨rfl, rfl⟩, (fun y => by cases y), fun _ => ⟨hP, hR, hd⟩⟩
  | succ z ih =>
    intro l k j k' j' F J L p dn y h hl hP hR hd
    have wpos : 1 ≤ wL l := by unfold wL; split; omega; split <;> omega
    rcases h with ⟨rfl, rfl, rfl⟩ | ⟨F', h1, h2, h3, h4, h5⟩ | ⟨k1, j1, Fb, F', h1, h2, h3, h4, h5⟩
    · refine ⟨J, L, y, Nat.le_refl _, by rw [Nat.sub_self, Nat.mul_zero, Nat.zero_add], QF.rf', LF.rf', fun x _ => ⟨rfl, rfl⟩, (fun y => by cases y), fun _ => ⟨hP, hR, hd⟩⟩
    · subst h1
      have le5 := Sq_le _ _ _ _ _ _ _ h5
      have ef : wL l * (k' - k) + y = (wL l * (k' - (k + 1)) + (wL l - 1 + y)) + 1 := by
        have : k' - k = (k' - (k + 1)) + 1 := by omega
        rw [this, Nat.mul_add, Nat.mul_one]
        omega
      obtain ⟨J1, L1, a1, a2, a3, a4, a5, a6, a7, a8⟩ := rx_cmd2 (nb := nb) (p := p) hP h2 h3 hR hd hN
      have st : F_X12_goesThrough_29 N (wL l * (k' - k) + y) (wm Mb J L) 540 = F_X12_goesThrough_29 N (wL l * (k' - (k + 1)) + (wL l - 1 + y)) (wm Mb J1 L1) 540 := by
        rw [ef, rx_29o hP h2.1, a1]
        rfl
      cases hx : exC N n T nb j p with
      | none =>
        have ee : exL N n T nb ((k, j) :: F') p dn = (p, dn, true) := by rw [exL, hx]
        rw [ee]
        exact ⟨J1, L1, _, by omega, st, a2, a3, fun x _ => a4 x, fun _ => a7 hx, (fun y => by cases y)⟩
      | some p' =>
        obtain ⟨b1, b2, b3, b4⟩ := a8 p' hx
        by_cases h40 : dn + 1 = 40
        · have ee : exL N n T nb ((k, j) :: F') p dn = (p', dn + 1, true) := by rw [exL, hx]; exact if_pos h40
          rw [ee]
          rw [if_pos h40] at b4
          exact ⟨J1, L1, _, by omega, st, a2, a3, fun x _ => a4 x, fun _ => ⟨⟨_, a5⟩, by rw [b4]; decide, b3, b2⟩, (fun y => by cases y)⟩
        · have ee : exL N n T nb ((k, j) :: F') p dn = exL N n T nb F' p' (dn + 1) := by rw [exL, hx]; exact if_neg h40
          rw [if_neg h40] at b4
          have P1 : P2 J1 L1 n T (nxT n T j) l (dn + 1) p'.1 := ⟨a5, ⟨by rw [a2 _ _ (by omega) (by omega) (by omega) (by omega) (by omega)]; exact hP.2.1.1, b4⟩, ⟨a6.trans hP.2.2.1.1, b3⟩, b2⟩
          obtain ⟨J2, L2, y2, d1, d2, d3, d4, d5, d6⟩ := ih l (k + 1) (nxT n T j) k' j' F' J1 L1 p' (dn + 1) (wL l - 1 + y) h5 hl P1 b1 (by omega)
          rw [ee]
          exact ⟨J2, L2, y2, by omega, st.trans d2, a2.trans d3, a3.trans d4, fun x hx => ⟨(d5 x hx).1.trans (a4 x).1, (d5 x hx).2.trans (a4 x).2⟩, d6⟩
    · subst h1
      obtain ⟨⟨q1, q2, q3⟩, q4, q5, q6⟩ := h2, h4
      have le3 := Sq_le _ _ _ _ _ _ _ h3
      have le5 := Sq_le _ _ _ _ _ _ _ h5
      obtain ⟨r1, r2, r3, r4⟩ := cN_rep q1 q2
      have rn := cN_in r1
      rw [r4] at h3
      have hP' := id hP
      obtain ⟨h1, ⟨h21, h22⟩, ⟨h24, h25⟩, hr⟩ := hP'
      -- the head
      obtain ⟨J1, L1, a1, a2, a3, a4, a5, a6⟩ := rx_45r h1 q2 h24 hl hN
      have eh : wlk n T (lsT n T 8 ++ [cBr n T l]) (.inl (j + 1)) = .inl (j + 3) := by
        have := q1.nx
        rw [r4] at this
        rw [← this, q2]
        rfl
      rw [eh] at a2 a6
      obtain ⟨b1, b2, b3, b4⟩ := a6 rfl
      have P1 : P2 J1 L1 n T (j + 3) (l + 1) dn p.1 := ⟨a2, ⟨by rw [a5 _ (by decide) (by decide)]; exact h21, (a5 _ (by decide) (by decide)).trans h22⟩, ⟨b1, (a5 _ (by decide) (by decide)).trans h25⟩, a3.s.trans hr⟩
      have qf1 : QF J J1 := fun a x y1 y2 y3 y4 y5 => a3 a x y1 y4 y5
      -- the rounds
      have rounds : ∀ (s : Nat) (J : kInts) (L : kLngs) (p : (Nat → Int32) × Nat) (dn y : Nat), s < 20 → P2 J L n T (j + 3) (l + 1) dn p.1 → J 549 l = nI (tS n T (j + 3)) → J 550 l = nI (s + 1) → RI p.1 nb p.2 → dn < 40 → ∃ J' L' y', y ≤ y' ∧ F_X12_goesThrough_29 N ((s + 1) * (wL (l + 1) * (k1 - (k + 1)) + 1) + y) (wm Mb J L) 540 = F_X12_goesThrough_29 N y' (wm Mb J' L') 540 ∧ QF J J' ∧ LF L L' ∧ (∀ x, x < l → J' 549 x = J 549 x ∧ J' 550 x = J 550 x) ∧ AF N n T nb J' L' (j1 + 2) l (exL N n T nb ((List.replicate (s + 1) Fb).flatten) p dn) := by
        intro s
        induction s with
        | zero =>
          intro J L p dn y hs hP h50 h51 hR hd
          obtain ⟨J2, L2, y2, d1, d2, d3, d4, d5, d6⟩ := ih (l + 1) (k + 1) (j + 3) k1 j1 Fb J L p dn (1 + y) h3 (by omega) hP hR hd
          have ef : (0 + 1) * (wL (l + 1) * (k1 - (k + 1)) + 1) + y = wL (l + 1) * (k1 - (k + 1)) + (1 + y) := by omega
          have eF : (List.replicate (0 + 1) Fb).flatten = Fb ++ [] := rfl
          rw [ef, eF]
          by_cases ov : (exL N n T nb Fb p dn).2.2 = true
          · refine ⟨J2, L2, y2, by omega, d2, d3, d4, fun x hx => d5 x (by omega), AF_app d6 (fun y => by rw [ov] at y; cases y) (fun _ => ⟨rfl, rfl⟩)⟩
          · obtain ⟨e1, e2, e3⟩ := d6.2 (by simpa using ov)
            obtain ⟨J3, L3, g1, g2, g3, g4, g5, g6, g7⟩ := rx_clo2 (j0 := j + 3) (s := 0) e1 r3 q4 (by decide) ((d5 l (by omega)).1.trans h50) ((d5 l (by omega)).2.trans h51) hN
            rw [if_pos rfl] at g1 g7
            obtain ⟨J4, L4, f1, f2, f3, f4, f5, f6⟩ := rx_c81 g7.1 g7.2.2.1.1 (by omega) hN
            rw [stp_0 (by unfold cG; rw [if_pos q5])] at f2
            obtain ⟨y2, rfl⟩ : ∃ w, y2 = w + 1 := ⟨y2 - 1, by omega⟩
            have q34 : QF J3 J4 := fun a x y1 y2 y3 y4 y5 => by
              by_cases w : a = 540
              · subst w
                exact f4 x (by omega) (by omega)
              · exact f5 a x w
            refine ⟨J4, L4, y2, by omega, ?_, (d3.trans g2).trans q34, (d4.trans g3).trans f6, fun x hx => ⟨(f5 _ _ (by decide)).trans ((g4 x (by omega)).1.trans (d5 x (by omega)).1), (f5 _ _ (by decide)).trans ((g4 x (by omega)).2.trans (d5 x (by omega)).2)⟩, AF_app d6 (fun _ => ?_) (fun y => absurd y ov)⟩
            · rw [d2, rx_29c e1 q4, g1, f1]
              rfl
            · refine ⟨(fun y => by cases y), fun _ => ⟨⟨f2, ⟨by rw [f4 _ (by decide) (by decide)]; exact g7.2.1.1, (f4 _ (by decide) (by decide)).trans g7.2.1.2⟩, ⟨f3, (f4 _ (by decide) (by decide)).trans g7.2.2.1.2⟩, funext fun x => (f5 _ _ (by decide)).trans (by rw [g7.2.2.2]; rfl)⟩, e2, e3⟩⟩
        | succ s ihs =>
          intro J L p dn y hs hP h50 h51 hR hd
          obtain ⟨J2, L2, y2, d1, d2, d3, d4, d5, d6⟩ := ih (l + 1) (k + 1) (j + 3) k1 j1 Fb J L p dn (1 + ((s + 1) * (wL (l + 1) * (k1 - (k + 1)) + 1) + y)) h3 (by omega) hP hR hd
          have ef : (s + 1 + 1) * (wL (l + 1) * (k1 - (k + 1)) + 1) + y = wL (l + 1) * (k1 - (k + 1)) + (1 + ((s + 1) * (wL (l + 1) * (k1 - (k + 1)) + 1) + y)) := by
            rw [Nat.add_mul (s + 1) 1]
            omega
          have eF : (List.replicate (s + 1 + 1) Fb).flatten = Fb ++ (List.replicate (s + 1) Fb).flatten := by
            rw [List.replicate_succ, List.flatten_cons]
          rw [ef, eF]
          by_cases ov : (exL N n T nb Fb p dn).2.2 = true
          · refine ⟨J2, L2, y2, by omega, d2, d3, d4, fun x hx => d5 x (by omega), AF_app d6 (fun y => by rw [ov] at y; cases y) (fun _ => ⟨rfl, rfl⟩)⟩
          · obtain ⟨e1, e2, e3⟩ := d6.2 (by simpa using ov)
            obtain ⟨J3, L3, g1, g2, g3, g4, g5, g6, g7⟩ := rx_clo2 (j0 := j + 3) (s := s + 1) e1 r3 q4 (by omega) ((d5 l (by omega)).1.trans h50) ((d5 l (by omega)).2.trans h51) hN
            rw [if_neg (by omega)] at g1 g7
            obtain ⟨y2, rfl⟩ : ∃ w, y2 = ((s + 1) * (wL (l + 1) * (k1 - (k + 1)) + 1) + w) + 1 := ⟨y2 - 1 - (s + 1) * (wL (l + 1) * (k1 - (k + 1)) + 1), by omega⟩
            obtain ⟨J4, L4, y4, f1, f2, f3, f4, f5, f6⟩ := ihs J3 L3 _ _ y2 (by omega) g7 g5 g6 e2 e3
            refine ⟨J4, L4, y4, by omega, ?_, (d3.trans g2).trans f3, (d4.trans g3).trans f4, fun x hx => ⟨(f5 x hx).1.trans ((g4 x (by omega)).1.trans (d5 x (by omega)).1), (f5 x hx).2.trans ((g4 x (by omega)).2.trans (d5 x (by omega)).2)⟩, AF_app d6 (fun _ => f6) (fun y => absurd y ov)⟩
            rw [d2, rx_29c e1 q4, g1]
            exact f2
      -- all of it
      obtain ⟨s, hs⟩ : ∃ s, nuv n T (j + 1) = s + 1 := ⟨nuv n T (j + 1) - 1, by omega⟩
      rw [hs] at b3 ⊢
      have cost : 1 + (s + 1) * (wL (l + 1) * (k1 - (k + 1)) + 1) ≤ wL l * (k1 - k) := by
        have e1 : k1 - k = (k1 - (k + 1)) + 1 := by omega
        rw [e1]
        generalize k1 - (k + 1) = Q
        have h1 : (s + 1) * (wL (l + 1) * Q + 1) ≤ 20 * (wL (l + 1) * Q + 1) := Nat.mul_le_mul_right _ (by omega)
        have h2 : l = 0 ∨ l = 1 := by omega
        rcases h2 with rfl | rfl
        · have w0 : wL 0 = 441 := rfl
          have w1 : wL (0 + 1) = 21 := rfl
          rw [w0]
          rw [w1] at h1 ⊢
          omega
        · have w0 : wL 1 = 21 := rfl
          have w1 : wL (1 + 1) = 1 := rfl
          rw [w0]
          rw [w1] at h1 ⊢
          omega
      obtain ⟨x, hx⟩ : ∃ x, wL l * (k' - k) + y = ((s + 1) * (wL (l + 1) * (k1 - (k + 1)) + 1) + (wL l * (k' - k1) + (y + x))) + 1 := by
        have e1 : k' - k = (k1 - k) + (k' - k1) := by omega
        refine ⟨wL l * (k1 - k) - (1 + (s + 1) * (wL (l + 1) * (k1 - (k + 1)) + 1)), ?_⟩
        rw [e1, Nat.mul_add]
        omega
      obtain ⟨J2, L2, y2, d1, d2, d3, d4, d5, d6⟩ := rounds s J1 L1 p dn (wL l * (k' - k1) + (y + x)) (by omega) P1 b2 b3 hR hd
      have st : F_X12_goesThrough_29 N (wL l * (k' - k) + y) (wm Mb J L) 540 = F_X12_goesThrough_29 N y2 (wm Mb J2 L2) 540 := by
        rw [hx, rx_29o hP q1.1, rx_ordF h1 q1.1 h21, a1]
        exact d2
      have fr2 : ∀ x, x < l → J2 549 x = J 549 x ∧ J2 550 x = J 550 x := fun x hx => ⟨(d5 x hx).1.trans (b4 x hx).1, (d5 x hx).2.trans (b4 x hx).2⟩
      by_cases ov : (exL N n T nb ((List.replicate (s + 1) Fb).flatten) p dn).2.2 = true
      · exact ⟨J2, L2, y2, by omega, st, qf1.trans d3, a4.trans d4, fr2, AF_app d6 (fun y => by rw [ov] at y; cases y) (fun _ => ⟨rfl, rfl⟩)⟩
      · obtain ⟨e1, e2, e3⟩ := d6.2 (by simpa using ov)
        obtain ⟨w, hw⟩ : ∃ w, y2 = wL l * (k' - k1) + (y + w) := ⟨y2 - wL l * (k' - k1) - y, by omega⟩
        obtain ⟨J3, L3, y3, g1, g2, g3, g4, g5, g6⟩ := ih l k1 (j1 + 2) k' j' F' J2 L2 _ _ (y + w) h5 hl e1 e2 e3
        refine ⟨J3, L3, y3, by omega, ?_, (qf1.trans d3).trans g3, (a4.trans d4).trans g4, fun x hx => ⟨(g5 x hx).1.trans (fr2 x hx).1, (g5 x hx).2.trans (fr2 x hx).2⟩, AF_app d6 (fun _ => g6) (fun y => absurd y ov)⟩
        rw [st, hw]
        exact g2
theorem rx_29e (h1 : RS J L n T (.inl j)) (h : ¬ J 540 22 = 0 ∨ J 540 22 = 0 ∧ tK n T j = 4 ∧ J 540 24 = 0) (y : Nat) : F_X12_goesThrough_29 N (y + 1) (wm Mb J L) 540 = some (wm Mb J L) := by
  unfold F_X12_goesThrough_29 F_X12_goesThrough_73
  rcases h with h | ⟨h22, h4, h24⟩
  · simp only [wm_kR, wm_kt, wm_kn, wm_kin, wm_kL, wm_kI, wm_ksI, wm_ksL, wm_kJ, wm_ksJ, kg_t, kl_v, Option.bind_some, sr_k, sr_0, sr_1, sr_2, sr_3, sr_4, sr_7, sr_8, sr_9, sr_26, sr_27, sr_28, RS_ok h1, if_true, if_neg h, rx_mustT]
  · have g14 : J 540 14 = 0 := by rw [h1.2.1.2.2.1, rK_0.mpr h4]; rfl
    simp only [wm_kR, wm_kt, wm_kn, wm_kin, wm_kL, wm_kI, wm_ksI, wm_ksL, wm_kJ, wm_ksJ, kg_t, kl_v, Option.bind_some, sr_k, sr_0, sr_1, sr_2, sr_3, sr_4, sr_7, sr_8, sr_9, sr_26, sr_27, sr_28, RS_ok h1, h22, g14, h24, if_true, rx_mustT]
theorem rx_pass2 {z k' : Nat} {F : List (Nat × Nat)} (hS : Sq I n T z 0 0 0 k' c F) (hk : k' ≤ 30) (h4 : tK n T c = 4) (hP : P2 J L n T 0 0 0 p.1) (hR : RI p.1 nb p.2) (hN : 20000 < N) : ∃ J' L', F_X12_goesThrough_29 N N (wm Mb J L) 540 = some (wm Mb J' L') ∧ J' 540 25 = nI (exL N n T nb F p 0).2.1 ∧ J' 541 = (exL N n T nb F p 0).1.1 ∧ QF J J' ∧ LF L L' := by
  have w0 : wL 0 * (k' - 0) ≤ 441 * 30 := by
    have : wL 0 = 441 := rfl
    rw [this]
    omega
  obtain ⟨y, hy⟩ : ∃ y, N = wL 0 * (k' - 0) + (y + 1) := ⟨N - 1 - wL 0 * (k' - 0), by omega⟩
  obtain ⟨J1, L1, y1, a1, a2, a3, a4, -, a6⟩ := rx_run2 (N := N) (by omega) z 0 0 0 k' c F J L p 0 (y + 1) hS (by decide) hP hR (by decide)
  rw [← hy] at a2
  obtain ⟨y1, rfl⟩ : ∃ w, y1 = w + 1 := ⟨y1 - 1, by omega⟩
  by_cases ov : (exL N n T nb F p 0).2.2 = true
  · obtain ⟨⟨q, o1⟩, o2, o3, o4⟩ := a6.1 ov
    exact ⟨J1, L1, a2.trans (rx_29e o1 (Or.inl o2) _), o3, o4, a3, a4⟩
  · obtain ⟨e1, e2, e3⟩ := a6.2 (by simpa using ov)
    exact ⟨J1, L1, a2.trans (rx_29e e1.1 (Or.inr ⟨e1.2.1.2, h4, e1.2.2.1.1⟩) _), e1.2.2.1.2, e1.2.2.2, a3, a4⟩
end
