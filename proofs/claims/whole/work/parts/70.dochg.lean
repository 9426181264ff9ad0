/-! a change, kept and done on both sides -/
section
variable {N : Nat} {I K : kInts} {L : kLngs} {r s f : Nat → Int32} {nb nt nb' nt' : Nat}
theorem do_change (h : Rel I) (hN : 5000 < N) (hR : RI (I 541) nb nt) (hM : RM I 44 (I 541) nb nt) : ∃ I1, F_X3_record N (wm Mb I L) 126 44 = some (wm Mb I1 L) ∧ RM I1 44 (I 541) nb nt ∧ (∀ a j, a < 126 ∨ 456 ≤ a → I1 a j = I a j) ∧ ∀ I2, FR 44 I1 I2 → I2 541 = I 541 ∧ I2 546 = I 546 ∧ ∀ L', ∃ J, F_X12_keepsPast N (wm Mb (tw6 I2 0) L') 540 = some (wm Mb J L') ∧ J = rf J (I 541) (I 546) ∧ ∀ r' f' nb' nt', RI r' nb' nt' → RM I2 44 r' nb' nt' → Rel (rf J r' f') ∧ rf J r' f' 540 6 = 0 := by
  obtain ⟨nx, u, h1, h2, h3, h4, h5, h6⟩ := h.2.2.2.2.1
  have hle := hs_le nx
  obtain ⟨I1, a1, a2, a3, a4, a5, a6⟩ := cx_record (N := N) (L := L) h1 h2 h3 h4 h.2.2.2.1 (by omega)
  have e1 : ∀ a j, a < 126 ∨ 456 ≤ a → I1 a j = I a j := fun a j y => a6 a j (by omega) (by omega)
  refine ⟨I1, a1, hM.cI hR.nb5 hR.nt24 (fun a j y1 y2 => e1 a j (by omega)), e1, fun I2 hF => ?_⟩
  have e2 : ∀ a j, a < 44 ∨ 85 ≤ a → I2 a j = I1 a j := fun a j y => hF a j (by omega)
  have er : I2 541 = I 541 := funext fun j => (e2 _ _ (by omega)).trans (e1 _ _ (by omega))
  have ef : I2 546 = I 546 := funext fun j => (e2 _ _ (by omega)).trans (e1 _ _ (by omega))
  refine ⟨er, ef, fun L' => ?_⟩
  obtain ⟨J, b1, b2, b3, b4, b5, b6⟩ := rx_keeps (N := N) (I := tw6 I2 0) (L := L') h2 ((tw_o (by omega)).trans ((e2 _ _ (by omega)).trans ((e1 _ _ (by omega)).trans h5))) hN
  have er' : ∀ j, tw6 I2 0 541 j = I 541 j := fun j => by rw [tw_o (by omega), er]
  have ep : ∀ j, tw6 I2 0 543 j = I 543 j := fun j => by rw [tw_o (by omega), e2 _ _ (by omega), e1 _ _ (by omega)]
  have j1 : J 541 = I 541 := funext fun j => (b6 _ _ (by omega) (by omega)).trans (er' j)
  have j2 : J 546 = I 546 := funext fun j => by rw [b6 _ _ (by omega) (by omega), tw_o (by omega), ef]
  refine ⟨J, b1, ?_, fun r' f' nb' nt' y1 y2 => ⟨?_, ?_⟩⟩
  · have := @rf_self J
    rw [j1, j2] at this
    exact this.symm
  · have kj : ∀ a j, a ≠ 541 → a ≠ 546 → rf J r' f' a j = J a j := fun a j z1 z2 => rf_o j z1 z2
    have kk : ∀ a j, a ≠ 541 → a ≠ 546 → a ≠ 543 → ¬ (a = 540 ∧ (j = 5 ∨ j = 6)) → a < 44 ∨ 85 ≤ a → rf J r' f' a j = I1 a j := fun a j z1 z2 z3 z4 z5 => by
      rw [kj a j z1 z2, b6 a j z3 (by omega), tw_o (by omega), e2 a j z5]
    have km : ∀ a j, a < 540 → rf J r' f' a j = I2 a j := fun a j z => by
      rw [kj a j (by omega) (by omega), b6 a j (by omega) (by omega), tw_o (by omega)]
    have kR : rf J r' f' 541 = r' := funext fun j => rf_s j
    refine h.chg (nb := nb) (nt := nt) (nb' := nb') (nt' := nt') h1 h2 h6 ((kk _ _ (by omega) (by omega) (by omega) (by omega) (by omega)).trans a4) ((kk _ _ (by omega) (by omega) (by omega) (by omega) (by omega)).trans a5) ((kj _ _ (by omega) (by omega)).trans b2) (fun a j z1 z2 z3 => (kk a j (by omega) (by omega) (by omega) (by omega) (by omega)).trans (a6 a j (by omega) z3)) ((a2 (I 541) nb nt hR.nb5 hR.nt24 hM).cI hR.nb5 hR.nt24 (fun a j z1 z2 => kk a j (by omega) (by omega) (by omega) (by omega) (by omega))) hR (fun k hk => by rw [kj _ _ (by omega) (by omega), b3 k hk, er']) (fun z j hj => by rw [kj _ _ (by omega) (by omega), b4 z j hj, ep]) (fun z j hj => by rw [kj _ _ (by omega) (by omega), b5 z j hj, ep]) (fun a j z => ?_) ?_ (by rw [kR]; exact y1) ?_
    · rw [kk a j (by omega) (by omega) (by omega) (by omega) (by omega)]
      exact e1 a j (by omega)
    · exact h.1.kp (fun x j z => by rw [kk x j (by omega) (by omega) (by omega) (by omega) (by omega)]; exact e1 x j (by omega))
    · rw [kR]
      exact y2.cI y1.nb5 y1.nt24 (fun a j z1 z2 => km a j (by omega))
  · rw [rf_o _ (by omega) (by omega), b6 _ _ (by omega) (by omega)]
    exact tw_6
theorem in20 (M : kMem) (x : Int32) : F_X12_in N M x.toInt64 0 20 = some (if x < 0 ∨ 20 < x then 0 else 1) := by
  have h := in1 (N := N) M x 0 20
  rw [show (0 : Int32).toInt64 = 0 from rfl, show (20 : Int32).toInt64 = 20 from rfl] at h
  exact h
theorem in30 (M : kMem) (x : Int32) : F_X12_in N M x.toInt64 1 30 = some (if x < 1 ∨ 30 < x then 0 else 1) := by
  have h := in1 (N := N) M x 1 30
  rw [show (1 : Int32).toInt64 = 1 from rfl, show (30 : Int32).toInt64 = 30 from rfl] at h
  exact h
theorem sx_setWage (h : Rel I) (x : Int32) (hN : 5000 < N) : SameX [(2, 1)] (fun M => F_X11_setWage N M 1 x) (fun M => F_X12_setWage N M 540 x) I := by
  obtain ⟨nb, nt, hR, hM⟩ := h.2.2.1.row
  have h5 := hR.nb5
  have h24 := hR.nt24
  intro L
  by_cases hx : x < 0 ∨ 20 < x
  · refine ⟨.inr 2, I, ?_, fun L' => ⟨0, tw6 I 1, L', ?_, h.tw, LF.rf', Or.inr ⟨2, 1, rfl, by simp, tw_6⟩⟩⟩
    · show F_X11_setWage N (wm Mb I L) 1 x = _
      unfold F_X11_setWage
      simp only [cx_range, if_pos hx, kbx]
    · show F_X12_setWage N (wm Mb I L') 540 x = _
      unfold F_X12_setWage F_X12_setWage_23
      simp only [wm_kR, wm_kt, wm_kn, wm_kin, wm_kL, wm_kI, wm_ksI, wm_ksL, wm_kJ, wm_ksJ, kg_t, kl_v, Option.bind_some, sr_k, sr_0, sr_1, sr_2, sr_3, sr_4, sr_7, sr_8, sr_9, sr_26, sr_27, sr_28, tw_fd, in20, if_pos hx, if_true, rx_stopT one0 one0, if_neg one0]
  · obtain ⟨w, hw, rfl⟩ : ∃ w, w < 21 ∧ x = nI w := by
      rcases num_cases x (n := 21) (by decide) with y | y | y
      · exact y
      · exact absurd (Or.inl y) hx
      · have : 20 < x := by
          have h1 : (20 : Int32) < nI 21 := by decide
          grind
        exact absurd (Or.inr this) hx
    obtain ⟨I1, a1, a2, a3, a4⟩ := do_change (L := L) h hN hR hM
    have b2 : RM (up I1 44 2 (nI w)) 44 (setr (I 541) 0 (nI w)) nb nt := RM_g2 a2 h5 h24 (nI w)
    obtain ⟨c1, c2, c3⟩ := a4 (up I1 44 2 (nI w)) (FR.rfl'.up (by omega) (by omega))
    refine ⟨.inl (I 541 0), up I1 44 2 (nI w), ?_, fun L' => ?_⟩
    · show F_X11_setWage N (wm Mb I L) 1 (nI w) = _
      unfold F_X11_setWage
      simp only [cx_range, if_neg hx, kbx, wm_kR, wm_kt, wm_kn, wm_kin, wm_kL, wm_kI, wm_ksI, wm_ksL, wm_kJ, wm_ksJ, kg_t, kl_v, Option.bind_some, x1_t.1, x1_t.2.1, x1_t.2.2.1, s47h.1, a1, mm_k m169, a2.wage]
    · obtain ⟨J, d1, d2, d3⟩ := c3 L'
      obtain ⟨d4, d5⟩ := d3 _ (I 546) nb nt (RI_wage hR (show w ≤ 20 by omega)) b2
      have e := rx_setsWage (N := N) (I := J) (L := L') (r := I 541) (f := I 546) (nI w)
      rw [← d2] at e
      refine ⟨I 541 0, _, L', ?_, d4, LF.rf', Or.inl ⟨rfl, d5⟩⟩
      show F_X12_setWage N (wm Mb _ L') 540 (nI w) = _
      unfold F_X12_setWage F_X12_setWage_23
      simp only [wm_kR, wm_kt, wm_kn, wm_kin, wm_kL, wm_kI, wm_ksI, wm_ksL, wm_kJ, wm_ksJ, kg_t, kl_v, Option.bind_some, sr_k, sr_0, sr_1, sr_2, sr_3, sr_4, sr_7, sr_8, sr_9, sr_26, sr_27, sr_28, tw_fd, in20, if_neg hx, if_neg one0, rx_stopF, if_true, d1, e]
end
