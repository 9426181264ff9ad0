/-! the reference reads a command's words: all texts -/
section
variable {N : Nat} {I I' : kInts} {L L' : kLngs} {n c i j k nb nt : Nat} {T : Nat → Nat} {σ : sg}
theorem rx_actP (h : RS I' L' n T σ) (e : SG I I') (p : I 540 21 = 0 ∨ okS σ = false) : F_X12_isActive N (wm Mb I' L') 540 = some 0 := by
  rw [rx_act h, SG_21 e (by decide)]
  rcases p with p | p
  · rw [if_pos p]
  · rw [p]
    split <;> rfl
theorem rx_actA (h : RS I' L' n T σ) (e : SG I I') (p1 : ¬ I 540 21 = 0) (p2 : I 540 22 = 0) (p3 : okS σ = true) : F_X12_isActive N (wm Mb I' L') 540 = some 1 := by
  rw [rx_act h, SG_21 e (by decide), SG_21 e (by decide), if_neg p1, if_pos p3, if_pos p2]
theorem rdw_1 (h : RS I L n T (.inl j)) (hN : 1000 < N) : RDW (F_X12_joinText N (wm Mb I L) 540) (fun M => aJoin N M (nmc n T j) (nI (nuv n T (j + 1))) (nI (nuv n T (j + 2)))) I L n T 1 j := by
  obtain ⟨v, I1, L1, a1, a2, a3, a4, a5⟩ := rx_nameT h hN
  obtain ⟨I2, L2, b1, b2, b3, b4⟩ := rx_reads (N := N) a2 (lo := 1) (hh := 100) (x2 := 99) (by decide) (by decide) (by decide) hN
  obtain ⟨I3, L3, d1, d2, d3, d4⟩ := rx_reads (N := N) b2 (lo := 0) (hh := 10000) (x2 := 9999) (by decide) (by decide) (by decide) hN
  rw [show nI 1 = 1 from rfl] at b1
  rw [show nI 0 = 0 from rfl] at d1
  have g := (a3.trans b3).trans d3
  refine ⟨I3, L3, d2, g, (a4.trans b4).trans d4, fun p => ?_, fun p1 p2 ok => ?_⟩
  · have ha := rx_actP (N := N) d2 g p
    unfold F_X12_joinText
    simp only [wm_kR, wm_kt, wm_kn, wm_kin, wm_kL, wm_kI, wm_ksI, wm_ksL, wm_kJ, wm_ksJ, kg_t, kl_v, Option.bind_some, sr_k, sr_0, sr_1, sr_2, sr_3, sr_4, sr_7, sr_8, sr_9, sr_26, sr_27, sr_28, a1, b1, d1, ha, if_true]
  · have ha := rx_actA (N := N) d2 g p1 p2 ok
    obtain ⟨o1, ok2, -⟩ := wlk_ok (f := cMn n T) (l := [cN n T 1 100, cN n T 0 10000]) ok
    obtain ⟨o2, ok3, -⟩ := wlk_ok (f := cN n T 1 100) (l := [cN n T 0 10000]) ok2
    obtain ⟨o3, -, -⟩ := wlk_ok (f := cN n T 0 10000) (l := []) ok3
    rw [stp_0 o1] at b1 d1
    rw [stp_0 o2, rdV_0 o3] at d1
    rw [rdV_0 o2] at b1
    rw [a5 j rfl o1] at a1
    unfold F_X12_joinText
    simp only [wm_kR, wm_kt, wm_kn, wm_kin, wm_kL, wm_kI, wm_ksI, wm_ksL, wm_kJ, wm_ksJ, kg_t, kl_v, Option.bind_some, sr_k, sr_0, sr_1, sr_2, sr_3, sr_4, sr_7, sr_8, sr_9, sr_26, sr_27, sr_28, a1, b1, d1, ha, if_neg one0]
    unfold aJoin
    simp only [wm_kR, wm_kt, wm_kn, wm_kin, wm_kL, wm_kI, wm_ksI, wm_ksL, wm_kJ, wm_ksJ, kg_t, kl_v, Option.bind_some, sr_k, sr_0, sr_1, sr_2, sr_3, sr_4, sr_7, sr_8, sr_9, sr_26, sr_27, sr_28]
theorem rdw_2 (h : RS I L n T (.inl j)) (hR : RI (I 541) nb nt) (hN : 1000 < N) : RDW (F_X12_buyText N (wm Mb I L) 540) (fun M => aBuy N M (rOf (fnd (I 541) nt (nmc n T j))) (nI (nuv n T (j + 1))) (sdV n T (.inl (j + 2)) * nI (nuv n T (j + 3)))) I L n T 2 j := by
  obtain ⟨v, I1, L1, a1, a2, a3, a4, a5⟩ := rx_nameT h hN
  have hv := rx_nmd2 (N := N) (I := I1) (L := L1) hR (SG_s a3) hN v
  obtain ⟨I2, L2, b1, b2, b3, b4⟩ := rx_reads (N := N) a2 (lo := 0) (hh := 5) (x2 := 4) (by decide) (by decide) (by decide) hN
  obtain ⟨w, I3, L3, d1, d2, d3, d4, d5⟩ := rx_sideG b2 hN
  obtain ⟨I4, L4, g1, g2, g3, g4⟩ := rx_reads (N := N) d2 (lo := 1) (hh := 7) (x2 := 6) (by decide) (by decide) (by decide) hN
  rw [show nI 0 = 0 from rfl] at b1
  rw [show nI 1 = 1 from rfl] at g1
  have g := ((a3.trans b3).trans d3).trans g3
  refine ⟨I4, L4, g2, g, ((a4.trans b4).trans d4).trans g4, fun p => ?_, fun p1 p2 ok => ?_⟩
  · have ha := rx_actP (N := N) g2 g p
    unfold F_X12_buyText
    simp only [wm_kR, wm_kt, wm_kn, wm_kin, wm_kL, wm_kI, wm_ksI, wm_ksL, wm_kJ, wm_ksJ, kg_t, kl_v, Option.bind_some, sr_k, sr_0, sr_1, sr_2, sr_3, sr_4, sr_7, sr_8, sr_9, sr_26, sr_27, sr_28, a1, hv, b1, d1, g1, ha, if_true]
  · have ha := rx_actA (N := N) g2 g p1 p2 ok
    obtain ⟨o1, ok2, -⟩ := wlk_ok (f := cMn n T) (l := [cN n T 0 5, sdC n T, cN n T 1 7]) ok
    obtain ⟨o2, ok3, -⟩ := wlk_ok (f := cN n T 0 5) (l := [sdC n T, cN n T 1 7]) ok2
    obtain ⟨o3, ok4, -⟩ := wlk_ok (f := sdC n T) (l := [cN n T 1 7]) ok3
    obtain ⟨o4, -, -⟩ := wlk_ok (f := cN n T 1 7) (l := []) ok4
    rw [stp_0 o1] at b1 d5 g1
    rw [stp_0 o2] at d5 g1
    rw [stp_0 o3, rdV_0 o4] at g1
    rw [rdV_0 o2] at b1
    rw [d5 _ rfl o3] at d1
    rw [a5 j rfl o1] at a1 hv
    unfold F_X12_buyText
    simp only [wm_kR, wm_kt, wm_kn, wm_kin, wm_kL, wm_kI, wm_ksI, wm_ksL, wm_kJ, wm_ksJ, kg_t, kl_v, Option.bind_some, sr_k, sr_0, sr_1, sr_2, sr_3, sr_4, sr_7, sr_8, sr_9, sr_26, sr_27, sr_28, a1, hv, b1, d1, g1, ha, if_neg one0]
    unfold aBuy
    simp only [wm_kR, wm_kt, wm_kn, wm_kin, wm_kL, wm_kI, wm_ksI, wm_ksL, wm_kJ, wm_ksJ, kg_t, kl_v, Option.bind_some, sr_k, sr_0, sr_1, sr_2, sr_3, sr_4, sr_7, sr_8, sr_9, sr_26, sr_27, sr_28]
theorem rdw_3 (h : RS I L n T (.inl j)) (hR : RI (I 541) nb nt) (hN : 1000 < N) : RDW (F_X12_leaveText N (wm Mb I L) 540) (fun M => aLeave N M (rOf (fnd (I 541) nt (nmc n T j)))) I L n T 3 j := by
  obtain ⟨v, I1, L1, a1, a2, a3, a4, a5⟩ := rx_nameT h hN
  have hv := rx_nmd2 (N := N) (I := I1) (L := L1) hR (SG_s a3) hN v
  refine ⟨I1, L1, a2, a3, a4, fun p => ?_, fun p1 p2 ok => ?_⟩
  · have ha := rx_actP (N := N) a2 a3 p
    unfold F_X12_leaveText
    simp only [wm_kR, wm_kt, wm_kn, wm_kin, wm_kL, wm_kI, wm_ksI, wm_ksL, wm_kJ, wm_ksJ, kg_t, kl_v, Option.bind_some, sr_k, sr_0, sr_1, sr_2, sr_3, sr_4, sr_7, sr_8, sr_9, sr_26, sr_27, sr_28, a1, hv, ha, if_true]
  · have ha := rx_actA (N := N) a2 a3 p1 p2 ok
    obtain ⟨o1, -, -⟩ := wlk_ok (f := cMn n T) (l := []) ok
    rw [a5 j rfl o1] at a1 hv
    unfold F_X12_leaveText
    simp only [wm_kR, wm_kt, wm_kn, wm_kin, wm_kL, wm_kI, wm_ksI, wm_ksL, wm_kJ, wm_ksJ, kg_t, kl_v, Option.bind_some, sr_k, sr_0, sr_1, sr_2, sr_3, sr_4, sr_7, sr_8, sr_9, sr_26, sr_27, sr_28, a1, hv, ha, if_neg one0]
    unfold aLeave
    simp only [wm_kR, wm_kt, wm_kn, wm_kin, wm_kL, wm_kI, wm_ksI, wm_ksL, wm_kJ, wm_ksJ, kg_t, kl_v, Option.bind_some, sr_k, sr_0, sr_1, sr_2, sr_3, sr_4, sr_7, sr_8, sr_9, sr_26, sr_27, sr_28]
theorem rdw_4 (h : RS I L n T (.inl j)) (hR : RI (I 541) nb nt) (hN : 1000 < N) : RDW (F_X12_pairText N (wm Mb I L) 540 1) (fun M => aPair N M 1 (rOf (fnd (I 541) nt (nmc n T j))) (rOf (fnd (I 541) nt (nmc n T (j + 1)))) (nI (nuv n T (j + 2)))) I L n T 4 j := by
  obtain ⟨v, I1, L1, a1, a2, a3, a4, a5⟩ := rx_nameT h hN
  have hv := rx_nmd2 (N := N) (I := I1) (L := L1) hR (SG_s a3) hN v
  obtain ⟨w, I2, L2, b1, b2, b3, b4, b5⟩ := rx_otherN (N := N) (x := v) a2 (fun i e => by
    by_cases o : cMn n T j = 0
    · rw [stp_0 o] at e
      cases e
      rw [Nat.add_sub_cancel]
      exact a5 j rfl o
    · rw [stp_e o] at e
      cases e) hN
  have hw := rx_nmd2 (N := N) (I := I2) (L := L2) hR (SG_s (a3.trans b3)) hN w
  obtain ⟨I3, L3, d1, d2, d3, d4⟩ := rx_reads (N := N) b2 (lo := 1) (hh := 51) (x2 := 50) (by decide) (by decide) (by decide) hN
  rw [show nI 1 = 1 from rfl] at d1
  have g := (a3.trans b3).trans d3
  refine ⟨I3, L3, d2, g, (a4.trans b4).trans d4, fun p => ?_, fun p1 p2 ok => ?_⟩
  · have ha := rx_actP (N := N) d2 g p
    unfold F_X12_pairText F_X12_pairText_37
    simp only [wm_kR, wm_kt, wm_kn, wm_kin, wm_kL, wm_kI, wm_ksI, wm_ksL, wm_kJ, wm_ksJ, kg_t, kl_v, Option.bind_some, sr_k, sr_0, sr_1, sr_2, sr_3, sr_4, sr_7, sr_8, sr_9, sr_26, sr_27, sr_28, a1, hv, b1, hw, d1, ha, if_neg one0, if_true]
  · have ha := rx_actA (N := N) d2 g p1 p2 ok
    obtain ⟨o1, ok2, -⟩ := wlk_ok (f := cMn n T) (l := [cOt n T, cN n T 1 51]) ok
    obtain ⟨o2, ok3, -⟩ := wlk_ok (f := cOt n T) (l := [cN n T 1 51]) ok2
    obtain ⟨o3, -, -⟩ := wlk_ok (f := cN n T 1 51) (l := []) ok3
    rw [stp_0 o1] at b5 d1
    rw [stp_0 o2, rdV_0 o3] at d1
    rw [b5 _ rfl o2] at b1 hw
    rw [a5 j rfl o1] at a1 hv b1
    unfold F_X12_pairText F_X12_pairText_37
    simp only [wm_kR, wm_kt, wm_kn, wm_kin, wm_kL, wm_kI, wm_ksI, wm_ksL, wm_kJ, wm_ksJ, kg_t, kl_v, Option.bind_some, sr_k, sr_0, sr_1, sr_2, sr_3, sr_4, sr_7, sr_8, sr_9, sr_26, sr_27, sr_28, a1, hv, b1, hw, d1, ha, if_neg one0]
    unfold aPair
    simp only [wm_kR, wm_kt, wm_kn, wm_kin, wm_kL, wm_kI, wm_ksI, wm_ksL, wm_kJ, wm_ksJ, kg_t, kl_v, Option.bind_some, sr_k, sr_0, sr_1, sr_2, sr_3, sr_4, sr_7, sr_8, sr_9, sr_26, sr_27, sr_28, if_neg one0]
theorem rdw_5 (h : RS I L n T (.inl j)) (hR : RI (I 541) nb nt) (hN : 1000 < N) : RDW (F_X12_pairText N (wm Mb I L) 540 0) (fun M => aPair N M 0 (rOf (fnd (I 541) nt (nmc n T j))) (rOf (fnd (I 541) nt (nmc n T (j + 1)))) 0) I L n T 5 j := by
  obtain ⟨v, I1, L1, a1, a2, a3, a4, a5⟩ := rx_nameT h hN
  have hv := rx_nmd2 (N := N) (I := I1) (L := L1) hR (SG_s a3) hN v
  obtain ⟨w, I2, L2, b1, b2, b3, b4, b5⟩ := rx_otherN (N := N) (x := v) a2 (fun i e => by
    by_cases o : cMn n T j = 0
    · rw [stp_0 o] at e
      cases e
      rw [Nat.add_sub_cancel]
      exact a5 j rfl o
    · rw [stp_e o] at e
      cases e) hN
  have hw := rx_nmd2 (N := N) (I := I2) (L := L2) hR (SG_s (a3.trans b3)) hN w
  have g := a3.trans b3
  refine ⟨I2, L2, b2, g, a4.trans b4, fun p => ?_, fun p1 p2 ok => ?_⟩
  · have ha := rx_actP (N := N) b2 g p
    unfold F_X12_pairText F_X12_pairText_37
    simp only [wm_kR, wm_kt, wm_kn, wm_kin, wm_kL, wm_kI, wm_ksI, wm_ksL, wm_kJ, wm_ksJ, kg_t, kl_v, Option.bind_some, sr_k, sr_0, sr_1, sr_2, sr_3, sr_4, sr_7, sr_8, sr_9, sr_26, sr_27, sr_28, a1, hv, b1, hw, ha, if_true]
  · have ha := rx_actA (N := N) b2 g p1 p2 ok
    obtain ⟨o1, ok2, -⟩ := wlk_ok (f := cMn n T) (l := [cOt n T]) ok
    obtain ⟨o2, -, -⟩ := wlk_ok (f := cOt n T) (l := []) ok2
    rw [stp_0 o1] at b5
    rw [b5 _ rfl o2] at b1 hw
    rw [a5 j rfl o1] at a1 hv b1
    unfold F_X12_pairText F_X12_pairText_37
    simp only [wm_kR, wm_kt, wm_kn, wm_kin, wm_kL, wm_kI, wm_ksI, wm_ksL, wm_kJ, wm_ksJ, kg_t, kl_v, Option.bind_some, sr_k, sr_0, sr_1, sr_2, sr_3, sr_4, sr_7, sr_8, sr_9, sr_26, sr_27, sr_28, a1, hv, b1, hw, ha, if_neg one0, if_true]
    unfold aPair
    simp only [wm_kR, wm_kt, wm_kn, wm_kin, wm_kL, wm_kI, wm_ksI, wm_ksL, wm_kJ, wm_ksJ, kg_t, kl_v, Option.bind_some, sr_k, sr_0, sr_1, sr_2, sr_3, sr_4, sr_7, sr_8, sr_9, sr_26, sr_27, sr_28, if_true]
theorem rdw_6 (h : RS I L n T (.inl j)) (hN : 1000 < N) : RDW (F_X12_wholeText N (wm Mb I L) 540 1) (fun M => aWhole N M 1 (nI (nuv n T j))) I L n T 6 j := by
  obtain ⟨I1, L1, a1, a2, a3, a4⟩ := rx_reads (N := N) h (lo := 0) (hh := 21) (x2 := 20) (by decide) (by decide) (by decide) hN
  rw [show nI 0 = 0 from rfl] at a1
  refine ⟨I1, L1, a2, a3, a4, fun p => ?_, fun p1 p2 ok => ?_⟩
  · have ha := rx_actP (N := N) a2 a3 p
    unfold F_X12_wholeText F_X12_wholeText_21
    simp only [wm_kR, wm_kt, wm_kn, wm_kin, wm_kL, wm_kI, wm_ksI, wm_ksL, wm_kJ, wm_ksJ, kg_t, kl_v, Option.bind_some, sr_k, sr_0, sr_1, sr_2, sr_3, sr_4, sr_7, sr_8, sr_9, sr_26, sr_27, sr_28, a1, ha, if_neg one0, if_true]
  · have ha := rx_actA (N := N) a2 a3 p1 p2 ok
    obtain ⟨o1, -, -⟩ := wlk_ok (f := cN n T 0 21) (l := []) ok
    rw [rdV_0 o1] at a1
    unfold F_X12_wholeText F_X12_wholeText_21
    simp only [wm_kR, wm_kt, wm_kn, wm_kin, wm_kL, wm_kI, wm_ksI, wm_ksL, wm_kJ, wm_ksJ, kg_t, kl_v, Option.bind_some, sr_k, sr_0, sr_1, sr_2, sr_3, sr_4, sr_7, sr_8, sr_9, sr_26, sr_27, sr_28, a1, ha, if_neg one0]
    unfold aWhole
    simp only [wm_kR, wm_kt, wm_kn, wm_kin, wm_kL, wm_kI, wm_ksI, wm_ksL, wm_kJ, wm_ksJ, kg_t, kl_v, Option.bind_some, sr_k, sr_0, sr_1, sr_2, sr_3, sr_4, sr_7, sr_8, sr_9, sr_26, sr_27, sr_28, if_neg one0]
theorem rdw_7 (h : RS I L n T (.inl j)) (hN : 1000 < N) : RDW (F_X12_wholeText N (wm Mb I L) 540 0) (fun M => aWhole N M 0 (nI (nuv n T j))) I L n T 7 j := by
  obtain ⟨I1, L1, a1, a2, a3, a4⟩ := rx_reads (N := N) h (lo := 1) (hh := 31) (x2 := 30) (by decide) (by decide) (by decide) hN
  rw [show nI 1 = 1 from rfl] at a1
  refine ⟨I1, L1, a2, a3, a4, fun p => ?_, fun p1 p2 ok => ?_⟩
  · have ha := rx_actP (N := N) a2 a3 p
    unfold F_X12_wholeText F_X12_wholeText_21
    simp only [wm_kR, wm_kt, wm_kn, wm_kin, wm_kL, wm_kI, wm_ksI, wm_ksL, wm_kJ, wm_ksJ, kg_t, kl_v, Option.bind_some, sr_k, sr_0, sr_1, sr_2, sr_3, sr_4, sr_7, sr_8, sr_9, sr_26, sr_27, sr_28, a1, ha, if_true]
  · have ha := rx_actA (N := N) a2 a3 p1 p2 ok
    obtain ⟨o1, -, -⟩ := wlk_ok (f := cN n T 1 31) (l := []) ok
    rw [rdV_0 o1] at a1
    unfold F_X12_wholeText F_X12_wholeText_21
    simp only [wm_kR, wm_kt, wm_kn, wm_kin, wm_kL, wm_kI, wm_ksI, wm_ksL, wm_kJ, wm_ksJ, kg_t, kl_v, Option.bind_some, sr_k, sr_0, sr_1, sr_2, sr_3, sr_4, sr_7, sr_8, sr_9, sr_26, sr_27, sr_28, a1, ha, if_neg one0, if_true]
    unfold aWhole
    simp only [wm_kR, wm_kt, wm_kn, wm_kin, wm_kL, wm_kI, wm_ksI, wm_ksL, wm_kJ, wm_ksJ, kg_t, kl_v, Option.bind_some, sr_k, sr_0, sr_1, sr_2, sr_3, sr_4, sr_7, sr_8, sr_9, sr_26, sr_27, sr_28, if_true]
end
