section
variable {N : Nat} {M M' M1 M2 : kMem} {g : Nat}
theorem lw_start (hS : SMp M) (hC : CP M.2.1) (hg : Gg M g) (hN : 1000 < N) : ∃ M' A w ts r c v3, c ≤ 2 ∧ F_L_begins N M 1 g = F_L_begins_163 N N M' 1 g (aH A) w (nI (1 + c)) ∧ PS N M' A w ts r 0 g v3 ∧ Cc M M' 20000 := by
  have gl := (kt_le hg.1).2
  have h539 := hS.len
  have k1 : kt (kNew M 30 12) (M.1.length + 1) 30 = true := kt_newW
  have l1 : (kNew M 30 12).1.length = M.1.length + 1 := by show (M.1 ++ _).length = _; simp
  obtain ⟨M3, a1, ⟨a2, a3⟩, a4, a5, a6, a7, a8⟩ := l_init (N := N) k1
  rw [l1] at a2 a3 a4 a5
  have c3 : M3.1 = M.1 ++ [(30, 12), (33, 3), (33, 3)] := by
    rw [a6]
    show (M.1 ++ [(30, 12)]) ++ _ = _
    rw [List.append_assoc]
    rfl
  have g3 : Gg M3 g := hg.kp ⟨_, c3⟩
  have H3 : kt M3 (M.1.length + 1) 30 = true := kt_pre a6 k1
  generalize hH : M.1.length + 1 = H at *
  have hgH : g ≠ H := by omega
  obtain ⟨v0, w0, q0, d0, e0, t0⟩ := lw_set (N := N) g3 H3 (m := 8) (by omega) (by omega) 2
  obtain ⟨g5, H5, c5, r5, i5, h5⟩ := t0 (nI v0)
  generalize hM5 : ksI (ksI M3 g 0 w0) H 2 (nI v0) = M5 at *
  obtain ⟨v1, w1, q1, d1, e1, t1⟩ := lw_set (N := N) g5 H5 (m := 9) (by omega) (by omega) 3
  obtain ⟨g7, H7, c7, r7, i7, h7⟩ := t1 (nI v1)
  generalize hM7 : ksI (ksI M5 g 0 w1) H 3 (nI v1) = M7 at *
  obtain ⟨v2, w2, q2, d2, e2, t2⟩ := lw_set (N := N) g7 H7 (m := 6) (by omega) (by omega) 4
  obtain ⟨g9, H9, c9, r9, i9, h9⟩ := t2 (nI v2)
  generalize hM9 : ksI (ksI M7 g 0 w2) H 4 (nI v2) = M9 at *
  obtain ⟨v3, w3, q3, d3, e3, t3⟩ := lw_set (N := N) g9 H9 (m := 30) (by omega) (by omega) 5
  obtain ⟨g11, H11, c11, r11, i11, h11⟩ := t3 (nI (8 + v3))
  generalize hM11 : ksI (ksI M9 g 0 w3) H 5 (nI (8 + v3)) = M11 at *
  obtain ⟨v4, w4, q4, d4, e4, t4⟩ := lw_set (N := N) g11 H11 (m := 12) (by omega) (by omega) 6
  obtain ⟨g13, H13, c13, r13, i13, h13⟩ := t4 (nI v4)
  generalize hM13 : ksI (ksI M11 g 0 w4) H 6 (nI v4) = M13 at *
  obtain ⟨v5, w5, q5, d5, e5, t5⟩ := lw_set (N := N) g13 H13 (m := 200) (by omega) (by omega) 7
  obtain ⟨g15, H15, c15, r15, i15, h15⟩ := t5 (nI v5)
  generalize hM15 : ksI (ksI M13 g 0 w5) H 7 (nI v5) = M15 at *
  have cM : M15.1 = M.1 ++ [(30, 12), (33, 3), (33, 3)] := by rw [c15, c13, c11, c9, c7, c5, c3]
  have rM : ∀ y i, kR M15 y i = kR M3 y i := fun y i => by rw [r15, r13, r11, r9, r7, r5]
  have iM : ∀ y i, y ≠ g → y ≠ H → kI M15 y i = kI M3 y i := fun y i z1 z2 => by rw [i15 y i z1 z2, i13 y i z1 z2, i11 y i z1 z2, i9 y i z1 z2, i7 y i z1 z2, i5 y i z1 z2]
  have z3 : ∀ i, kI M3 H i = 0 := fun i => by rw [a8 H i (by omega), z_IN, if_pos hH.symm]
  have low : ∀ y j, y ≤ M.1.length → kR M15 y j = kR M y j ∧ (y ≠ g → kI M15 y j = kI M y j) := fun y j hy => ⟨by rw [rM, a7 y j (by omega) (by omega), z_RN, if_neg (by omega)], fun z => by rw [iM y j z (by omega), a8 y j (by omega), z_IN, if_neg (by omega)]⟩
  have S15 : SMp M15 := hS.kp ⟨_, cM⟩ (fun a j ha => (low a j (by omega)).1)
  have C15 : CP M15.2.1 := hC.kp (fun a j ha => (low a j (by omega)).2 (by have := hg.2.2; omega))
  have lM : M15.1.length = M.1.length + 3 := by rw [cM]; simp
  let A : kA := ((H, H + 1, H + 2, 0, 0), fun _ => 0, fun _ => 0, fun _ => 0)
  have x15 : ∃ l, M15.1 = M3.1 ++ l := ⟨[], by rw [cM, c3, List.append_nil]⟩
  have hBW : BW M15 A (hdR (nI v0) (nI v1) (nI v2) (nI (8 + v3)) (nI v4) (nI v5)) 0 0 := by
    refine ⟨⟨⟨H15, by rw [rM]; exact a2, by rw [rM]; exact a3⟩, ?_, ?_, ?_, ?_, ?_, ?_, ?_, ?_, ?_, ?_⟩, ⟨?_, ?_⟩, fun b hb => absurd hb (Nat.not_lt_zero _), fun b hb => absurd hb (Nat.not_lt_zero _), fun b _ hb => absurd hb (Nat.not_lt_zero _), by show H + 1 ≠ H + 2; omega, fun z => absurd z (by omega)⟩
    all_goals first
      | (show kI M15 H _ = _; rw [h15, h13, h11, h9, h7, h5, z3]; rfl)
      | exact (a4 _).kp x15 (fun j => ⟨iM _ j (by omega) (by omega), rM _ j⟩) (fun z => absurd z (by omega))
      | exact (a5 _).kp x15 (fun j => ⟨iM _ j (by omega) (by omega), rM _ j⟩) (fun z => absurd z (by omega))
  obtain ⟨M18, s1, s2, s3⟩ := sb_init (N := N) (M := M15) (s := 9) (by omega) (by omega) (by rw [pcs_ln.1]; omega)
  have b18 := BS.of S15 C15 g15 hBW s2 s3
  have hA : aH A = H := rfl
  have hl9 := pcs_ln.1
  generalize hW : M15.1.length + 1 = w at *
  have y0 : hdR (nI v0) (nI v1) (nI v2) (nI (8 + v3)) (nI v4) (nI v5) 0 = nI v0 := rfl
  have y1 : hdR (nI v0) (nI v1) (nI v2) (nI (8 + v3)) (nI v4) (nI v5) 1 = nI v1 := rfl
  have y2 : hdR (nI v0) (nI v1) (nI v2) (nI (8 + v3)) (nI v4) (nI v5) 2 = nI v2 := rfl
  have y3 : hdR (nI v0) (nI v1) (nI v2) (nI (8 + v3)) (nI v4) (nI v5) 3 = nI (8 + v3) := rfl
  have y4 : hdR (nI v0) (nI v1) (nI v2) (nI (8 + v3)) (nI v4) (nI v5) 4 = nI v4 := rfl
  have y5 : hdR (nI v0) (nI v1) (nI v2) (nI (8 + v3)) (nI v4) (nI v5) 5 = nI v5 := rfl
  have dl0 := dgs_3 v0
  have dl1 := dgs_3 v1
  have dl2 := dgs_3 v2
  have dl3 := dgs_3 (8 + v3)
  have dl4 := dgs_3 v4
  have dl5 := dgs_3 v5
  generalize hr : hdR (nI v0) (nI v1) (nI v2) (nI (8 + v3)) (nI v4) (nI v5) = r at *
  have x18 := b18.hI
  obtain ⟨Ma, ua, ba, ca⟩ := b18.I (N := N) (v := v0) (by omega) (by omega) (by omega)
  obtain ⟨Mb, ub, bb, cb⟩ := ba.C (N := N) (c := 32) (by omega) (by simp only [List.length_append]; omega)
  have xb := bb.hI
  obtain ⟨Mc, uc, bc, cc⟩ := bb.I (N := N) (v := v1) (by omega) (by simp only [List.length_append, List.length_cons, List.length_nil]; omega) (by omega)
  obtain ⟨Md, ud, bd', cd⟩ := bc.C (N := N) (c := 32) (by omega) (by simp only [List.length_append, List.length_cons, List.length_nil]; omega)
  have xd := bd'.hI
  obtain ⟨Me, ue, be, ce⟩ := bd'.I (N := N) (v := v2) (by omega) (by simp only [List.length_append, List.length_cons, List.length_nil]; omega) (by omega)
  obtain ⟨Mf, uf, bf, cf⟩ := be.C (N := N) (c := 32) (by omega) (by simp only [List.length_append, List.length_cons, List.length_nil]; omega)
  have xf := bf.hI
  obtain ⟨Mg, ug, bg, cg⟩ := bf.I (N := N) (v := 8 + v3) (by omega) (by simp only [List.length_append, List.length_cons, List.length_nil]; omega) (by omega)
  obtain ⟨Mh, uh, bh, ch⟩ := bg.C (N := N) (c := 32) (by omega) (by simp only [List.length_append, List.length_cons, List.length_nil]; omega)
  have xh := bh.hI
  obtain ⟨Mi, ui, bi, ci⟩ := bh.I (N := N) (v := v4) (by omega) (by simp only [List.length_append, List.length_cons, List.length_nil]; omega) (by omega)
  obtain ⟨Mj, uj, bj, cj⟩ := bi.C (N := N) (c := 32) (by omega) (by simp only [List.length_append, List.length_cons, List.length_nil]; omega)
  have xj := bj.hI
  obtain ⟨Mk, uk, bk, ck⟩ := bj.I (N := N) (v := v5) (by omega) (by simp only [List.length_append, List.length_cons, List.length_nil]; omega) (by omega)
  obtain ⟨Ml, ul, bl, cl⟩ := bk.C (N := N) (c := 59) (by omega) (by simp only [List.length_append, List.length_cons, List.length_nil]; omega)
  obtain ⟨c, wc, qc, dc⟩ := lw_draw (N := N) bl.2.1 (m := 3) (by omega) (by omega)
  have bz := bl.nf (Nf.draw (g := g) (v := wc))
  rw [hA, y0, y1, y2, y3, y4, y5] at x18 xb xd xf xh xj
  have cA : Cc M M15 30 := ⟨_, cM, by simp⟩
  refine ⟨ksI Ml g 0 wc, A, w, mkH v0 v1 v2 (8 + v3) v4 v5, r, c, 8 + v3, by omega, ?_, ⟨?_, ?_, ?_, TXo_H (by omega) (by omega) (by omega) (by omega) (by omega) (by omega), len_H, y3, by omega⟩, ?_⟩
  · rw [F_L_begins, kl_v, kl_v, hH, show (!(H == 0)) = true by simp; omega, kg_t, a1, Option.bind_some]
    rw [show F_L_draw N M3 g 8 = _ from d0, Option.bind_some, e0, kg_t, kl_v, hM5]
    rw [show F_L_draw N M5 g 9 = _ from d1, Option.bind_some, e1, kg_t, kl_v, hM7]
    rw [show F_L_draw N M7 g 6 = _ from d2, Option.bind_some, e2, kg_t, kl_v, hM9]
    rw [show F_L_draw N M9 g 30 = _ from d3, Option.bind_some, e3, kg_t, kl_v, nI_8a, hM11]
    rw [show F_L_draw N M11 g 12 = _ from d4, Option.bind_some, e4, kg_t, kl_v, hM13]
    rw [show F_L_draw N M13 g 200 = _ from d5, Option.bind_some, e5, kg_t, kl_v, hM15, kl_v, kl_v, hW, show (!(w == 0)) = true by simp; omega, kg_t, s1, Option.bind_some]
    rw [x18.1, kg_t, b18.wk, kg_t, x18.2.1, ua, Option.bind_some, ba.wk, kg_t, show F_SB_appendC N _ w 32 = _ from ub, Option.bind_some]
    rw [xb.1, kg_t, bb.wk, kg_t, xb.2.2.1, uc, Option.bind_some, bc.wk, kg_t, show F_SB_appendC N _ w 32 = _ from ud, Option.bind_some]
    rw [xd.1, kg_t, bd'.wk, kg_t, xd.2.2.2.1, ue, Option.bind_some, be.wk, kg_t, show F_SB_appendC N _ w 32 = _ from uf, Option.bind_some]
    rw [xf.1, kg_t, bf.wk, kg_t, xf.2.2.2.2.1, ug, Option.bind_some, bg.wk, kg_t, show F_SB_appendC N _ w 32 = _ from uh, Option.bind_some]
    rw [xh.1, kg_t, bh.wk, kg_t, xh.2.2.2.2.2.1, ui, Option.bind_some, bi.wk, kg_t, show F_SB_appendC N _ w 32 = _ from uj, Option.bind_some]
    rw [xj.1, kg_t, bj.wk, kg_t, xj.2.2.2.2.2.2, uk, Option.bind_some, bk.wk, kg_t, show F_SB_appendC N _ w 59 = _ from ul, Option.bind_some, kl_v]
    rw [show F_L_draw N _ g 3 = _ from dc, Option.bind_some, kl_v, nI_1a]
    rfl
  · rw [tx_H]
    exact bz
  · rw [← hr]
    exact RW_hd (by omega) (by omega) (by omega) ⟨by omega, by omega⟩ (by omega) (by omega)
  · rw [← hr]
    exact rd_head (by omega) (by omega) (by omega) ⟨by omega, by omega⟩ (by omega) (by omega) hN
  · exact ((((((((((((((cA.trans s3.cc).trans ca).trans cb).trans cc).trans cd).trans ce).trans cf).trans cg).trans ch).trans ci).trans cj).trans ck).trans cl).trans (Cc.of rfl)).le (by omega)
end
