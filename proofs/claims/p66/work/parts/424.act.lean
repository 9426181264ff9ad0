/-! one act -/
section
variable {N : Nat} {M M' M1 M2 : kMem} {a i j k k2 nb nt b s t q g d : Nat} {A : kA} {E : Nat → Nat → Nat} {r r' : Nat → Int32} {I I' : kInts}
theorem lw_pos (hg : Gg M g) (hb : kt M (aB A b) 31 = true) (ha : kI M (aB A b) 1 = nI a) (ha6 : 1 ≤ a ∧ a ≤ 6) : ∃ q v w, F_L_position N M (aB A b) g = some (pz q, ksI (ksI M g 0 v) g 0 w) ∧ 6 - a ≤ q ∧ q ≤ 6 + a ∧ q ≠ 6 := by
  unfold F_L_position
  obtain ⟨k, v, hk, u1⟩ := lw_draw (N := N) hg (m := a) (by omega) (by omega)
  obtain ⟨k2, w, hk2, u2⟩ := lw_draw (N := N) (M := ksI M g 0 v) hg (m := 2) (by omega) (by omega)
  rw [hb, kg_t, ha, u1, Option.bind_some, kl_v]
  have u2' : F_L_draw N (ksI M g 0 v) g 2 = some (nI k2, ksI (ksI M g 0 v) g 0 w) := u2
  rw [u2', Option.bind_some]
  have e1 : 1 + nI k = pz (6 + (k + 1)) := by
    rw [← pz_a, show (1 : Int32) = nI 1 from rfl, nI_add, Nat.add_comm]
  have e2 : -(1 + nI k) = pz (6 - (k + 1)) := by
    rw [← pz_na (by omega), show (1 : Int32) = nI 1 from rfl, nI_add, Nat.add_comm]
  by_cases c : nI k2 = 0
  · rw [if_pos c, e1]
    exact ⟨_, v, w, rfl, by omega, by omega, by omega⟩
  · rw [if_neg c, e2]
    exact ⟨_, v, w, rfl, by omega, by omega, by omega⟩
theorem ST.op (h : ST M A E r nb nt g) (o : Op M M' k) {E' : Nat → Nat → Nat} {r' : Nat → Int32} (_ : LW M' A E' r' nb nt) : SC M' r nb nt ∧ Gg M' g := ⟨h.1.op o, h.2.2.op o⟩
theorem ksm2 {M M' : kMem} {v : Int32} (h : M'.1 = M.1) : kSm (fun r : Int32 × kMem => (some (.int r.1), r.2)) M (some (v, M')) = some (v, M') := ksm h
theorem ST.call2 (hS : SC M r nb nt) (hg : Gg M g) (hl : LW M A E r' nb nt) {L : kLngs} (hc : CI I' r' nb nt) (e : ∀ a j, 539 < a → I' a j = M.2.1 a j) : ST (M.1, I', M.2.2.1, L) A E r' nb nt g := ⟨⟨hS.1, hc⟩, hl.cls hS.1 e, hg⟩
theorem act_seat (h : ST M A E r nb nt g) (hd : r 6 = nI d) (hs : s < nt) (hnb : 1 ≤ nb) (hN : 1000 < N) : ∃ M' E' r', ((
      kg (kt M (aH A) 30) <|
      kg (kt M (aH A) 30) <|
      kg (kt M (kR M (aH A) 0) 33) <| (F_AL_size N M (kR M (aH A) 0)).bind fun r11 =>
      (F_L_draw N M g r11).bind fun r12 =>
      kg (kt r12.2 (kR M (aH A) 0) 33) <| (F_AL_get N r12.2 (kR M (aH A) 0) r12.1).bind fun r13 =>
      kg (r13 == 0 || kt r12.2 r13 31) <|
      (F_L_position N r12.2 r13 g).bind fun r14 =>
      kl r14.1 fun v15 =>
      kg (kt r14.2 (aH A) 30) <| (F_L_against N r14.2 (aH A) (aT A s) r13 v15).bind fun r16 =>
      kl r16.1 fun v17 =>
      kg (kt r16.2 r13 31) <|
      kg (kt r16.2 1 11) <| (kSm (fun r : Int32 => (some (.int r), r16.2)) r16.2 (F_X11_reasonAgainstSeat N r16.2 1 (nI s) (kI r16.2 r13 0) v15)).bind fun r18 =>
      if r18 = v17 then (
        if v17 = 0 then (
          kg (kt r16.2 (aH A) 30) <| (F_L_price N r16.2 (aH A) r13 v15).bind fun r19 =>
          kl r19.1 fun v20 =>
          kg (kt r19.2 (aH A) 30) <| (F_L_pays N r19.2 (aH A) (aT A s) v20).bind fun r21 =>
          kg (kt r21 (aT A s) 32) <| (F_LT_rises N r21 (aT A s)).bind fun r22 =>
          kg (kt r22 (aT A s) 32) <| (F_LT_sits N r22 (aT A s) r13 v15).bind fun r23 =>
          kg (kt r23 (aH A) 30) <|
          kg (kt r23 (aH A) 30) <| kl (ksI r23 (aH A) 9 ((kI r23 (aH A) 9) + 1)) fun M24 =>
          kg (kt M24 r13 31) <|
          kg (kt M24 1 11) <| (kSm (fun r : Int32 × kMem => (some (.int r.1), r.2)) M24 (F_X11_buySeat N M24 1 (nI s) (kI M24 r13 0) v15)).bind fun r25 =>
          if r25.1 = v20 then (
            some (1, r25.2)) else
          some (0, r25.2)) else
        some (1, r16.2)) else
      some (0, r16.2)
    ) : Option (Int32 × kMem)) = some (1, M') ∧ ST M' A E' r' nb nt g ∧ Cc M M' 8000 ∧ ∃ d', r' 6 = nI d' ∧ d' ≤ d + 6 := by
  have hR := h.1.2.1.1
  have h5 := hR.nb5
  have h24 := hR.nt24
  have e0 : ∀ {M : kMem}, ST M A E r nb nt g → kt M 1 11 = true := fun h => h.1.1.k11
  rw [h.2.1.hk, kg_t, kg_t, h.2.1.g.1.2.1, h.2.1.lb.1, kg_t, al_size h.2.1.lb, Option.bind_some]
  obtain ⟨b, v0, hb, u0⟩ := lw_draw (N := N) h.2.2 (m := nb) (by omega) (by omega)
  have h1 := h.draw v0
  rw [u0, Option.bind_some]
  simp only [h1.2.1.lb.1, kg_t, al_get h1.2.1.lb (show nb ≤ 10 by omega) hb, Option.bind_some, kor _ _ (h1.2.1.bk hb)]
  obtain ⟨a, st', l, ha6, -, -, ea, -⟩ := hR.b b hb
  obtain ⟨q, v1, v2, u1, q1, q2, q6⟩ := lw_pos (N := N) h1.2.2 (h1.2.1.bk hb) ((h1.2.1.b b hb).1.2.2.1.trans ea) ha6
  have h2 := (h1.draw v1).draw v2
  rw [u1, Option.bind_some]
  simp only [kl_v, h2.2.1.hk, kg_t]
  obtain ⟨M3, u3, g3⟩ := lw_against (N := N) h2.2.1 hR hs hb (show q < 13 by omega) q6 (by omega)
  have h3 := h2.gr g3
  rw [u3, Option.bind_some]
  have e3 : F_X11_reasonAgainstSeat N M3 1 (nI s) (nI b) (pz q) = some (aSeat r nt s b q) := cl_whySeat (Mb := ⟨M3, h3.1.1⟩) (L := M3.2.2.2) hR h3.1.2.2.1 hs hb ea ha6.2 q1 q2 q6 (by omega)
  simp only [h3.2.1.bk hb, kg_t, h3.1.1.k11, (h3.2.1.b b hb).1.2.1, e3, kl_v]
  rw [ksm rfl, Option.bind_some, if_pos rfl]
  have c3 : Cc M M3 14 := ((Cc.of rfl).trans g3.cc).le (by omega)
  by_cases c : aSeat r nt s b q = 0
  · rw [if_pos c, h3.2.1.hk, kg_t]
    obtain ⟨M4, u4, g4⟩ := lw_price h3.2.1 hR hb (show 100 < N by omega) (pz q)
    have h4 := h3.gr g4
    rw [u4, Option.bind_some]
    simp only [kl_v, h4.2.1.hk, kg_t]
    obtain ⟨p0, p1, p2⟩ := aSeat_0 c
    have hp1 : r (89 + 7 * s + 4) = 1 := ((hR.t s hs).2).resolve_right (fun z => p0 z.1)
    obtain ⟨kk, hkk, ek⟩ := pr_num hR (b := b) (show q < 13 by omega)
    have hcn : nn (prS r nt b (pz q)) := by rw [ek]; exact nn_nI (by omega)
    have l1 := si_lt (show b < 5 by omega) (show q < 13 by omega)
    have l2 := @si_ge b q
    have hR5 : RI (mvR r (89 + 7 * s + 2) 5 (prS r nt b (pz q))) nb nt := RI_mv hR (Or.inr ⟨s, hs, rfl, hp1⟩) (Or.inl rfl) (by omega) hcn
    obtain ⟨M5, u5, w5, o5⟩ := lw_pays (N := N) h4.2.1 h24 h5 hs (prS r nt b (pz q))
    rw [u5, Option.bind_some, w5.tk hs, kg_t]
    obtain ⟨M6, E6, u6, w6, o6⟩ := lw_risesS w5 hR5 hs (show 100 < N by omega)
    rw [u6, Option.bind_some, w6.tk hs, kg_t]
    have hf : riS (mvR r (89 + 7 * s + 2) 5 (prS r nt b (pz q))) s (si b q) = 0 := riS_z (by rw [mvR_ne (by omega) (by omega)]; exact p1) (by omega) (by omega)
    obtain ⟨M7, E7, u7, w7, o7⟩ := lw_sits w6 h5 h24 (RI_riS hR5 hs) hs hb (show q < 13 by omega) q6 hf (show 100 < N by omega)
    rw [u7, Option.bind_some]
    have w8 := w7.setH h5 (j := 9) (w := 10) (by omega) (r 10 + 1)
    have e10 : kI M7 (aH A) 9 = r 10 := by rw [w7.g.2.2.2.2.2.2.2.2.1]; exact buR_10
    rw [w7.hk, kg_t, kg_t, e10]
    have op : Op M4 (ksI M7 (aH A) 9 (r 10 + 1)) 7 := (((o5.trans o6).trans o7).trans (Op.sI (j := 9) (v := r 10 + 1) w7.hk (by decide))).le (by omega)
    have hS := h4.1.op op
    have hG := h4.2.2.op op
    obtain ⟨I', a1, a2, a3⟩ := cl_buySeat (Mb := ⟨_, hS.1⟩) (N := N) (L := M7.2.2.2) hS.2 hs hb ea ha6.2 q1 q2 q6 c hN
    have a1' : F_X11_buySeat N (ksI M7 (aH A) 9 (r 10 + 1)) 1 (nI s) (nI b) (pz q) = some (prS r nt b (pz q), wm (ksI M7 (aH A) 9 (r 10 + 1)) I' M7.2.2.2) := a1
    simp only [w8.bk hb, (w8.b b hb).1.2.1, kg_t, hS.1.k11, a1']
    rw [ksm2 (by rfl), Option.bind_some, if_pos rfl]
    have k6 := KP_bu hR hs hb (show q < 13 by omega)
    refine ⟨_, E7, _, rfl, ST.call2 hS hG w8 a2 a3, ?_, d, k6.2.1.trans hd, by omega⟩
    exact (((c3.trans g4.cc).trans op.cc).trans (Cc.of rfl)).le (by omega)
  · rw [if_neg c]
    exact ⟨M3, E, r, rfl, h3, c3.le (by omega), d, hd, by omega⟩
theorem sale_row (hst : s ≠ t) {c u : Int32} (hc : kmin c (r (89 + 7 * t + 2)) = c) : setr (setr (setr (setr (setr r (89 + 7 * s + 1) (r (89 + 7 * s + 1) - u)) (89 + 7 * t + 1) (r (89 + 7 * t + 1) + u)) (89 + 7 * s + 2) (r (89 + 7 * s + 2) + c)) (89 + 7 * t + 2) (r (89 + 7 * t + 2) - c)) 11 (r 11 + u) = setr (setr (setr (mvR r (89 + 7 * t + 2) (89 + 7 * s + 2) c) (89 + 7 * s + 1) (r (89 + 7 * s + 1) - u)) (89 + 7 * t + 1) (r (89 + 7 * t + 1) + u)) 11 (r 11 + u) := by
  funext k
  unfold mvR
  rw [hc]
  unfold setr
  grind
set_option maxRecDepth 100000 in
theorem act_sale (h : ST M A E r nb nt g) (hd : r 6 = nI d) (hs : s < nt) (ht : t < nt) (hst : s ≠ t) (hN : 1000 < N) : ∃ M' E' r', ((
      (F_L_draw N M g 9).bind fun r56 =>
      kl (1 + r56.1) fun v57 =>
      kg (kt r56.2 (aH A) 30) <| (F_L_against_ N r56.2 (aH A) (aT A s) (aT A t) v57).bind fun r58 =>
      kl r58.1 fun v59 =>
      kg (kt r58.2 1 11) <| (kSm (fun r : Int32 × kMem => (some (.int r.1), r.2)) r58.2 (F_X11_reasonAgainstSale N r58.2 1 (nI s) (nI t) v57)).bind fun r60 =>
      if r60.1 = v59 then (
        if v59 = 0 then (
          kg (kt r60.2 (aH A) 30) <| (F_L_unit N r60.2 (aH A) (aT A s) (aT A t)).bind fun r61 =>
          kl (v57 * r61.1) fun v62 =>
          kg (kt r61.2 (aT A s) 32) <|
          kg (kt r61.2 (aT A s) 32) <| kl (ksI r61.2 (aT A s) 1 ((kI r61.2 (aT A s) 1) - v57)) fun M63 =>
          kg (kt M63 (aT A t) 32) <|
          kg (kt M63 (aT A t) 32) <| kl (ksI M63 (aT A t) 1 ((kI M63 (aT A t) 1) + v57)) fun M64 =>
          kg (kt M64 (aT A s) 32) <|
          kg (kt M64 (aT A s) 32) <| kl (ksI M64 (aT A s) 2 ((kI M64 (aT A s) 2) + v62)) fun M65 =>
          kg (kt M65 (aT A t) 32) <|
          kg (kt M65 (aT A t) 32) <| kl (ksI M65 (aT A t) 2 ((kI M65 (aT A t) 2) - v62)) fun M66 =>
          kg (kt M66 (aH A) 30) <|
          kg (kt M66 (aH A) 30) <| kl (ksI M66 (aH A) 10 ((kI M66 (aH A) 10) + v57)) fun M67 =>
          kg (kt M67 1 11) <| (kSm (fun r : Int32 × kMem => (some (.int r.1), r.2)) M67 (F_X11_sellWeight N M67 1 (nI s) (nI t) v57)).bind fun r68 =>
          if r68.1 = v62 then (
            some (1, r68.2)) else
          some (0, r68.2)) else
        some (1, r60.2)) else
      some (0, r60.2)
    ) : Option (Int32 × kMem)) = some (1, M') ∧ ST M' A E' r' nb nt g ∧ Cc M M' 8000 ∧ ∃ d', r' 6 = nI d' ∧ d' ≤ d + 6 := by
  have hR := h.1.2.1.1
  have h5 := hR.nb5
  have h24 := hR.nt24
  obtain ⟨k, v0, hk, u0⟩ := lw_draw (N := N) h.2.2 (m := 9) (by omega) (by omega)
  have h1 := h.draw v0
  have u0' : F_L_draw N M g 9 = some (nI k, ksI M g 0 v0) := u0
  rw [u0', Option.bind_some]
  have ek : 1 + nI k = nI (k + 1) := by rw [show (1 : Int32) = nI 1 from rfl, nI_add, Nat.add_comm]
  simp only [kl_v, h1.2.1.hk, kg_t, ek]
  obtain ⟨M3, u3, g3⟩ := lw_sale (N := N) h1.2.1 hR hs ht (u := k + 1) (by omega) (by omega)
  have h3 := h1.gr g3
  rw [u3, Option.bind_some]
  have e3 : F_X11_reasonAgainstSale N M3 1 (nI s) (nI t) (nI (k + 1)) = some (aSale r nt s t (nI (k + 1)), wm M3 M3.2.1 M3.2.2.2) := cl_whySale (Mb := ⟨M3, h3.1.1⟩) (L := M3.2.2.2) hR h3.1.2.2.1 hs ht hst (by omega) (by omega) (by omega)
  rw [wm_self] at e3
  simp only [h3.1.1.k11, kg_t, e3]
  rw [ksm2 (by rfl), Option.bind_some, if_pos rfl]
  have c3 : Cc M M3 21 := ((Cc.of rfl).trans g3.cc).le (by omega)
  by_cases c : aSale r nt s t (nI (k + 1)) = 0
  · rw [if_pos c]
    simp only [h3.2.1.hk, kg_t]
    obtain ⟨c1, c2, -, -, c5⟩ := aSale_0 c
    obtain ⟨b, q, k1⟩ := hR.seat hs c1
    obtain ⟨b2, q2, k2⟩ := hR.seat ht c2
    obtain ⟨M4, u4, g4⟩ := lw_unit h3.2.1 hR hs ht k1 k2 (show 100 < N by omega)
    have h4 := h3.gr g4
    rw [u4, Option.bind_some]
    have tks := h4.2.1.tk hs
    have tkt := h4.2.1.tk ht
    have hk4 := h4.2.1.hk
    obtain ⟨⟨-, -, s3, s4, -⟩, -⟩ := h4.2.1.t s hs
    obtain ⟨⟨-, -, t3, t4, -⟩, -⟩ := h4.2.1.t t ht
    have hne : aT A t ≠ aT A s := fun z => hst (h4.2.1.tinj h24 ht hs z).symm
    have nht : aH A ≠ aT A t := kt_ne hk4 tkt (by decide)
    have nhs : aH A ≠ aT A s := kt_ne hk4 tks (by decide)
    have g11 := h4.2.1.g.2.2.2.2.2.2.2.2.2.1
    simp only [kl_v, tks, tkt, hk4, kg_t, z_tI, z_II, s3, t3, s4, t4, g11, hne, hne.symm, nht, nhs, false_and, true_and, if_false, Nat.reduceEqDiff]
    have tail : ∀ M5 : kMem, LW M5 A E (seR r nt s t (nI (k + 1))) nb nt → SC M5 r nb nt → Gg M5 g → Cc M M5 100 → ∃ M' E' r', (kg (kt M5 1 11) <| (kSm (fun r : Int32 × kMem => (some (.int r.1), r.2)) M5 (F_X11_sellWeight N M5 1 (nI s) (nI t) (nI (k + 1)))).bind fun r68 => if r68.1 = nI (k + 1) * uprS r nt s t then some ((1 : Int32), r68.2) else some (0, r68.2)) = some (1, M') ∧ ST M' A E' r' nb nt g ∧ Cc M M' 8000 ∧ ∃ d', r' 6 = nI d' ∧ d' ≤ d + 6 := by
      intro M5 w5 hS hG c5'
      obtain ⟨I', a1, a2, a3⟩ := cl_sellWeight (Mb := ⟨_, hS.1⟩) (N := N) (L := M5.2.2.2) hS.2 hs ht hst (show 1 ≤ k + 1 by omega) (by omega) c hN
      have a1' : F_X11_sellWeight N M5 1 (nI s) (nI t) (nI (k + 1)) = some (nI (k + 1) * uprS r nt s t, wm M5 I' M5.2.2.2) := a1
      rw [hS.1.k11, kg_t, a1', ksm2 (by rfl), Option.bind_some, if_pos rfl]
      have k6 := KP_se hR hs ht hst (show k + 1 ≤ 50 by omega) k1 k2
      exact ⟨_, E, _, rfl, ST.call2 hS hG w5 a2 a3, (c5'.trans (Cc.of rfl)).le (by omega), d, k6.2.1.trans hd, by omega⟩
    have w5 := ((((h4.2.1.setT h24 h5 hs (j := 1) (w := 1) (by omega) (r (89 + 7 * s + 1) - nI (k + 1))).setT h24 h5 ht (j := 1) (w := 1) (by omega) (r (89 + 7 * t + 1) + nI (k + 1))).setT h24 h5 hs (j := 2) (w := 2) (by omega) (r (89 + 7 * s + 2) + nI (k + 1) * uprS r nt s t)).setT h24 h5 ht (j := 2) (w := 2) (by omega) (r (89 + 7 * t + 2) - nI (k + 1) * uprS r nt s t)).setH h5 (j := 10) (w := 11) (by omega) (r 11 + nI (k + 1))
    rw [sale_row hst (kmin_le c5)] at w5
    have op := ((((Op.sI (j := 1) (v := r (89 + 7 * s + 1) - nI (k + 1)) tks (by decide)).trans (Op.sI (M := ksI M4 (aT A s) 1 (r (89 + 7 * s + 1) - nI (k + 1))) (j := 1) (v := r (89 + 7 * t + 1) + nI (k + 1)) tkt (by decide))).trans (Op.sI (M := ksI (ksI M4 (aT A s) 1 (r (89 + 7 * s + 1) - nI (k + 1))) (aT A t) 1 (r (89 + 7 * t + 1) + nI (k + 1))) (j := 2) (v := r (89 + 7 * s + 2) + nI (k + 1) * uprS r nt s t) tks (by decide))).trans (Op.sI (M := ksI (ksI (ksI M4 (aT A s) 1 (r (89 + 7 * s + 1) - nI (k + 1))) (aT A t) 1 (r (89 + 7 * t + 1) + nI (k + 1))) (aT A s) 2 (r (89 + 7 * s + 2) + nI (k + 1) * uprS r nt s t)) (j := 2) (v := r (89 + 7 * t + 2) - nI (k + 1) * uprS r nt s t) tkt (by decide))).trans (Op.sI (M := ksI (ksI (ksI (ksI M4 (aT A s) 1 (r (89 + 7 * s + 1) - nI (k + 1))) (aT A t) 1 (r (89 + 7 * t + 1) + nI (k + 1))) (aT A s) 2 (r (89 + 7 * s + 2) + nI (k + 1) * uprS r nt s t)) (aT A t) 2 (r (89 + 7 * t + 2) - nI (k + 1) * uprS r nt s t)) (j := 10) (v := r 11 + nI (k + 1)) hk4 (by decide))
    have hS := h4.1.op op
    have hG := h4.2.2.op op
    exact tail _ w5 hS hG (((c3.trans g4.cc).trans op.cc).le (by omega))
  · rw [if_neg c]
    exact ⟨M3, E, r, rfl, h3, c3.le (by omega), d, hd, by omega⟩
theorem swM_row (hR : RI r nb nt) (hst : s ≠ t) {b q b2 q2 : Nat} (k1 : st r nb s b q) (k2 : st r nb t b2 q2) (h0 : aSwap r nt s t = 0) : setr (setr r (89 + 7 * s + 2) (r (89 + 7 * s + 2) - (oh r nt t - oh r nt s))) (89 + 7 * t + 2) (r (89 + 7 * t + 2) + (oh r nt t - oh r nt s)) = swM r nt s t := by
  have hr := rise hR k1 k2
  obtain ⟨-, -, c3⟩ := aSwap_0 h0
  unfold swM
  by_cases c : 0 < oh r nt t - oh r nt s
  · rw [if_pos c] at c3 ⊢
    rw [(hr.1 c).2] at c3
    unfold mvR
    rw [kmin_le c3, setr_ne (by omega)]
  · rw [if_neg c] at c3 ⊢
    rw [(hr.2 c).2] at c3
    unfold mvR
    rw [kmin_le c3, setr_ne (by omega), setr_comm (by omega)]
    have a1 : ∀ x y : Int32, x - -y = x + y := fun x y => by grind
    have a2 : ∀ x y : Int32, x + -y = x - y := fun x y => by grind
    rw [a1, a2]
set_option maxRecDepth 100000 in
theorem act_swap (h : ST M A E r nb nt g) (hd : r 6 = nI d) (hs : s < nt) (ht : t < nt) (hst : s ≠ t) (hN : 1000 < N) : ∃ M' E' r', ((
      (F_L_against__ N M (aT A s) (aT A t)).bind fun r82 =>
      kl r82.1 fun v83 =>
      kg (kt r82.2 1 11) <| (kSm (fun r : Int32 × kMem => (some (.int r.1), r.2)) r82.2 (F_X11_reasonAgainstSwap N r82.2 1 (nI s) (nI t))).bind fun r84 =>
      if r84.1 = v83 then (
        if v83 = 0 then (
          (F_L_more N r84.2 (aT A s) (aT A t)).bind fun r85 =>
          kl r85.1 fun v86 =>
          kg (kt r85.2 (aT A s) 32) <|
          kg (kt r85.2 (aT A s) 32) <| kl (ksI r85.2 (aT A s) 2 ((kI r85.2 (aT A s) 2) - v86)) fun M87 =>
          kg (kt M87 (aT A t) 32) <|
          kg (kt M87 (aT A t) 32) <| kl (ksI M87 (aT A t) 2 ((kI M87 (aT A t) 2) + v86)) fun M88 =>
          (F_L_exchange N M88 (aT A s) (aT A t)).bind fun r89 =>
          kg (kt r89 1 11) <| (kSm (fun r : Int32 × kMem => (some (.int r.1), r.2)) r89 (F_X11_swapSeats N r89 1 (nI s) (nI t))).bind fun r90 =>
          if r90.1 = v86 then (
            some (1, r90.2)) else
          some (0, r90.2)) else
        some (1, r84.2)) else
      some (0, r84.2)
    ) : Option (Int32 × kMem)) = some (1, M') ∧ ST M' A E' r' nb nt g ∧ Cc M M' 8000 ∧ ∃ d', r' 6 = nI d' ∧ d' ≤ d + 6 := by
  have hR := h.1.2.1.1
  have h5 := hR.nb5
  have h24 := hR.nt24
  obtain ⟨M3, E3, u3, w3, o3⟩ := lw_swap (N := N) h.2.1 hR hs ht hst (by omega)
  have h3 : ST M3 A E3 r nb nt g := ⟨h.1.op o3, w3, h.2.2.op o3⟩
  rw [u3, Option.bind_some]
  have e3 : F_X11_reasonAgainstSwap N M3 1 (nI s) (nI t) = some (aSwap r nt s t, wm M3 M3.2.1 M3.2.2.2) := cl_whySwap (Mb := ⟨M3, h3.1.1⟩) (L := M3.2.2.2) hR h3.1.2.2.1 hs ht hst (by omega)
  rw [wm_self] at e3
  simp only [kl_v, h3.1.1.k11, kg_t, e3]
  rw [ksm2 (by rfl), Option.bind_some, if_pos rfl]
  have c3 : Cc M M3 56 := o3.cc
  by_cases c : aSwap r nt s t = 0
  · rw [if_pos c]
    obtain ⟨c1, c2, -⟩ := aSwap_0 c
    obtain ⟨b, q, k1⟩ := hR.seat hs c1
    obtain ⟨b2, q2, k2⟩ := hR.seat ht c2
    obtain ⟨M4, u4, g4⟩ := lw_more h3.2.1 hR hs ht k1 k2 (show 100 < N by omega)
    have h4 := h3.gr g4
    rw [u4, Option.bind_some]
    have tks := h4.2.1.tk hs
    have tkt := h4.2.1.tk ht
    obtain ⟨⟨-, -, -, s4, -⟩, -⟩ := h4.2.1.t s hs
    obtain ⟨⟨-, -, -, t4, -⟩, -⟩ := h4.2.1.t t ht
    have hne : aT A t ≠ aT A s := fun z => hst (h4.2.1.tinj h24 ht hs z).symm
    simp only [kl_v, tks, tkt, kg_t, z_tI, z_II, s4, t4, hne, false_and, if_false]
    have w5 := (h4.2.1.setT h24 h5 hs (j := 2) (w := 2) (by omega) (r (89 + 7 * s + 2) - (oh r nt t - oh r nt s))).setT h24 h5 ht (j := 2) (w := 2) (by omega) (r (89 + 7 * t + 2) + (oh r nt t - oh r nt s))
    rw [swM_row hR hst k1 k2 c] at w5
    have op := (Op.sI (j := 2) (v := r (89 + 7 * s + 2) - (oh r nt t - oh r nt s)) tks (by decide)).trans (Op.sI (M := ksI M4 (aT A s) 2 (r (89 + 7 * s + 2) - (oh r nt t - oh r nt s))) (j := 2) (v := r (89 + 7 * t + 2) + (oh r nt t - oh r nt s)) tkt (by decide))
    generalize ksI (ksI M4 (aT A s) 2 (r (89 + 7 * s + 2) - (oh r nt t - oh r nt s))) (aT A t) 2 (r (89 + 7 * t + 2) + (oh r nt t - oh r nt s)) = M5 at w5 op ⊢
    have hR5 := RI_swM hR hs ht hst k1 k2
    obtain ⟨M6, E6, u6, w6, o6⟩ := lw_exch w5 hR5 hs ht hst (swM_st h5 k1) (swM_st h5 k2) (show 100 < N by omega)
    rw [u6, Option.bind_some]
    have op2 := op.trans o6
    have hS := h4.1.op op2
    have hG := h4.2.2.op op2
    obtain ⟨I', a1, a2, a3⟩ := cl_swapSeats (Mb := ⟨_, hS.1⟩) (N := N) (L := M6.2.2.2) hS.2 hs ht hst k1 k2 c hN
    have a1' : F_X11_swapSeats N M6 1 (nI s) (nI t) = some (oh r nt t - oh r nt s, wm M6 I' M6.2.2.2) := a1
    simp only [hS.1.k11, kg_t, a1']
    rw [ksm2 (by rfl), Option.bind_some, if_pos rfl]
    have k6 := KP_sw hR hs ht hst k1 k2
    refine ⟨_, E6, _, rfl, ST.call2 hS hG w6 a2 a3, ?_, d, k6.2.1.trans hd, by omega⟩
    exact (((c3.trans g4.cc).trans op2.cc).trans (Cc.of rfl)).le (by omega)
  · rw [if_neg c]
    exact ⟨M3, E3, r, rfl, h3, c3.le (by omega), d, hd, by omega⟩
theorem act_wage (h : ST M A E r nb nt g) (hd : r 6 = nI d) (hN : 1000 < N) : ∃ M' E' r', ((
      kg (kt M (aH A) 30) <|
      kl (kI M (aH A) 2) fun v91 =>
      (F_L_draw N M g 12).bind fun r92 =>
      kg (kt r92.2 (aH A) 30) <| kl (ksI r92.2 (aH A) 2 r92.1) fun M93 =>
      kg (kt M93 (aH A) 30) <|
      kg (kt M93 1 11) <| (kSm (fun r : Int32 × kMem => (some (.int r.1), r.2)) M93 (F_X11_setWage N M93 1 (kI M93 (aH A) 2))).bind fun r94 =>
      if r94.1 = v91 then (
        some (1, r94.2)) else
      some (0, r94.2)
    ) : Option (Int32 × kMem)) = some (1, M') ∧ ST M' A E' r' nb nt g ∧ Cc M M' 8000 ∧ ∃ d', r' 6 = nI d' ∧ d' ≤ d + 6 := by
  have hR := h.1.2.1.1
  have h5 := hR.nb5
  obtain ⟨k, v0, hk, u0⟩ := lw_draw (N := N) h.2.2 (m := 12) (by omega) (by omega)
  have h1 := h.draw v0
  have u0' : F_L_draw N M g 12 = some (nI k, ksI M g 0 v0) := u0
  rw [h.2.1.hk, kg_t, kl_v, h.2.1.g.2.1, u0', Option.bind_some]
  have w2 := h1.2.1.setH h5 (j := 2) (w := 0) (by omega) (nI k)
  have op : Op (ksI M g 0 v0) (ksI (ksI M g 0 v0) (aH A) 2 (nI k)) 0 := Op.sI h1.2.1.hk (by decide)
  have ev : kI (ksI (ksI M g 0 v0) (aH A) 2 (nI k)) (aH A) 2 = nI k := by rw [z_II, if_pos ⟨rfl, rfl⟩]
  have hS := h1.1.op op
  have hG := h1.2.2.op op
  obtain ⟨I', a1, a2, a3⟩ := cl_setWage (Mb := ⟨_, hS.1⟩) (N := N) (L := M.2.2.2) hS.2 (show k ≤ 20 by omega) hN
  have a1' : F_X11_setWage N (ksI (ksI M g 0 v0) (aH A) 2 (nI k)) 1 (nI k) = some (r 0, wm (ksI (ksI M g 0 v0) (aH A) 2 (nI k)) I' M.2.2.2) := a1
  have hk2 : kt (ksI (ksI M g 0 v0) (aH A) 2 (nI k)) (aH A) 30 = true := h1.2.1.hk
  simp only [h1.2.1.hk, kg_t, kl_v, hk2, ev, hS.1.k11, a1']
  rw [ksm2 (by rfl), Option.bind_some, if_pos rfl]
  refine ⟨_, E, _, rfl, ST.call2 hS hG w2 a2 a3, (Cc.of rfl).le (by omega), d, ?_, by omega⟩
  rw [setr_ne (by decide)]
  exact hd
theorem lw_538 (hN : 1000 < N) (h10 : nt ≤ 10) {D : Nat} : ∀ (k i n : Nat) (M : kMem) (r : Nat → Int32) (E : Nat → Nat → Nat) (x : Int32), RI r nb nt → LW M A E r nb nt → i + k = D → D ≤ 6 → k < n → ∃ M' E', F_L_act_538 N n M 1 (aH A) (nI D) x (nI i) = F_L_act_538 N (n - k) M' 1 (aH A) (nI D) (x + (dyN nb nt k r 12 - r 12)) (nI D) ∧ LW M' A E' (dyN nb nt k r) nb nt ∧ Op M M' (1300 * k)
  | k, i, 0, _, _, _, _, _, _, _, _, h1 => absurd h1 (Nat.not_lt_zero _)
  | 0, i, n + 1, M, r, E, x, hR, h, hi, _, _ => by
    have e : x + (dyN nb nt 0 r 12 - r 12) = x := by
      show x + (r 12 - r 12) = x
      grind
    rw [e, show i = D by omega]
    exact ⟨M, E, rfl, h, Op.rf'⟩
  | k + 1, i, n + 1, M, r, E, x, hR, h, hi, hD, hn => by
    obtain ⟨M1, E1, u1, w1, o1⟩ := lw_passes h hR h10 (show 100 < N by omega)
    obtain ⟨M', E', v1, v2, v3⟩ := lw_538 hN h10 k (i + 1) n M1 _ E1 (x + (dyR nb nt r 12 - r 12)) (RI_dyR hR) w1 (by omega) hD (by omega)
    have e : x + (dyR nb nt r 12 - r 12) + (dyN nb nt k (dyR nb nt r) 12 - dyR nb nt r 12) = x + (dyN nb nt (k + 1) r 12 - r 12) := by
      show _ = x + (dyN nb nt k (dyR nb nt r) 12 - r 12)
      grind
    rw [e] at v1
    refine ⟨M', E', ?_, v2, (o1.trans v3).le (by omega)⟩
    rw [show n + 1 - (k + 1) = n - k by omega, ← v1]
    show (if nI i < nI D then (kg (kt M (aH A) 30) <| (F_L_passes N M (aH A)).bind fun r98 => kl (x + r98.1) fun v99 => kl (nI i + 1) fun v100 => F_L_act_538 N n r98.2 1 (aH A) (nI D) v99 v100) else _) = _
    rw [if_pos ((nI_ltI (by omega) (by omega)).mpr (by omega)), h.hk, kg_t, u1, Option.bind_some, kl_v, kl_v, nI_1]
theorem act_days (h : ST M A E r nb nt g) (hd : r 6 = nI d) (hd2 : d ≤ 1000) (h10 : nt ≤ 10) (hN : 1000 < N) : ∃ M' E' r', ((
      (F_L_draw N M g 6).bind fun r95 =>
      kl (1 + r95.1) fun v96 =>
      F_L_act_538 N N r95.2 1 (aH A) v96 0 0
    ) : Option (Int32 × kMem)) = some (1, M') ∧ ST M' A E' r' nb nt g ∧ Cc M M' 8000 ∧ ∃ d', r' 6 = nI d' ∧ d' ≤ d + 6 := by
  have hR := h.1.2.1.1
  obtain ⟨k, v0, hk, u0⟩ := lw_draw (N := N) h.2.2 (m := 6) (by omega) (by omega)
  have h1 := h.draw v0
  have u0' : F_L_draw N M g 6 = some (nI k, ksI M g 0 v0) := u0
  rw [u0', Option.bind_some]
  have ek : 1 + nI k = nI (k + 1) := by rw [show (1 : Int32) = nI 1 from rfl, nI_add, Nat.add_comm]
  simp only [kl_v, ek]
  obtain ⟨M2, E2, u2, w2, o2⟩ := lw_538 (N := N) hN h10 (D := k + 1) (k + 1) 0 N _ r E 0 hR h1.2.1 (by omega) (by omega) (by omega)
  have hS := h1.1.op o2
  have hG := h1.2.2.op o2
  obtain ⟨I', a1, a2, a3⟩ := cl_advance (Mb := ⟨_, hS.1⟩) (N := N) (L := M2.2.2.2) (D := k + 1) hS.2 (by omega) hd hd2 hN
  have a1' : F_X11_advance N M2 1 (nI (k + 1)) = some (dyN nb nt (k + 1) r 12 - r 12, wm M2 I' M2.2.2.2) := a1
  obtain ⟨n, hn⟩ : ∃ n, N - (k + 1) = n + 1 := ⟨N - (k + 1) - 1, by omega⟩
  have e0 : (0 : Int32) + (dyN nb nt (k + 1) r 12 - r 12) = dyN nb nt (k + 1) r 12 - r 12 := Int32.zero_add _
  have u3 : F_L_act_538 N N (ksI M g 0 v0) 1 (aH A) (nI (k + 1)) 0 0 = F_L_act_538 N (n + 1) M2 1 (aH A) (nI (k + 1)) (dyN nb nt (k + 1) r 12 - r 12) (nI (k + 1)) := by
    rw [← hn, ← e0]
    exact u2
  have k6 := KP_dyN (k + 1) d r hR hd
  rw [u3]
  unfold F_L_act_538
  rw [if_neg (by rw [nI_ltI (by omega) (by omega)]; omega), hS.1.k11, kg_t, a1', ksm2 (by rfl), Option.bind_some, if_pos rfl]
  refine ⟨_, E2, _, rfl, ST.call2 hS hG w2 a2 a3, (((Cc.of rfl).trans o2.cc).trans (Cc.of rfl)).le (by omega), d + (k + 1), k6.2.1, by omega⟩
end
