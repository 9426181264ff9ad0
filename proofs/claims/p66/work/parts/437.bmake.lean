section
variable {N : Nat} {M M' M1 M2 : kMem} {a s i j k k2 l n x y g nb nt w : Nat} {A A' : kA} {r r' : Nat → Int32} {cs cs' : List Nat} {ts : List kTk} {f : Nat → Nat}
theorem lx_size (h : Lx M l a f n) : F_AL_size N M l = some (nI n) := by
  unfold F_AL_size
  rw [h.1, kg_t, h.2.1]
theorem pcs_sp : pcs 9 = pcs 3 ++ [32] ∧ pcs 10 = pcs 4 ++ [32] ∧ pcs 11 = pcs 5 ++ [32] ∧ pcs 12 = pcs 6 ++ [32] ∧ pcs 13 = [32] ++ pcs 7 ++ [32] ∧ pcs 14 = [32] ++ pcs 8 ++ [32] := by decide +kernel
theorem pcs_ln : (pcs 9).length = 7 ∧ (pcs 10).length = 6 ∧ (pcs 11).length = 7 ∧ (pcs 12).length = 5 ∧ (pcs 13).length = 6 ∧ (pcs 14).length = 7 := by decide +kernel
theorem tx_B {u v z : Nat} : txL (ts ++ mkB u v z) = ((((((txL ts ++ pcs 10) ++ dgs u) ++ [32]) ++ dgs v) ++ [32]) ++ dgs z) ++ [59] := by
  rw [txL_app, pcs_sp.2.1]
  simp [mkB, txL, tkB]
theorem tx_T {t u v z : Nat} : txL (ts ++ mkT t u v z) = (((((((txL ts ++ pcs 11) ++ [97 + t]) ++ [32]) ++ dgs u) ++ [32]) ++ dgs v) ++ [32]) ++ dgs z ++ [59] := by
  rw [txL_app, pcs_sp.2.2.1]
  simp [mkT, txL, tkB]
theorem tx_S {t b q : Nat} : txL (ts ++ mkS t b q) = ((((((txL ts ++ pcs 12) ++ [97 + t]) ++ [32]) ++ dgs b) ++ pcs (if q < 6 then 13 else 14)) ++ dgs (if q < 6 then 6 - q else q - 6)) ++ [59] := by
  rw [txL_app, pcs_sp.2.2.2.1]
  by_cases z : q < 6
  · simp [mkS, txL, tkB, z, pcs_sp.2.2.2.2.1]
  · simp [mkS, txL, tkB, z, pcs_sp.2.2.2.2.2]
theorem tx_H {a b c d e f : Nat} : txL (mkH a b c d e f) = ((((((((((((pcs 9 ++ dgs a) ++ [32]) ++ dgs b) ++ [32]) ++ dgs c) ++ [32]) ++ dgs d) ++ [32]) ++ dgs e) ++ [32]) ++ dgs f) ++ [59]) := by
  rw [pcs_sp.1]
  simp [mkH, txL, tkB]
theorem dgs_3 (v : Nat) : (dgs v).length ≤ 3 := by
  rw [dgs_len]
  split
  · omega
  · split <;> omega
theorem dgs_2 {v : Nat} (h : v < 100) : (dgs v).length ≤ 2 := by
  rw [dgs_len]
  split
  · omega
  · omega
theorem dgs_1 {v : Nat} (h : v < 10) : (dgs v).length = 1 := by
  rw [dgs_len, if_pos h]
theorem cellAt_21 : ∀ a, a ≤ 539 → 1 ≤ a → (cellAt a).1 ≠ 21 := by decide +kernel
/-- behind an add -/
theorem BS.add (h : BS M A w cs r nb nt g) (hc : Cc M M' k) (e : ∀ a j s, (a = 0 ∨ kt M a s = true ∧ s ≠ 33 ∧ s ≠ 21) → kI M' a j = kI M a j ∧ kR M' a j = kR M a j) {nb' nt' : Nat} (hb : BW M' A' r' nb' nt') : BS M' A' w cs r' nb' nt' g := by
  obtain ⟨⟨h1, h2⟩, h3, h4, h5⟩ := h
  have hx := hc.ex
  have e1 : ∀ a j, a ≤ 539 → kI M' a j = kI M a j ∧ kR M' a j = kR M a j := fun a j ha => by
    by_cases z : a = 0
    · exact e a j 0 (Or.inl z)
    · exact e a j _ (Or.inr ⟨h1.kt1 (by omega) ha, by have := cellAt_lo a ha (by omega); omega, cellAt_21 a ha (by omega)⟩)
  exact ⟨⟨h1.kp hx (fun a j ha => (e1 a j ha).2), h2.kp (fun a j ha => (e1 a j ha).1)⟩, h3.kp hx, h4.kp hx (fun a j s z y => e a j s (Or.inr ⟨z, by omega, by omega⟩)), hb⟩
theorem BS.rb (h : BS M A w cs r nb nt g) {b : Nat} (hb : b < nb) : kt M (aB A b) 31 = true ∧ kI M (aB A b) 0 = nI b ∧ kI M (aB A b) 1 = r (14 + 15 * b + 0) ∧ kI M (aB A b) 2 = r (14 + 15 * b + 1) ∧ kI M (aB A b) 3 = r (14 + 15 * b + 2) := by
  obtain ⟨b1, b2, b3, b4, b5, -⟩ := (h.2.2.2.2.2.1 b hb).1
  exact ⟨b1, b2, b3, b4, b5⟩
theorem BS.rt (h : BS M A w cs r nb nt g) {t : Nat} (ht : t < nt) : kt M (aT A t) 32 = true ∧ kI M (aT A t) 0 = nI t ∧ kI M (aT A t) 1 = r (89 + 7 * t + 1) ∧ kI M (aT A t) 2 = r (89 + 7 * t + 2) ∧ kI M (aT A t) 3 = r (89 + 7 * t + 3) := by
  obtain ⟨b1, b2, b3, b4, b5, -⟩ := (h.2.2.2.2.2.2.1 t ht).1
  exact ⟨b1, b2, b3, b4, b5⟩
theorem BS.hh (h : BS M A w cs r nb nt g) : kt M (aH A) 30 = true ∧ kR M (aH A) 0 = aHB A ∧ kR M (aH A) 1 = aHT A ∧ kI M (aH A) 5 = r 3 := ⟨h.2.2.2.1.1.1, h.2.2.2.1.1.2.1, h.2.2.2.1.1.2.2, h.2.2.2.1.2.2.2.2.1⟩
theorem BS.lB (h : BS M A w cs r nb nt g) : Lx M (aHB A) (aEB A) (aB A) nb := h.2.2.2.2.1.1
theorem BS.lT (h : BS M A w cs r nb nt g) : Lx M (aHT A) (aET A) (aT A) nt := h.2.2.2.2.1.2
theorem nI_1a (k : Nat) : (1 : Int32) + nI k = nI (1 + k) := nI_add 1 k
theorem nI_2a (k : Nat) : (2 : Int32) + nI k = nI (2 + k) := nI_add 2 k
theorem nI_10a (k : Nat) : (10 : Int32) + nI k = nI (10 + k) := nI_add 10 k
theorem nI_8a (k : Nat) : (8 : Int32) + nI k = nI (8 + k) := nI_add 8 k
theorem lw_b163 (h : BS M A w (txL ts) r nb 0 g) (hn : nb < 4) (hl : (txL ts).length ≤ 31 + 14 * nb) (hN : 1000 < N) (n c : Nat) (hc : c < 1000) : ∃ M' A' v1 v2 v3, ((1 ≤ v1 ∧ v1 ≤ 5) ∧ (2 ≤ v2 ∧ v2 ≤ 16) ∧ v3 ≤ 69) ∧ F_L_begins_163 N (n + 1) M 1 g (aH A) w (nI (c + 1)) = F_L_begins_163 N n M' 1 g (aH A) w (nI c) ∧ BS M' A' w (txL (ts ++ mkB v1 v2 v3)) (boR r nb (nI v1) (nI v2) (nI v3)) (nb + 1) 0 g ∧ aH A' = aH A ∧ Cc M M' 6000 := by
  rw [F_L_begins_163, if_pos (show (0 : Int32) < nI (c + 1) by rw [show (0 : Int32) = nI 0 from rfl, nI_ltP (by omega) (by omega)]; omega), kl_v, kl_v]
  have f0 : Nf g M (kNew M 31 5) 6 := Nf.new
  have b0 := h.nf f0
  have kx0 : kt (kNew M 31 5) (M.1.length + 1) 31 = true := kt_newW
  have l0 : (kNew M 31 5).1.length = M.1.length + 1 := by show (M.1 ++ _).length = _; simp
  rw [b0.hh.1, kg_t, b0.hh.2.1, b0.lB.1, kg_t, lx_size b0.lB, Option.bind_some]
  obtain ⟨k1, w1, q1, d1⟩ := lw_draw (N := N) b0.2.1 (m := 5) (by omega) (by omega)
  have f1 := f0.trans (Nf.draw (g := g) (v := w1))
  have g1 := h.nf f1
  obtain ⟨k2, w2, q2, d2⟩ := lw_draw (N := N) g1.2.1 (m := 15) (by omega) (by omega)
  have f2 := f1.trans (Nf.draw (g := g) (v := w2))
  have g2 := h.nf f2
  obtain ⟨k3, w3, q3, d3⟩ := lw_draw (N := N) g2.2.1 (m := 60) (by omega) (by omega)
  have f3 := f2.trans (Nf.draw (g := g) (v := w3))
  rw [show F_L_draw N (kNew M 31 5) g 5 = _ from d1, Option.bind_some, show F_L_draw N _ g 15 = _ from d2, Option.bind_some, show F_L_draw N _ g 60 = _ from d3, Option.bind_some, show (!(M.1.length + 1 == 0)) = true by simp, kg_t, nI_1a, nI_2a, nI_10a]
  generalize hMd : ksI (ksI (ksI (kNew M 31 5) g 0 w1) g 0 w2) g 0 w3 = Md at *
  have kxd : kt Md (M.1.length + 1) 31 = true := by rw [← hMd]; exact kx0
  have ld : Md.1.length = M.1.length + 1 := by rw [← hMd]; exact l0
  obtain ⟨M90, i1, ⟨i2, i3, i4, i5, i6⟩, i7, i8, i9⟩ := lb_init (N := N) (x1 := nI nb) (x2 := nI (1 + k1)) (x3 := nI (2 + k2)) (x4 := nI (10 + k3)) kxd
  have f90 : Nf g M M90 100 := by
    refine ⟨(f3.1.trans (⟨[(34, 9)], i8, by simp⟩ : Cc Md M90 10)).le (by omega), fun a j h1 h2 => ?_⟩
    have e1 := f3.2 a j h1 h2
    have e2 := i9 a j (by omega) (by omega)
    exact ⟨e2.1.trans e1.1, e2.2.trans e1.2⟩
  have b90 := h.nf f90
  have kx90 : kt M90 (M.1.length + 1) 31 = true := kt_pre i8 kxd
  rw [i1, Option.bind_some, b90.hh.1, kg_t, b90.hh.2.1, b90.lB.1, kg_t]
  obtain ⟨M91, A', a1, a2, a3, a4, a5, a6⟩ := b90.2.2.2.board (N := N) (by omega) kx90 i2 i3 i4 i5 i6 i7 (fun b hb z => by
    have := (kt_le (h.2.2.2.2.2.1 b hb).2.1).2
    omega)
  have b91 := b90.add a5 a6 a2
  have c91 := f90.1.trans a5
  rw [a1, Option.bind_some, kl_v, b91.wk, kg_t]
  have hv1 : 1 + k1 < 10 := by omega
  have hv2 : 2 + k2 < 100 := by omega
  have hv3 : 10 + k3 < 100 := by omega
  have e1 := dgs_1 hv1
  have e2 := dgs_2 hv2
  have e3 := dgs_2 hv3
  have e10 := pcs_ln.2.1
  obtain ⟨r0, r1, r2⟩ := boR_b (r := r) (nb := nb) (a1 := nI (1 + k1)) (a2 := nI (2 + k2)) (a3 := nI (10 + k3))
  obtain ⟨Ma, ua, ba, ca⟩ := b91.S (N := N) (s := 10) (by omega) (by omega) (by omega)
  have xa := ba.rb (b := nb) (by omega)
  rw [a4, r0, r1, r2] at xa
  rw [ua, Option.bind_some, xa.1, kg_t, ba.wk, kg_t, xa.2.2.1]
  obtain ⟨Mb, ub, bb, cb⟩ := ba.I (N := N) (v := 1 + k1) (by omega) (by simp only [List.length_append]; omega) (by omega)
  rw [ub, Option.bind_some, bb.wk, kg_t]
  obtain ⟨Mc, uc, bc, cc⟩ := bb.C (N := N) (c := 32) (by omega) (by simp only [List.length_append]; omega)
  have xc := bc.rb (b := nb) (by omega)
  rw [a4, r0, r1, r2] at xc
  rw [show F_SB_appendC N _ w 32 = _ from uc, Option.bind_some, xc.1, kg_t, bc.wk, kg_t, xc.2.2.2.1]
  obtain ⟨Me, ue, be, ce⟩ := bc.I (N := N) (v := 2 + k2) (by omega) (by simp only [List.length_append, List.length_cons, List.length_nil]; omega) (by omega)
  rw [ue, Option.bind_some, be.wk, kg_t]
  obtain ⟨Mf, uf, bf, cf⟩ := be.C (N := N) (c := 32) (by omega) (by simp only [List.length_append, List.length_cons, List.length_nil]; omega)
  have xf := bf.rb (b := nb) (by omega)
  rw [a4, r0, r1, r2] at xf
  rw [show F_SB_appendC N _ w 32 = _ from uf, Option.bind_some, xf.1, kg_t, bf.wk, kg_t, xf.2.2.2.2]
  obtain ⟨Mg, ug, bg, cg⟩ := bf.I (N := N) (v := 10 + k3) (by omega) (by simp only [List.length_append, List.length_cons, List.length_nil]; omega) (by omega)
  rw [ug, Option.bind_some, bg.wk, kg_t]
  obtain ⟨Mh, uh, bh, ch⟩ := bg.C (N := N) (c := 59) (by omega) (by simp only [List.length_append, List.length_cons, List.length_nil]; omega)
  rw [show F_SB_appendC N _ w 59 = _ from uh, Option.bind_some, kl_v, nI_dec]
  refine ⟨Mh, A', 1 + k1, 2 + k2, 10 + k3, ⟨⟨by omega, by omega⟩, ⟨by omega, by omega⟩, by omega⟩, rfl, ?_, a3, ((((((((c91.trans ca).trans cb).trans cc).trans ce).trans cf).trans cg).trans ch).le (by omega))⟩
  rw [tx_B]
  exact bh
end
