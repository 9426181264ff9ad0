section
variable {N : Nat} {M M' M1 M2 : kMem} {a s i j k k2 l n x y g nb nt w : Nat} {A A' : kA} {r r' : Nat → Int32} {cs cs' : List Nat} {ts : List kTk} {f : Nat → Nat}
theorem chr_t : ∀ t, t < 24 → ((97 + nI t).toUInt32 % 65536).toInt32 = nI (97 + t) := by decide
theorem lw_b285 (h : BS M A w (txL ts) r nb nt g) (hnb : nb ≤ 5) (hn : nt < 8) {v3 : Nat} (h3 : r 3 = nI v3) (hv3 : v3 < 99) (hl : (txL ts).length ≤ 90 + 18 * nt) (hN : 1000 < N) (n c : Nat) (hc : c < 1000) : ∃ M' A' u1 u2 u3, ((1 ≤ u1 ∧ u1 ≤ 20) ∧ u2 ≤ 59 ∧ u3 ≤ v3) ∧ F_L_begins_285 N (n + 1) M 1 g (aH A) w (nI (c + 1)) = F_L_begins_285 N n M' 1 g (aH A) w (nI c) ∧ BS M' A' w (txL (ts ++ mkT nt u1 u2 u3)) (jnR r nt (nI (nt + 1)) (nI u1) (nI u2) (nI u3)) nb (nt + 1) g ∧ aH A' = aH A ∧ Cc M M' 8000 := by
  rw [F_L_begins_285, if_pos (show (0 : Int32) < nI (c + 1) by rw [show (0 : Int32) = nI 0 from rfl, nI_ltP (by omega) (by omega)]; omega), kl_v, kl_v]
  have f0 : Nf g M (kNew M 32 7) 8 := Nf.new
  have b0 := h.nf f0
  have kx0 : kt (kNew M 32 7) (M.1.length + 1) 32 = true := kt_newW
  have l0 : (kNew M 32 7).1.length = M.1.length + 1 := by show (M.1 ++ _).length = _; simp
  have gl := (kt_le h.2.1.1).2
  rw [b0.hh.1, kg_t, b0.hh.2.2.1, b0.lT.1, kg_t, lx_size b0.lT, Option.bind_some]
  obtain ⟨k1, w1, q1, d1⟩ := lw_draw (N := N) b0.2.1 (m := 20) (by omega) (by omega)
  have f1 := f0.trans (Nf.draw (g := g) (v := w1))
  have g1 := h.nf f1
  obtain ⟨k2, w2, q2, d2⟩ := lw_draw (N := N) g1.2.1 (m := 60) (by omega) (by omega)
  have f2 := f1.trans (Nf.draw (g := g) (v := w2))
  have g2 := h.nf f2
  obtain ⟨k3, w3, q3, d3⟩ := lw_draw (N := N) g2.2.1 (m := v3 + 1) (by omega) (by omega)
  have f3 := f2.trans (Nf.draw (g := g) (v := w3))
  rw [show F_L_draw N (kNew M 32 7) g 20 = _ from d1, Option.bind_some, show F_L_draw N _ g 60 = _ from d2, Option.bind_some, g2.hh.1, kg_t, g2.hh.2.2.2, h3, ← nI_succ, d3, Option.bind_some, show (!(M.1.length + 1 == 0)) = true by simp, kg_t, nI_1a]
  have i4 : kI (ksI (ksI (ksI (kNew M 32 7) g 0 w1) g 0 w2) g 0 w3) (M.1.length + 1) 4 = 0 := by
    rw [z_II, if_neg (fun z => by omega), z_II, if_neg (fun z => by omega), z_II, if_neg (fun z => by omega), z_IN, if_pos rfl]
  have r6 : kR (ksI (ksI (ksI (kNew M 32 7) g 0 w1) g 0 w2) g 0 w3) (M.1.length + 1) 6 = 0 := by
    rw [z_RI, z_RI, z_RI, z_RN, if_pos rfl]
  generalize hMd : ksI (ksI (ksI (kNew M 32 7) g 0 w1) g 0 w2) g 0 w3 = Md at *
  have kxd : kt Md (M.1.length + 1) 32 = true := by rw [← hMd]; exact kx0
  obtain ⟨M90, i1, ⟨j0, j1, j2, j3, j5, j4, j6⟩, i8, i9⟩ := lt_init (N := N) (x1 := nI nt) (x2 := nI (1 + k1)) (x3 := nI k2) (x4 := nI k3) kxd
  rw [i4] at j4
  rw [r6] at j6
  have f90 : Nf g M M90 100 := by
    refine ⟨(f3.1.trans (Cc.of i8)).le (by omega), fun a j h1 h2 => ?_⟩
    have e1 := f3.2 a j h1 h2
    have e2 := i9 a j (by omega)
    exact ⟨e2.1.trans e1.1, e2.2.trans e1.2⟩
  have b90 := h.nf f90
  have kx90 : kt M90 (M.1.length + 1) 32 = true := by rw [kt_cg i8]; exact kxd
  rw [i1, Option.bind_some, b90.hh.1, kg_t, b90.hh.2.2.1, b90.lT.1, kg_t]
  obtain ⟨M91, A', a1, a2, a3, a4, a5, a6⟩ := b90.2.2.2.trader (N := N) (cc := nI (nt + 1)) hnb (by omega) kx90 j0 j1 j2 j3 j5 j4 j6
  have b91 := b90.add a5 a6 a2
  have c91 := f90.1.trans a5
  rw [a1, Option.bind_some, kl_v, b91.wk, kg_t]
  have hv1 : 1 + k1 < 100 := by omega
  have hv2 : k2 < 100 := by omega
  have hv3 : k3 < 100 := by omega
  have e1 := dgs_2 hv1
  have e2 := dgs_2 hv2
  have e3 := dgs_2 hv3
  have e11 := pcs_ln.2.2.1
  obtain ⟨-, r1, r2, r3, -⟩ := jnR_t (r := r) (nt := nt) (cc := nI (nt + 1)) (w := nI (1 + k1)) (p := nI k2) (ag := nI k3)
  obtain ⟨Ma, ua, ba, ca⟩ := b91.S (N := N) (s := 11) (by omega) (by omega) (by omega)
  have xa := ba.rt (t := nt) (by omega)
  rw [a4] at xa
  rw [ua, Option.bind_some, xa.1, kg_t, ba.wk, kg_t, xa.2.1, chr_t nt (by omega)]
  obtain ⟨Mb, ub, bb, cb⟩ := ba.C (N := N) (c := 97 + nt) (by omega) (by simp only [List.length_append]; omega)
  rw [ub, Option.bind_some, bb.wk, kg_t]
  obtain ⟨Mc, uc, bc, cc⟩ := bb.C (N := N) (c := 32) (by omega) (by simp only [List.length_append, List.length_cons, List.length_nil]; omega)
  have xc := bc.rt (t := nt) (by omega)
  rw [a4, r1] at xc
  rw [show F_SB_appendC N _ w 32 = _ from uc, Option.bind_some, xc.1, kg_t, bc.wk, kg_t, xc.2.2.1]
  obtain ⟨Me, ue, be, ce⟩ := bc.I (N := N) (v := 1 + k1) (by omega) (by simp only [List.length_append, List.length_cons, List.length_nil]; omega) (by omega)
  rw [ue, Option.bind_some, be.wk, kg_t]
  obtain ⟨Mf, uf, bf, cf⟩ := be.C (N := N) (c := 32) (by omega) (by simp only [List.length_append, List.length_cons, List.length_nil]; omega)
  have xf := bf.rt (t := nt) (by omega)
  rw [a4, r2] at xf
  rw [show F_SB_appendC N _ w 32 = _ from uf, Option.bind_some, xf.1, kg_t, bf.wk, kg_t, xf.2.2.2.1]
  obtain ⟨Mg, ug, bg, cg⟩ := bf.I (N := N) (v := k2) (by omega) (by simp only [List.length_append, List.length_cons, List.length_nil]; omega) (by omega)
  rw [ug, Option.bind_some, bg.wk, kg_t]
  obtain ⟨Mh, uh, bh, ch⟩ := bg.C (N := N) (c := 32) (by omega) (by simp only [List.length_append, List.length_cons, List.length_nil]; omega)
  have xh := bh.rt (t := nt) (by omega)
  rw [a4, r3] at xh
  rw [show F_SB_appendC N _ w 32 = _ from uh, Option.bind_some, xh.1, kg_t, bh.wk, kg_t, xh.2.2.2.2]
  obtain ⟨Mi, ui, bi, ci⟩ := bh.I (N := N) (v := k3) (by omega) (by simp only [List.length_append, List.length_cons, List.length_nil]; omega) (by omega)
  rw [ui, Option.bind_some, bi.wk, kg_t]
  obtain ⟨Mj, uj, bj, cj⟩ := bi.C (N := N) (c := 59) (by omega) (by simp only [List.length_append, List.length_cons, List.length_nil]; omega)
  rw [show F_SB_appendC N _ w 59 = _ from uj, Option.bind_some, kl_v, nI_dec]
  refine ⟨Mj, A', 1 + k1, k2, k3, ⟨⟨by omega, by omega⟩, by omega, by omega⟩, rfl, ?_, a3, ((((((((((c91.trans ca).trans cb).trans cc).trans ce).trans cf).trans cg).trans ch).trans ci).trans cj).le (by omega))⟩
  rw [tx_T]
  exact bj
end
