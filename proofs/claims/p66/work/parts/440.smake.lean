def BZ (M : kMem) (A : kA) (E : Nat → Nat → Nat) (w : Nat) (cs : List Nat) (r : Nat → Int32) (nb nt g : Nat) : Prop := (SMp M ∧ CP M.2.1) ∧ Gg M g ∧ SBx M w cs ∧ LW M A E r nb nt
section
variable {N : Nat} {M M' M1 M2 : kMem} {a s i j k k2 l n x y g nb nt w t : Nat} {A A' : kA} {E E' : Nat → Nat → Nat} {r r' : Nat → Int32} {cs cs' : List Nat} {ts : List kTk} {f : Nat → Nat}
theorem kabs_q : ∀ q, q < 13 → kabs (pz q) = nI (if q < 6 then 6 - q else q - 6) := by decide
theorem BZ.draw (h : BZ M A E w cs r nb nt g) (v : Int32) : BZ (ksI M g 0 v) A E w cs r nb nt g := by
  obtain ⟨⟨h1, h2⟩, h3, h4, h5⟩ := h
  have hg := h3.2.2
  have hx : ∃ l, (ksI M g 0 v).1 = M.1 ++ l := ⟨[], by show M.1 = M.1 ++ []; simp⟩
  have e2 : ∀ a j s, kt M a s = true → s ≠ 13 → kI (ksI M g 0 v) a j = kI M a j := fun a j s z y => by rw [z_II, if_neg (fun z2 => kt_ne z h3.1 y z2.1)]
  exact ⟨⟨h1.kp hx (fun _ _ _ => rfl), h2.kp (fun a j ha => by show kI (ksI M g 0 v) a j = kI M a j; rw [z_II, if_neg (fun z => by omega)])⟩, h3.kp hx, h4.kp hx (fun a j s z y => ⟨e2 a j s z (by omega), rfl⟩), h5.keep hx (fun a j s z y => e2 a j s z (by omega)) (fun _ _ _ _ _ => rfl) (fun _ _ hv => hv)⟩
theorem BZ.sf (h : BZ M A E w cs r nb nt g) (hs : SBx M' w cs') (f : Sf M M' k) : BZ M' A E w cs' r nb nt g := by
  obtain ⟨⟨h1, h2⟩, h3, h4, h5⟩ := h
  have e : ∀ a j, a ≤ 539 → kI M' a j = kI M a j ∧ kR M' a j = kR M a j := fun a j ha => f.2 a j (by
    by_cases z : a = 0
    · exact Or.inl z
    · exact Or.inr ⟨_, h1.kt1 (by omega) ha, cellAt_20 a ha (by omega), by have := cellAt_lo a ha (by omega); omega⟩)
  have e2 : ∀ a j s, kt M a s = true → s ≠ 20 → s ≠ 39 → kI M' a j = kI M a j ∧ kR M' a j = kR M a j := fun a j s z y1 y2 => f.2 a j (Or.inr ⟨s, z, y1, y2⟩)
  refine ⟨⟨h1.kp f.ex (fun a j ha => (e a j ha).2), h2.kp (fun a j ha => (e a j ha).1)⟩, h3.kp f.ex, hs, h5.keep f.ex (fun a j s z y => (e2 a j s z (by omega) (by omega)).1) (fun a j s z y => (e2 a j s z (by omega) (by omega)).2) (fun tm z hv => ?_)⟩
  unfold VC at hv ⊢
  rw [(e2 tm 1 34 z (by decide) (by decide)).2]
  refine hv.imp id (fun q => ⟨kt_p f.ex q.1, ?_⟩)
  rw [(e2 _ 0 36 q.1 (by decide) (by decide)).2]
  exact q.2
theorem BZ.op (h : BZ M A E w cs r nb nt g) (o : Op M M' k) (hl : LW M' A E' r' nb nt) : BZ M' A E' w cs r' nb nt g := by
  obtain ⟨⟨h1, h2⟩, h3, h4, h5⟩ := h
  have hx : ∃ l, M'.1 = M.1 ++ l := ⟨_, o.1.choose_spec.1⟩
  have e : ∀ a j, a ≤ 539 → kI M' a j = kI M a j ∧ kR M' a j = kR M a j := fun a j ha => o.2 a j (by
    by_cases z : a = 0
    · exact Or.inl z
    · exact Or.inr ⟨_, h1.kt1 (by omega) ha, Or.inl (cellAt_lo a ha (by omega))⟩)
  exact ⟨⟨h1.kp hx (fun a j ha => (e a j ha).2), h2.kp (fun a j ha => (e a j ha).1)⟩, h3.kp hx, h4.kp hx (fun a j s z y => o.2 a j (Or.inr ⟨s, z, by omega⟩)), hl⟩
theorem BZ.S (h : BZ M A E w cs r nb nt g) {s : Nat} (hs : s < 23) (hs0 : s ≠ 0) (hl : cs.length + (pcs s).length ≤ 340) : ∃ M', F_SB_appendS N M w s = some (w, M') ∧ BZ M' A E w (cs ++ pcs s) r nb nt g ∧ Cc M M' 701 := by
  obtain ⟨M', u1, u2, u3⟩ := sb_S (N := N) h.2.2.1 hs hs0 hl
  exact ⟨M', u1, h.sf u2 u3, u3.cc⟩
theorem BZ.C (h : BZ M A E w cs r nb nt g) {c : Nat} (hc : c < 128) (hl : cs.length + 1 ≤ 340) : ∃ M', F_SB_appendC N M w (nI c) = some (w, M') ∧ BZ M' A E w (cs ++ [c]) r nb nt g ∧ Cc M M' 701 := by
  obtain ⟨M', u1, u2, u3⟩ := sb_C (N := N) h.2.2.1 hl hc
  exact ⟨M', u1, h.sf u2 u3, u3.cc⟩
theorem BZ.I (h : BZ M A E w cs r nb nt g) {v : Nat} (hv : v < 1000) (hl : cs.length + (dgs v).length ≤ 340) (hN : 100 < N) : ∃ M', F_SB_appendI N M w (nI v) = some (w, M') ∧ BZ M' A E w (cs ++ dgs v) r nb nt g ∧ Cc M M' 701 := by
  obtain ⟨M', u1, u2, u3⟩ := sb_I h.2.2.1 hv hl hN
  exact ⟨M', u1, h.sf u2 u3, u3.cc⟩
theorem BZ.wk (h : BZ M A E w cs r nb nt g) : kt M w 39 = true := h.2.2.1.1.1
theorem BZ.gg (h : BZ M A E w cs r nb nt g) : Gg M g := h.2.1
theorem BZ.lw (h : BZ M A E w cs r nb nt g) : LW M A E r nb nt := h.2.2.2
/-- what stands before seat t is looked for -/
def SS (N : Nat) (M : kMem) (A : kA) (E : Nat → Nat → Nat) (w : Nat) (ts : List kTk) (r : Nat → Int32) (nb nt k t g : Nat) : Prop := BZ M A E w (txL ts) r nb nt g ∧ RW r nb nt ∧ Rd2 N ts r nb nt k ∧ TXo ts ∧ (txL ts).length ≤ 199 + 17 * t ∧ k ≤ t ∧ ∀ s, t ≤ s → s < nt → r (89 + 7 * s + 5) = -1
theorem lw_b417 (h : SS N M A E w ts r nb nt k t g) (hb0 : 1 ≤ nb) (hb5 : nb ≤ 5) (ht : t < nt) (hnt : nt ≤ 7) (hN : 1000 < N) (n : Nat) : ∃ M' E' ts' r' k', F_L_begins_417 N (n + 1) M 1 g (aH A) w (nI t) = F_L_begins_417 N n M' 1 g (aH A) w (nI (t + 1)) ∧ SS N M' A E' w ts' r' nb nt k' (t + 1) g ∧ Cc M M' 6000 := by
  obtain ⟨h1, hW, hR2, hT, hl, hk, hu⟩ := h
  have L0 := h1.lw
  obtain ⟨H1, H2, H3⟩ := L0.g.1
  rw [F_L_begins_417, H1, kg_t, H3, L0.lt.1, kg_t, al_size L0.lt, Option.bind_some, if_pos (show nI t < nI nt by rw [nI_ltP (by omega) (by omega)]; exact ht), kg_t, kg_t, H2, L0.lb.1, kg_t, al_size L0.lb, Option.bind_some]
  obtain ⟨b, w1, hb, d1⟩ := lw_draw (N := N) h1.gg (m := nb) (by omega) (by omega)
  have z1 := h1.draw w1
  rw [d1, Option.bind_some, z1.lw.lb.1, kg_t, al_get z1.lw.lb (by omega) hb, Option.bind_some, kor _ _ (z1.lw.bk hb), kg_t]
  obtain ⟨a, sf, le, ha, -, -, ra, -⟩ := hW.1.b b hb
  obtain ⟨q, w2, w3, p1, p2, p3, p4⟩ := lw_pos (N := N) z1.gg (z1.lw.bk hb) (((z1.lw.b b hb).1.2.2.1).trans ra) ha
  have z3 := (z1.draw w2).draw w3
  have hq : q < 13 := by omega
  obtain ⟨k4, w4, q4, d4⟩ := lw_draw (N := N) z3.gg (m := 4) (by omega) (by omega)
  have z4 := z3.draw w4
  rw [p1, Option.bind_some, kl_v, show F_L_draw N _ g 4 = _ from d4, Option.bind_some]
  have c4 : Cc M (ksI (ksI (ksI (ksI M g 0 w1) g 0 w2) g 0 w3) g 0 w4) 0 := Cc.of rfl
  generalize hM4 : ksI (ksI (ksI (ksI M g 0 w1) g 0 w2) g 0 w3) g 0 w4 = M4 at *
  have hskip : SS N M4 A E w ts r nb nt k (t + 1) g := ⟨z4, hW, hR2, hT, by omega, by omega, fun s h1 h2 => hu s (by omega) h2⟩
  by_cases zk : nI k4 = 0
  · rw [if_pos zk, kl_v, ← nI_succ]
    exact ⟨M4, E, ts, r, k, rfl, hskip, c4.le (by omega)⟩
  · rw [if_neg zk, z4.lw.bk hb, kg_t, val_of hq, Option.bind_some, (z4.lw.b b hb).1.2.2.2.2.2, (z4.lw.tm hb).k, kg_t, tm_has (z4.lw.tm hb) (by omega) hq, Option.bind_some]
    by_cases ze : E b q = 0
    · have hf : r (si b q) = 0 := (z4.lw.e0 hW.1 hb hq p4).mp ze
      have ut := hu t (Nat.le_refl _) ht
      rw [if_pos ze, if_pos rfl, z4.lw.hk, kg_t, z4.lw.g.1.2.2, z4.lw.lt.1, kg_t, al_get z4.lw.lt (by omega) ht, Option.bind_some, kor _ _ (z4.lw.tk ht), kg_t, z4.lw.tk ht, kg_t]
      obtain ⟨M5, E5, s1, s2, s3⟩ := lw_sits (N := N) z4.lw hb5 (by omega) hW.1 ht hb hq p4 hf (by omega)
      have z5 := z4.op s3 s2
      rw [s1, Option.bind_some, z5.wk, kg_t]
      have e1 := dgs_1 (v := b) (by omega)
      have e2 : (dgs (if q < 6 then 6 - q else q - 6)).length = 1 := dgs_1 (by split <;> omega)
      have e12 := pcs_ln.2.2.2.1
      have hd : (if q < 6 then 6 - q else q - 6) < 1000 := by split <;> omega
      obtain ⟨Ma, ua, ba, ca⟩ := z5.S (N := N) (s := 12) (by omega) (by omega) (by omega)
      rw [ua, Option.bind_some, ba.wk, kg_t, chr_t t (by omega)]
      obtain ⟨Mb, ub, bb, cb⟩ := ba.C (N := N) (c := 97 + t) (by omega) (by simp only [List.length_append]; omega)
      rw [ub, Option.bind_some, bb.wk, kg_t]
      obtain ⟨Mc, uc, bc, cc⟩ := bb.C (N := N) (c := 32) (by omega) (by simp only [List.length_append, List.length_cons, List.length_nil]; omega)
      rw [show F_SB_appendC N _ w 32 = _ from uc, Option.bind_some, bc.lw.bk hb, kg_t, bc.wk, kg_t, (bc.lw.b b hb).1.2.1]
      obtain ⟨Me, ue, be, ce⟩ := bc.I (N := N) (v := b) (by omega) (by simp only [List.length_append, List.length_cons, List.length_nil]; omega) (by omega)
      rw [ue, Option.bind_some]
      have e13 : (pcs (if q < 6 then 13 else 14)).length ≤ 7 := by
        split
        · have := pcs_ln.2.2.2.2.1; omega
        · have := pcs_ln.2.2.2.2.2; omega
      obtain ⟨Mf, uf, bf, cf⟩ := be.S (N := N) (s := if q < 6 then 13 else 14) (by split <;> omega) (by split <;> omega) (by simp only [List.length_append, List.length_cons, List.length_nil]; omega)
      obtain ⟨Mg, ug, bg, cg⟩ := bf.I (N := N) hd (by simp only [List.length_append, List.length_cons, List.length_nil]; omega) (by omega)
      obtain ⟨Mh, uh, bh, ch⟩ := bg.C (N := N) (c := 59) (by omega) (by simp only [List.length_append, List.length_cons, List.length_nil]; omega)
      have cT : Cc M Mh 6000 := ((((((((c4.trans s3.cc).trans ca).trans cb).trans cc).trans ce).trans cf).trans cg).trans ch).le (by omega)
      have hend : SS N Mh A E5 w (ts ++ mkS t b q) (siR r t b q) nb nt (k + 1) (t + 1) g := by
        obtain ⟨w6, w7⟩ := RW_si hW ht ut hb ra (by omega) p2 p3 p4 hf
        refine ⟨by rw [tx_S]; exact bh, w6, rd_seat hR2 hW (by omega) (by omega) ht ut hb ra (by omega) p2 p3 p4 hf hN, hT.app (TXo_S (by omega) (by omega) hq), ?_, by omega, fun s h1 h2 => (w7 s (by omega)).trans (hu s (by omega) h2)⟩
        have := len_S (ts := ts) (t := t) (b := b) (q := q) (by omega) hq
        omega
      by_cases zq : q < 6
      · rw [if_pos ((pz_lt0 (by omega)).mpr zq), be.wk, kg_t]
        rw [if_pos zq] at uf ug
        rw [uf, Option.bind_some, bf.wk, kg_t, kabs_q q hq, if_pos zq, ug, Option.bind_some, bg.wk, kg_t, show F_SB_appendC N _ w 59 = _ from uh, Option.bind_some, kl_v, ← nI_succ]
        exact ⟨Mh, E5, _, _, _, rfl, hend, cT⟩
      · rw [if_neg (fun z => zq ((pz_lt0 (by omega)).mp z)), be.wk, kg_t]
        rw [if_neg zq] at uf ug
        rw [uf, Option.bind_some, bf.wk, kg_t, kabs_q q hq, if_neg zq, ug, Option.bind_some, bg.wk, kg_t, show F_SB_appendC N _ w 59 = _ from uh, Option.bind_some, kl_v, ← nI_succ]
        exact ⟨Mh, E5, _, _, _, rfl, hend, cT⟩
    · rw [if_neg ze, if_neg (by decide), kl_v, ← nI_succ]
      exact ⟨M4, E, ts, r, k, rfl, hskip, c4.le (by omega)⟩
end
