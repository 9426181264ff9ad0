/-! the law's body as a function; script: Ls numbers xs; the class's object is cell 1 -/
def kroom (M : kMem) : Bool := kend 0 832019 6605640 M
def F_L_law_52 (N : Nat) (K : kMem → Option Unit) (h g : Nat) : Nat → kMem → Int32 → Option Unit
  | 0, _, _ => none
  | n + 1, M, x6 =>
    if x6 < 14 then (
      (F_L_still N M 1 h).bind fun r1 => kg (kroom r1.2) <|
      if r1.1 = 0 then none else
      (F_L_act N r1.2 1 h g).bind fun r2 => kg (kroom r2.2) <|
      if r2.1 = 0 then none else
      kl (x6 + 1) fun v3 =>
      F_L_law_52 N K h g n r2.2 v3) else
    (F_L_still N M 1 h).bind fun r4 => kg (kroom r4.2) <|
    if r4.1 = 0 then none else K r4.2
def F_L_law_13 (N Ls : Nat) (xs : Nat → Int32) : Nat → kMem → Int32 → Option Unit
  | 0, _, _ => none
  | n + 1, M, x3 =>
    if x3 < nI Ls then (
      if x3 < 2 then (
        kg (krm 0 832019 6605640 M (1 : Int32).toNatClampNeg) <| kl (kNew M 13 (1 : Int32).toNatClampNeg) fun M1 =>
        kl (M.1.length + 1) fun w2 =>
        kg (decide (0 ≤ x3) && decide (x3.toNatClampNeg < Ls)) <|
        kg (kin M1 w2 13 0) <| kl (ksI M1 w2 (kx 0) (xs (kx x3))) fun M3 =>
        (F_L_begins N M3 1 w2).bind fun r4 => kg (kroom r4.2) <|
        if r4.1 = 0 then none else
        F_L_law_52 N (fun M5 => kl (x3 + 1) fun v6 => F_L_law_13 N Ls xs n M5 v6) r4.1 w2 N r4.2 0) else
      kg (kroom M) <| some ()) else
    kg (kroom M) <| some ()
def F_L_law_0 (N Ls : Nat) (xs : Nat → Int32) (M : kMem) : Option Unit :=
    kg (krm 0 832019 6605640 M 9) <| kl (kNew M 11 9) fun M1 =>
    kl (M.1.length + 1) fun w2 =>
    kg (kok 0 832019 6605640 M1 538 8722) <| (F_X11_init N M1 w2).bind fun M3 => kg (kgr 0 M1 M3 538 8722) <|
    kg (decide (w2 = 1)) <|
    F_L_law_13 N Ls xs 3 M3 0
section
variable {N : Nat} {M M' M1 M2 : kMem} {g nb nt d k : Nat} {A : kA} {E : Nat → Nat → Nat} {r : Nat → Int32} {I : kInts} {K : kMem → Option Unit}
def M00 : kMem := wz [] z0 zR zL
theorem sum_len : ∀ (l : List (Nat × Nat)), (l.map (fun c => c.2 + 1)).sum = l.length + (l.map Prod.snd).sum
  | [] => rfl
  | c :: l => by
    simp only [List.map_cons, List.sum_cons, List.length_cons]
    rw [sum_len l]
    omega
theorem cc_room (h : Cc M00 M k) (hk : k ≤ 832019) : kroom M = true := by
  obtain ⟨l, h1, h2⟩ := h
  rw [sum_len] at h2
  have h1' : M.1 = l := by rw [h1]; rfl
  unfold kroom kend ksl
  rw [h1', List.drop_zero]
  simp only [Bool.and_eq_true, decide_eq_true_eq]
  exact ⟨Nat.zero_le _, by omega, by omega⟩
theorem cc_krm (h : Cc M00 M k) {z : Nat} (hk : k + z + 1 ≤ 832019) : krm 0 832019 6605640 M z = true := by
  obtain ⟨l, h1, h2⟩ := h
  rw [sum_len] at h2
  have h1' : M.1 = l := by rw [h1]; rfl
  unfold krm ksl
  rw [h1', List.drop_zero]
  simp only [Bool.and_eq_true, decide_eq_true_eq]
  exact ⟨Nat.zero_le _, by omega, by omega⟩
theorem lw_52 (h2 : 2 ≤ nt) (h10 : nt ≤ 10) (hnb : 1 ≤ nb) (hN : 1000 < N) : ∀ (k n c : Nat) (M : kMem) (E : Nat → Nat → Nat) (r : Nat → Int32) (d : Nat), k ≤ 14 → k < n → ST M A E r nb nt g → r 6 = nI d → d + 6 * k ≤ 1000 → Cc M00 M c → c + 9100 * k + 1100 ≤ 832019 → ∃ M' E' r', F_L_law_52 N K (aH A) g n M (nI (14 - k)) = K M' ∧ ST M' A E' r' nb nt g ∧ Cc M00 M' (c + 9100 * k + 1100)
  | 0, n, c, M, E, r, d, hk, hn, h, hd, hd2, hc, hr => by
    obtain ⟨m, rfl⟩ : ∃ m, n = m + 1 := ⟨n - 1, by omega⟩
    obtain ⟨M1, a1, a2, a3⟩ := lw_still h h10 hN
    refine ⟨M1, E, r, ?_, a2, (hc.trans a3).le (by omega)⟩
    rw [F_L_law_52, if_neg (by decide), a1, Option.bind_some, cc_room (hc.trans a3) (by omega), kg_t, if_neg (show ¬ (1 : Int32) = 0 by decide)]
  | k + 1, n, c, M, E, r, d, hk, hn, h, hd, hd2, hc, hr => by
    obtain ⟨m, rfl⟩ : ∃ m, n = m + 1 := ⟨n - 1, by omega⟩
    obtain ⟨M1, a1, a2, a3⟩ := lw_still h h10 hN
    obtain ⟨M2, E', r', b1, b2, b3, d', b4, b5⟩ := lw_act a2 hd (by omega) h2 h10 hnb hN
    obtain ⟨cA, hcA⟩ : ∃ x, x = c + 1100 := ⟨_, rfl⟩
    have c1 : Cc M00 M1 cA := (hc.trans a3).le (by omega)
    obtain ⟨cB, hcB⟩ : ∃ x, x = cA + 8000 := ⟨_, rfl⟩
    have c2 : Cc M00 M2 cB := (c1.trans b3).le (Nat.le_of_eq hcB.symm)
    have hB1 : kroom M1 = true := cc_room c1 (by omega)
    have hB2 : kroom M2 = true := cc_room c2 (by omega)
    have hB3 : cB + 9100 * k + 1100 ≤ 832019 := by omega
    obtain ⟨M3, E3, r3, e1, e2, e3⟩ := lw_52 h2 h10 hnb hN k m cB M2 E' r' d' (by omega) (by omega) b2 b4 (by omega) c2 hB3
    refine ⟨M3, E3, r3, ?_, e2, e3.le (by clear hr hd2 hB3 hB1 hB2; omega)⟩
    have hlt : nI (14 - (k + 1)) < (14 : Int32) := by
      rw [show (14 : Int32) = nI 14 from rfl, nI_ltP (by omega) (by omega)]
      omega
    rw [F_L_law_52, if_pos hlt, a1, Option.bind_some, hB1, kg_t, if_neg (show ¬ (1 : Int32) = 0 by decide), b1, Option.bind_some, hB2, kg_t, if_neg (show ¬ (1 : Int32) = 0 by decide), kl_v, ← nI_succ, show 14 - (k + 1) + 1 = 14 - k by omega]
    exact e1
theorem lw_13s {Ls : Nat} {xs : Nat → Int32} (hL : Ls ≤ 3072) (hN : 1000 < N) {n c i : Nat} (hi : i < 2) (hS : SMp M) (hC : CP M.2.1) (hc : Cc M00 M c) (hr : c ≤ 400000) (hnext : ∀ M', SMp M' → CP M'.2.1 → Cc M00 M' (c + 280000) → F_L_law_13 N Ls xs n M' (nI (i + 1)) = some ()) : F_L_law_13 N Ls xs (n + 1) M (nI i) = some () := by
  by_cases z : nI i < nI Ls
  · have hlt : nI i < (2 : Int32) := by
      rw [show (2 : Int32) = nI 2 from rfl, nI_ltP (by omega) (by omega)]
      omega
    obtain ⟨M1, A, E, r, nb, nt, a1, a2, a3, ⟨a4, a5⟩, ⟨a6, a7⟩, a8⟩ := lw_begins (hS.nw (xs (kx (nI i)))) (CP.nw hS hC _) (Gg.new hS _) hN
    have c0 : Cc M (ksI (kNew M 13 1) (M.1.length + 1) 0 (xs (kx (nI i)))) 2 := ⟨[(13, 1)], rfl, by simp⟩
    obtain ⟨cB, hcB⟩ : ∃ x, x = c + 150002 := ⟨_, rfl⟩
    have c1 : Cc M00 M1 cB := (hc.trans (c0.trans a8)).le (Nat.le_of_eq hcB.symm)
    have hB1 : cB + 9100 * 14 + 1100 ≤ 832019 := by
      rw [hcB, Nat.add_assoc, Nat.add_assoc]
      exact Nat.le_trans (Nat.add_le_add_right hr _) (by decide)
    have hB2 : cB ≤ 832019 := Nat.le_trans (Nat.le_add_right cB (9100 * 14 + 1100)) hB1
    have hB3 : kroom M1 = true := cc_room c1 hB2
    have hB4 : krm 0 832019 6605640 M 1 = true := cc_krm hc (Nat.le_trans (Nat.add_le_add_right hr 2) (by decide))
    have hA : ¬ aH A = 0 := by
      have := (kt_le a2.2.1.hk).1
      omega
    obtain ⟨M2, E2, r2, b1, b2, b3⟩ := lw_52 (K := fun M5 => kl (nI i + 1) fun v6 => F_L_law_13 N Ls xs n M5 v6) a6 (by omega) a4 hN 14 N cB M1 E r 0 (Nat.le_refl _) (by omega) a2 a3 (by decide) c1 hB1
    have h1n : (1 : Int32).toNatClampNeg = 1 := by decide
    have hgd : (decide ((0 : Int32) ≤ nI i) && decide ((nI i).toNatClampNeg < Ls)) = true := by
      have q1 : (0 : Int32) ≤ nI i := nI_0le (by omega)
      have q2 : (nI i).toNatClampNeg = i := kx_nI (by omega)
      have z' := z
      rw [nI_ltP (by omega) (by omega)] at z'
      rw [q2]
      simp only [q1, decide_true, Bool.true_and, decide_eq_true_eq]
      exact z'
    rw [F_L_law_13, if_pos z, if_pos hlt, h1n, hB4, kg_t, kl_v, kl_v, hgd, kg_t, show kin (kNew M 13 1) (M.1.length + 1) 13 0 = true from kin_nI (i := 0) (n := 1) kt_newW (by unfold kn kcell kNew; simp) (by decide) (by decide), kg_t, kl_v, kx_0, a1, Option.bind_some, hB3, kg_t, if_neg hA]
    refine b1.trans ?_
    show F_L_law_13 N Ls xs n M2 (nI i + 1) = some ()
    rw [← nI_succ]
    refine hnext M2 b2.1.1 b2.1.2.cp (b3.le ?_)
    rw [hcB, Nat.add_assoc, Nat.add_assoc]
    exact Nat.add_le_add_left (by decide) c
  · have hB3 : kroom M = true := cc_room hc (Nat.le_trans hr (by decide))
    rw [F_L_law_13, if_neg z, hB3, kg_t]
theorem lw_13 {Ls : Nat} {xs : Nat → Int32} (hL : Ls ≤ 3072) (hN : 1000 < N) (hS : SMp M) (hC : CP M.2.1) (hc : Cc M00 M 10000) : F_L_law_13 N Ls xs 3 M (nI 0) = some () := by
  refine lw_13s hL hN (by decide) hS hC hc (by decide) (fun M1 s1 p1 c1 => ?_)
  refine lw_13s hL hN (by decide) s1 p1 c1 (by decide) (fun M2 s2 p2 c2 => ?_)
  have hB3 : kroom M2 = true := cc_room c2 (by decide)
  rw [F_L_law_13, hB3, kg_t, if_neg (show ¬ nI (0 + 1 + 1) < 2 by decide)]
  exact ite_self _
set_option maxRecDepth 100000 in
theorem z_law {Ls : Nat} {xs : Nat → Int32} (hN : 1000 < N) (hL : Ls ≤ 3072) : F_L_law_0 N Ls xs (wz [] z0 zR zL) = some () := by
  obtain ⟨I, a1, a2, a3, a4, a5, a6, a7, a8, a9, a10, a11⟩ := i_first (N := N) hN
  have k1 : krm 0 832019 6605640 (wz [] z0 zR zL) 9 = true := by
    have h : (decide (0 ≤ ([] : List (Nat × Nat)).length) && (decide (([] : List (Nat × Nat)).length - 0 + 1 ≤ 832019) && decide (((([] : List (Nat × Nat)).drop 0).map Prod.snd).sum + 9 ≤ 6605640))) = true := by decide +kernel
    exact h
  have k2 : kok 0 832019 6605640 (wz yD0 z0 zR zL) 538 8722 = true := by
    have h : (decide (0 ≤ yD0.length) && (decide (yD0.length - 0 + 538 ≤ 832019) && decide (((yD0.drop 0).map Prod.snd).sum + 8722 ≤ 6605640))) = true := by decide +kernel
    exact h
  have k3 : kgr 0 (wz yD0 z0 zR zL) (wm Mc I zL) 538 8722 = true := by
    have h : (decide (cellsC.length - 0 = yD0.length - 0 + 538) && decide (((cellsC.drop 0).map Prod.snd).sum = ((yD0.drop 0).map Prod.snd).sum + 8722)) = true := by decide +kernel
    unfold kgr ksl wm
    rw [Mc1]
    exact h
  have n1 : kNew (wz [] z0 zR zL) 11 9 = wz yD0 z0 zR zL := wz_new (C := []) (t := 11) (n := 9) (fun _ _ _ => ⟨rfl, rfl, rfl⟩)
  have hc : Cc M00 (wm Mc I zL) 10000 := by
    refine ⟨cellsC, ?_, by decide +kernel⟩
    show Mc.1 = [] ++ cellsC
    rw [Mc1, List.nil_append]
  have hS : SMp (wm Mc I zL) := mc_S
  have hC : CP (wm Mc I zL).2.1 := ⟨a6, ⟨0, by decide, a7.1⟩, 0, by decide, a3⟩
  have e := lw_13 (Ls := Ls) (xs := xs) hL hN hS hC hc
  unfold F_L_law_0
  rw [k1, kg_t, kl_v, n1, kl_v, k2, kg_t]
  rw [show (wz [] z0 zR zL).1.length + 1 = 1 from rfl, a1, Option.bind_some, k3, kg_t, show decide ((1 : Nat) = 1) = true from rfl, kg_t]
  exact e
end
