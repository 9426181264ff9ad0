/-! the law's body, from its entry: the first state keeps the relation -/
section
variable {N : Nat} {I : kInts} {L : kLngs}
theorem v_MC : wm Mc I L = wz cellsC I refC L := by
  unfold wz wm Mc
  with_reducible rfl
theorem v_MDz : wm Md I L = wz cellsD I refB L := by
  unfold wz wm Md
  with_reducible rfl
theorem kgr_l {C D : List (Nat × Nat)} {I' : kInts} {R R' : Nat → Nat → Nat} {L' : kLngs} {l mc ms : Nat} : kgr l (wz C I R L) (wz D I' R' L') mc ms = (decide (D.length - l = C.length - l + mc) && decide (((D.drop l).map Prod.snd).sum = ((C.drop l).map Prod.snd).sum + ms)) := rfl
theorem krm_l {C : List (Nat × Nat)} {R : Nat → Nat → Nat} {l mc ms n : Nat} : krm l mc ms (wz C I R L) n = (decide (l ≤ C.length) && (decide (C.length - l + 1 ≤ mc) && decide (((C.drop l).map Prod.snd).sum + n ≤ ms))) := rfl
theorem kok_l {C : List (Nat × Nat)} {R : Nat → Nat → Nat} {l mc ms c s : Nat} : kok l mc ms (wz C I R L) c s = (decide (l ≤ C.length) && (decide (C.length - l + c ≤ mc) && decide (((C.drop l).map Prod.snd).sum + s ≤ ms))) := rfl
theorem kend_l {C : List (Nat × Nat)} {R : Nat → Nat → Nat} {l mc ms : Nat} : kend l mc ms (wz C I R L) = (decide (l ≤ C.length) && (decide (C.length - l ≤ mc) && decide (((C.drop l).map Prod.snd).sum ≤ ms))) := rfl
theorem v_Rel (hM : RI fg9 2 4 ∧ RM I 44 fg9 2 4) (h2 : I 2 1 = 0) (h66 : I 6 6 = 0) (h67 : I 6 7 = -1) (hNu : ∀ m, m ∈ mks → Nu I m) (h347 : I 126 1 = 0 ∧ I 126 2 = 0) (h1062 : I 457 0 = 0 ∧ I 457 1 = 0) (h41 : I 4 1 = 0) (hn : RelN I) (hI : ∀ a j, 539 < a → I a j = 0) : Rel (rf (up I 540 19 (-1)) eF f0) := by
  have o : ∀ a j, a ≤ 539 → rf (up I 540 19 (-1)) eF f0 a j = I a j := fun a j h => (rf_o j (by omega) (by omega)).trans (up_ne (by omega))
  have p : ∀ a j, 539 < a → a ≠ 541 → a ≠ 546 → a ≠ 540 ∨ j ≠ 19 → rf (up I 540 19 (-1)) eF f0 a j = 0 := fun a j h h1 h2 h3 => (rf_o j h1 h2).trans ((up_ne h3).trans (hI a j h))
  refine ⟨⟨0, fT, ⟨by decide, f_ok.2⟩, ⟨(o _ _ (by decide)).trans h2, fun k hk => absurd hk (Nat.not_lt_zero _)⟩, p _ _ (by decide) (by decide) (by decide) (Or.inr (by decide)), fun k hk => absurd hk (Nat.not_lt_zero _)⟩, ⟨?_, ?_⟩, ⟨2, 4, ?_, ?_⟩, fun m hm => ?_, ⟨0, 0, by decide, by decide, (o _ _ (by decide)).trans h347.1, (o _ _ (by decide)).trans h347.2, p _ _ (by decide) (by decide) (by decide) (Or.inr (by decide)), fun k hk => absurd hk (Nat.not_lt_zero _)⟩, fun i hi => Or.inl ⟨?_, p _ _ (by decide) (by decide) (by decide) (Or.inl (by decide))⟩, ⟨0, by decide, (o _ _ (by decide)).trans h41, p _ _ (by decide) (by decide) (by decide) (Or.inr (by decide)), fun k hk => absurd hk (Nat.not_lt_zero _)⟩, trivial⟩
  · rw [o _ _ (by decide), h66, p _ _ (by decide) (by decide) (by decide) (Or.inr (by decide))]
  · rw [o _ _ (by decide), h67, rf_o _ (by decide) (by decide), up_eq]
  · rw [rw_0]
    exact hM.1.eqr e_is
  · rw [rw_0]
    have h1 : RM (rf (up I 540 19 (-1)) eF f0) 44 fg9 2 4 := hM.2.cI (by decide) (by decide) (fun x j h1 h2 => o _ _ (by omega))
    exact h1.eqr (by decide) (by decide) e_is
  · have hm2 : m + 41 ≤ 540 := by
      revert hm
      revert m
      decide
    exact (hNu m hm).kp (fun x j h1 h2 => o _ _ (by omega))
  · rw [o _ _ (by decide)]
    match i, hi with
    | 0, _ => exact h1062.1
    | 1, _ => exact h1062.2
theorem z_law {Ls : Nat} {xs : Nat → Int32} (hN : 20000 < N) (hL : Ls ≤ 3072) : F_L_law_0 N Ls xs (wz [] z0 zR zL) = some () := by
  have hN1 : 1000 < N := Nat.lt_trans (by decide) hN
  obtain ⟨I, a1, a2, a3, a4, a5, a6, a7, a8, a9, a10, a11⟩ := i_first (N := N) hN1
  have b1 := i_ref (N := N) a11 a2.1 hN1
  have hR := v_Rel a2 a3 a4 a5 a6 a7 a8 a9 a10 a11
  have c1 := zl_loop (N := N) (xs := xs) hN hL 520 0 _ zL hR (by omega) (by omega)
  rw [v_MC] at a1
  rw [v_MDz] at b1
  have lC : cellsC.length = 539 := by rw [← yD_C]; exact yD_l.2.2.2.2.2.2.2.2.2.2.2
  have lD : cellsD.length = 551 := by rw [← vD_D]; exact vD_l.2.2.2.2.2.2.2.2.2.2.2
  have zC : Zr cellsC I refC zL := fun a j h => ⟨a11 a j (by omega), by unfold refC; exact if_neg (by omega), rfl⟩
  have zD : Zr cellsD (rf (up I 540 19 (-1)) eF f0) refB zL := fun a j h => ⟨(rf_o j (by omega) (by omega)).trans ((up_ne (by omega)).trans (a11 a j (by omega))), by
    have := (v_Zall (I := z0) (fun _ _ _ => rfl)).2.2.2.2.2.2.2.2.2.2.2 a j (by rw [vD_D]; exact h)
    rw [vR_B] at this
    exact this.2.1, rfl⟩
  have k1 : krm 0 552 14112 (wz [] z0 zR zL) 9 = true := krm_l.trans (by decide +kernel)
  have k2 : kok 0 552 14112 (wz yD0 z0 zR zL) 538 8722 = true := kok_l.trans (by decide +kernel)
  have k3 : kgr 0 (wz yD0 z0 zR zL) (wz cellsC I refC zL) 538 8722 = true := kgr_l.trans (by decide +kernel)
  have k4 : krm 0 552 14112 (wz cellsC I refC zL) 30 = true := krm_l.trans (by decide +kernel)
  have k5 : kok 0 552 14112 (wz vD0 I refC zL) 11 5350 = true := kok_l.trans (by decide +kernel)
  have k6 : kgr 0 (wz vD0 I refC zL) (wz cellsD (rf (up I 540 19 (-1)) eF f0) refB zL) 11 5350 = true := kgr_l.trans (by decide +kernel)
  have k7 : krm 0 552 14112 (wz cellsD (rf (up I 540 19 (-1)) eF f0) refB zL) (1 : Int32).toNatClampNeg = true := krm_l.trans (by decide +kernel)
  have k8 : kend 0 552 14112 (wz (cellsD ++ [(15, (1 : Int32).toNatClampNeg)]) (rf (up I 540 19 (-1)) eF f0) refB zL) = true := kend_l.trans (by decide +kernel)
  have n1 : kNew (wz [] z0 zR zL) 11 9 = wz yD0 z0 zR zL := wz_new (C := []) (t := 11) (n := 9) (fun _ _ _ => ⟨rfl, rfl, rfl⟩)
  have n2 : kNew (wz cellsC I refC zL) 12 30 = wz vD0 I refC zL := wz_new zC
  have n3 : kNew (wz cellsD (rf (up I 540 19 (-1)) eF f0) refB zL) 15 (1 : Int32).toNatClampNeg = wz (cellsD ++ [(15, (1 : Int32).toNatClampNeg)]) (rf (up I 540 19 (-1)) eF f0) refB zL := wz_new zD
  have e1 : wz (cellsD ++ [(15, (1 : Int32).toNatClampNeg)]) (rf (up I 540 19 (-1)) eF f0) refB zL = wm Mb (rf (up I 540 19 (-1)) eF f0) zL := v_MB
  unfold F_L_law_0
  simp only [k1, kg_t, kl_v, n1, wz_1, List.length_nil, Nat.zero_add, k2, a1, Option.bind_some, k3, k4, n2, lC, k5, b1, k6, k7, n3, lD, k8]
  rw [e1]
  exact c1
end
