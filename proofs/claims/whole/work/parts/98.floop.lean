theorem zl_loop {N Ls : Nat} {xs : Nat → Int32} (hN : 20000 < N) (hL : Ls ≤ 3072) : ∀ (fu t : Nat) (I : kInts) (L : kLngs), Rel I → Ls + 6 < 6 * (t + fu) → 6 * t ≤ Ls + 6 → F_L_law_23 N Ls xs 1 540 552 fu (wm Mb I L) (nI (6 * t)) = some () := by
  intro fu
  induction fu with
  | zero => intro t I L h h1 h2; exact absurd h1 (by omega)
  | succ fu ih =>
    intro t I L h h1 h2
    rw [F_L_law_23]
    by_cases h3 : Ls < 6 * t + 6
    · rw [if_pos (zl_end hL h2 h3)]
    rw [if_neg (zl_go hL h2 h3)]
    have hS := zS_of (by omega : 6 * t + 6 ≤ Ls) hL
    have h0 : (decide (0 ≤ nI (6 * t)) && decide ((nI (6 * t)).toNatClampNeg < Ls)) = true := zS_0 (by omega : 6 * t + 6 ≤ Ls) hL
    rw [h0, kg_t]
    unfold kl
    have hk : ∀ I2 L2, Rel I2 → F_L_law_23 N Ls xs 1 540 552 fu (wm Mb I2 L2) (nI (6 * t) + 6) = some () := fun I2 L2 hR => by
      have := ih (t + 1) I2 L2 hR (by omega) (by omega)
      rw [zS_next] 
      exact this
    dsimp only
    refine zl_if (fun _ => zc_308 h hN hS hk) ?_
    refine zl_if (fun _ => zc_412 h hN hS hk) ?_
    refine zl_if (fun _ => zc_468 h hN hS hk) ?_
    refine zl_if (fun _ => zc_481 h hN hS hk) ?_
    refine zl_if (fun _ => zc_494 h hN hS hk) ?_
    refine zl_if (fun _ => zc_507 h hN hS hk) ?_
    refine zl_if (fun _ => zc_520 h hN hS hk) ?_
    refine zl_if (fun _ => zc_533 h hN hS hk) ?_
    refine zl_if (fun _ => zc_546 h hN hS hk) ?_
    refine zl_if (fun _ => zc_559 h hN hS hk) ?_
    refine zl_if (fun _ => zc_572 h hN hS hk) ?_
    refine zl_if (fun _ => zc_585 h hN hS hk) ?_
    refine zl_if (fun _ => zc_598 h hN hS hk) ?_
    refine zl_if (fun _ => zc_654 h hN hS hk) ?_
    refine zl_if (fun _ => zc_710 h hN hS hk) ?_
    refine zl_if (fun _ => zc_766 h hN hS hk) ?_
    refine zl_if (fun _ => zc_822 h hN hS hk) ?_
    refine zl_if (fun _ => zc_885 h hN hS hk) ?_
    refine zl_if (fun _ => zc_953 h hN hS hk) ?_
    refine zl_if (fun _ => zc_1021 h hN hS hk) ?_
    refine zl_if (fun _ => zc_1089 h hN hS hk) ?_
    refine zl_if (fun _ => zc_1157 h hN hS hk) ?_
    refine zl_if (fun _ => zc_1170 h hN hS hk) ?_
    refine zl_if (fun _ => zc_1183 h hN hS hk) ?_
    refine zl_if (fun _ => zc_1251 h hN hS hk) ?_
    refine zl_if (fun _ => zc_1307 h hN hS hk) ?_
    refine zl_if (fun _ => zc_1363 h hN hS hk) ?_
    refine zl_if (fun _ => zc_1419 h hN hS hk) ?_
    refine zl_if (fun _ => zc_1482 h hN hS hk) ?_
    refine zl_if (fun _ => zc_1538 h hN hS hk) ?_
    refine zl_if (fun _ => zc_1594 h hN hS hk) ?_
    refine zl_if (fun _ => zc_1650 h hN hS hk) ?_
    refine zl_if (fun _ => zc_1675 h hN hS hk) ?_
    refine zl_if (fun _ => zc_1755 h hN hS hk) ?_
    refine zl_if (fun _ => zc_1835 h hN hS hk) ?_
    refine zl_if (fun _ => zc_1903 h hN hS hk) ?_
    refine zl_if (fun _ => zc_1971 h hN hS hk) ?_
    refine zl_if (fun _ => zc_2039 h hN hS hk) ?_
    refine zl_if (fun _ => zc_2052 h hN hS hk) ?_
    refine zl_if (fun _ => zc_2065 h hN hS hk) ?_
    refine zl_if (fun _ => zc_2078 h hN hk) ?_
    refine zl_if (fun _ => zc_2119 h hN hk) ?_
    refine zl_if (fun _ => zc_2162 h hN hS hk) ?_
    refine zl_if (fun _ => zc_2175 h hN hS hk) ?_
    refine zl_if (fun _ => zc_2200 h hN hS hk) ?_
    refine zl_if (fun _ => zc_2225 h hN hS hk) ?_
    refine zl_if (fun _ => zc_2250 h hN hS hk) ?_
    refine zl_if (fun _ => zc_2318 h hN hS hk) ?_
    refine zl_if (fun _ => zc_2374 h hN hS hk) ?_
    refine zl_if (fun _ => zc_2430 h hN hS hk) ?_
    refine zl_if (fun _ => zc_2486 h hN hS hk) ?_
    refine zl_if (fun _ => zc_2554 h hN hS hk) ?_
    refine zl_if (fun _ => zc_2634 h hN hS hk) ?_
    refine zl_if (fun _ => zc_2690 h hN hS hk) ?_
    refine zl_if (fun _ => zc_2770 h hN hS hk) ?_
    refine zl_if (fun _ => zc_2838 h hN hS hk) ?_
    refine zl_if (fun _ => zc_2894 h hN hS hk) ?_
    refine zl_if (fun _ => zc_2950 h hN hS hk) ?_
    refine zl_if (fun _ => zc_3006 h hN hS hk) ?_
    refine zl_if (fun _ => zc_3031 h hN hS hk) ?_
    refine zl_if (fun _ => zc_3044 h hN hS hk) ?_
    refine zl_if (fun _ => zc_3088 h hN hS hk) ?_
    refine zl_if (fun _ => zc_3144 h hN hS hk) ?_
    exact hk I L h
