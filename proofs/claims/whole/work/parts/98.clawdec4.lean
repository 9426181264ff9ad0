set_option maxRecDepth 20000 in
theorem dG_law_157 : (decode cL_law 2483 = .ok (.goto 717, 3)) ∧ (decode cL_law 2486 = .ok (.aload_n 1, 1)) ∧ (decode cL_law 2487 = .ok (.aload_n 0, 1)) ∧ (decode cL_law 2488 = .ok (.iload 4, 2)) ∧ (decode cL_law 2490 = .ok (.iconst 1, 1)) ∧ (decode cL_law 2491 = .ok (.iadd, 1)) ∧ (decode cL_law 2492 = .ok (.iaload, 1)) ∧ (decode cL_law 2493 = .ok (.aload_n 0, 1)) := by decide +kernel
theorem dL_law_2483 : decode cL_law 2483 = .ok (.goto 717, 3) := dG_law_157.1
theorem dL_law_2486 : decode cL_law 2486 = .ok (.aload_n 1, 1) := dG_law_157.2.1
theorem dL_law_2487 : decode cL_law 2487 = .ok (.aload_n 0, 1) := dG_law_157.2.2.1
theorem dL_law_2488 : decode cL_law 2488 = .ok (.iload 4, 2) := dG_law_157.2.2.2.1
theorem dL_law_2490 : decode cL_law 2490 = .ok (.iconst 1, 1) := dG_law_157.2.2.2.2.1
theorem dL_law_2491 : decode cL_law 2491 = .ok (.iadd, 1) := dG_law_157.2.2.2.2.2.1
theorem dL_law_2492 : decode cL_law 2492 = .ok (.iaload, 1) := dG_law_157.2.2.2.2.2.2.1
theorem dL_law_2493 : decode cL_law 2493 = .ok (.aload_n 0, 1) := dG_law_157.2.2.2.2.2.2.2
set_option maxRecDepth 20000 in
theorem dG_law_158 : (decode cL_law 2494 = .ok (.iload 4, 2)) ∧ (decode cL_law 2496 = .ok (.iconst 2, 1)) ∧ (decode cL_law 2497 = .ok (.iadd, 1)) ∧ (decode cL_law 2498 = .ok (.iaload, 1)) ∧ (decode cL_law 2499 = .ok (.aload_n 3, 1)) ∧ (decode cL_law 2500 = .ok (.invokestatic 325, 3)) ∧ (decode cL_law 2503 = .ok (.istore 5, 2)) ∧ (decode cL_law 2505 = .ok (.aload_n 2, 1)) := by decide +kernel
theorem dL_law_2494 : decode cL_law 2494 = .ok (.iload 4, 2) := dG_law_158.1
theorem dL_law_2496 : decode cL_law 2496 = .ok (.iconst 2, 1) := dG_law_158.2.1
theorem dL_law_2497 : decode cL_law 2497 = .ok (.iadd, 1) := dG_law_158.2.2.1
theorem dL_law_2498 : decode cL_law 2498 = .ok (.iaload, 1) := dG_law_158.2.2.2.1
theorem dL_law_2499 : decode cL_law 2499 = .ok (.aload_n 3, 1) := dG_law_158.2.2.2.2.1
theorem dL_law_2500 : decode cL_law 2500 = .ok (.invokestatic 325, 3) := dG_law_158.2.2.2.2.2.1
theorem dL_law_2503 : decode cL_law 2503 = .ok (.istore 5, 2) := dG_law_158.2.2.2.2.2.2.1
theorem dL_law_2505 : decode cL_law 2505 = .ok (.aload_n 2, 1) := dG_law_158.2.2.2.2.2.2.2
set_option maxRecDepth 20000 in
theorem dG_law_159 : (decode cL_law 2506 = .ok (.aload_n 0, 1)) ∧ (decode cL_law 2507 = .ok (.iload 4, 2)) ∧ (decode cL_law 2509 = .ok (.iconst 1, 1)) ∧ (decode cL_law 2510 = .ok (.iadd, 1)) ∧ (decode cL_law 2511 = .ok (.iaload, 1)) ∧ (decode cL_law 2512 = .ok (.aload_n 0, 1)) ∧ (decode cL_law 2513 = .ok (.iload 4, 2)) ∧ (decode cL_law 2515 = .ok (.iconst 2, 1)) := by decide +kernel
theorem dL_law_2506 : decode cL_law 2506 = .ok (.aload_n 0, 1) := dG_law_159.1
theorem dL_law_2507 : decode cL_law 2507 = .ok (.iload 4, 2) := dG_law_159.2.1
theorem dL_law_2509 : decode cL_law 2509 = .ok (.iconst 1, 1) := dG_law_159.2.2.1
theorem dL_law_2510 : decode cL_law 2510 = .ok (.iadd, 1) := dG_law_159.2.2.2.1
theorem dL_law_2511 : decode cL_law 2511 = .ok (.iaload, 1) := dG_law_159.2.2.2.2.1
theorem dL_law_2512 : decode cL_law 2512 = .ok (.aload_n 0, 1) := dG_law_159.2.2.2.2.2.1
theorem dL_law_2513 : decode cL_law 2513 = .ok (.iload 4, 2) := dG_law_159.2.2.2.2.2.2.1
theorem dL_law_2515 : decode cL_law 2515 = .ok (.iconst 2, 1) := dG_law_159.2.2.2.2.2.2.2
set_option maxRecDepth 20000 in
theorem dG_law_160 : (decode cL_law 2516 = .ok (.iadd, 1)) ∧ (decode cL_law 2517 = .ok (.iaload, 1)) ∧ (decode cL_law 2518 = .ok (.invokevirtual 327, 3)) ∧ (decode cL_law 2521 = .ok (.istore 6, 2)) ∧ (decode cL_law 2523 = .ok (.aload_n 2, 1)) ∧ (decode cL_law 2524 = .ok (.invokevirtual 148, 3)) ∧ (decode cL_law 2527 = .ok (.iload 5, 2)) ∧ (decode cL_law 2529 = .ok (.if_icmp .eq 5, 3)) := by decide +kernel
theorem dL_law_2516 : decode cL_law 2516 = .ok (.iadd, 1) := dG_law_160.1
theorem dL_law_2517 : decode cL_law 2517 = .ok (.iaload, 1) := dG_law_160.2.1
theorem dL_law_2518 : decode cL_law 2518 = .ok (.invokevirtual 327, 3) := dG_law_160.2.2.1
theorem dL_law_2521 : decode cL_law 2521 = .ok (.istore 6, 2) := dG_law_160.2.2.2.1
theorem dL_law_2523 : decode cL_law 2523 = .ok (.aload_n 2, 1) := dG_law_160.2.2.2.2.1
theorem dL_law_2524 : decode cL_law 2524 = .ok (.invokevirtual 148, 3) := dG_law_160.2.2.2.2.2.1
theorem dL_law_2527 : decode cL_law 2527 = .ok (.iload 5, 2) := dG_law_160.2.2.2.2.2.2.1
theorem dL_law_2529 : decode cL_law 2529 = .ok (.if_icmp .eq 5, 3) := dG_law_160.2.2.2.2.2.2.2
set_option maxRecDepth 20000 in
theorem dG_law_161 : (decode cL_law 2534 = .ok (.iload 5, 2)) ∧ (decode cL_law 2536 = .ok (.ifCond .ne 15, 3)) ∧ (decode cL_law 2539 = .ok (.aload_n 3, 1)) ∧ (decode cL_law 2540 = .ok (.iconst 0, 1)) ∧ (decode cL_law 2541 = .ok (.laload, 1)) ∧ (decode cL_law 2542 = .ok (.iload 6, 2)) ∧ (decode cL_law 2544 = .ok (.i2l, 1)) ∧ (decode cL_law 2545 = .ok (.lcmp, 1)) := by decide +kernel
theorem dL_law_2534 : decode cL_law 2534 = .ok (.iload 5, 2) := dG_law_161.1
theorem dL_law_2536 : decode cL_law 2536 = .ok (.ifCond .ne 15, 3) := dG_law_161.2.1
theorem dL_law_2539 : decode cL_law 2539 = .ok (.aload_n 3, 1) := dG_law_161.2.2.1
theorem dL_law_2540 : decode cL_law 2540 = .ok (.iconst 0, 1) := dG_law_161.2.2.2.1
theorem dL_law_2541 : decode cL_law 2541 = .ok (.laload, 1) := dG_law_161.2.2.2.2.1
theorem dL_law_2542 : decode cL_law 2542 = .ok (.iload 6, 2) := dG_law_161.2.2.2.2.2.1
theorem dL_law_2544 : decode cL_law 2544 = .ok (.i2l, 1) := dG_law_161.2.2.2.2.2.2.1
theorem dL_law_2545 : decode cL_law 2545 = .ok (.lcmp, 1) := dG_law_161.2.2.2.2.2.2.2
set_option maxRecDepth 20000 in
theorem dG_law_162 : (decode cL_law 2546 = .ok (.ifCond .eq 5, 3)) ∧ (decode cL_law 2551 = .ok (.goto 649, 3)) ∧ (decode cL_law 2554 = .ok (.aload_n 1, 1)) ∧ (decode cL_law 2555 = .ok (.aload_n 0, 1)) ∧ (decode cL_law 2556 = .ok (.iload 4, 2)) ∧ (decode cL_law 2558 = .ok (.iconst 1, 1)) ∧ (decode cL_law 2559 = .ok (.iadd, 1)) ∧ (decode cL_law 2560 = .ok (.iaload, 1)) := by decide +kernel
theorem dL_law_2546 : decode cL_law 2546 = .ok (.ifCond .eq 5, 3) := dG_law_162.1
theorem dL_law_2551 : decode cL_law 2551 = .ok (.goto 649, 3) := dG_law_162.2.1
theorem dL_law_2554 : decode cL_law 2554 = .ok (.aload_n 1, 1) := dG_law_162.2.2.1
theorem dL_law_2555 : decode cL_law 2555 = .ok (.aload_n 0, 1) := dG_law_162.2.2.2.1
theorem dL_law_2556 : decode cL_law 2556 = .ok (.iload 4, 2) := dG_law_162.2.2.2.2.1
theorem dL_law_2558 : decode cL_law 2558 = .ok (.iconst 1, 1) := dG_law_162.2.2.2.2.2.1
theorem dL_law_2559 : decode cL_law 2559 = .ok (.iadd, 1) := dG_law_162.2.2.2.2.2.2.1
theorem dL_law_2560 : decode cL_law 2560 = .ok (.iaload, 1) := dG_law_162.2.2.2.2.2.2.2
set_option maxRecDepth 20000 in
theorem dG_law_163 : (decode cL_law 2561 = .ok (.aload_n 0, 1)) ∧ (decode cL_law 2562 = .ok (.iload 4, 2)) ∧ (decode cL_law 2564 = .ok (.iconst 2, 1)) ∧ (decode cL_law 2565 = .ok (.iadd, 1)) ∧ (decode cL_law 2566 = .ok (.iaload, 1)) ∧ (decode cL_law 2567 = .ok (.aload_n 0, 1)) ∧ (decode cL_law 2568 = .ok (.iload 4, 2)) ∧ (decode cL_law 2570 = .ok (.iconst 3, 1)) := by decide +kernel
theorem dL_law_2561 : decode cL_law 2561 = .ok (.aload_n 0, 1) := dG_law_163.1
theorem dL_law_2562 : decode cL_law 2562 = .ok (.iload 4, 2) := dG_law_163.2.1
theorem dL_law_2564 : decode cL_law 2564 = .ok (.iconst 2, 1) := dG_law_163.2.2.1
theorem dL_law_2565 : decode cL_law 2565 = .ok (.iadd, 1) := dG_law_163.2.2.2.1
theorem dL_law_2566 : decode cL_law 2566 = .ok (.iaload, 1) := dG_law_163.2.2.2.2.1
theorem dL_law_2567 : decode cL_law 2567 = .ok (.aload_n 0, 1) := dG_law_163.2.2.2.2.2.1
theorem dL_law_2568 : decode cL_law 2568 = .ok (.iload 4, 2) := dG_law_163.2.2.2.2.2.2.1
theorem dL_law_2570 : decode cL_law 2570 = .ok (.iconst 3, 1) := dG_law_163.2.2.2.2.2.2.2
set_option maxRecDepth 20000 in
theorem dG_law_164 : (decode cL_law 2571 = .ok (.iadd, 1)) ∧ (decode cL_law 2572 = .ok (.iaload, 1)) ∧ (decode cL_law 2573 = .ok (.aload_n 3, 1)) ∧ (decode cL_law 2574 = .ok (.invokestatic 328, 3)) ∧ (decode cL_law 2577 = .ok (.istore 5, 2)) ∧ (decode cL_law 2579 = .ok (.aload_n 2, 1)) ∧ (decode cL_law 2580 = .ok (.aload_n 0, 1)) ∧ (decode cL_law 2581 = .ok (.iload 4, 2)) := by decide +kernel
theorem dL_law_2571 : decode cL_law 2571 = .ok (.iadd, 1) := dG_law_164.1
theorem dL_law_2572 : decode cL_law 2572 = .ok (.iaload, 1) := dG_law_164.2.1
theorem dL_law_2573 : decode cL_law 2573 = .ok (.aload_n 3, 1) := dG_law_164.2.2.1
theorem dL_law_2574 : decode cL_law 2574 = .ok (.invokestatic 328, 3) := dG_law_164.2.2.2.1
theorem dL_law_2577 : decode cL_law 2577 = .ok (.istore 5, 2) := dG_law_164.2.2.2.2.1
theorem dL_law_2579 : decode cL_law 2579 = .ok (.aload_n 2, 1) := dG_law_164.2.2.2.2.2.1
theorem dL_law_2580 : decode cL_law 2580 = .ok (.aload_n 0, 1) := dG_law_164.2.2.2.2.2.2.1
theorem dL_law_2581 : decode cL_law 2581 = .ok (.iload 4, 2) := dG_law_164.2.2.2.2.2.2.2
set_option maxRecDepth 20000 in
theorem dG_law_165 : (decode cL_law 2583 = .ok (.iconst 1, 1)) ∧ (decode cL_law 2584 = .ok (.iadd, 1)) ∧ (decode cL_law 2585 = .ok (.iaload, 1)) ∧ (decode cL_law 2586 = .ok (.aload_n 0, 1)) ∧ (decode cL_law 2587 = .ok (.iload 4, 2)) ∧ (decode cL_law 2589 = .ok (.iconst 2, 1)) ∧ (decode cL_law 2590 = .ok (.iadd, 1)) ∧ (decode cL_law 2591 = .ok (.iaload, 1)) := by decide +kernel
theorem dL_law_2583 : decode cL_law 2583 = .ok (.iconst 1, 1) := dG_law_165.1
theorem dL_law_2584 : decode cL_law 2584 = .ok (.iadd, 1) := dG_law_165.2.1
theorem dL_law_2585 : decode cL_law 2585 = .ok (.iaload, 1) := dG_law_165.2.2.1
theorem dL_law_2586 : decode cL_law 2586 = .ok (.aload_n 0, 1) := dG_law_165.2.2.2.1
theorem dL_law_2587 : decode cL_law 2587 = .ok (.iload 4, 2) := dG_law_165.2.2.2.2.1
theorem dL_law_2589 : decode cL_law 2589 = .ok (.iconst 2, 1) := dG_law_165.2.2.2.2.2.1
theorem dL_law_2590 : decode cL_law 2590 = .ok (.iadd, 1) := dG_law_165.2.2.2.2.2.2.1
theorem dL_law_2591 : decode cL_law 2591 = .ok (.iaload, 1) := dG_law_165.2.2.2.2.2.2.2
set_option maxRecDepth 20000 in
theorem dG_law_166 : (decode cL_law 2592 = .ok (.aload_n 0, 1)) ∧ (decode cL_law 2593 = .ok (.iload 4, 2)) ∧ (decode cL_law 2595 = .ok (.iconst 3, 1)) ∧ (decode cL_law 2596 = .ok (.iadd, 1)) ∧ (decode cL_law 2597 = .ok (.iaload, 1)) ∧ (decode cL_law 2598 = .ok (.invokevirtual 330, 3)) ∧ (decode cL_law 2601 = .ok (.istore 6, 2)) ∧ (decode cL_law 2603 = .ok (.aload_n 2, 1)) := by decide +kernel
theorem dL_law_2592 : decode cL_law 2592 = .ok (.aload_n 0, 1) := dG_law_166.1
theorem dL_law_2593 : decode cL_law 2593 = .ok (.iload 4, 2) := dG_law_166.2.1
theorem dL_law_2595 : decode cL_law 2595 = .ok (.iconst 3, 1) := dG_law_166.2.2.1
theorem dL_law_2596 : decode cL_law 2596 = .ok (.iadd, 1) := dG_law_166.2.2.2.1
theorem dL_law_2597 : decode cL_law 2597 = .ok (.iaload, 1) := dG_law_166.2.2.2.2.1
theorem dL_law_2598 : decode cL_law 2598 = .ok (.invokevirtual 330, 3) := dG_law_166.2.2.2.2.2.1
theorem dL_law_2601 : decode cL_law 2601 = .ok (.istore 6, 2) := dG_law_166.2.2.2.2.2.2.1
theorem dL_law_2603 : decode cL_law 2603 = .ok (.aload_n 2, 1) := dG_law_166.2.2.2.2.2.2.2
set_option maxRecDepth 20000 in
theorem dG_law_167 : (decode cL_law 2604 = .ok (.invokevirtual 148, 3)) ∧ (decode cL_law 2607 = .ok (.iload 5, 2)) ∧ (decode cL_law 2609 = .ok (.if_icmp .eq 5, 3)) ∧ (decode cL_law 2614 = .ok (.iload 5, 2)) ∧ (decode cL_law 2616 = .ok (.ifCond .ne 15, 3)) ∧ (decode cL_law 2619 = .ok (.aload_n 3, 1)) ∧ (decode cL_law 2620 = .ok (.iconst 0, 1)) ∧ (decode cL_law 2621 = .ok (.laload, 1)) := by decide +kernel
theorem dL_law_2604 : decode cL_law 2604 = .ok (.invokevirtual 148, 3) := dG_law_167.1
theorem dL_law_2607 : decode cL_law 2607 = .ok (.iload 5, 2) := dG_law_167.2.1
theorem dL_law_2609 : decode cL_law 2609 = .ok (.if_icmp .eq 5, 3) := dG_law_167.2.2.1
theorem dL_law_2614 : decode cL_law 2614 = .ok (.iload 5, 2) := dG_law_167.2.2.2.1
theorem dL_law_2616 : decode cL_law 2616 = .ok (.ifCond .ne 15, 3) := dG_law_167.2.2.2.2.1
theorem dL_law_2619 : decode cL_law 2619 = .ok (.aload_n 3, 1) := dG_law_167.2.2.2.2.2.1
theorem dL_law_2620 : decode cL_law 2620 = .ok (.iconst 0, 1) := dG_law_167.2.2.2.2.2.2.1
theorem dL_law_2621 : decode cL_law 2621 = .ok (.laload, 1) := dG_law_167.2.2.2.2.2.2.2
set_option maxRecDepth 20000 in
theorem dG_law_168 : (decode cL_law 2622 = .ok (.iload 6, 2)) ∧ (decode cL_law 2624 = .ok (.i2l, 1)) ∧ (decode cL_law 2625 = .ok (.lcmp, 1)) ∧ (decode cL_law 2626 = .ok (.ifCond .eq 5, 3)) ∧ (decode cL_law 2631 = .ok (.goto 569, 3)) ∧ (decode cL_law 2634 = .ok (.aload_n 1, 1)) ∧ (decode cL_law 2635 = .ok (.aload_n 0, 1)) ∧ (decode cL_law 2636 = .ok (.iload 4, 2)) := by decide +kernel
theorem dL_law_2622 : decode cL_law 2622 = .ok (.iload 6, 2) := dG_law_168.1
theorem dL_law_2624 : decode cL_law 2624 = .ok (.i2l, 1) := dG_law_168.2.1
theorem dL_law_2625 : decode cL_law 2625 = .ok (.lcmp, 1) := dG_law_168.2.2.1
theorem dL_law_2626 : decode cL_law 2626 = .ok (.ifCond .eq 5, 3) := dG_law_168.2.2.2.1
theorem dL_law_2631 : decode cL_law 2631 = .ok (.goto 569, 3) := dG_law_168.2.2.2.2.1
theorem dL_law_2634 : decode cL_law 2634 = .ok (.aload_n 1, 1) := dG_law_168.2.2.2.2.2.1
theorem dL_law_2635 : decode cL_law 2635 = .ok (.aload_n 0, 1) := dG_law_168.2.2.2.2.2.2.1
theorem dL_law_2636 : decode cL_law 2636 = .ok (.iload 4, 2) := dG_law_168.2.2.2.2.2.2.2
set_option maxRecDepth 20000 in
theorem dG_law_169 : (decode cL_law 2638 = .ok (.iconst 1, 1)) ∧ (decode cL_law 2639 = .ok (.iadd, 1)) ∧ (decode cL_law 2640 = .ok (.iaload, 1)) ∧ (decode cL_law 2641 = .ok (.aload_n 3, 1)) ∧ (decode cL_law 2642 = .ok (.invokestatic 331, 3)) ∧ (decode cL_law 2645 = .ok (.istore 5, 2)) ∧ (decode cL_law 2647 = .ok (.aload_n 2, 1)) ∧ (decode cL_law 2648 = .ok (.aload_n 0, 1)) := by decide +kernel
theorem dL_law_2638 : decode cL_law 2638 = .ok (.iconst 1, 1) := dG_law_169.1
theorem dL_law_2639 : decode cL_law 2639 = .ok (.iadd, 1) := dG_law_169.2.1
theorem dL_law_2640 : decode cL_law 2640 = .ok (.iaload, 1) := dG_law_169.2.2.1
theorem dL_law_2641 : decode cL_law 2641 = .ok (.aload_n 3, 1) := dG_law_169.2.2.2.1
theorem dL_law_2642 : decode cL_law 2642 = .ok (.invokestatic 331, 3) := dG_law_169.2.2.2.2.1
theorem dL_law_2645 : decode cL_law 2645 = .ok (.istore 5, 2) := dG_law_169.2.2.2.2.2.1
theorem dL_law_2647 : decode cL_law 2647 = .ok (.aload_n 2, 1) := dG_law_169.2.2.2.2.2.2.1
theorem dL_law_2648 : decode cL_law 2648 = .ok (.aload_n 0, 1) := dG_law_169.2.2.2.2.2.2.2
set_option maxRecDepth 20000 in
theorem dG_law_170 : (decode cL_law 2649 = .ok (.iload 4, 2)) ∧ (decode cL_law 2651 = .ok (.iconst 1, 1)) ∧ (decode cL_law 2652 = .ok (.iadd, 1)) ∧ (decode cL_law 2653 = .ok (.iaload, 1)) ∧ (decode cL_law 2654 = .ok (.invokevirtual 333, 3)) ∧ (decode cL_law 2657 = .ok (.istore 6, 2)) ∧ (decode cL_law 2659 = .ok (.aload_n 2, 1)) ∧ (decode cL_law 2660 = .ok (.invokevirtual 148, 3)) := by decide +kernel
theorem dL_law_2649 : decode cL_law 2649 = .ok (.iload 4, 2) := dG_law_170.1
theorem dL_law_2651 : decode cL_law 2651 = .ok (.iconst 1, 1) := dG_law_170.2.1
theorem dL_law_2652 : decode cL_law 2652 = .ok (.iadd, 1) := dG_law_170.2.2.1
theorem dL_law_2653 : decode cL_law 2653 = .ok (.iaload, 1) := dG_law_170.2.2.2.1
theorem dL_law_2654 : decode cL_law 2654 = .ok (.invokevirtual 333, 3) := dG_law_170.2.2.2.2.1
theorem dL_law_2657 : decode cL_law 2657 = .ok (.istore 6, 2) := dG_law_170.2.2.2.2.2.1
theorem dL_law_2659 : decode cL_law 2659 = .ok (.aload_n 2, 1) := dG_law_170.2.2.2.2.2.2.1
theorem dL_law_2660 : decode cL_law 2660 = .ok (.invokevirtual 148, 3) := dG_law_170.2.2.2.2.2.2.2
set_option maxRecDepth 20000 in
theorem dG_law_171 : (decode cL_law 2663 = .ok (.iload 5, 2)) ∧ (decode cL_law 2665 = .ok (.if_icmp .eq 5, 3)) ∧ (decode cL_law 2670 = .ok (.iload 5, 2)) ∧ (decode cL_law 2672 = .ok (.ifCond .ne 15, 3)) ∧ (decode cL_law 2675 = .ok (.aload_n 3, 1)) ∧ (decode cL_law 2676 = .ok (.iconst 0, 1)) ∧ (decode cL_law 2677 = .ok (.laload, 1)) ∧ (decode cL_law 2678 = .ok (.iload 6, 2)) := by decide +kernel
theorem dL_law_2663 : decode cL_law 2663 = .ok (.iload 5, 2) := dG_law_171.1
theorem dL_law_2665 : decode cL_law 2665 = .ok (.if_icmp .eq 5, 3) := dG_law_171.2.1
theorem dL_law_2670 : decode cL_law 2670 = .ok (.iload 5, 2) := dG_law_171.2.2.1
theorem dL_law_2672 : decode cL_law 2672 = .ok (.ifCond .ne 15, 3) := dG_law_171.2.2.2.1
theorem dL_law_2675 : decode cL_law 2675 = .ok (.aload_n 3, 1) := dG_law_171.2.2.2.2.1
theorem dL_law_2676 : decode cL_law 2676 = .ok (.iconst 0, 1) := dG_law_171.2.2.2.2.2.1
theorem dL_law_2677 : decode cL_law 2677 = .ok (.laload, 1) := dG_law_171.2.2.2.2.2.2.1
theorem dL_law_2678 : decode cL_law 2678 = .ok (.iload 6, 2) := dG_law_171.2.2.2.2.2.2.2
set_option maxRecDepth 20000 in
theorem dG_law_172 : (decode cL_law 2680 = .ok (.i2l, 1)) ∧ (decode cL_law 2681 = .ok (.lcmp, 1)) ∧ (decode cL_law 2682 = .ok (.ifCond .eq 5, 3)) ∧ (decode cL_law 2687 = .ok (.goto 513, 3)) ∧ (decode cL_law 2690 = .ok (.aload_n 1, 1)) ∧ (decode cL_law 2691 = .ok (.aload_n 0, 1)) ∧ (decode cL_law 2692 = .ok (.iload 4, 2)) ∧ (decode cL_law 2694 = .ok (.iconst 1, 1)) := by decide +kernel
theorem dL_law_2680 : decode cL_law 2680 = .ok (.i2l, 1) := dG_law_172.1
theorem dL_law_2681 : decode cL_law 2681 = .ok (.lcmp, 1) := dG_law_172.2.1
theorem dL_law_2682 : decode cL_law 2682 = .ok (.ifCond .eq 5, 3) := dG_law_172.2.2.1
theorem dL_law_2687 : decode cL_law 2687 = .ok (.goto 513, 3) := dG_law_172.2.2.2.1
theorem dL_law_2690 : decode cL_law 2690 = .ok (.aload_n 1, 1) := dG_law_172.2.2.2.2.1
theorem dL_law_2691 : decode cL_law 2691 = .ok (.aload_n 0, 1) := dG_law_172.2.2.2.2.2.1
theorem dL_law_2692 : decode cL_law 2692 = .ok (.iload 4, 2) := dG_law_172.2.2.2.2.2.2.1
theorem dL_law_2694 : decode cL_law 2694 = .ok (.iconst 1, 1) := dG_law_172.2.2.2.2.2.2.2
set_option maxRecDepth 20000 in
theorem dG_law_173 : (decode cL_law 2695 = .ok (.iadd, 1)) ∧ (decode cL_law 2696 = .ok (.iaload, 1)) ∧ (decode cL_law 2697 = .ok (.aload_n 0, 1)) ∧ (decode cL_law 2698 = .ok (.iload 4, 2)) ∧ (decode cL_law 2700 = .ok (.iconst 2, 1)) ∧ (decode cL_law 2701 = .ok (.iadd, 1)) ∧ (decode cL_law 2702 = .ok (.iaload, 1)) ∧ (decode cL_law 2703 = .ok (.aload_n 0, 1)) := by decide +kernel
theorem dL_law_2695 : decode cL_law 2695 = .ok (.iadd, 1) := dG_law_173.1
theorem dL_law_2696 : decode cL_law 2696 = .ok (.iaload, 1) := dG_law_173.2.1
theorem dL_law_2697 : decode cL_law 2697 = .ok (.aload_n 0, 1) := dG_law_173.2.2.1
theorem dL_law_2698 : decode cL_law 2698 = .ok (.iload 4, 2) := dG_law_173.2.2.2.1
theorem dL_law_2700 : decode cL_law 2700 = .ok (.iconst 2, 1) := dG_law_173.2.2.2.2.1
theorem dL_law_2701 : decode cL_law 2701 = .ok (.iadd, 1) := dG_law_173.2.2.2.2.2.1
theorem dL_law_2702 : decode cL_law 2702 = .ok (.iaload, 1) := dG_law_173.2.2.2.2.2.2.1
theorem dL_law_2703 : decode cL_law 2703 = .ok (.aload_n 0, 1) := dG_law_173.2.2.2.2.2.2.2
set_option maxRecDepth 20000 in
theorem dG_law_174 : (decode cL_law 2704 = .ok (.iload 4, 2)) ∧ (decode cL_law 2706 = .ok (.iconst 3, 1)) ∧ (decode cL_law 2707 = .ok (.iadd, 1)) ∧ (decode cL_law 2708 = .ok (.iaload, 1)) ∧ (decode cL_law 2709 = .ok (.aload_n 3, 1)) ∧ (decode cL_law 2710 = .ok (.invokestatic 334, 3)) ∧ (decode cL_law 2713 = .ok (.istore 5, 2)) ∧ (decode cL_law 2715 = .ok (.aload_n 2, 1)) := by decide +kernel
theorem dL_law_2704 : decode cL_law 2704 = .ok (.iload 4, 2) := dG_law_174.1
theorem dL_law_2706 : decode cL_law 2706 = .ok (.iconst 3, 1) := dG_law_174.2.1
theorem dL_law_2707 : decode cL_law 2707 = .ok (.iadd, 1) := dG_law_174.2.2.1
theorem dL_law_2708 : decode cL_law 2708 = .ok (.iaload, 1) := dG_law_174.2.2.2.1
theorem dL_law_2709 : decode cL_law 2709 = .ok (.aload_n 3, 1) := dG_law_174.2.2.2.2.1
theorem dL_law_2710 : decode cL_law 2710 = .ok (.invokestatic 334, 3) := dG_law_174.2.2.2.2.2.1
theorem dL_law_2713 : decode cL_law 2713 = .ok (.istore 5, 2) := dG_law_174.2.2.2.2.2.2.1
theorem dL_law_2715 : decode cL_law 2715 = .ok (.aload_n 2, 1) := dG_law_174.2.2.2.2.2.2.2
set_option maxRecDepth 20000 in
theorem dG_law_175 : (decode cL_law 2716 = .ok (.aload_n 0, 1)) ∧ (decode cL_law 2717 = .ok (.iload 4, 2)) ∧ (decode cL_law 2719 = .ok (.iconst 1, 1)) ∧ (decode cL_law 2720 = .ok (.iadd, 1)) ∧ (decode cL_law 2721 = .ok (.iaload, 1)) ∧ (decode cL_law 2722 = .ok (.aload_n 0, 1)) ∧ (decode cL_law 2723 = .ok (.iload 4, 2)) ∧ (decode cL_law 2725 = .ok (.iconst 2, 1)) := by decide +kernel
theorem dL_law_2716 : decode cL_law 2716 = .ok (.aload_n 0, 1) := dG_law_175.1
theorem dL_law_2717 : decode cL_law 2717 = .ok (.iload 4, 2) := dG_law_175.2.1
theorem dL_law_2719 : decode cL_law 2719 = .ok (.iconst 1, 1) := dG_law_175.2.2.1
theorem dL_law_2720 : decode cL_law 2720 = .ok (.iadd, 1) := dG_law_175.2.2.2.1
theorem dL_law_2721 : decode cL_law 2721 = .ok (.iaload, 1) := dG_law_175.2.2.2.2.1
theorem dL_law_2722 : decode cL_law 2722 = .ok (.aload_n 0, 1) := dG_law_175.2.2.2.2.2.1
theorem dL_law_2723 : decode cL_law 2723 = .ok (.iload 4, 2) := dG_law_175.2.2.2.2.2.2.1
theorem dL_law_2725 : decode cL_law 2725 = .ok (.iconst 2, 1) := dG_law_175.2.2.2.2.2.2.2
set_option maxRecDepth 20000 in
theorem dG_law_176 : (decode cL_law 2726 = .ok (.iadd, 1)) ∧ (decode cL_law 2727 = .ok (.iaload, 1)) ∧ (decode cL_law 2728 = .ok (.aload_n 0, 1)) ∧ (decode cL_law 2729 = .ok (.iload 4, 2)) ∧ (decode cL_law 2731 = .ok (.iconst 3, 1)) ∧ (decode cL_law 2732 = .ok (.iadd, 1)) ∧ (decode cL_law 2733 = .ok (.iaload, 1)) ∧ (decode cL_law 2734 = .ok (.invokevirtual 336, 3)) := by decide +kernel
theorem dL_law_2726 : decode cL_law 2726 = .ok (.iadd, 1) := dG_law_176.1
theorem dL_law_2727 : decode cL_law 2727 = .ok (.iaload, 1) := dG_law_176.2.1
theorem dL_law_2728 : decode cL_law 2728 = .ok (.aload_n 0, 1) := dG_law_176.2.2.1
theorem dL_law_2729 : decode cL_law 2729 = .ok (.iload 4, 2) := dG_law_176.2.2.2.1
theorem dL_law_2731 : decode cL_law 2731 = .ok (.iconst 3, 1) := dG_law_176.2.2.2.2.1
theorem dL_law_2732 : decode cL_law 2732 = .ok (.iadd, 1) := dG_law_176.2.2.2.2.2.1
theorem dL_law_2733 : decode cL_law 2733 = .ok (.iaload, 1) := dG_law_176.2.2.2.2.2.2.1
theorem dL_law_2734 : decode cL_law 2734 = .ok (.invokevirtual 336, 3) := dG_law_176.2.2.2.2.2.2.2
set_option maxRecDepth 20000 in
theorem dG_law_177 : (decode cL_law 2737 = .ok (.istore 6, 2)) ∧ (decode cL_law 2739 = .ok (.aload_n 2, 1)) ∧ (decode cL_law 2740 = .ok (.invokevirtual 148, 3)) ∧ (decode cL_law 2743 = .ok (.iload 5, 2)) ∧ (decode cL_law 2745 = .ok (.if_icmp .eq 5, 3)) ∧ (decode cL_law 2750 = .ok (.iload 5, 2)) ∧ (decode cL_law 2752 = .ok (.ifCond .ne 15, 3)) ∧ (decode cL_law 2755 = .ok (.aload_n 3, 1)) := by decide +kernel
theorem dL_law_2737 : decode cL_law 2737 = .ok (.istore 6, 2) := dG_law_177.1
theorem dL_law_2739 : decode cL_law 2739 = .ok (.aload_n 2, 1) := dG_law_177.2.1
theorem dL_law_2740 : decode cL_law 2740 = .ok (.invokevirtual 148, 3) := dG_law_177.2.2.1
theorem dL_law_2743 : decode cL_law 2743 = .ok (.iload 5, 2) := dG_law_177.2.2.2.1
theorem dL_law_2745 : decode cL_law 2745 = .ok (.if_icmp .eq 5, 3) := dG_law_177.2.2.2.2.1
theorem dL_law_2750 : decode cL_law 2750 = .ok (.iload 5, 2) := dG_law_177.2.2.2.2.2.1
theorem dL_law_2752 : decode cL_law 2752 = .ok (.ifCond .ne 15, 3) := dG_law_177.2.2.2.2.2.2.1
theorem dL_law_2755 : decode cL_law 2755 = .ok (.aload_n 3, 1) := dG_law_177.2.2.2.2.2.2.2
set_option maxRecDepth 20000 in
theorem dG_law_178 : (decode cL_law 2756 = .ok (.iconst 0, 1)) ∧ (decode cL_law 2757 = .ok (.laload, 1)) ∧ (decode cL_law 2758 = .ok (.iload 6, 2)) ∧ (decode cL_law 2760 = .ok (.i2l, 1)) ∧ (decode cL_law 2761 = .ok (.lcmp, 1)) ∧ (decode cL_law 2762 = .ok (.ifCond .eq 5, 3)) ∧ (decode cL_law 2767 = .ok (.goto 433, 3)) ∧ (decode cL_law 2770 = .ok (.aload_n 1, 1)) := by decide +kernel
theorem dL_law_2756 : decode cL_law 2756 = .ok (.iconst 0, 1) := dG_law_178.1
theorem dL_law_2757 : decode cL_law 2757 = .ok (.laload, 1) := dG_law_178.2.1
theorem dL_law_2758 : decode cL_law 2758 = .ok (.iload 6, 2) := dG_law_178.2.2.1
theorem dL_law_2760 : decode cL_law 2760 = .ok (.i2l, 1) := dG_law_178.2.2.2.1
theorem dL_law_2761 : decode cL_law 2761 = .ok (.lcmp, 1) := dG_law_178.2.2.2.2.1
theorem dL_law_2762 : decode cL_law 2762 = .ok (.ifCond .eq 5, 3) := dG_law_178.2.2.2.2.2.1
theorem dL_law_2767 : decode cL_law 2767 = .ok (.goto 433, 3) := dG_law_178.2.2.2.2.2.2.1
theorem dL_law_2770 : decode cL_law 2770 = .ok (.aload_n 1, 1) := dG_law_178.2.2.2.2.2.2.2
set_option maxRecDepth 20000 in
theorem dG_law_179 : (decode cL_law 2771 = .ok (.aload_n 0, 1)) ∧ (decode cL_law 2772 = .ok (.iload 4, 2)) ∧ (decode cL_law 2774 = .ok (.iconst 1, 1)) ∧ (decode cL_law 2775 = .ok (.iadd, 1)) ∧ (decode cL_law 2776 = .ok (.iaload, 1)) ∧ (decode cL_law 2777 = .ok (.aload_n 0, 1)) ∧ (decode cL_law 2778 = .ok (.iload 4, 2)) ∧ (decode cL_law 2780 = .ok (.iconst 2, 1)) := by decide +kernel
theorem dL_law_2771 : decode cL_law 2771 = .ok (.aload_n 0, 1) := dG_law_179.1
theorem dL_law_2772 : decode cL_law 2772 = .ok (.iload 4, 2) := dG_law_179.2.1
theorem dL_law_2774 : decode cL_law 2774 = .ok (.iconst 1, 1) := dG_law_179.2.2.1
theorem dL_law_2775 : decode cL_law 2775 = .ok (.iadd, 1) := dG_law_179.2.2.2.1
theorem dL_law_2776 : decode cL_law 2776 = .ok (.iaload, 1) := dG_law_179.2.2.2.2.1
theorem dL_law_2777 : decode cL_law 2777 = .ok (.aload_n 0, 1) := dG_law_179.2.2.2.2.2.1
theorem dL_law_2778 : decode cL_law 2778 = .ok (.iload 4, 2) := dG_law_179.2.2.2.2.2.2.1
theorem dL_law_2780 : decode cL_law 2780 = .ok (.iconst 2, 1) := dG_law_179.2.2.2.2.2.2.2
set_option maxRecDepth 20000 in
theorem dG_law_180 : (decode cL_law 2781 = .ok (.iadd, 1)) ∧ (decode cL_law 2782 = .ok (.iaload, 1)) ∧ (decode cL_law 2783 = .ok (.aload_n 3, 1)) ∧ (decode cL_law 2784 = .ok (.invokestatic 337, 3)) ∧ (decode cL_law 2787 = .ok (.istore 5, 2)) ∧ (decode cL_law 2789 = .ok (.aload_n 2, 1)) ∧ (decode cL_law 2790 = .ok (.aload_n 0, 1)) ∧ (decode cL_law 2791 = .ok (.iload 4, 2)) := by decide +kernel
theorem dL_law_2781 : decode cL_law 2781 = .ok (.iadd, 1) := dG_law_180.1
theorem dL_law_2782 : decode cL_law 2782 = .ok (.iaload, 1) := dG_law_180.2.1
theorem dL_law_2783 : decode cL_law 2783 = .ok (.aload_n 3, 1) := dG_law_180.2.2.1
theorem dL_law_2784 : decode cL_law 2784 = .ok (.invokestatic 337, 3) := dG_law_180.2.2.2.1
theorem dL_law_2787 : decode cL_law 2787 = .ok (.istore 5, 2) := dG_law_180.2.2.2.2.1
theorem dL_law_2789 : decode cL_law 2789 = .ok (.aload_n 2, 1) := dG_law_180.2.2.2.2.2.1
theorem dL_law_2790 : decode cL_law 2790 = .ok (.aload_n 0, 1) := dG_law_180.2.2.2.2.2.2.1
theorem dL_law_2791 : decode cL_law 2791 = .ok (.iload 4, 2) := dG_law_180.2.2.2.2.2.2.2
set_option maxRecDepth 20000 in
theorem dG_law_181 : (decode cL_law 2793 = .ok (.iconst 1, 1)) ∧ (decode cL_law 2794 = .ok (.iadd, 1)) ∧ (decode cL_law 2795 = .ok (.iaload, 1)) ∧ (decode cL_law 2796 = .ok (.aload_n 0, 1)) ∧ (decode cL_law 2797 = .ok (.iload 4, 2)) ∧ (decode cL_law 2799 = .ok (.iconst 2, 1)) ∧ (decode cL_law 2800 = .ok (.iadd, 1)) ∧ (decode cL_law 2801 = .ok (.iaload, 1)) := by decide +kernel
theorem dL_law_2793 : decode cL_law 2793 = .ok (.iconst 1, 1) := dG_law_181.1
theorem dL_law_2794 : decode cL_law 2794 = .ok (.iadd, 1) := dG_law_181.2.1
theorem dL_law_2795 : decode cL_law 2795 = .ok (.iaload, 1) := dG_law_181.2.2.1
theorem dL_law_2796 : decode cL_law 2796 = .ok (.aload_n 0, 1) := dG_law_181.2.2.2.1
theorem dL_law_2797 : decode cL_law 2797 = .ok (.iload 4, 2) := dG_law_181.2.2.2.2.1
theorem dL_law_2799 : decode cL_law 2799 = .ok (.iconst 2, 1) := dG_law_181.2.2.2.2.2.1
theorem dL_law_2800 : decode cL_law 2800 = .ok (.iadd, 1) := dG_law_181.2.2.2.2.2.2.1
theorem dL_law_2801 : decode cL_law 2801 = .ok (.iaload, 1) := dG_law_181.2.2.2.2.2.2.2
set_option maxRecDepth 20000 in
theorem dG_law_182 : (decode cL_law 2802 = .ok (.invokevirtual 339, 3)) ∧ (decode cL_law 2805 = .ok (.istore 6, 2)) ∧ (decode cL_law 2807 = .ok (.aload_n 2, 1)) ∧ (decode cL_law 2808 = .ok (.invokevirtual 148, 3)) ∧ (decode cL_law 2811 = .ok (.iload 5, 2)) ∧ (decode cL_law 2813 = .ok (.if_icmp .eq 5, 3)) ∧ (decode cL_law 2818 = .ok (.iload 5, 2)) ∧ (decode cL_law 2820 = .ok (.ifCond .ne 15, 3)) := by decide +kernel
theorem dL_law_2802 : decode cL_law 2802 = .ok (.invokevirtual 339, 3) := dG_law_182.1
theorem dL_law_2805 : decode cL_law 2805 = .ok (.istore 6, 2) := dG_law_182.2.1
theorem dL_law_2807 : decode cL_law 2807 = .ok (.aload_n 2, 1) := dG_law_182.2.2.1
theorem dL_law_2808 : decode cL_law 2808 = .ok (.invokevirtual 148, 3) := dG_law_182.2.2.2.1
theorem dL_law_2811 : decode cL_law 2811 = .ok (.iload 5, 2) := dG_law_182.2.2.2.2.1
theorem dL_law_2813 : decode cL_law 2813 = .ok (.if_icmp .eq 5, 3) := dG_law_182.2.2.2.2.2.1
theorem dL_law_2818 : decode cL_law 2818 = .ok (.iload 5, 2) := dG_law_182.2.2.2.2.2.2.1
theorem dL_law_2820 : decode cL_law 2820 = .ok (.ifCond .ne 15, 3) := dG_law_182.2.2.2.2.2.2.2
set_option maxRecDepth 20000 in
theorem dG_law_183 : (decode cL_law 2823 = .ok (.aload_n 3, 1)) ∧ (decode cL_law 2824 = .ok (.iconst 0, 1)) ∧ (decode cL_law 2825 = .ok (.laload, 1)) ∧ (decode cL_law 2826 = .ok (.iload 6, 2)) ∧ (decode cL_law 2828 = .ok (.i2l, 1)) ∧ (decode cL_law 2829 = .ok (.lcmp, 1)) ∧ (decode cL_law 2830 = .ok (.ifCond .eq 5, 3)) ∧ (decode cL_law 2835 = .ok (.goto 365, 3)) := by decide +kernel
theorem dL_law_2823 : decode cL_law 2823 = .ok (.aload_n 3, 1) := dG_law_183.1
theorem dL_law_2824 : decode cL_law 2824 = .ok (.iconst 0, 1) := dG_law_183.2.1
theorem dL_law_2825 : decode cL_law 2825 = .ok (.laload, 1) := dG_law_183.2.2.1
theorem dL_law_2826 : decode cL_law 2826 = .ok (.iload 6, 2) := dG_law_183.2.2.2.1
theorem dL_law_2828 : decode cL_law 2828 = .ok (.i2l, 1) := dG_law_183.2.2.2.2.1
theorem dL_law_2829 : decode cL_law 2829 = .ok (.lcmp, 1) := dG_law_183.2.2.2.2.2.1
theorem dL_law_2830 : decode cL_law 2830 = .ok (.ifCond .eq 5, 3) := dG_law_183.2.2.2.2.2.2.1
theorem dL_law_2835 : decode cL_law 2835 = .ok (.goto 365, 3) := dG_law_183.2.2.2.2.2.2.2
set_option maxRecDepth 20000 in
theorem dG_law_184 : (decode cL_law 2838 = .ok (.aload_n 1, 1)) ∧ (decode cL_law 2839 = .ok (.aload_n 0, 1)) ∧ (decode cL_law 2840 = .ok (.iload 4, 2)) ∧ (decode cL_law 2842 = .ok (.iconst 1, 1)) ∧ (decode cL_law 2843 = .ok (.iadd, 1)) ∧ (decode cL_law 2844 = .ok (.iaload, 1)) ∧ (decode cL_law 2845 = .ok (.aload_n 3, 1)) ∧ (decode cL_law 2846 = .ok (.invokestatic 340, 3)) := by decide +kernel
theorem dL_law_2838 : decode cL_law 2838 = .ok (.aload_n 1, 1) := dG_law_184.1
theorem dL_law_2839 : decode cL_law 2839 = .ok (.aload_n 0, 1) := dG_law_184.2.1
theorem dL_law_2840 : decode cL_law 2840 = .ok (.iload 4, 2) := dG_law_184.2.2.1
theorem dL_law_2842 : decode cL_law 2842 = .ok (.iconst 1, 1) := dG_law_184.2.2.2.1
theorem dL_law_2843 : decode cL_law 2843 = .ok (.iadd, 1) := dG_law_184.2.2.2.2.1
theorem dL_law_2844 : decode cL_law 2844 = .ok (.iaload, 1) := dG_law_184.2.2.2.2.2.1
theorem dL_law_2845 : decode cL_law 2845 = .ok (.aload_n 3, 1) := dG_law_184.2.2.2.2.2.2.1
theorem dL_law_2846 : decode cL_law 2846 = .ok (.invokestatic 340, 3) := dG_law_184.2.2.2.2.2.2.2
set_option maxRecDepth 20000 in
theorem dG_law_185 : (decode cL_law 2849 = .ok (.istore 5, 2)) ∧ (decode cL_law 2851 = .ok (.aload_n 2, 1)) ∧ (decode cL_law 2852 = .ok (.aload_n 0, 1)) ∧ (decode cL_law 2853 = .ok (.iload 4, 2)) ∧ (decode cL_law 2855 = .ok (.iconst 1, 1)) ∧ (decode cL_law 2856 = .ok (.iadd, 1)) ∧ (decode cL_law 2857 = .ok (.iaload, 1)) ∧ (decode cL_law 2858 = .ok (.invokevirtual 342, 3)) := by decide +kernel
theorem dL_law_2849 : decode cL_law 2849 = .ok (.istore 5, 2) := dG_law_185.1
theorem dL_law_2851 : decode cL_law 2851 = .ok (.aload_n 2, 1) := dG_law_185.2.1
theorem dL_law_2852 : decode cL_law 2852 = .ok (.aload_n 0, 1) := dG_law_185.2.2.1
theorem dL_law_2853 : decode cL_law 2853 = .ok (.iload 4, 2) := dG_law_185.2.2.2.1
theorem dL_law_2855 : decode cL_law 2855 = .ok (.iconst 1, 1) := dG_law_185.2.2.2.2.1
theorem dL_law_2856 : decode cL_law 2856 = .ok (.iadd, 1) := dG_law_185.2.2.2.2.2.1
theorem dL_law_2857 : decode cL_law 2857 = .ok (.iaload, 1) := dG_law_185.2.2.2.2.2.2.1
theorem dL_law_2858 : decode cL_law 2858 = .ok (.invokevirtual 342, 3) := dG_law_185.2.2.2.2.2.2.2
set_option maxRecDepth 20000 in
theorem dG_law_186 : (decode cL_law 2861 = .ok (.istore 6, 2)) ∧ (decode cL_law 2863 = .ok (.aload_n 2, 1)) ∧ (decode cL_law 2864 = .ok (.invokevirtual 148, 3)) ∧ (decode cL_law 2867 = .ok (.iload 5, 2)) ∧ (decode cL_law 2869 = .ok (.if_icmp .eq 5, 3)) ∧ (decode cL_law 2874 = .ok (.iload 5, 2)) ∧ (decode cL_law 2876 = .ok (.ifCond .ne 15, 3)) ∧ (decode cL_law 2879 = .ok (.aload_n 3, 1)) := by decide +kernel
theorem dL_law_2861 : decode cL_law 2861 = .ok (.istore 6, 2) := dG_law_186.1
theorem dL_law_2863 : decode cL_law 2863 = .ok (.aload_n 2, 1) := dG_law_186.2.1
theorem dL_law_2864 : decode cL_law 2864 = .ok (.invokevirtual 148, 3) := dG_law_186.2.2.1
theorem dL_law_2867 : decode cL_law 2867 = .ok (.iload 5, 2) := dG_law_186.2.2.2.1
theorem dL_law_2869 : decode cL_law 2869 = .ok (.if_icmp .eq 5, 3) := dG_law_186.2.2.2.2.1
theorem dL_law_2874 : decode cL_law 2874 = .ok (.iload 5, 2) := dG_law_186.2.2.2.2.2.1
theorem dL_law_2876 : decode cL_law 2876 = .ok (.ifCond .ne 15, 3) := dG_law_186.2.2.2.2.2.2.1
theorem dL_law_2879 : decode cL_law 2879 = .ok (.aload_n 3, 1) := dG_law_186.2.2.2.2.2.2.2
set_option maxRecDepth 20000 in
theorem dG_law_187 : (decode cL_law 2880 = .ok (.iconst 0, 1)) ∧ (decode cL_law 2881 = .ok (.laload, 1)) ∧ (decode cL_law 2882 = .ok (.iload 6, 2)) ∧ (decode cL_law 2884 = .ok (.i2l, 1)) ∧ (decode cL_law 2885 = .ok (.lcmp, 1)) ∧ (decode cL_law 2886 = .ok (.ifCond .eq 5, 3)) ∧ (decode cL_law 2891 = .ok (.goto 309, 3)) ∧ (decode cL_law 2894 = .ok (.aload_n 1, 1)) := by decide +kernel
theorem dL_law_2880 : decode cL_law 2880 = .ok (.iconst 0, 1) := dG_law_187.1
theorem dL_law_2881 : decode cL_law 2881 = .ok (.laload, 1) := dG_law_187.2.1
theorem dL_law_2882 : decode cL_law 2882 = .ok (.iload 6, 2) := dG_law_187.2.2.1
theorem dL_law_2884 : decode cL_law 2884 = .ok (.i2l, 1) := dG_law_187.2.2.2.1
theorem dL_law_2885 : decode cL_law 2885 = .ok (.lcmp, 1) := dG_law_187.2.2.2.2.1
theorem dL_law_2886 : decode cL_law 2886 = .ok (.ifCond .eq 5, 3) := dG_law_187.2.2.2.2.2.1
theorem dL_law_2891 : decode cL_law 2891 = .ok (.goto 309, 3) := dG_law_187.2.2.2.2.2.2.1
theorem dL_law_2894 : decode cL_law 2894 = .ok (.aload_n 1, 1) := dG_law_187.2.2.2.2.2.2.2
set_option maxRecDepth 20000 in
theorem dG_law_188 : (decode cL_law 2895 = .ok (.aload_n 0, 1)) ∧ (decode cL_law 2896 = .ok (.iload 4, 2)) ∧ (decode cL_law 2898 = .ok (.iconst 1, 1)) ∧ (decode cL_law 2899 = .ok (.iadd, 1)) ∧ (decode cL_law 2900 = .ok (.iaload, 1)) ∧ (decode cL_law 2901 = .ok (.aload_n 3, 1)) ∧ (decode cL_law 2902 = .ok (.invokestatic 343, 3)) ∧ (decode cL_law 2905 = .ok (.istore 5, 2)) := by decide +kernel
theorem dL_law_2895 : decode cL_law 2895 = .ok (.aload_n 0, 1) := dG_law_188.1
theorem dL_law_2896 : decode cL_law 2896 = .ok (.iload 4, 2) := dG_law_188.2.1
theorem dL_law_2898 : decode cL_law 2898 = .ok (.iconst 1, 1) := dG_law_188.2.2.1
theorem dL_law_2899 : decode cL_law 2899 = .ok (.iadd, 1) := dG_law_188.2.2.2.1
theorem dL_law_2900 : decode cL_law 2900 = .ok (.iaload, 1) := dG_law_188.2.2.2.2.1
theorem dL_law_2901 : decode cL_law 2901 = .ok (.aload_n 3, 1) := dG_law_188.2.2.2.2.2.1
theorem dL_law_2902 : decode cL_law 2902 = .ok (.invokestatic 343, 3) := dG_law_188.2.2.2.2.2.2.1
theorem dL_law_2905 : decode cL_law 2905 = .ok (.istore 5, 2) := dG_law_188.2.2.2.2.2.2.2
set_option maxRecDepth 20000 in
theorem dG_law_189 : (decode cL_law 2907 = .ok (.aload_n 2, 1)) ∧ (decode cL_law 2908 = .ok (.aload_n 0, 1)) ∧ (decode cL_law 2909 = .ok (.iload 4, 2)) ∧ (decode cL_law 2911 = .ok (.iconst 1, 1)) ∧ (decode cL_law 2912 = .ok (.iadd, 1)) ∧ (decode cL_law 2913 = .ok (.iaload, 1)) ∧ (decode cL_law 2914 = .ok (.invokevirtual 345, 3)) ∧ (decode cL_law 2917 = .ok (.istore 6, 2)) := by decide +kernel
theorem dL_law_2907 : decode cL_law 2907 = .ok (.aload_n 2, 1) := dG_law_189.1
theorem dL_law_2908 : decode cL_law 2908 = .ok (.aload_n 0, 1) := dG_law_189.2.1
theorem dL_law_2909 : decode cL_law 2909 = .ok (.iload 4, 2) := dG_law_189.2.2.1
theorem dL_law_2911 : decode cL_law 2911 = .ok (.iconst 1, 1) := dG_law_189.2.2.2.1
theorem dL_law_2912 : decode cL_law 2912 = .ok (.iadd, 1) := dG_law_189.2.2.2.2.1
theorem dL_law_2913 : decode cL_law 2913 = .ok (.iaload, 1) := dG_law_189.2.2.2.2.2.1
theorem dL_law_2914 : decode cL_law 2914 = .ok (.invokevirtual 345, 3) := dG_law_189.2.2.2.2.2.2.1
theorem dL_law_2917 : decode cL_law 2917 = .ok (.istore 6, 2) := dG_law_189.2.2.2.2.2.2.2
set_option maxRecDepth 20000 in
theorem dG_law_190 : (decode cL_law 2919 = .ok (.aload_n 2, 1)) ∧ (decode cL_law 2920 = .ok (.invokevirtual 148, 3)) ∧ (decode cL_law 2923 = .ok (.iload 5, 2)) ∧ (decode cL_law 2925 = .ok (.if_icmp .eq 5, 3)) ∧ (decode cL_law 2930 = .ok (.iload 5, 2)) ∧ (decode cL_law 2932 = .ok (.ifCond .ne 15, 3)) ∧ (decode cL_law 2935 = .ok (.aload_n 3, 1)) ∧ (decode cL_law 2936 = .ok (.iconst 0, 1)) := by decide +kernel
theorem dL_law_2919 : decode cL_law 2919 = .ok (.aload_n 2, 1) := dG_law_190.1
theorem dL_law_2920 : decode cL_law 2920 = .ok (.invokevirtual 148, 3) := dG_law_190.2.1
theorem dL_law_2923 : decode cL_law 2923 = .ok (.iload 5, 2) := dG_law_190.2.2.1
theorem dL_law_2925 : decode cL_law 2925 = .ok (.if_icmp .eq 5, 3) := dG_law_190.2.2.2.1
theorem dL_law_2930 : decode cL_law 2930 = .ok (.iload 5, 2) := dG_law_190.2.2.2.2.1
theorem dL_law_2932 : decode cL_law 2932 = .ok (.ifCond .ne 15, 3) := dG_law_190.2.2.2.2.2.1
theorem dL_law_2935 : decode cL_law 2935 = .ok (.aload_n 3, 1) := dG_law_190.2.2.2.2.2.2.1
theorem dL_law_2936 : decode cL_law 2936 = .ok (.iconst 0, 1) := dG_law_190.2.2.2.2.2.2.2
set_option maxRecDepth 20000 in
theorem dG_law_191 : (decode cL_law 2937 = .ok (.laload, 1)) ∧ (decode cL_law 2938 = .ok (.iload 6, 2)) ∧ (decode cL_law 2940 = .ok (.i2l, 1)) ∧ (decode cL_law 2941 = .ok (.lcmp, 1)) ∧ (decode cL_law 2942 = .ok (.ifCond .eq 5, 3)) ∧ (decode cL_law 2947 = .ok (.goto 253, 3)) ∧ (decode cL_law 2950 = .ok (.aload_n 1, 1)) ∧ (decode cL_law 2951 = .ok (.aload_n 0, 1)) := by decide +kernel
theorem dL_law_2937 : decode cL_law 2937 = .ok (.laload, 1) := dG_law_191.1
theorem dL_law_2938 : decode cL_law 2938 = .ok (.iload 6, 2) := dG_law_191.2.1
theorem dL_law_2940 : decode cL_law 2940 = .ok (.i2l, 1) := dG_law_191.2.2.1
theorem dL_law_2941 : decode cL_law 2941 = .ok (.lcmp, 1) := dG_law_191.2.2.2.1
theorem dL_law_2942 : decode cL_law 2942 = .ok (.ifCond .eq 5, 3) := dG_law_191.2.2.2.2.1
theorem dL_law_2947 : decode cL_law 2947 = .ok (.goto 253, 3) := dG_law_191.2.2.2.2.2.1
theorem dL_law_2950 : decode cL_law 2950 = .ok (.aload_n 1, 1) := dG_law_191.2.2.2.2.2.2.1
theorem dL_law_2951 : decode cL_law 2951 = .ok (.aload_n 0, 1) := dG_law_191.2.2.2.2.2.2.2
set_option maxRecDepth 20000 in
theorem dG_law_192 : (decode cL_law 2952 = .ok (.iload 4, 2)) ∧ (decode cL_law 2954 = .ok (.iconst 1, 1)) ∧ (decode cL_law 2955 = .ok (.iadd, 1)) ∧ (decode cL_law 2956 = .ok (.iaload, 1)) ∧ (decode cL_law 2957 = .ok (.aload_n 3, 1)) ∧ (decode cL_law 2958 = .ok (.invokestatic 346, 3)) ∧ (decode cL_law 2961 = .ok (.istore 5, 2)) ∧ (decode cL_law 2963 = .ok (.aload_n 2, 1)) := by decide +kernel
theorem dL_law_2952 : decode cL_law 2952 = .ok (.iload 4, 2) := dG_law_192.1
theorem dL_law_2954 : decode cL_law 2954 = .ok (.iconst 1, 1) := dG_law_192.2.1
theorem dL_law_2955 : decode cL_law 2955 = .ok (.iadd, 1) := dG_law_192.2.2.1
theorem dL_law_2956 : decode cL_law 2956 = .ok (.iaload, 1) := dG_law_192.2.2.2.1
theorem dL_law_2957 : decode cL_law 2957 = .ok (.aload_n 3, 1) := dG_law_192.2.2.2.2.1
theorem dL_law_2958 : decode cL_law 2958 = .ok (.invokestatic 346, 3) := dG_law_192.2.2.2.2.2.1
theorem dL_law_2961 : decode cL_law 2961 = .ok (.istore 5, 2) := dG_law_192.2.2.2.2.2.2.1
theorem dL_law_2963 : decode cL_law 2963 = .ok (.aload_n 2, 1) := dG_law_192.2.2.2.2.2.2.2
set_option maxRecDepth 20000 in
theorem dG_law_193 : (decode cL_law 2964 = .ok (.aload_n 0, 1)) ∧ (decode cL_law 2965 = .ok (.iload 4, 2)) ∧ (decode cL_law 2967 = .ok (.iconst 1, 1)) ∧ (decode cL_law 2968 = .ok (.iadd, 1)) ∧ (decode cL_law 2969 = .ok (.iaload, 1)) ∧ (decode cL_law 2970 = .ok (.invokevirtual 348, 3)) ∧ (decode cL_law 2973 = .ok (.istore 6, 2)) ∧ (decode cL_law 2975 = .ok (.aload_n 2, 1)) := by decide +kernel
theorem dL_law_2964 : decode cL_law 2964 = .ok (.aload_n 0, 1) := dG_law_193.1
theorem dL_law_2965 : decode cL_law 2965 = .ok (.iload 4, 2) := dG_law_193.2.1
theorem dL_law_2967 : decode cL_law 2967 = .ok (.iconst 1, 1) := dG_law_193.2.2.1
theorem dL_law_2968 : decode cL_law 2968 = .ok (.iadd, 1) := dG_law_193.2.2.2.1
theorem dL_law_2969 : decode cL_law 2969 = .ok (.iaload, 1) := dG_law_193.2.2.2.2.1
theorem dL_law_2970 : decode cL_law 2970 = .ok (.invokevirtual 348, 3) := dG_law_193.2.2.2.2.2.1
theorem dL_law_2973 : decode cL_law 2973 = .ok (.istore 6, 2) := dG_law_193.2.2.2.2.2.2.1
theorem dL_law_2975 : decode cL_law 2975 = .ok (.aload_n 2, 1) := dG_law_193.2.2.2.2.2.2.2
set_option maxRecDepth 20000 in
theorem dG_law_194 : (decode cL_law 2976 = .ok (.invokevirtual 148, 3)) ∧ (decode cL_law 2979 = .ok (.iload 5, 2)) ∧ (decode cL_law 2981 = .ok (.if_icmp .eq 5, 3)) ∧ (decode cL_law 2986 = .ok (.iload 5, 2)) ∧ (decode cL_law 2988 = .ok (.ifCond .ne 15, 3)) ∧ (decode cL_law 2991 = .ok (.aload_n 3, 1)) ∧ (decode cL_law 2992 = .ok (.iconst 0, 1)) ∧ (decode cL_law 2993 = .ok (.laload, 1)) := by decide +kernel
theorem dL_law_2976 : decode cL_law 2976 = .ok (.invokevirtual 148, 3) := dG_law_194.1
theorem dL_law_2979 : decode cL_law 2979 = .ok (.iload 5, 2) := dG_law_194.2.1
theorem dL_law_2981 : decode cL_law 2981 = .ok (.if_icmp .eq 5, 3) := dG_law_194.2.2.1
theorem dL_law_2986 : decode cL_law 2986 = .ok (.iload 5, 2) := dG_law_194.2.2.2.1
theorem dL_law_2988 : decode cL_law 2988 = .ok (.ifCond .ne 15, 3) := dG_law_194.2.2.2.2.1
theorem dL_law_2991 : decode cL_law 2991 = .ok (.aload_n 3, 1) := dG_law_194.2.2.2.2.2.1
theorem dL_law_2992 : decode cL_law 2992 = .ok (.iconst 0, 1) := dG_law_194.2.2.2.2.2.2.1
theorem dL_law_2993 : decode cL_law 2993 = .ok (.laload, 1) := dG_law_194.2.2.2.2.2.2.2
set_option maxRecDepth 20000 in
theorem dG_law_195 : (decode cL_law 2994 = .ok (.iload 6, 2)) ∧ (decode cL_law 2996 = .ok (.i2l, 1)) ∧ (decode cL_law 2997 = .ok (.lcmp, 1)) ∧ (decode cL_law 2998 = .ok (.ifCond .eq 5, 3)) ∧ (decode cL_law 3003 = .ok (.goto 197, 3)) ∧ (decode cL_law 3006 = .ok (.aload_n 1, 1)) ∧ (decode cL_law 3007 = .ok (.aload_n 0, 1)) ∧ (decode cL_law 3008 = .ok (.iload 4, 2)) := by decide +kernel
theorem dL_law_2994 : decode cL_law 2994 = .ok (.iload 6, 2) := dG_law_195.1
theorem dL_law_2996 : decode cL_law 2996 = .ok (.i2l, 1) := dG_law_195.2.1
theorem dL_law_2997 : decode cL_law 2997 = .ok (.lcmp, 1) := dG_law_195.2.2.1
theorem dL_law_2998 : decode cL_law 2998 = .ok (.ifCond .eq 5, 3) := dG_law_195.2.2.2.1
theorem dL_law_3003 : decode cL_law 3003 = .ok (.goto 197, 3) := dG_law_195.2.2.2.2.1
theorem dL_law_3006 : decode cL_law 3006 = .ok (.aload_n 1, 1) := dG_law_195.2.2.2.2.2.1
theorem dL_law_3007 : decode cL_law 3007 = .ok (.aload_n 0, 1) := dG_law_195.2.2.2.2.2.2.1
theorem dL_law_3008 : decode cL_law 3008 = .ok (.iload 4, 2) := dG_law_195.2.2.2.2.2.2.2
set_option maxRecDepth 20000 in
theorem dG_law_196 : (decode cL_law 3010 = .ok (.iconst 1, 1)) ∧ (decode cL_law 3011 = .ok (.iadd, 1)) ∧ (decode cL_law 3012 = .ok (.iaload, 1)) ∧ (decode cL_law 3013 = .ok (.invokevirtual 349, 3)) ∧ (decode cL_law 3016 = .ok (.aload_n 2, 1)) ∧ (decode cL_law 3017 = .ok (.aload_n 0, 1)) ∧ (decode cL_law 3018 = .ok (.iload 4, 2)) ∧ (decode cL_law 3020 = .ok (.iconst 1, 1)) := by decide +kernel
theorem dL_law_3010 : decode cL_law 3010 = .ok (.iconst 1, 1) := dG_law_196.1
theorem dL_law_3011 : decode cL_law 3011 = .ok (.iadd, 1) := dG_law_196.2.1
theorem dL_law_3012 : decode cL_law 3012 = .ok (.iaload, 1) := dG_law_196.2.2.1
theorem dL_law_3013 : decode cL_law 3013 = .ok (.invokevirtual 349, 3) := dG_law_196.2.2.2.1
theorem dL_law_3016 : decode cL_law 3016 = .ok (.aload_n 2, 1) := dG_law_196.2.2.2.2.1
theorem dL_law_3017 : decode cL_law 3017 = .ok (.aload_n 0, 1) := dG_law_196.2.2.2.2.2.1
theorem dL_law_3018 : decode cL_law 3018 = .ok (.iload 4, 2) := dG_law_196.2.2.2.2.2.2.1
theorem dL_law_3020 : decode cL_law 3020 = .ok (.iconst 1, 1) := dG_law_196.2.2.2.2.2.2.2
set_option maxRecDepth 20000 in
theorem dG_law_197 : (decode cL_law 3021 = .ok (.iadd, 1)) ∧ (decode cL_law 3022 = .ok (.iaload, 1)) ∧ (decode cL_law 3023 = .ok (.invokevirtual 352, 3)) ∧ (decode cL_law 3026 = .ok (.if_icmp .eq 174, 3)) ∧ (decode cL_law 3031 = .ok (.aload_n 1, 1)) ∧ (decode cL_law 3032 = .ok (.invokevirtual 353, 3)) ∧ (decode cL_law 3035 = .ok (.aload_n 2, 1)) ∧ (decode cL_law 3036 = .ok (.invokevirtual 356, 3)) := by decide +kernel
theorem dL_law_3021 : decode cL_law 3021 = .ok (.iadd, 1) := dG_law_197.1
theorem dL_law_3022 : decode cL_law 3022 = .ok (.iaload, 1) := dG_law_197.2.1
theorem dL_law_3023 : decode cL_law 3023 = .ok (.invokevirtual 352, 3) := dG_law_197.2.2.1
theorem dL_law_3026 : decode cL_law 3026 = .ok (.if_icmp .eq 174, 3) := dG_law_197.2.2.2.1
theorem dL_law_3031 : decode cL_law 3031 = .ok (.aload_n 1, 1) := dG_law_197.2.2.2.2.1
theorem dL_law_3032 : decode cL_law 3032 = .ok (.invokevirtual 353, 3) := dG_law_197.2.2.2.2.2.1
theorem dL_law_3035 : decode cL_law 3035 = .ok (.aload_n 2, 1) := dG_law_197.2.2.2.2.2.2.1
theorem dL_law_3036 : decode cL_law 3036 = .ok (.invokevirtual 356, 3) := dG_law_197.2.2.2.2.2.2.2
set_option maxRecDepth 20000 in
theorem dG_law_198 : (decode cL_law 3039 = .ok (.if_icmp .eq 161, 3)) ∧ (decode cL_law 3044 = .ok (.aload_n 1, 1)) ∧ (decode cL_law 3045 = .ok (.aload_n 3, 1)) ∧ (decode cL_law 3046 = .ok (.invokestatic 357, 3)) ∧ (decode cL_law 3049 = .ok (.istore 5, 2)) ∧ (decode cL_law 3051 = .ok (.aload_n 2, 1)) ∧ (decode cL_law 3052 = .ok (.invokevirtual 360, 3)) ∧ (decode cL_law 3055 = .ok (.istore 6, 2)) := by decide +kernel
theorem dL_law_3039 : decode cL_law 3039 = .ok (.if_icmp .eq 161, 3) := dG_law_198.1
theorem dL_law_3044 : decode cL_law 3044 = .ok (.aload_n 1, 1) := dG_law_198.2.1
theorem dL_law_3045 : decode cL_law 3045 = .ok (.aload_n 3, 1) := dG_law_198.2.2.1
theorem dL_law_3046 : decode cL_law 3046 = .ok (.invokestatic 357, 3) := dG_law_198.2.2.2.1
theorem dL_law_3049 : decode cL_law 3049 = .ok (.istore 5, 2) := dG_law_198.2.2.2.2.1
theorem dL_law_3051 : decode cL_law 3051 = .ok (.aload_n 2, 1) := dG_law_198.2.2.2.2.2.1
theorem dL_law_3052 : decode cL_law 3052 = .ok (.invokevirtual 360, 3) := dG_law_198.2.2.2.2.2.2.1
theorem dL_law_3055 : decode cL_law 3055 = .ok (.istore 6, 2) := dG_law_198.2.2.2.2.2.2.2
set_option maxRecDepth 20000 in
theorem dG_law_199 : (decode cL_law 3057 = .ok (.aload_n 2, 1)) ∧ (decode cL_law 3058 = .ok (.invokevirtual 148, 3)) ∧ (decode cL_law 3061 = .ok (.iload 5, 2)) ∧ (decode cL_law 3063 = .ok (.if_icmp .eq 5, 3)) ∧ (decode cL_law 3068 = .ok (.iload 5, 2)) ∧ (decode cL_law 3070 = .ok (.ifCond .ne 15, 3)) ∧ (decode cL_law 3073 = .ok (.aload_n 3, 1)) ∧ (decode cL_law 3074 = .ok (.iconst 0, 1)) := by decide +kernel
theorem dL_law_3057 : decode cL_law 3057 = .ok (.aload_n 2, 1) := dG_law_199.1
theorem dL_law_3058 : decode cL_law 3058 = .ok (.invokevirtual 148, 3) := dG_law_199.2.1
theorem dL_law_3061 : decode cL_law 3061 = .ok (.iload 5, 2) := dG_law_199.2.2.1
theorem dL_law_3063 : decode cL_law 3063 = .ok (.if_icmp .eq 5, 3) := dG_law_199.2.2.2.1
theorem dL_law_3068 : decode cL_law 3068 = .ok (.iload 5, 2) := dG_law_199.2.2.2.2.1
theorem dL_law_3070 : decode cL_law 3070 = .ok (.ifCond .ne 15, 3) := dG_law_199.2.2.2.2.2.1
theorem dL_law_3073 : decode cL_law 3073 = .ok (.aload_n 3, 1) := dG_law_199.2.2.2.2.2.2.1
theorem dL_law_3074 : decode cL_law 3074 = .ok (.iconst 0, 1) := dG_law_199.2.2.2.2.2.2.2
set_option maxRecDepth 20000 in
theorem dG_law_200 : (decode cL_law 3075 = .ok (.laload, 1)) ∧ (decode cL_law 3076 = .ok (.iload 6, 2)) ∧ (decode cL_law 3078 = .ok (.i2l, 1)) ∧ (decode cL_law 3079 = .ok (.lcmp, 1)) ∧ (decode cL_law 3080 = .ok (.ifCond .eq 5, 3)) ∧ (decode cL_law 3085 = .ok (.goto 115, 3)) ∧ (decode cL_law 3088 = .ok (.aload_n 1, 1)) ∧ (decode cL_law 3089 = .ok (.aload_n 0, 1)) := by decide +kernel
theorem dL_law_3075 : decode cL_law 3075 = .ok (.laload, 1) := dG_law_200.1
theorem dL_law_3076 : decode cL_law 3076 = .ok (.iload 6, 2) := dG_law_200.2.1
theorem dL_law_3078 : decode cL_law 3078 = .ok (.i2l, 1) := dG_law_200.2.2.1
theorem dL_law_3079 : decode cL_law 3079 = .ok (.lcmp, 1) := dG_law_200.2.2.2.1
theorem dL_law_3080 : decode cL_law 3080 = .ok (.ifCond .eq 5, 3) := dG_law_200.2.2.2.2.1
theorem dL_law_3085 : decode cL_law 3085 = .ok (.goto 115, 3) := dG_law_200.2.2.2.2.2.1
theorem dL_law_3088 : decode cL_law 3088 = .ok (.aload_n 1, 1) := dG_law_200.2.2.2.2.2.2.1
theorem dL_law_3089 : decode cL_law 3089 = .ok (.aload_n 0, 1) := dG_law_200.2.2.2.2.2.2.2
set_option maxRecDepth 20000 in
theorem dG_law_201 : (decode cL_law 3090 = .ok (.iload 4, 2)) ∧ (decode cL_law 3092 = .ok (.iconst 1, 1)) ∧ (decode cL_law 3093 = .ok (.iadd, 1)) ∧ (decode cL_law 3094 = .ok (.iaload, 1)) ∧ (decode cL_law 3095 = .ok (.aload_n 3, 1)) ∧ (decode cL_law 3096 = .ok (.invokestatic 361, 3)) ∧ (decode cL_law 3099 = .ok (.istore 5, 2)) ∧ (decode cL_law 3101 = .ok (.aload_n 2, 1)) := by decide +kernel
theorem dL_law_3090 : decode cL_law 3090 = .ok (.iload 4, 2) := dG_law_201.1
theorem dL_law_3092 : decode cL_law 3092 = .ok (.iconst 1, 1) := dG_law_201.2.1
theorem dL_law_3093 : decode cL_law 3093 = .ok (.iadd, 1) := dG_law_201.2.2.1
theorem dL_law_3094 : decode cL_law 3094 = .ok (.iaload, 1) := dG_law_201.2.2.2.1
theorem dL_law_3095 : decode cL_law 3095 = .ok (.aload_n 3, 1) := dG_law_201.2.2.2.2.1
theorem dL_law_3096 : decode cL_law 3096 = .ok (.invokestatic 361, 3) := dG_law_201.2.2.2.2.2.1
theorem dL_law_3099 : decode cL_law 3099 = .ok (.istore 5, 2) := dG_law_201.2.2.2.2.2.2.1
theorem dL_law_3101 : decode cL_law 3101 = .ok (.aload_n 2, 1) := dG_law_201.2.2.2.2.2.2.2
set_option maxRecDepth 20000 in
theorem dG_law_202 : (decode cL_law 3102 = .ok (.aload_n 0, 1)) ∧ (decode cL_law 3103 = .ok (.iload 4, 2)) ∧ (decode cL_law 3105 = .ok (.iconst 1, 1)) ∧ (decode cL_law 3106 = .ok (.iadd, 1)) ∧ (decode cL_law 3107 = .ok (.iaload, 1)) ∧ (decode cL_law 3108 = .ok (.invokevirtual 363, 3)) ∧ (decode cL_law 3111 = .ok (.istore 6, 2)) ∧ (decode cL_law 3113 = .ok (.aload_n 2, 1)) := by decide +kernel
theorem dL_law_3102 : decode cL_law 3102 = .ok (.aload_n 0, 1) := dG_law_202.1
theorem dL_law_3103 : decode cL_law 3103 = .ok (.iload 4, 2) := dG_law_202.2.1
theorem dL_law_3105 : decode cL_law 3105 = .ok (.iconst 1, 1) := dG_law_202.2.2.1
theorem dL_law_3106 : decode cL_law 3106 = .ok (.iadd, 1) := dG_law_202.2.2.2.1
theorem dL_law_3107 : decode cL_law 3107 = .ok (.iaload, 1) := dG_law_202.2.2.2.2.1
theorem dL_law_3108 : decode cL_law 3108 = .ok (.invokevirtual 363, 3) := dG_law_202.2.2.2.2.2.1
theorem dL_law_3111 : decode cL_law 3111 = .ok (.istore 6, 2) := dG_law_202.2.2.2.2.2.2.1
theorem dL_law_3113 : decode cL_law 3113 = .ok (.aload_n 2, 1) := dG_law_202.2.2.2.2.2.2.2
set_option maxRecDepth 20000 in
theorem dG_law_203 : (decode cL_law 3114 = .ok (.invokevirtual 148, 3)) ∧ (decode cL_law 3117 = .ok (.iload 5, 2)) ∧ (decode cL_law 3119 = .ok (.if_icmp .eq 5, 3)) ∧ (decode cL_law 3124 = .ok (.iload 5, 2)) ∧ (decode cL_law 3126 = .ok (.ifCond .ne 15, 3)) ∧ (decode cL_law 3129 = .ok (.aload_n 3, 1)) ∧ (decode cL_law 3130 = .ok (.iconst 0, 1)) ∧ (decode cL_law 3131 = .ok (.laload, 1)) := by decide +kernel
theorem dL_law_3114 : decode cL_law 3114 = .ok (.invokevirtual 148, 3) := dG_law_203.1
theorem dL_law_3117 : decode cL_law 3117 = .ok (.iload 5, 2) := dG_law_203.2.1
theorem dL_law_3119 : decode cL_law 3119 = .ok (.if_icmp .eq 5, 3) := dG_law_203.2.2.1
theorem dL_law_3124 : decode cL_law 3124 = .ok (.iload 5, 2) := dG_law_203.2.2.2.1
theorem dL_law_3126 : decode cL_law 3126 = .ok (.ifCond .ne 15, 3) := dG_law_203.2.2.2.2.1
theorem dL_law_3129 : decode cL_law 3129 = .ok (.aload_n 3, 1) := dG_law_203.2.2.2.2.2.1
theorem dL_law_3130 : decode cL_law 3130 = .ok (.iconst 0, 1) := dG_law_203.2.2.2.2.2.2.1
theorem dL_law_3131 : decode cL_law 3131 = .ok (.laload, 1) := dG_law_203.2.2.2.2.2.2.2
set_option maxRecDepth 20000 in
theorem dG_law_204 : (decode cL_law 3132 = .ok (.iload 6, 2)) ∧ (decode cL_law 3134 = .ok (.i2l, 1)) ∧ (decode cL_law 3135 = .ok (.lcmp, 1)) ∧ (decode cL_law 3136 = .ok (.ifCond .eq 5, 3)) ∧ (decode cL_law 3141 = .ok (.goto 59, 3)) ∧ (decode cL_law 3144 = .ok (.aload_n 1, 1)) ∧ (decode cL_law 3145 = .ok (.aload_n 0, 1)) ∧ (decode cL_law 3146 = .ok (.iload 4, 2)) := by decide +kernel
theorem dL_law_3132 : decode cL_law 3132 = .ok (.iload 6, 2) := dG_law_204.1
theorem dL_law_3134 : decode cL_law 3134 = .ok (.i2l, 1) := dG_law_204.2.1
theorem dL_law_3135 : decode cL_law 3135 = .ok (.lcmp, 1) := dG_law_204.2.2.1
theorem dL_law_3136 : decode cL_law 3136 = .ok (.ifCond .eq 5, 3) := dG_law_204.2.2.2.1
theorem dL_law_3141 : decode cL_law 3141 = .ok (.goto 59, 3) := dG_law_204.2.2.2.2.1
theorem dL_law_3144 : decode cL_law 3144 = .ok (.aload_n 1, 1) := dG_law_204.2.2.2.2.2.1
theorem dL_law_3145 : decode cL_law 3145 = .ok (.aload_n 0, 1) := dG_law_204.2.2.2.2.2.2.1
theorem dL_law_3146 : decode cL_law 3146 = .ok (.iload 4, 2) := dG_law_204.2.2.2.2.2.2.2
set_option maxRecDepth 20000 in
theorem dG_law_205 : (decode cL_law 3148 = .ok (.iconst 1, 1)) ∧ (decode cL_law 3149 = .ok (.iadd, 1)) ∧ (decode cL_law 3150 = .ok (.iaload, 1)) ∧ (decode cL_law 3151 = .ok (.aload_n 3, 1)) ∧ (decode cL_law 3152 = .ok (.invokestatic 364, 3)) ∧ (decode cL_law 3155 = .ok (.istore 5, 2)) ∧ (decode cL_law 3157 = .ok (.aload_n 2, 1)) ∧ (decode cL_law 3158 = .ok (.aload_n 0, 1)) := by decide +kernel
theorem dL_law_3148 : decode cL_law 3148 = .ok (.iconst 1, 1) := dG_law_205.1
theorem dL_law_3149 : decode cL_law 3149 = .ok (.iadd, 1) := dG_law_205.2.1
theorem dL_law_3150 : decode cL_law 3150 = .ok (.iaload, 1) := dG_law_205.2.2.1
theorem dL_law_3151 : decode cL_law 3151 = .ok (.aload_n 3, 1) := dG_law_205.2.2.2.1
theorem dL_law_3152 : decode cL_law 3152 = .ok (.invokestatic 364, 3) := dG_law_205.2.2.2.2.1
theorem dL_law_3155 : decode cL_law 3155 = .ok (.istore 5, 2) := dG_law_205.2.2.2.2.2.1
theorem dL_law_3157 : decode cL_law 3157 = .ok (.aload_n 2, 1) := dG_law_205.2.2.2.2.2.2.1
theorem dL_law_3158 : decode cL_law 3158 = .ok (.aload_n 0, 1) := dG_law_205.2.2.2.2.2.2.2
set_option maxRecDepth 20000 in
theorem dG_law_206 : (decode cL_law 3159 = .ok (.iload 4, 2)) ∧ (decode cL_law 3161 = .ok (.iconst 1, 1)) ∧ (decode cL_law 3162 = .ok (.iadd, 1)) ∧ (decode cL_law 3163 = .ok (.iaload, 1)) ∧ (decode cL_law 3164 = .ok (.invokevirtual 366, 3)) ∧ (decode cL_law 3167 = .ok (.istore 6, 2)) ∧ (decode cL_law 3169 = .ok (.aload_n 2, 1)) ∧ (decode cL_law 3170 = .ok (.invokevirtual 148, 3)) := by decide +kernel
theorem dL_law_3159 : decode cL_law 3159 = .ok (.iload 4, 2) := dG_law_206.1
theorem dL_law_3161 : decode cL_law 3161 = .ok (.iconst 1, 1) := dG_law_206.2.1
theorem dL_law_3162 : decode cL_law 3162 = .ok (.iadd, 1) := dG_law_206.2.2.1
theorem dL_law_3163 : decode cL_law 3163 = .ok (.iaload, 1) := dG_law_206.2.2.2.1
theorem dL_law_3164 : decode cL_law 3164 = .ok (.invokevirtual 366, 3) := dG_law_206.2.2.2.2.1
theorem dL_law_3167 : decode cL_law 3167 = .ok (.istore 6, 2) := dG_law_206.2.2.2.2.2.1
theorem dL_law_3169 : decode cL_law 3169 = .ok (.aload_n 2, 1) := dG_law_206.2.2.2.2.2.2.1
theorem dL_law_3170 : decode cL_law 3170 = .ok (.invokevirtual 148, 3) := dG_law_206.2.2.2.2.2.2.2
set_option maxRecDepth 20000 in
theorem dG_law_207 : (decode cL_law 3173 = .ok (.iload 5, 2)) ∧ (decode cL_law 3175 = .ok (.if_icmp .eq 5, 3)) ∧ (decode cL_law 3180 = .ok (.iload 5, 2)) ∧ (decode cL_law 3182 = .ok (.ifCond .ne 15, 3)) ∧ (decode cL_law 3185 = .ok (.aload_n 3, 1)) ∧ (decode cL_law 3186 = .ok (.iconst 0, 1)) ∧ (decode cL_law 3187 = .ok (.laload, 1)) ∧ (decode cL_law 3188 = .ok (.iload 6, 2)) := by decide +kernel
theorem dL_law_3173 : decode cL_law 3173 = .ok (.iload 5, 2) := dG_law_207.1
theorem dL_law_3175 : decode cL_law 3175 = .ok (.if_icmp .eq 5, 3) := dG_law_207.2.1
theorem dL_law_3180 : decode cL_law 3180 = .ok (.iload 5, 2) := dG_law_207.2.2.1
theorem dL_law_3182 : decode cL_law 3182 = .ok (.ifCond .ne 15, 3) := dG_law_207.2.2.2.1
theorem dL_law_3185 : decode cL_law 3185 = .ok (.aload_n 3, 1) := dG_law_207.2.2.2.2.1
theorem dL_law_3186 : decode cL_law 3186 = .ok (.iconst 0, 1) := dG_law_207.2.2.2.2.2.1
theorem dL_law_3187 : decode cL_law 3187 = .ok (.laload, 1) := dG_law_207.2.2.2.2.2.2.1
theorem dL_law_3188 : decode cL_law 3188 = .ok (.iload 6, 2) := dG_law_207.2.2.2.2.2.2.2
set_option maxRecDepth 20000 in
theorem dG_law_208 : (decode cL_law 3190 = .ok (.i2l, 1)) ∧ (decode cL_law 3191 = .ok (.lcmp, 1)) ∧ (decode cL_law 3192 = .ok (.ifCond .eq 5, 3)) ∧ (decode cL_law 3197 = .ok (.goto 3, 3)) ∧ (decode cL_law 3200 = .ok (.iinc 4 6, 3)) ∧ (decode cL_law 3203 = .ok (.goto (-3180), 3)) ∧ (decode cL_law 3206 = .ok (.iconst 1, 1)) ∧ (decode cL_law 3207 = .ok (.ireturn, 1)) := by decide +kernel
theorem dL_law_3190 : decode cL_law 3190 = .ok (.i2l, 1) := dG_law_208.1
theorem dL_law_3191 : decode cL_law 3191 = .ok (.lcmp, 1) := dG_law_208.2.1
theorem dL_law_3192 : decode cL_law 3192 = .ok (.ifCond .eq 5, 3) := dG_law_208.2.2.1
theorem dL_law_3197 : decode cL_law 3197 = .ok (.goto 3, 3) := dG_law_208.2.2.2.1
theorem dL_law_3200 : decode cL_law 3200 = .ok (.iinc 4 6, 3) := dG_law_208.2.2.2.2.1
theorem dL_law_3203 : decode cL_law 3203 = .ok (.goto (-3180), 3) := dG_law_208.2.2.2.2.2.1
theorem dL_law_3206 : decode cL_law 3206 = .ok (.iconst 1, 1) := dG_law_208.2.2.2.2.2.2.1
theorem dL_law_3207 : decode cL_law 3207 = .ok (.ireturn, 1) := dG_law_208.2.2.2.2.2.2.2
