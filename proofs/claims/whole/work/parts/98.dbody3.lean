def F_L_law_1675 (N Ls : Nat) (xs : Nat → Int32) (a1 a2 a3 : Nat) (k23 : kMem → Int32 → Option Unit) (M : kMem) (x4 : Int32) : Option Unit :=
    kg (decide (0 ≤ x4 + 1) && decide ((x4 + 1 : Int32).toNatClampNeg < Ls)) <|
    kg (decide (0 ≤ x4 + 2) && decide ((x4 + 2 : Int32).toNatClampNeg < Ls)) <|
    kg (decide (0 ≤ x4 + 3) && decide ((x4 + 3 : Int32).toNatClampNeg < Ls)) <|
    (F_L_reasonAgainstSeat N M a1 (xs (kx (x4 + 1))) (xs (kx (x4 + 2))) (xs (kx (x4 + 3))) a3).bind fun r1 =>
    kl r1.1 fun v2 =>
    kg (decide (0 ≤ x4 + 1) && decide ((x4 + 1 : Int32).toNatClampNeg < Ls)) <|
    kg (decide (0 ≤ x4 + 2) && decide ((x4 + 2 : Int32).toNatClampNeg < Ls)) <|
    kg (decide (0 ≤ x4 + 3) && decide ((x4 + 3 : Int32).toNatClampNeg < Ls)) <|
    kg (kt r1.2 a2 12) <| (F_X12_reasonAgainstSeat N r1.2 a2 (xs (kx (x4 + 1))) (xs (kx (x4 + 2))) (xs (kx (x4 + 3)))).bind fun r3 =>
    kl r3.1 fun v4 =>
    kg (kt r3.2 a2 12) <| (F_X12_thrown N r3.2 a2).bind fun r5 =>
    if r5 = v2 then (
      if v2 = 0 then (
        kg (kin r3.2 a3 15 0) <|
        if (lg_cmp (kL r3.2 a3 (kx 0)) v4.toInt64) = 0 then (
          kl (x4 + 6) fun v7 =>
          k23 r3.2 v7) else
        none) else
      kl (x4 + 6) fun v6 =>
      k23 r3.2 v6) else
    none
set_option maxRecDepth 100000 in
set_option maxHeartbeats 4000000 in
theorem k_L_law_1675 {p : Program} {l : Launch} {e : Env} {s : State} {m : MethodId} {below : List Frame} {meth : Method} {c : Code} {g : kG} {b Ls : Nat} {xs : Nat → Int32} (hX : Cok (p, l, e, room_1, s, m, #[Value.ref b], below, meth, c, cL_law, 9, RL, g, 1000)) (hf : l.flags = flags0) (hN : kNc s) (hSc : va_X b Ls xs s s.heap) (hbl : b < s.heap.size) (hbB : s.heap.size = g.2.2.1 + 1) {k n : Nat} (hk : k + 5 ≤ room_1.cells) (hn : n + 30 ≤ room_1.slots) (N a1 a2 a3 : Nat) (k23 : kMem → Int32 → Option Unit) (h23 : ∀ (M : kMem) (x4 : Int32), GG (p, l, e, room_1, s, m, #[Value.ref b], below, meth, c, cL_law, 9, RL, g, 1000) (fun _ : Unit => lw_Z below #[Value.ref b] s) (k + 5) (n + 30) (k23 M x4) 23 [(0, .retAddr b), (1, .ref a1), (2, .ref a2), (3, .ref a3), (4, .int x4)] [] M) (M : kMem) (x4 : Int32) : GG (p, l, e, room_1, s, m, #[Value.ref b], below, meth, c, cL_law, 9, RL, g, 1000) (fun _ : Unit => lw_Z below #[Value.ref b] s) k n (F_L_law_1675 N Ls xs a1 a2 a3 k23 M x4) 1675 [(0, .retAddr b), (1, .ref a1), (2, .ref a2), (3, .ref a3), (4, .int x4)] [] M := by
  unfold F_L_law_1675
  refine g_aload_n 1676 1 hX dL_law_1675 rfl rfl ?_
  refine g_aloadS_n 1677 0 hX dL_law_1676 rfl rfl ?_
  refine g_iload 1679 4 hX dL_law_1677 rfl rfl ?_
  refine g_iconst 1680 hX 1 dL_law_1679 rfl kc_i_1 ?_
  refine g_iadd 1681 hX dL_law_1680 rfl ?_
  refine g_sld 1682 hX hSc hbl hbB dL_law_1681 rfl ?_
  refine g_aloadS_n 1683 0 hX dL_law_1682 rfl rfl ?_
  refine g_iload 1685 4 hX dL_law_1683 rfl rfl ?_
  refine g_iconst 1686 hX 2 dL_law_1685 rfl kc_i_2 ?_
  refine g_iadd 1687 hX dL_law_1686 rfl ?_
  refine g_sld 1688 hX hSc hbl hbB dL_law_1687 rfl ?_
  refine g_aloadS_n 1689 0 hX dL_law_1688 rfl rfl ?_
  refine g_iload 1691 4 hX dL_law_1689 rfl rfl ?_
  refine g_iconst 1692 hX 3 dL_law_1691 rfl kc_i_3 ?_
  refine g_iadd 1693 hX dL_law_1692 rfl ?_
  refine g_sld 1694 hX hSc hbl hbB dL_law_1693 rfl ?_
  refine g_aload_n 1695 3 hX dL_law_1694 rfl rfl ?_
  refine g_callSH 1698 hX hN (k_L_reasonAgainstSeat l g hf N M a1 (xs (kx (x4 + 1))) (xs (kx (x4 + 2))) (xs (kx (x4 + 3))) a3) lkH_L_reasonAgainstSeat q_1406 (by decide) rfl (Nat.le_of_ble_eq_true rfl) (by omega) (by omega) dL_law_1695 rfl (fun r1 => ?_)
  refine g_klI (fun v2 hv2 => ?_)
  refine g_istore 1700 5 [(5, .int v2), (0, .retAddr b), (1, .ref a1), (2, .ref a2), (3, .ref a3), (4, .int x4)] hX dL_law_1698 rfl (Nat.le_of_ble_eq_true rfl) rfl ?_
  refine g_aload_n 1701 3 hX dL_law_1700 rfl rfl ?_
  refine g_aloadS_n 1702 1 hX dL_law_1701 rfl rfl ?_
  refine g_iload 1704 5 hX dL_law_1702 rfl rfl ?_
  refine g_iconst 1705 hX 1 dL_law_1704 rfl kc_i_1 ?_
  refine g_iadd 1706 hX dL_law_1705 rfl ?_
  refine g_sld 1707 hX hSc hbl hbB dL_law_1706 rfl ?_
  refine g_aloadS_n 1708 1 hX dL_law_1707 rfl rfl ?_
  refine g_iload 1710 5 hX dL_law_1708 rfl rfl ?_
  refine g_iconst 1711 hX 2 dL_law_1710 rfl kc_i_2 ?_
  refine g_iadd 1712 hX dL_law_1711 rfl ?_
  refine g_sld 1713 hX hSc hbl hbB dL_law_1712 rfl ?_
  refine g_aloadS_n 1714 1 hX dL_law_1713 rfl rfl ?_
  refine g_iload 1716 5 hX dL_law_1714 rfl rfl ?_
  refine g_iconst 1717 hX 3 dL_law_1716 rfl kc_i_3 ?_
  refine g_iadd 1718 hX dL_law_1717 rfl ?_
  refine g_sld 1719 hX hSc hbl hbB dL_law_1718 rfl ?_
  refine g_callV_i 1722 hX (k_X12_reasonAgainstSeat l g N r1.2 a2 (xs (kx (x4 + 1))) (xs (kx (x4 + 2))) (xs (kx (x4 + 3)))) lk_X12_reasonAgainstSeat rfl (ci := 12) rfl (Nat.le_of_ble_eq_true rfl) q_2279 q_2281 (by decide) rfl (Nat.le_of_ble_eq_true rfl) (by omega) (by omega) dL_law_1719 rfl (fun r3 => ?_)
  refine g_klI (fun v4 hv4 => ?_)
  refine g_istore 1724 6 [(6, .int v4), (5, .int v2), (0, .retAddr b), (1, .ref a1), (2, .ref a2), (3, .ref a3), (4, .int x4)] hX dL_law_1722 rfl (Nat.le_of_ble_eq_true rfl) rfl ?_
  refine g_aload_n 1725 4 hX dL_law_1724 rfl rfl ?_
  refine g_callV_ip 1728 hX (k_X12_thrown l g N r3.2 a2) lk_X12_thrown rfl (ci := 12) rfl (Nat.le_of_ble_eq_true rfl) q_1730 q_1732 (by decide) rfl (Nat.le_of_ble_eq_true rfl) (by omega) (by omega) dL_law_1725 rfl (fun r5 => ?_)
  refine g_iload 1730 1 hX dL_law_1728 rfl rfl ?_
  refine g_icmp_eq 1735 1733 hX dL_law_1730 (by decide) rfl (fun _ => ?_) (fun _ => ?_)
  · refine g_iload 1737 1 hX dL_law_1735 rfl rfl ?_
    refine g_if_ne 1752 1740 hX dL_law_1737 (by decide) rfl (fun _ => ?_) (fun _ => ?_)
    · refine g_goto 3200 hX dL_law_1752 (by decide) ?_
      refine g_kl (fun v6 hv6 => ?_)
      refine g_iinc 3203 4 6 v6 [(4, .int v6), (6, .int v4), (5, .int v2), (0, .retAddr b), (1, .ref a1), (2, .ref a2), (3, .ref a3)] hX dL_law_3200 rfl rfl (by rw [hv6, kc_i_6]) (Nat.le_of_ble_eq_true rfl) rfl ?_
      refine g_goto 23 hX dL_law_3203 (by decide) ?_
      refine g_lv [3, 4, 5, 6, 0] rfl ?_
      refine g_widen (k2 := k + 5) (n2 := n + 30) (by omega) (by omega) ?_
      exact h23 r3.2 v6
    · refine g_aload_n 1741 5 hX dL_law_1740 rfl rfl ?_
      refine g_iconst 1742 hX 0 dL_law_1741 rfl kc_i_0 ?_
      refine g_lald 1743 hX dL_law_1742 rfl ?_
      refine g_iload 1745 0 hX dL_law_1743 rfl rfl ?_
      refine g_i2l 1746 hX dL_law_1745 rfl ?_
      refine g_lcmp 1747 hX dL_law_1746 rfl ?_
      refine g_if_eq 1752 1750 hX dL_law_1747 (by decide) rfl (fun _ => ?_) (fun _ => ?_)
      · refine g_goto 3200 hX dL_law_1752 (by decide) ?_
        refine g_kl (fun v7 hv7 => ?_)
        refine g_iinc 3203 4 6 v7 [(4, .int v7), (6, .int v4), (5, .int v2), (0, .retAddr b), (1, .ref a1), (2, .ref a2), (3, .ref a3)] hX dL_law_3200 rfl rfl (by rw [hv7, kc_i_6]) (Nat.le_of_ble_eq_true rfl) rfl ?_
        refine g_goto 23 hX dL_law_3203 (by decide) ?_
        refine g_lv [3, 4, 5, 6, 0] rfl ?_
        refine g_widen (k2 := k + 5) (n2 := n + 30) (by omega) (by omega) ?_
        exact h23 r3.2 v7
      · exact g_none
  · exact g_none
def F_L_law_1755 (N Ls : Nat) (xs : Nat → Int32) (a1 a2 a3 : Nat) (k23 : kMem → Int32 → Option Unit) (M : kMem) (x4 : Int32) : Option Unit :=
    kg (decide (0 ≤ x4 + 1) && decide ((x4 + 1 : Int32).toNatClampNeg < Ls)) <|
    kg (decide (0 ≤ x4 + 2) && decide ((x4 + 2 : Int32).toNatClampNeg < Ls)) <|
    kg (decide (0 ≤ x4 + 3) && decide ((x4 + 3 : Int32).toNatClampNeg < Ls)) <|
    (F_L_reasonAgainstSale N M a1 (xs (kx (x4 + 1))) (xs (kx (x4 + 2))) (xs (kx (x4 + 3))) a3).bind fun r1 =>
    kl r1.1 fun v2 =>
    kg (decide (0 ≤ x4 + 1) && decide ((x4 + 1 : Int32).toNatClampNeg < Ls)) <|
    kg (decide (0 ≤ x4 + 2) && decide ((x4 + 2 : Int32).toNatClampNeg < Ls)) <|
    kg (decide (0 ≤ x4 + 3) && decide ((x4 + 3 : Int32).toNatClampNeg < Ls)) <|
    kg (kt r1.2 a2 12) <| (F_X12_reasonAgainstSale N r1.2 a2 (xs (kx (x4 + 1))) (xs (kx (x4 + 2))) (xs (kx (x4 + 3)))).bind fun r3 =>
    kl r3.1 fun v4 =>
    kg (kt r3.2 a2 12) <| (F_X12_thrown N r3.2 a2).bind fun r5 =>
    if r5 = v2 then (
      if v2 = 0 then (
        kg (kin r3.2 a3 15 0) <|
        if (lg_cmp (kL r3.2 a3 (kx 0)) v4.toInt64) = 0 then (
          kl (x4 + 6) fun v7 =>
          k23 r3.2 v7) else
        none) else
      kl (x4 + 6) fun v6 =>
      k23 r3.2 v6) else
    none
set_option maxRecDepth 100000 in
set_option maxHeartbeats 4000000 in
theorem k_L_law_1755 {p : Program} {l : Launch} {e : Env} {s : State} {m : MethodId} {below : List Frame} {meth : Method} {c : Code} {g : kG} {b Ls : Nat} {xs : Nat → Int32} (hX : Cok (p, l, e, room_1, s, m, #[Value.ref b], below, meth, c, cL_law, 9, RL, g, 1000)) (hf : l.flags = flags0) (hN : kNc s) (hSc : va_X b Ls xs s s.heap) (hbl : b < s.heap.size) (hbB : s.heap.size = g.2.2.1 + 1) {k n : Nat} (hk : k + 5 ≤ room_1.cells) (hn : n + 30 ≤ room_1.slots) (N a1 a2 a3 : Nat) (k23 : kMem → Int32 → Option Unit) (h23 : ∀ (M : kMem) (x4 : Int32), GG (p, l, e, room_1, s, m, #[Value.ref b], below, meth, c, cL_law, 9, RL, g, 1000) (fun _ : Unit => lw_Z below #[Value.ref b] s) (k + 5) (n + 30) (k23 M x4) 23 [(0, .retAddr b), (1, .ref a1), (2, .ref a2), (3, .ref a3), (4, .int x4)] [] M) (M : kMem) (x4 : Int32) : GG (p, l, e, room_1, s, m, #[Value.ref b], below, meth, c, cL_law, 9, RL, g, 1000) (fun _ : Unit => lw_Z below #[Value.ref b] s) k n (F_L_law_1755 N Ls xs a1 a2 a3 k23 M x4) 1755 [(0, .retAddr b), (1, .ref a1), (2, .ref a2), (3, .ref a3), (4, .int x4)] [] M := by
  unfold F_L_law_1755
  refine g_aload_n 1756 1 hX dL_law_1755 rfl rfl ?_
  refine g_aloadS_n 1757 0 hX dL_law_1756 rfl rfl ?_
  refine g_iload 1759 4 hX dL_law_1757 rfl rfl ?_
  refine g_iconst 1760 hX 1 dL_law_1759 rfl kc_i_1 ?_
  refine g_iadd 1761 hX dL_law_1760 rfl ?_
  refine g_sld 1762 hX hSc hbl hbB dL_law_1761 rfl ?_
  refine g_aloadS_n 1763 0 hX dL_law_1762 rfl rfl ?_
  refine g_iload 1765 4 hX dL_law_1763 rfl rfl ?_
  refine g_iconst 1766 hX 2 dL_law_1765 rfl kc_i_2 ?_
  refine g_iadd 1767 hX dL_law_1766 rfl ?_
  refine g_sld 1768 hX hSc hbl hbB dL_law_1767 rfl ?_
  refine g_aloadS_n 1769 0 hX dL_law_1768 rfl rfl ?_
  refine g_iload 1771 4 hX dL_law_1769 rfl rfl ?_
  refine g_iconst 1772 hX 3 dL_law_1771 rfl kc_i_3 ?_
  refine g_iadd 1773 hX dL_law_1772 rfl ?_
  refine g_sld 1774 hX hSc hbl hbB dL_law_1773 rfl ?_
  refine g_aload_n 1775 3 hX dL_law_1774 rfl rfl ?_
  refine g_callSH 1778 hX hN (k_L_reasonAgainstSale l g hf N M a1 (xs (kx (x4 + 1))) (xs (kx (x4 + 2))) (xs (kx (x4 + 3))) a3) lkH_L_reasonAgainstSale q_1414 (by decide) rfl (Nat.le_of_ble_eq_true rfl) (by omega) (by omega) dL_law_1775 rfl (fun r1 => ?_)
  refine g_klI (fun v2 hv2 => ?_)
  refine g_istore 1780 5 [(5, .int v2), (0, .retAddr b), (1, .ref a1), (2, .ref a2), (3, .ref a3), (4, .int x4)] hX dL_law_1778 rfl (Nat.le_of_ble_eq_true rfl) rfl ?_
  refine g_aload_n 1781 3 hX dL_law_1780 rfl rfl ?_
  refine g_aloadS_n 1782 1 hX dL_law_1781 rfl rfl ?_
  refine g_iload 1784 5 hX dL_law_1782 rfl rfl ?_
  refine g_iconst 1785 hX 1 dL_law_1784 rfl kc_i_1 ?_
  refine g_iadd 1786 hX dL_law_1785 rfl ?_
  refine g_sld 1787 hX hSc hbl hbB dL_law_1786 rfl ?_
  refine g_aloadS_n 1788 1 hX dL_law_1787 rfl rfl ?_
  refine g_iload 1790 5 hX dL_law_1788 rfl rfl ?_
  refine g_iconst 1791 hX 2 dL_law_1790 rfl kc_i_2 ?_
  refine g_iadd 1792 hX dL_law_1791 rfl ?_
  refine g_sld 1793 hX hSc hbl hbB dL_law_1792 rfl ?_
  refine g_aloadS_n 1794 1 hX dL_law_1793 rfl rfl ?_
  refine g_iload 1796 5 hX dL_law_1794 rfl rfl ?_
  refine g_iconst 1797 hX 3 dL_law_1796 rfl kc_i_3 ?_
  refine g_iadd 1798 hX dL_law_1797 rfl ?_
  refine g_sld 1799 hX hSc hbl hbB dL_law_1798 rfl ?_
  refine g_callV_i 1802 hX (k_X12_reasonAgainstSale l g N r1.2 a2 (xs (kx (x4 + 1))) (xs (kx (x4 + 2))) (xs (kx (x4 + 3)))) lk_X12_reasonAgainstSale rfl (ci := 12) rfl (Nat.le_of_ble_eq_true rfl) q_2283 q_2285 (by decide) rfl (Nat.le_of_ble_eq_true rfl) (by omega) (by omega) dL_law_1799 rfl (fun r3 => ?_)
  refine g_klI (fun v4 hv4 => ?_)
  refine g_istore 1804 6 [(6, .int v4), (5, .int v2), (0, .retAddr b), (1, .ref a1), (2, .ref a2), (3, .ref a3), (4, .int x4)] hX dL_law_1802 rfl (Nat.le_of_ble_eq_true rfl) rfl ?_
  refine g_aload_n 1805 4 hX dL_law_1804 rfl rfl ?_
  refine g_callV_ip 1808 hX (k_X12_thrown l g N r3.2 a2) lk_X12_thrown rfl (ci := 12) rfl (Nat.le_of_ble_eq_true rfl) q_1730 q_1732 (by decide) rfl (Nat.le_of_ble_eq_true rfl) (by omega) (by omega) dL_law_1805 rfl (fun r5 => ?_)
  refine g_iload 1810 1 hX dL_law_1808 rfl rfl ?_
  refine g_icmp_eq 1815 1813 hX dL_law_1810 (by decide) rfl (fun _ => ?_) (fun _ => ?_)
  · refine g_iload 1817 1 hX dL_law_1815 rfl rfl ?_
    refine g_if_ne 1832 1820 hX dL_law_1817 (by decide) rfl (fun _ => ?_) (fun _ => ?_)
    · refine g_goto 3200 hX dL_law_1832 (by decide) ?_
      refine g_kl (fun v6 hv6 => ?_)
      refine g_iinc 3203 4 6 v6 [(4, .int v6), (6, .int v4), (5, .int v2), (0, .retAddr b), (1, .ref a1), (2, .ref a2), (3, .ref a3)] hX dL_law_3200 rfl rfl (by rw [hv6, kc_i_6]) (Nat.le_of_ble_eq_true rfl) rfl ?_
      refine g_goto 23 hX dL_law_3203 (by decide) ?_
      refine g_lv [3, 4, 5, 6, 0] rfl ?_
      refine g_widen (k2 := k + 5) (n2 := n + 30) (by omega) (by omega) ?_
      exact h23 r3.2 v6
    · refine g_aload_n 1821 5 hX dL_law_1820 rfl rfl ?_
      refine g_iconst 1822 hX 0 dL_law_1821 rfl kc_i_0 ?_
      refine g_lald 1823 hX dL_law_1822 rfl ?_
      refine g_iload 1825 0 hX dL_law_1823 rfl rfl ?_
      refine g_i2l 1826 hX dL_law_1825 rfl ?_
      refine g_lcmp 1827 hX dL_law_1826 rfl ?_
      refine g_if_eq 1832 1830 hX dL_law_1827 (by decide) rfl (fun _ => ?_) (fun _ => ?_)
      · refine g_goto 3200 hX dL_law_1832 (by decide) ?_
        refine g_kl (fun v7 hv7 => ?_)
        refine g_iinc 3203 4 6 v7 [(4, .int v7), (6, .int v4), (5, .int v2), (0, .retAddr b), (1, .ref a1), (2, .ref a2), (3, .ref a3)] hX dL_law_3200 rfl rfl (by rw [hv7, kc_i_6]) (Nat.le_of_ble_eq_true rfl) rfl ?_
        refine g_goto 23 hX dL_law_3203 (by decide) ?_
        refine g_lv [3, 4, 5, 6, 0] rfl ?_
        refine g_widen (k2 := k + 5) (n2 := n + 30) (by omega) (by omega) ?_
        exact h23 r3.2 v7
      · exact g_none
  · exact g_none
def F_L_law_1835 (N Ls : Nat) (xs : Nat → Int32) (a1 a2 a3 : Nat) (k23 : kMem → Int32 → Option Unit) (M : kMem) (x4 : Int32) : Option Unit :=
    kg (decide (0 ≤ x4 + 1) && decide ((x4 + 1 : Int32).toNatClampNeg < Ls)) <|
    kg (decide (0 ≤ x4 + 2) && decide ((x4 + 2 : Int32).toNatClampNeg < Ls)) <|
    (F_L_reasonAgainstSwap N M a1 (xs (kx (x4 + 1))) (xs (kx (x4 + 2))) a3).bind fun r1 =>
    kl r1.1 fun v2 =>
    kg (decide (0 ≤ x4 + 1) && decide ((x4 + 1 : Int32).toNatClampNeg < Ls)) <|
    kg (decide (0 ≤ x4 + 2) && decide ((x4 + 2 : Int32).toNatClampNeg < Ls)) <|
    kg (kt r1.2 a2 12) <| (F_X12_reasonAgainstSwap N r1.2 a2 (xs (kx (x4 + 1))) (xs (kx (x4 + 2)))).bind fun r3 =>
    kl r3.1 fun v4 =>
    kg (kt r3.2 a2 12) <| (F_X12_thrown N r3.2 a2).bind fun r5 =>
    if r5 = v2 then (
      if v2 = 0 then (
        kg (kin r3.2 a3 15 0) <|
        if (lg_cmp (kL r3.2 a3 (kx 0)) v4.toInt64) = 0 then (
          kl (x4 + 6) fun v7 =>
          k23 r3.2 v7) else
        none) else
      kl (x4 + 6) fun v6 =>
      k23 r3.2 v6) else
    none
set_option maxRecDepth 100000 in
set_option maxHeartbeats 4000000 in
theorem k_L_law_1835 {p : Program} {l : Launch} {e : Env} {s : State} {m : MethodId} {below : List Frame} {meth : Method} {c : Code} {g : kG} {b Ls : Nat} {xs : Nat → Int32} (hX : Cok (p, l, e, room_1, s, m, #[Value.ref b], below, meth, c, cL_law, 9, RL, g, 1000)) (hf : l.flags = flags0) (hN : kNc s) (hSc : va_X b Ls xs s s.heap) (hbl : b < s.heap.size) (hbB : s.heap.size = g.2.2.1 + 1) {k n : Nat} (hk : k + 5 ≤ room_1.cells) (hn : n + 30 ≤ room_1.slots) (N a1 a2 a3 : Nat) (k23 : kMem → Int32 → Option Unit) (h23 : ∀ (M : kMem) (x4 : Int32), GG (p, l, e, room_1, s, m, #[Value.ref b], below, meth, c, cL_law, 9, RL, g, 1000) (fun _ : Unit => lw_Z below #[Value.ref b] s) (k + 5) (n + 30) (k23 M x4) 23 [(0, .retAddr b), (1, .ref a1), (2, .ref a2), (3, .ref a3), (4, .int x4)] [] M) (M : kMem) (x4 : Int32) : GG (p, l, e, room_1, s, m, #[Value.ref b], below, meth, c, cL_law, 9, RL, g, 1000) (fun _ : Unit => lw_Z below #[Value.ref b] s) k n (F_L_law_1835 N Ls xs a1 a2 a3 k23 M x4) 1835 [(0, .retAddr b), (1, .ref a1), (2, .ref a2), (3, .ref a3), (4, .int x4)] [] M := by
  unfold F_L_law_1835
  refine g_aload_n 1836 1 hX dL_law_1835 rfl rfl ?_
  refine g_aloadS_n 1837 0 hX dL_law_1836 rfl rfl ?_
  refine g_iload 1839 4 hX dL_law_1837 rfl rfl ?_
  refine g_iconst 1840 hX 1 dL_law_1839 rfl kc_i_1 ?_
  refine g_iadd 1841 hX dL_law_1840 rfl ?_
  refine g_sld 1842 hX hSc hbl hbB dL_law_1841 rfl ?_
  refine g_aloadS_n 1843 0 hX dL_law_1842 rfl rfl ?_
  refine g_iload 1845 4 hX dL_law_1843 rfl rfl ?_
  refine g_iconst 1846 hX 2 dL_law_1845 rfl kc_i_2 ?_
  refine g_iadd 1847 hX dL_law_1846 rfl ?_
  refine g_sld 1848 hX hSc hbl hbB dL_law_1847 rfl ?_
  refine g_aload_n 1849 3 hX dL_law_1848 rfl rfl ?_
  refine g_callSH 1852 hX hN (k_L_reasonAgainstSwap l g hf N M a1 (xs (kx (x4 + 1))) (xs (kx (x4 + 2))) a3) lkH_L_reasonAgainstSwap q_1426 (by decide) rfl (Nat.le_of_ble_eq_true rfl) (by omega) (by omega) dL_law_1849 rfl (fun r1 => ?_)
  refine g_klI (fun v2 hv2 => ?_)
  refine g_istore 1854 5 [(5, .int v2), (0, .retAddr b), (1, .ref a1), (2, .ref a2), (3, .ref a3), (4, .int x4)] hX dL_law_1852 rfl (Nat.le_of_ble_eq_true rfl) rfl ?_
  refine g_aload_n 1855 3 hX dL_law_1854 rfl rfl ?_
  refine g_aloadS_n 1856 1 hX dL_law_1855 rfl rfl ?_
  refine g_iload 1858 5 hX dL_law_1856 rfl rfl ?_
  refine g_iconst 1859 hX 1 dL_law_1858 rfl kc_i_1 ?_
  refine g_iadd 1860 hX dL_law_1859 rfl ?_
  refine g_sld 1861 hX hSc hbl hbB dL_law_1860 rfl ?_
  refine g_aloadS_n 1862 1 hX dL_law_1861 rfl rfl ?_
  refine g_iload 1864 5 hX dL_law_1862 rfl rfl ?_
  refine g_iconst 1865 hX 2 dL_law_1864 rfl kc_i_2 ?_
  refine g_iadd 1866 hX dL_law_1865 rfl ?_
  refine g_sld 1867 hX hSc hbl hbB dL_law_1866 rfl ?_
  refine g_callV_i 1870 hX (k_X12_reasonAgainstSwap l g N r1.2 a2 (xs (kx (x4 + 1))) (xs (kx (x4 + 2)))) lk_X12_reasonAgainstSwap rfl (ci := 12) rfl (Nat.le_of_ble_eq_true rfl) q_2287 q_2289 (by decide) rfl (Nat.le_of_ble_eq_true rfl) (by omega) (by omega) dL_law_1867 rfl (fun r3 => ?_)
  refine g_klI (fun v4 hv4 => ?_)
  refine g_istore 1872 6 [(6, .int v4), (5, .int v2), (0, .retAddr b), (1, .ref a1), (2, .ref a2), (3, .ref a3), (4, .int x4)] hX dL_law_1870 rfl (Nat.le_of_ble_eq_true rfl) rfl ?_
  refine g_aload_n 1873 4 hX dL_law_1872 rfl rfl ?_
  refine g_callV_ip 1876 hX (k_X12_thrown l g N r3.2 a2) lk_X12_thrown rfl (ci := 12) rfl (Nat.le_of_ble_eq_true rfl) q_1730 q_1732 (by decide) rfl (Nat.le_of_ble_eq_true rfl) (by omega) (by omega) dL_law_1873 rfl (fun r5 => ?_)
  refine g_iload 1878 1 hX dL_law_1876 rfl rfl ?_
  refine g_icmp_eq 1883 1881 hX dL_law_1878 (by decide) rfl (fun _ => ?_) (fun _ => ?_)
  · refine g_iload 1885 1 hX dL_law_1883 rfl rfl ?_
    refine g_if_ne 1900 1888 hX dL_law_1885 (by decide) rfl (fun _ => ?_) (fun _ => ?_)
    · refine g_goto 3200 hX dL_law_1900 (by decide) ?_
      refine g_kl (fun v6 hv6 => ?_)
      refine g_iinc 3203 4 6 v6 [(4, .int v6), (6, .int v4), (5, .int v2), (0, .retAddr b), (1, .ref a1), (2, .ref a2), (3, .ref a3)] hX dL_law_3200 rfl rfl (by rw [hv6, kc_i_6]) (Nat.le_of_ble_eq_true rfl) rfl ?_
      refine g_goto 23 hX dL_law_3203 (by decide) ?_
      refine g_lv [3, 4, 5, 6, 0] rfl ?_
      refine g_widen (k2 := k + 5) (n2 := n + 30) (by omega) (by omega) ?_
      exact h23 r3.2 v6
    · refine g_aload_n 1889 5 hX dL_law_1888 rfl rfl ?_
      refine g_iconst 1890 hX 0 dL_law_1889 rfl kc_i_0 ?_
      refine g_lald 1891 hX dL_law_1890 rfl ?_
      refine g_iload 1893 0 hX dL_law_1891 rfl rfl ?_
      refine g_i2l 1894 hX dL_law_1893 rfl ?_
      refine g_lcmp 1895 hX dL_law_1894 rfl ?_
      refine g_if_eq 1900 1898 hX dL_law_1895 (by decide) rfl (fun _ => ?_) (fun _ => ?_)
      · refine g_goto 3200 hX dL_law_1900 (by decide) ?_
        refine g_kl (fun v7 hv7 => ?_)
        refine g_iinc 3203 4 6 v7 [(4, .int v7), (6, .int v4), (5, .int v2), (0, .retAddr b), (1, .ref a1), (2, .ref a2), (3, .ref a3)] hX dL_law_3200 rfl rfl (by rw [hv7, kc_i_6]) (Nat.le_of_ble_eq_true rfl) rfl ?_
        refine g_goto 23 hX dL_law_3203 (by decide) ?_
        refine g_lv [3, 4, 5, 6, 0] rfl ?_
        refine g_widen (k2 := k + 5) (n2 := n + 30) (by omega) (by omega) ?_
        exact h23 r3.2 v7
      · exact g_none
  · exact g_none
def F_L_law_1903 (N Ls : Nat) (xs : Nat → Int32) (a1 a2 a3 : Nat) (k23 : kMem → Int32 → Option Unit) (M : kMem) (x4 : Int32) : Option Unit :=
    kg (decide (0 ≤ x4 + 1) && decide ((x4 + 1 : Int32).toNatClampNeg < Ls)) <|
    kg (decide (0 ≤ x4 + 2) && decide ((x4 + 2 : Int32).toNatClampNeg < Ls)) <|
    (F_L_weightUnitPrice N M a1 (xs (kx (x4 + 1))) (xs (kx (x4 + 2))) a3).bind fun r1 =>
    kl r1.1 fun v2 =>
    kg (decide (0 ≤ x4 + 1) && decide ((x4 + 1 : Int32).toNatClampNeg < Ls)) <|
    kg (decide (0 ≤ x4 + 2) && decide ((x4 + 2 : Int32).toNatClampNeg < Ls)) <|
    kg (kt r1.2 a2 12) <| (F_X12_weightUnitPrice N r1.2 a2 (xs (kx (x4 + 1))) (xs (kx (x4 + 2)))).bind fun r3 =>
    kl r3.1 fun v4 =>
    kg (kt r3.2 a2 12) <| (F_X12_thrown N r3.2 a2).bind fun r5 =>
    if r5 = v2 then (
      if v2 = 0 then (
        kg (kin r3.2 a3 15 0) <|
        if (lg_cmp (kL r3.2 a3 (kx 0)) v4.toInt64) = 0 then (
          kl (x4 + 6) fun v7 =>
          k23 r3.2 v7) else
        none) else
      kl (x4 + 6) fun v6 =>
      k23 r3.2 v6) else
    none
set_option maxRecDepth 100000 in
set_option maxHeartbeats 4000000 in
theorem k_L_law_1903 {p : Program} {l : Launch} {e : Env} {s : State} {m : MethodId} {below : List Frame} {meth : Method} {c : Code} {g : kG} {b Ls : Nat} {xs : Nat → Int32} (hX : Cok (p, l, e, room_1, s, m, #[Value.ref b], below, meth, c, cL_law, 9, RL, g, 1000)) (hf : l.flags = flags0) (hN : kNc s) (hSc : va_X b Ls xs s s.heap) (hbl : b < s.heap.size) (hbB : s.heap.size = g.2.2.1 + 1) {k n : Nat} (hk : k + 5 ≤ room_1.cells) (hn : n + 30 ≤ room_1.slots) (N a1 a2 a3 : Nat) (k23 : kMem → Int32 → Option Unit) (h23 : ∀ (M : kMem) (x4 : Int32), GG (p, l, e, room_1, s, m, #[Value.ref b], below, meth, c, cL_law, 9, RL, g, 1000) (fun _ : Unit => lw_Z below #[Value.ref b] s) (k + 5) (n + 30) (k23 M x4) 23 [(0, .retAddr b), (1, .ref a1), (2, .ref a2), (3, .ref a3), (4, .int x4)] [] M) (M : kMem) (x4 : Int32) : GG (p, l, e, room_1, s, m, #[Value.ref b], below, meth, c, cL_law, 9, RL, g, 1000) (fun _ : Unit => lw_Z below #[Value.ref b] s) k n (F_L_law_1903 N Ls xs a1 a2 a3 k23 M x4) 1903 [(0, .retAddr b), (1, .ref a1), (2, .ref a2), (3, .ref a3), (4, .int x4)] [] M := by
  unfold F_L_law_1903
  refine g_aload_n 1904 1 hX dL_law_1903 rfl rfl ?_
  refine g_aloadS_n 1905 0 hX dL_law_1904 rfl rfl ?_
  refine g_iload 1907 4 hX dL_law_1905 rfl rfl ?_
  refine g_iconst 1908 hX 1 dL_law_1907 rfl kc_i_1 ?_
  refine g_iadd 1909 hX dL_law_1908 rfl ?_
  refine g_sld 1910 hX hSc hbl hbB dL_law_1909 rfl ?_
  refine g_aloadS_n 1911 0 hX dL_law_1910 rfl rfl ?_
  refine g_iload 1913 4 hX dL_law_1911 rfl rfl ?_
  refine g_iconst 1914 hX 2 dL_law_1913 rfl kc_i_2 ?_
  refine g_iadd 1915 hX dL_law_1914 rfl ?_
  refine g_sld 1916 hX hSc hbl hbB dL_law_1915 rfl ?_
  refine g_aload_n 1917 3 hX dL_law_1916 rfl rfl ?_
  refine g_callSH 1920 hX hN (k_L_weightUnitPrice l g hf N M a1 (xs (kx (x4 + 1))) (xs (kx (x4 + 2))) a3) lkH_L_weightUnitPrice q_1434 (by decide) rfl (Nat.le_of_ble_eq_true rfl) (by omega) (by omega) dL_law_1917 rfl (fun r1 => ?_)
  refine g_klI (fun v2 hv2 => ?_)
  refine g_istore 1922 5 [(5, .int v2), (0, .retAddr b), (1, .ref a1), (2, .ref a2), (3, .ref a3), (4, .int x4)] hX dL_law_1920 rfl (Nat.le_of_ble_eq_true rfl) rfl ?_
  refine g_aload_n 1923 3 hX dL_law_1922 rfl rfl ?_
  refine g_aloadS_n 1924 1 hX dL_law_1923 rfl rfl ?_
  refine g_iload 1926 5 hX dL_law_1924 rfl rfl ?_
  refine g_iconst 1927 hX 1 dL_law_1926 rfl kc_i_1 ?_
  refine g_iadd 1928 hX dL_law_1927 rfl ?_
  refine g_sld 1929 hX hSc hbl hbB dL_law_1928 rfl ?_
  refine g_aloadS_n 1930 1 hX dL_law_1929 rfl rfl ?_
  refine g_iload 1932 5 hX dL_law_1930 rfl rfl ?_
  refine g_iconst 1933 hX 2 dL_law_1932 rfl kc_i_2 ?_
  refine g_iadd 1934 hX dL_law_1933 rfl ?_
  refine g_sld 1935 hX hSc hbl hbB dL_law_1934 rfl ?_
  refine g_callV_i 1938 hX (k_X12_weightUnitPrice l g N r1.2 a2 (xs (kx (x4 + 1))) (xs (kx (x4 + 2)))) lk_X12_weightUnitPrice rfl (ci := 12) rfl (Nat.le_of_ble_eq_true rfl) q_2291 q_2293 (by decide) rfl (Nat.le_of_ble_eq_true rfl) (by omega) (by omega) dL_law_1935 rfl (fun r3 => ?_)
  refine g_klI (fun v4 hv4 => ?_)
  refine g_istore 1940 6 [(6, .int v4), (5, .int v2), (0, .retAddr b), (1, .ref a1), (2, .ref a2), (3, .ref a3), (4, .int x4)] hX dL_law_1938 rfl (Nat.le_of_ble_eq_true rfl) rfl ?_
  refine g_aload_n 1941 4 hX dL_law_1940 rfl rfl ?_
  refine g_callV_ip 1944 hX (k_X12_thrown l g N r3.2 a2) lk_X12_thrown rfl (ci := 12) rfl (Nat.le_of_ble_eq_true rfl) q_1730 q_1732 (by decide) rfl (Nat.le_of_ble_eq_true rfl) (by omega) (by omega) dL_law_1941 rfl (fun r5 => ?_)
  refine g_iload 1946 1 hX dL_law_1944 rfl rfl ?_
  refine g_icmp_eq 1951 1949 hX dL_law_1946 (by decide) rfl (fun _ => ?_) (fun _ => ?_)
  · refine g_iload 1953 1 hX dL_law_1951 rfl rfl ?_
    refine g_if_ne 1968 1956 hX dL_law_1953 (by decide) rfl (fun _ => ?_) (fun _ => ?_)
    · refine g_goto 3200 hX dL_law_1968 (by decide) ?_
      refine g_kl (fun v6 hv6 => ?_)
      refine g_iinc 3203 4 6 v6 [(4, .int v6), (6, .int v4), (5, .int v2), (0, .retAddr b), (1, .ref a1), (2, .ref a2), (3, .ref a3)] hX dL_law_3200 rfl rfl (by rw [hv6, kc_i_6]) (Nat.le_of_ble_eq_true rfl) rfl ?_
      refine g_goto 23 hX dL_law_3203 (by decide) ?_
      refine g_lv [3, 4, 5, 6, 0] rfl ?_
      refine g_widen (k2 := k + 5) (n2 := n + 30) (by omega) (by omega) ?_
      exact h23 r3.2 v6
    · refine g_aload_n 1957 5 hX dL_law_1956 rfl rfl ?_
      refine g_iconst 1958 hX 0 dL_law_1957 rfl kc_i_0 ?_
      refine g_lald 1959 hX dL_law_1958 rfl ?_
      refine g_iload 1961 0 hX dL_law_1959 rfl rfl ?_
      refine g_i2l 1962 hX dL_law_1961 rfl ?_
      refine g_lcmp 1963 hX dL_law_1962 rfl ?_
      refine g_if_eq 1968 1966 hX dL_law_1963 (by decide) rfl (fun _ => ?_) (fun _ => ?_)
      · refine g_goto 3200 hX dL_law_1968 (by decide) ?_
        refine g_kl (fun v7 hv7 => ?_)
        refine g_iinc 3203 4 6 v7 [(4, .int v7), (6, .int v4), (5, .int v2), (0, .retAddr b), (1, .ref a1), (2, .ref a2), (3, .ref a3)] hX dL_law_3200 rfl rfl (by rw [hv7, kc_i_6]) (Nat.le_of_ble_eq_true rfl) rfl ?_
        refine g_goto 23 hX dL_law_3203 (by decide) ?_
        refine g_lv [3, 4, 5, 6, 0] rfl ?_
        refine g_widen (k2 := k + 5) (n2 := n + 30) (by omega) (by omega) ?_
        exact h23 r3.2 v7
      · exact g_none
  · exact g_none
def F_L_law_1971 (N Ls : Nat) (xs : Nat → Int32) (a1 a2 a3 : Nat) (k23 : kMem → Int32 → Option Unit) (M : kMem) (x4 : Int32) : Option Unit :=
    kg (decide (0 ≤ x4 + 1) && decide ((x4 + 1 : Int32).toNatClampNeg < Ls)) <|
    kg (decide (0 ≤ x4 + 2) && decide ((x4 + 2 : Int32).toNatClampNeg < Ls)) <|
    (F_L_bestSeat N M a1 (xs (kx (x4 + 1))) (xs (kx (x4 + 2))) a3).bind fun r1 =>
    kl r1.1 fun v2 =>
    kg (decide (0 ≤ x4 + 1) && decide ((x4 + 1 : Int32).toNatClampNeg < Ls)) <|
    kg (decide (0 ≤ x4 + 2) && decide ((x4 + 2 : Int32).toNatClampNeg < Ls)) <|
    kg (kt r1.2 a2 12) <| (F_X12_bestSeat N r1.2 a2 (xs (kx (x4 + 1))) (xs (kx (x4 + 2)))).bind fun r3 =>
    kl r3.1 fun v4 =>
    kg (kt r3.2 a2 12) <| (F_X12_thrown N r3.2 a2).bind fun r5 =>
    if r5 = v2 then (
      if v2 = 0 then (
        kg (kin r3.2 a3 15 0) <|
        if (lg_cmp (kL r3.2 a3 (kx 0)) v4.toInt64) = 0 then (
          kl (x4 + 6) fun v7 =>
          k23 r3.2 v7) else
        none) else
      kl (x4 + 6) fun v6 =>
      k23 r3.2 v6) else
    none
set_option maxRecDepth 100000 in
set_option maxHeartbeats 4000000 in
theorem k_L_law_1971 {p : Program} {l : Launch} {e : Env} {s : State} {m : MethodId} {below : List Frame} {meth : Method} {c : Code} {g : kG} {b Ls : Nat} {xs : Nat → Int32} (hX : Cok (p, l, e, room_1, s, m, #[Value.ref b], below, meth, c, cL_law, 9, RL, g, 1000)) (hf : l.flags = flags0) (hN : kNc s) (hSc : va_X b Ls xs s s.heap) (hbl : b < s.heap.size) (hbB : s.heap.size = g.2.2.1 + 1) {k n : Nat} (hk : k + 5 ≤ room_1.cells) (hn : n + 30 ≤ room_1.slots) (N a1 a2 a3 : Nat) (k23 : kMem → Int32 → Option Unit) (h23 : ∀ (M : kMem) (x4 : Int32), GG (p, l, e, room_1, s, m, #[Value.ref b], below, meth, c, cL_law, 9, RL, g, 1000) (fun _ : Unit => lw_Z below #[Value.ref b] s) (k + 5) (n + 30) (k23 M x4) 23 [(0, .retAddr b), (1, .ref a1), (2, .ref a2), (3, .ref a3), (4, .int x4)] [] M) (M : kMem) (x4 : Int32) : GG (p, l, e, room_1, s, m, #[Value.ref b], below, meth, c, cL_law, 9, RL, g, 1000) (fun _ : Unit => lw_Z below #[Value.ref b] s) k n (F_L_law_1971 N Ls xs a1 a2 a3 k23 M x4) 1971 [(0, .retAddr b), (1, .ref a1), (2, .ref a2), (3, .ref a3), (4, .int x4)] [] M := by
  unfold F_L_law_1971
  refine g_aload_n 1972 1 hX dL_law_1971 rfl rfl ?_
  refine g_aloadS_n 1973 0 hX dL_law_1972 rfl rfl ?_
  refine g_iload 1975 4 hX dL_law_1973 rfl rfl ?_
  refine g_iconst 1976 hX 1 dL_law_1975 rfl kc_i_1 ?_
  refine g_iadd 1977 hX dL_law_1976 rfl ?_
  refine g_sld 1978 hX hSc hbl hbB dL_law_1977 rfl ?_
  refine g_aloadS_n 1979 0 hX dL_law_1978 rfl rfl ?_
  refine g_iload 1981 4 hX dL_law_1979 rfl rfl ?_
  refine g_iconst 1982 hX 2 dL_law_1981 rfl kc_i_2 ?_
  refine g_iadd 1983 hX dL_law_1982 rfl ?_
  refine g_sld 1984 hX hSc hbl hbB dL_law_1983 rfl ?_
  refine g_aload_n 1985 3 hX dL_law_1984 rfl rfl ?_
  refine g_callSH 1988 hX hN (k_L_bestSeat l g hf N M a1 (xs (kx (x4 + 1))) (xs (kx (x4 + 2))) a3) lkH_L_bestSeat q_1447 (by decide) rfl (Nat.le_of_ble_eq_true rfl) (by omega) (by omega) dL_law_1985 rfl (fun r1 => ?_)
  refine g_klI (fun v2 hv2 => ?_)
  refine g_istore 1990 5 [(5, .int v2), (0, .retAddr b), (1, .ref a1), (2, .ref a2), (3, .ref a3), (4, .int x4)] hX dL_law_1988 rfl (Nat.le_of_ble_eq_true rfl) rfl ?_
  refine g_aload_n 1991 3 hX dL_law_1990 rfl rfl ?_
  refine g_aloadS_n 1992 1 hX dL_law_1991 rfl rfl ?_
  refine g_iload 1994 5 hX dL_law_1992 rfl rfl ?_
  refine g_iconst 1995 hX 1 dL_law_1994 rfl kc_i_1 ?_
  refine g_iadd 1996 hX dL_law_1995 rfl ?_
  refine g_sld 1997 hX hSc hbl hbB dL_law_1996 rfl ?_
  refine g_aloadS_n 1998 1 hX dL_law_1997 rfl rfl ?_
  refine g_iload 2000 5 hX dL_law_1998 rfl rfl ?_
  refine g_iconst 2001 hX 2 dL_law_2000 rfl kc_i_2 ?_
  refine g_iadd 2002 hX dL_law_2001 rfl ?_
  refine g_sld 2003 hX hSc hbl hbB dL_law_2002 rfl ?_
  refine g_callV_i 2006 hX (k_X12_bestSeat l g N r1.2 a2 (xs (kx (x4 + 1))) (xs (kx (x4 + 2)))) lk_X12_bestSeat rfl (ci := 12) rfl (Nat.le_of_ble_eq_true rfl) q_2295 q_2297 (by decide) rfl (Nat.le_of_ble_eq_true rfl) (by omega) (by omega) dL_law_2003 rfl (fun r3 => ?_)
  refine g_klI (fun v4 hv4 => ?_)
  refine g_istore 2008 6 [(6, .int v4), (5, .int v2), (0, .retAddr b), (1, .ref a1), (2, .ref a2), (3, .ref a3), (4, .int x4)] hX dL_law_2006 rfl (Nat.le_of_ble_eq_true rfl) rfl ?_
  refine g_aload_n 2009 4 hX dL_law_2008 rfl rfl ?_
  refine g_callV_ip 2012 hX (k_X12_thrown l g N r3.2 a2) lk_X12_thrown rfl (ci := 12) rfl (Nat.le_of_ble_eq_true rfl) q_1730 q_1732 (by decide) rfl (Nat.le_of_ble_eq_true rfl) (by omega) (by omega) dL_law_2009 rfl (fun r5 => ?_)
  refine g_iload 2014 1 hX dL_law_2012 rfl rfl ?_
  refine g_icmp_eq 2019 2017 hX dL_law_2014 (by decide) rfl (fun _ => ?_) (fun _ => ?_)
  · refine g_iload 2021 1 hX dL_law_2019 rfl rfl ?_
    refine g_if_ne 2036 2024 hX dL_law_2021 (by decide) rfl (fun _ => ?_) (fun _ => ?_)
    · refine g_goto 3200 hX dL_law_2036 (by decide) ?_
      refine g_kl (fun v6 hv6 => ?_)
      refine g_iinc 3203 4 6 v6 [(4, .int v6), (6, .int v4), (5, .int v2), (0, .retAddr b), (1, .ref a1), (2, .ref a2), (3, .ref a3)] hX dL_law_3200 rfl rfl (by rw [hv6, kc_i_6]) (Nat.le_of_ble_eq_true rfl) rfl ?_
      refine g_goto 23 hX dL_law_3203 (by decide) ?_
      refine g_lv [3, 4, 5, 6, 0] rfl ?_
      refine g_widen (k2 := k + 5) (n2 := n + 30) (by omega) (by omega) ?_
      exact h23 r3.2 v6
    · refine g_aload_n 2025 5 hX dL_law_2024 rfl rfl ?_
      refine g_iconst 2026 hX 0 dL_law_2025 rfl kc_i_0 ?_
      refine g_lald 2027 hX dL_law_2026 rfl ?_
      refine g_iload 2029 0 hX dL_law_2027 rfl rfl ?_
      refine g_i2l 2030 hX dL_law_2029 rfl ?_
      refine g_lcmp 2031 hX dL_law_2030 rfl ?_
      refine g_if_eq 2036 2034 hX dL_law_2031 (by decide) rfl (fun _ => ?_) (fun _ => ?_)
      · refine g_goto 3200 hX dL_law_2036 (by decide) ?_
        refine g_kl (fun v7 hv7 => ?_)
        refine g_iinc 3203 4 6 v7 [(4, .int v7), (6, .int v4), (5, .int v2), (0, .retAddr b), (1, .ref a1), (2, .ref a2), (3, .ref a3)] hX dL_law_3200 rfl rfl (by rw [hv7, kc_i_6]) (Nat.le_of_ble_eq_true rfl) rfl ?_
        refine g_goto 23 hX dL_law_3203 (by decide) ?_
        refine g_lv [3, 4, 5, 6, 0] rfl ?_
        refine g_widen (k2 := k + 5) (n2 := n + 30) (by omega) (by omega) ?_
        exact h23 r3.2 v7
      · exact g_none
  · exact g_none
def F_L_law_2039 (N Ls : Nat) (xs : Nat → Int32) (a1 a2 a3 : Nat) (k23 : kMem → Int32 → Option Unit) (M : kMem) (x4 : Int32) : Option Unit :=
    kg (kt M a1 11) <| (F_X11_seatsSold N M a1).bind fun r1 =>
    kg (kt M a2 12) <| (F_X12_seatsSold N M a2).bind fun r2 =>
    if r1 = r2.1 then (
      kl (x4 + 6) fun v3 =>
      k23 r2.2 v3) else
    none
set_option maxRecDepth 100000 in
set_option maxHeartbeats 4000000 in
theorem k_L_law_2039 {p : Program} {l : Launch} {e : Env} {s : State} {m : MethodId} {below : List Frame} {meth : Method} {c : Code} {g : kG} {b Ls : Nat} {xs : Nat → Int32} (hX : Cok (p, l, e, room_1, s, m, #[Value.ref b], below, meth, c, cL_law, 9, RL, g, 1000)) (hf : l.flags = flags0) (hN : kNc s) (hSc : va_X b Ls xs s s.heap) (hbl : b < s.heap.size) (hbB : s.heap.size = g.2.2.1 + 1) {k n : Nat} (hk : k + 5 ≤ room_1.cells) (hn : n + 30 ≤ room_1.slots) (N a1 a2 a3 : Nat) (k23 : kMem → Int32 → Option Unit) (h23 : ∀ (M : kMem) (x4 : Int32), GG (p, l, e, room_1, s, m, #[Value.ref b], below, meth, c, cL_law, 9, RL, g, 1000) (fun _ : Unit => lw_Z below #[Value.ref b] s) (k + 5) (n + 30) (k23 M x4) 23 [(0, .retAddr b), (1, .ref a1), (2, .ref a2), (3, .ref a3), (4, .int x4)] [] M) (M : kMem) (x4 : Int32) : GG (p, l, e, room_1, s, m, #[Value.ref b], below, meth, c, cL_law, 9, RL, g, 1000) (fun _ : Unit => lw_Z below #[Value.ref b] s) k n (F_L_law_2039 N Ls xs a1 a2 a3 k23 M x4) 2039 [(0, .retAddr b), (1, .ref a1), (2, .ref a2), (3, .ref a3), (4, .int x4)] [] M := by
  unfold F_L_law_2039
  refine g_aload_n 2040 1 hX dL_law_2039 rfl rfl ?_
  refine g_callV_ip 2043 hX (k_X11_seatsSold l g N M a1) lk_X11_seatsSold rfl (ci := 11) rfl (Nat.le_of_ble_eq_true rfl) q_1036 q_1038 (by decide) rfl (Nat.le_of_ble_eq_true rfl) (by omega) (by omega) dL_law_2040 rfl (fun r1 => ?_)
  refine g_aload_n 2044 2 hX dL_law_2043 rfl rfl ?_
  refine g_callV_i 2047 hX (k_X12_seatsSold l g N M a2) lk_X12_seatsSold rfl (ci := 12) rfl (Nat.le_of_ble_eq_true rfl) q_2303 q_2305 (by decide) rfl (Nat.le_of_ble_eq_true rfl) (by omega) (by omega) dL_law_2044 rfl (fun r2 => ?_)
  refine g_icmp_eq 3200 2050 hX dL_law_2047 (by decide) rfl (fun _ => ?_) (fun _ => ?_)
  · refine g_kl (fun v3 hv3 => ?_)
    refine g_iinc 3203 4 4 v3 [(4, .int v3), (0, .retAddr b), (1, .ref a1), (2, .ref a2), (3, .ref a3)] hX dL_law_3200 rfl rfl (by rw [hv3, kc_i_6]) (Nat.le_of_ble_eq_true rfl) rfl ?_
    refine g_goto 23 hX dL_law_3203 (by decide) ?_
    refine g_lv [1, 2, 3, 4, 0] rfl ?_
    refine g_widen (k2 := k + 5) (n2 := n + 30) (by omega) (by omega) ?_
    exact h23 r2.2 v3
  · exact g_none
def F_L_law_2052 (N Ls : Nat) (xs : Nat → Int32) (a1 a2 a3 : Nat) (k23 : kMem → Int32 → Option Unit) (M : kMem) (x4 : Int32) : Option Unit :=
    kg (kt M a1 11) <| (F_X11_weightSold N M a1).bind fun r1 =>
    kg (kt M a2 12) <| (F_X12_weightSold N M a2).bind fun r2 =>
    if r1 = r2.1 then (
      kl (x4 + 6) fun v3 =>
      k23 r2.2 v3) else
    none
set_option maxRecDepth 100000 in
set_option maxHeartbeats 4000000 in
theorem k_L_law_2052 {p : Program} {l : Launch} {e : Env} {s : State} {m : MethodId} {below : List Frame} {meth : Method} {c : Code} {g : kG} {b Ls : Nat} {xs : Nat → Int32} (hX : Cok (p, l, e, room_1, s, m, #[Value.ref b], below, meth, c, cL_law, 9, RL, g, 1000)) (hf : l.flags = flags0) (hN : kNc s) (hSc : va_X b Ls xs s s.heap) (hbl : b < s.heap.size) (hbB : s.heap.size = g.2.2.1 + 1) {k n : Nat} (hk : k + 5 ≤ room_1.cells) (hn : n + 30 ≤ room_1.slots) (N a1 a2 a3 : Nat) (k23 : kMem → Int32 → Option Unit) (h23 : ∀ (M : kMem) (x4 : Int32), GG (p, l, e, room_1, s, m, #[Value.ref b], below, meth, c, cL_law, 9, RL, g, 1000) (fun _ : Unit => lw_Z below #[Value.ref b] s) (k + 5) (n + 30) (k23 M x4) 23 [(0, .retAddr b), (1, .ref a1), (2, .ref a2), (3, .ref a3), (4, .int x4)] [] M) (M : kMem) (x4 : Int32) : GG (p, l, e, room_1, s, m, #[Value.ref b], below, meth, c, cL_law, 9, RL, g, 1000) (fun _ : Unit => lw_Z below #[Value.ref b] s) k n (F_L_law_2052 N Ls xs a1 a2 a3 k23 M x4) 2052 [(0, .retAddr b), (1, .ref a1), (2, .ref a2), (3, .ref a3), (4, .int x4)] [] M := by
  unfold F_L_law_2052
  refine g_aload_n 2053 1 hX dL_law_2052 rfl rfl ?_
  refine g_callV_ip 2056 hX (k_X11_weightSold l g N M a1) lk_X11_weightSold rfl (ci := 11) rfl (Nat.le_of_ble_eq_true rfl) q_1040 q_1042 (by decide) rfl (Nat.le_of_ble_eq_true rfl) (by omega) (by omega) dL_law_2053 rfl (fun r1 => ?_)
  refine g_aload_n 2057 2 hX dL_law_2056 rfl rfl ?_
  refine g_callV_i 2060 hX (k_X12_weightSold l g N M a2) lk_X12_weightSold rfl (ci := 12) rfl (Nat.le_of_ble_eq_true rfl) q_2307 q_2309 (by decide) rfl (Nat.le_of_ble_eq_true rfl) (by omega) (by omega) dL_law_2057 rfl (fun r2 => ?_)
  refine g_icmp_eq 3200 2063 hX dL_law_2060 (by decide) rfl (fun _ => ?_) (fun _ => ?_)
  · refine g_kl (fun v3 hv3 => ?_)
    refine g_iinc 3203 4 4 v3 [(4, .int v3), (0, .retAddr b), (1, .ref a1), (2, .ref a2), (3, .ref a3)] hX dL_law_3200 rfl rfl (by rw [hv3, kc_i_6]) (Nat.le_of_ble_eq_true rfl) rfl ?_
    refine g_goto 23 hX dL_law_3203 (by decide) ?_
    refine g_lv [1, 2, 3, 4, 0] rfl ?_
    refine g_widen (k2 := k + 5) (n2 := n + 30) (by omega) (by omega) ?_
    exact h23 r2.2 v3
  · exact g_none
def F_L_law_2065 (N Ls : Nat) (xs : Nat → Int32) (a1 a2 a3 : Nat) (k23 : kMem → Int32 → Option Unit) (M : kMem) (x4 : Int32) : Option Unit :=
    kg (kt M a1 11) <| (F_X11_fallCount N M a1).bind fun r1 =>
    kg (kt M a2 12) <| (F_X12_fallCount N M a2).bind fun r2 =>
    if r1 = r2.1 then (
      kl (x4 + 6) fun v3 =>
      k23 r2.2 v3) else
    none
set_option maxRecDepth 100000 in
set_option maxHeartbeats 4000000 in
theorem k_L_law_2065 {p : Program} {l : Launch} {e : Env} {s : State} {m : MethodId} {below : List Frame} {meth : Method} {c : Code} {g : kG} {b Ls : Nat} {xs : Nat → Int32} (hX : Cok (p, l, e, room_1, s, m, #[Value.ref b], below, meth, c, cL_law, 9, RL, g, 1000)) (hf : l.flags = flags0) (hN : kNc s) (hSc : va_X b Ls xs s s.heap) (hbl : b < s.heap.size) (hbB : s.heap.size = g.2.2.1 + 1) {k n : Nat} (hk : k + 5 ≤ room_1.cells) (hn : n + 30 ≤ room_1.slots) (N a1 a2 a3 : Nat) (k23 : kMem → Int32 → Option Unit) (h23 : ∀ (M : kMem) (x4 : Int32), GG (p, l, e, room_1, s, m, #[Value.ref b], below, meth, c, cL_law, 9, RL, g, 1000) (fun _ : Unit => lw_Z below #[Value.ref b] s) (k + 5) (n + 30) (k23 M x4) 23 [(0, .retAddr b), (1, .ref a1), (2, .ref a2), (3, .ref a3), (4, .int x4)] [] M) (M : kMem) (x4 : Int32) : GG (p, l, e, room_1, s, m, #[Value.ref b], below, meth, c, cL_law, 9, RL, g, 1000) (fun _ : Unit => lw_Z below #[Value.ref b] s) k n (F_L_law_2065 N Ls xs a1 a2 a3 k23 M x4) 2065 [(0, .retAddr b), (1, .ref a1), (2, .ref a2), (3, .ref a3), (4, .int x4)] [] M := by
  unfold F_L_law_2065
  refine g_aload_n 2066 1 hX dL_law_2065 rfl rfl ?_
  refine g_callV_ip 2069 hX (k_X11_fallCount l g N M a1) lk_X11_fallCount rfl (ci := 11) rfl (Nat.le_of_ble_eq_true rfl) q_1044 q_1046 (by decide) rfl (Nat.le_of_ble_eq_true rfl) (by omega) (by omega) dL_law_2066 rfl (fun r1 => ?_)
  refine g_aload_n 2070 2 hX dL_law_2069 rfl rfl ?_
  refine g_callV_i 2073 hX (k_X12_fallCount l g N M a2) lk_X12_fallCount rfl (ci := 12) rfl (Nat.le_of_ble_eq_true rfl) q_2311 q_2313 (by decide) rfl (Nat.le_of_ble_eq_true rfl) (by omega) (by omega) dL_law_2070 rfl (fun r2 => ?_)
  refine g_icmp_eq 3200 2076 hX dL_law_2073 (by decide) rfl (fun _ => ?_) (fun _ => ?_)
  · refine g_kl (fun v3 hv3 => ?_)
    refine g_iinc 3203 4 4 v3 [(4, .int v3), (0, .retAddr b), (1, .ref a1), (2, .ref a2), (3, .ref a3)] hX dL_law_3200 rfl rfl (by rw [hv3, kc_i_6]) (Nat.le_of_ble_eq_true rfl) rfl ?_
    refine g_goto 23 hX dL_law_3203 (by decide) ?_
    refine g_lv [1, 2, 3, 4, 0] rfl ?_
    refine g_widen (k2 := k + 5) (n2 := n + 30) (by omega) (by omega) ?_
    exact h23 r2.2 v3
  · exact g_none
def F_L_law_2078 (N Ls : Nat) (xs : Nat → Int32) (a1 a2 a3 : Nat) (k23 : kMem → Int32 → Option Unit) (M : kMem) (x4 : Int32) : Option Unit :=
    kg (kt M a1 11) <| (F_X11_averagePurse N M a1).bind fun r1 =>
    kg (kt M a2 12) <| (F_X12_averagePurse N M a2).bind fun r2 =>
    kl r2.1 fun v3 =>
    if (Op.cmpValue (FP.dcmp r1 v3) .l) = 0 then (
      kl (x4 + 6) fun v4 =>
      k23 r2.2 v4) else
    if (Op.cmpValue (FP.dcmp r1 r1) .l) = 0 then (
      none) else
    if (Op.cmpValue (FP.dcmp v3 v3) .l) = 0 then (
      none) else
    kl (x4 + 6) fun v5 =>
    k23 r2.2 v5
set_option maxRecDepth 100000 in
set_option maxHeartbeats 4000000 in
theorem k_L_law_2078 {p : Program} {l : Launch} {e : Env} {s : State} {m : MethodId} {below : List Frame} {meth : Method} {c : Code} {g : kG} {b Ls : Nat} {xs : Nat → Int32} (hX : Cok (p, l, e, room_1, s, m, #[Value.ref b], below, meth, c, cL_law, 9, RL, g, 1000)) (hf : l.flags = flags0) (hN : kNc s) (hSc : va_X b Ls xs s s.heap) (hbl : b < s.heap.size) (hbB : s.heap.size = g.2.2.1 + 1) {k n : Nat} (hk : k + 5 ≤ room_1.cells) (hn : n + 30 ≤ room_1.slots) (N a1 a2 a3 : Nat) (k23 : kMem → Int32 → Option Unit) (h23 : ∀ (M : kMem) (x4 : Int32), GG (p, l, e, room_1, s, m, #[Value.ref b], below, meth, c, cL_law, 9, RL, g, 1000) (fun _ : Unit => lw_Z below #[Value.ref b] s) (k + 5) (n + 30) (k23 M x4) 23 [(0, .retAddr b), (1, .ref a1), (2, .ref a2), (3, .ref a3), (4, .int x4)] [] M) (M : kMem) (x4 : Int32) : GG (p, l, e, room_1, s, m, #[Value.ref b], below, meth, c, cL_law, 9, RL, g, 1000) (fun _ : Unit => lw_Z below #[Value.ref b] s) k n (F_L_law_2078 N Ls xs a1 a2 a3 k23 M x4) 2078 [(0, .retAddr b), (1, .ref a1), (2, .ref a2), (3, .ref a3), (4, .int x4)] [] M := by
  unfold F_L_law_2078
  refine g_aload_n 2079 1 hX dL_law_2078 rfl rfl ?_
  refine g_callV_dp 2082 hX (k_X11_averagePurse l g N M a1) lk_X11_averagePurse rfl (ci := 11) rfl (Nat.le_of_ble_eq_true rfl) q_1048 q_1050 (by decide) rfl (Nat.le_of_ble_eq_true rfl) (by omega) (by omega) dL_law_2079 rfl (fun r1 => ?_)
  refine g_dstore 2084 5 [(5, .double r1), (0, .retAddr b), (1, .ref a1), (2, .ref a2), (3, .ref a3), (4, .int x4)] hX dL_law_2082 rfl (Nat.le_of_ble_eq_true rfl) rfl ?_
  refine g_aload_n 2085 3 hX dL_law_2084 rfl rfl ?_
  refine g_callV_d 2088 hX (k_X12_averagePurse l g N M a2) lk_X12_averagePurse rfl (ci := 12) rfl (Nat.le_of_ble_eq_true rfl) q_2315 q_2317 (by decide) rfl (Nat.le_of_ble_eq_true rfl) (by omega) (by omega) dL_law_2085 rfl (fun r2 => ?_)
  refine g_klD (fun v3 hv3 => ?_)
  refine g_dstore 2090 7 [(7, .double v3), (5, .double r1), (0, .retAddr b), (1, .ref a1), (2, .ref a2), (3, .ref a3), (4, .int x4)] hX dL_law_2088 rfl (Nat.le_of_ble_eq_true rfl) rfl ?_
  refine g_dload 2092 1 hX dL_law_2090 rfl rfl ?_
  refine g_dload 2094 0 hX dL_law_2092 rfl rfl ?_
  refine g_dcmp 2095 hX dL_law_2094 rfl ?_
  refine g_if_eq 2116 2098 hX dL_law_2095 (by decide) rfl (fun _ => ?_) (fun _ => ?_)
  · refine g_goto 3200 hX dL_law_2116 (by decide) ?_
    refine g_kl (fun v4 hv4 => ?_)
    refine g_iinc 3203 4 6 v4 [(4, .int v4), (7, .double v3), (5, .double r1), (0, .retAddr b), (1, .ref a1), (2, .ref a2), (3, .ref a3)] hX dL_law_3200 rfl rfl (by rw [hv4, kc_i_6]) (Nat.le_of_ble_eq_true rfl) rfl ?_
    refine g_goto 23 hX dL_law_3203 (by decide) ?_
    refine g_lv [3, 4, 5, 6, 0] rfl ?_
    refine g_widen (k2 := k + 5) (n2 := n + 30) (by omega) (by omega) ?_
    exact h23 r2.2 v4
  · refine g_dload 2100 1 hX dL_law_2098 rfl rfl ?_
    refine g_dload 2102 1 hX dL_law_2100 rfl rfl ?_
    refine g_dcmp 2103 hX dL_law_2102 rfl ?_
    refine g_if_eq 2114 2106 hX dL_law_2103 (by decide) rfl (fun _ => ?_) (fun _ => ?_)
    · exact g_none
    · refine g_dload 2108 0 hX dL_law_2106 rfl rfl ?_
      refine g_dload 2110 0 hX dL_law_2108 rfl rfl ?_
      refine g_dcmp 2111 hX dL_law_2110 rfl ?_
      refine g_if_ne 2116 2114 hX dL_law_2111 (by decide) rfl (fun _ => ?_) (fun _ => ?_)
      · refine g_goto 3200 hX dL_law_2116 (by decide) ?_
        refine g_kl (fun v5 hv5 => ?_)
        refine g_iinc 3203 4 6 v5 [(4, .int v5), (7, .double v3), (5, .double r1), (0, .retAddr b), (1, .ref a1), (2, .ref a2), (3, .ref a3)] hX dL_law_3200 rfl rfl (by rw [hv5, kc_i_6]) (Nat.le_of_ble_eq_true rfl) rfl ?_
        refine g_goto 23 hX dL_law_3203 (by decide) ?_
        refine g_lv [3, 4, 5, 6, 0] rfl ?_
        refine g_widen (k2 := k + 5) (n2 := n + 30) (by omega) (by omega) ?_
        exact h23 r2.2 v5
      · exact g_none
def F_L_law_2119 (N Ls : Nat) (xs : Nat → Int32) (a1 a2 a3 : Nat) (k23 : kMem → Int32 → Option Unit) (M : kMem) (x4 : Int32) : Option Unit :=
    kg (kt M a1 11) <| (F_X11_occupancy N M a1).bind fun r1 =>
    kg (decide (FP.f2d r1 &&& 0x7fffffffffffffff ≤ 0x7ff0000000000000)) <|
    kl (FP.f2d r1) fun v2 =>
    kg (kt M a2 12) <| (F_X12_occupancy N M a2).bind fun r3 =>
    kg (decide (FP.f2d r3.1 &&& 0x7fffffffffffffff ≤ 0x7ff0000000000000)) <|
    kl (FP.f2d r3.1) fun v4 =>
    if (Op.cmpValue (FP.dcmp v2 v4) .l) = 0 then (
      kl (x4 + 6) fun v5 =>
      k23 r3.2 v5) else
    if (Op.cmpValue (FP.dcmp v2 v2) .l) = 0 then (
      none) else
    if (Op.cmpValue (FP.dcmp v4 v4) .l) = 0 then (
      none) else
    kl (x4 + 6) fun v6 =>
    k23 r3.2 v6
set_option maxRecDepth 100000 in
set_option maxHeartbeats 4000000 in
theorem k_L_law_2119 {p : Program} {l : Launch} {e : Env} {s : State} {m : MethodId} {below : List Frame} {meth : Method} {c : Code} {g : kG} {b Ls : Nat} {xs : Nat → Int32} (hX : Cok (p, l, e, room_1, s, m, #[Value.ref b], below, meth, c, cL_law, 9, RL, g, 1000)) (hf : l.flags = flags0) (hN : kNc s) (hSc : va_X b Ls xs s s.heap) (hbl : b < s.heap.size) (hbB : s.heap.size = g.2.2.1 + 1) {k n : Nat} (hk : k + 5 ≤ room_1.cells) (hn : n + 30 ≤ room_1.slots) (N a1 a2 a3 : Nat) (k23 : kMem → Int32 → Option Unit) (h23 : ∀ (M : kMem) (x4 : Int32), GG (p, l, e, room_1, s, m, #[Value.ref b], below, meth, c, cL_law, 9, RL, g, 1000) (fun _ : Unit => lw_Z below #[Value.ref b] s) (k + 5) (n + 30) (k23 M x4) 23 [(0, .retAddr b), (1, .ref a1), (2, .ref a2), (3, .ref a3), (4, .int x4)] [] M) (M : kMem) (x4 : Int32) : GG (p, l, e, room_1, s, m, #[Value.ref b], below, meth, c, cL_law, 9, RL, g, 1000) (fun _ : Unit => lw_Z below #[Value.ref b] s) k n (F_L_law_2119 N Ls xs a1 a2 a3 k23 M x4) 2119 [(0, .retAddr b), (1, .ref a1), (2, .ref a2), (3, .ref a3), (4, .int x4)] [] M := by
  unfold F_L_law_2119
  refine g_aload_n 2120 1 hX dL_law_2119 rfl rfl ?_
  refine g_callV_fp 2123 hX (k_X11_occupancy l g N M a1) lk_X11_occupancy rfl (ci := 11) rfl (Nat.le_of_ble_eq_true rfl) q_1060 q_1062 (by decide) rfl (Nat.le_of_ble_eq_true rfl) (by omega) (by omega) dL_law_2120 rfl (fun r1 => ?_)
  refine g_f2d 2124 hX dL_law_2123 rfl ?_
  refine g_klD (fun v2 hv2 => ?_)
  refine g_dstore 2126 5 [(5, .double v2), (0, .retAddr b), (1, .ref a1), (2, .ref a2), (3, .ref a3), (4, .int x4)] hX dL_law_2124 rfl (Nat.le_of_ble_eq_true rfl) rfl ?_
  refine g_aload_n 2127 3 hX dL_law_2126 rfl rfl ?_
  refine g_callV_f 2130 hX (k_X12_occupancy l g N M a2) lk_X12_occupancy rfl (ci := 12) rfl (Nat.le_of_ble_eq_true rfl) q_2319 q_2321 (by decide) rfl (Nat.le_of_ble_eq_true rfl) (by omega) (by omega) dL_law_2127 rfl (fun r3 => ?_)
  refine g_f2d 2131 hX dL_law_2130 rfl ?_
  refine g_klD (fun v4 hv4 => ?_)
  refine g_dstore 2133 7 [(7, .double v4), (5, .double v2), (0, .retAddr b), (1, .ref a1), (2, .ref a2), (3, .ref a3), (4, .int x4)] hX dL_law_2131 rfl (Nat.le_of_ble_eq_true rfl) rfl ?_
  refine g_dload 2135 1 hX dL_law_2133 rfl rfl ?_
  refine g_dload 2137 0 hX dL_law_2135 rfl rfl ?_
  refine g_dcmp 2138 hX dL_law_2137 rfl ?_
  refine g_if_eq 2159 2141 hX dL_law_2138 (by decide) rfl (fun _ => ?_) (fun _ => ?_)
  · refine g_goto 3200 hX dL_law_2159 (by decide) ?_
    refine g_kl (fun v5 hv5 => ?_)
    refine g_iinc 3203 4 6 v5 [(4, .int v5), (7, .double v4), (5, .double v2), (0, .retAddr b), (1, .ref a1), (2, .ref a2), (3, .ref a3)] hX dL_law_3200 rfl rfl (by rw [hv5, kc_i_6]) (Nat.le_of_ble_eq_true rfl) rfl ?_
    refine g_goto 23 hX dL_law_3203 (by decide) ?_
    refine g_lv [3, 4, 5, 6, 0] rfl ?_
    refine g_widen (k2 := k + 5) (n2 := n + 30) (by omega) (by omega) ?_
    exact h23 r3.2 v5
  · refine g_dload 2143 1 hX dL_law_2141 rfl rfl ?_
    refine g_dload 2145 1 hX dL_law_2143 rfl rfl ?_
    refine g_dcmp 2146 hX dL_law_2145 rfl ?_
    refine g_if_eq 2157 2149 hX dL_law_2146 (by decide) rfl (fun _ => ?_) (fun _ => ?_)
    · exact g_none
    · refine g_dload 2151 0 hX dL_law_2149 rfl rfl ?_
      refine g_dload 2153 0 hX dL_law_2151 rfl rfl ?_
      refine g_dcmp 2154 hX dL_law_2153 rfl ?_
      refine g_if_ne 2159 2157 hX dL_law_2154 (by decide) rfl (fun _ => ?_) (fun _ => ?_)
      · refine g_goto 3200 hX dL_law_2159 (by decide) ?_
        refine g_kl (fun v6 hv6 => ?_)
        refine g_iinc 3203 4 6 v6 [(4, .int v6), (7, .double v4), (5, .double v2), (0, .retAddr b), (1, .ref a1), (2, .ref a2), (3, .ref a3)] hX dL_law_3200 rfl rfl (by rw [hv6, kc_i_6]) (Nat.le_of_ble_eq_true rfl) rfl ?_
        refine g_goto 23 hX dL_law_3203 (by decide) ?_
        refine g_lv [3, 4, 5, 6, 0] rfl ?_
        refine g_widen (k2 := k + 5) (n2 := n + 30) (by omega) (by omega) ?_
        exact h23 r3.2 v6
      · exact g_none
def F_L_law_2162 (N Ls : Nat) (xs : Nat → Int32) (a1 a2 a3 : Nat) (k23 : kMem → Int32 → Option Unit) (M : kMem) (x4 : Int32) : Option Unit :=
    kg (kt M a1 11) <| (F_X11_contradictions N M a1).bind fun r1 =>
    kg (kt M a2 12) <| (F_X12_contradictions N M a2).bind fun r2 =>
    if r1 = r2.1 then (
      kl (x4 + 6) fun v3 =>
      k23 r2.2 v3) else
    none
set_option maxRecDepth 100000 in
set_option maxHeartbeats 4000000 in
theorem k_L_law_2162 {p : Program} {l : Launch} {e : Env} {s : State} {m : MethodId} {below : List Frame} {meth : Method} {c : Code} {g : kG} {b Ls : Nat} {xs : Nat → Int32} (hX : Cok (p, l, e, room_1, s, m, #[Value.ref b], below, meth, c, cL_law, 9, RL, g, 1000)) (hf : l.flags = flags0) (hN : kNc s) (hSc : va_X b Ls xs s s.heap) (hbl : b < s.heap.size) (hbB : s.heap.size = g.2.2.1 + 1) {k n : Nat} (hk : k + 5 ≤ room_1.cells) (hn : n + 30 ≤ room_1.slots) (N a1 a2 a3 : Nat) (k23 : kMem → Int32 → Option Unit) (h23 : ∀ (M : kMem) (x4 : Int32), GG (p, l, e, room_1, s, m, #[Value.ref b], below, meth, c, cL_law, 9, RL, g, 1000) (fun _ : Unit => lw_Z below #[Value.ref b] s) (k + 5) (n + 30) (k23 M x4) 23 [(0, .retAddr b), (1, .ref a1), (2, .ref a2), (3, .ref a3), (4, .int x4)] [] M) (M : kMem) (x4 : Int32) : GG (p, l, e, room_1, s, m, #[Value.ref b], below, meth, c, cL_law, 9, RL, g, 1000) (fun _ : Unit => lw_Z below #[Value.ref b] s) k n (F_L_law_2162 N Ls xs a1 a2 a3 k23 M x4) 2162 [(0, .retAddr b), (1, .ref a1), (2, .ref a2), (3, .ref a3), (4, .int x4)] [] M := by
  unfold F_L_law_2162
  refine g_aload_n 2163 1 hX dL_law_2162 rfl rfl ?_
  refine g_callV_ip 2166 hX (k_X11_contradictions l g N M a1) lk_X11_contradictions rfl (ci := 11) rfl (Nat.le_of_ble_eq_true rfl) q_1072 q_1074 (by decide) rfl (Nat.le_of_ble_eq_true rfl) (by omega) (by omega) dL_law_2163 rfl (fun r1 => ?_)
  refine g_aload_n 2167 2 hX dL_law_2166 rfl rfl ?_
  refine g_callV_i 2170 hX (k_X12_contradictions l g N M a2) lk_X12_contradictions rfl (ci := 12) rfl (Nat.le_of_ble_eq_true rfl) q_2323 q_2325 (by decide) rfl (Nat.le_of_ble_eq_true rfl) (by omega) (by omega) dL_law_2167 rfl (fun r2 => ?_)
  refine g_icmp_eq 3200 2173 hX dL_law_2170 (by decide) rfl (fun _ => ?_) (fun _ => ?_)
  · refine g_kl (fun v3 hv3 => ?_)
    refine g_iinc 3203 4 4 v3 [(4, .int v3), (0, .retAddr b), (1, .ref a1), (2, .ref a2), (3, .ref a3)] hX dL_law_3200 rfl rfl (by rw [hv3, kc_i_6]) (Nat.le_of_ble_eq_true rfl) rfl ?_
    refine g_goto 23 hX dL_law_3203 (by decide) ?_
    refine g_lv [1, 2, 3, 4, 0] rfl ?_
    refine g_widen (k2 := k + 5) (n2 := n + 30) (by omega) (by omega) ?_
    exact h23 r2.2 v3
  · exact g_none
def F_L_law_2175 (N Ls : Nat) (xs : Nat → Int32) (a1 a2 a3 : Nat) (k23 : kMem → Int32 → Option Unit) (M : kMem) (x4 : Int32) : Option Unit :=
    kg (decide (0 ≤ x4 + 1) && decide ((x4 + 1 : Int32).toNatClampNeg < Ls)) <|
    kg (kt M a1 11) <| (F_X11_eventKind N M a1 (xs (kx (x4 + 1)))).bind fun r1 =>
    kg (decide (0 ≤ x4 + 1) && decide ((x4 + 1 : Int32).toNatClampNeg < Ls)) <|
    kg (kt M a2 12) <| (F_X12_eventKind N M a2 (xs (kx (x4 + 1)))).bind fun r2 =>
    if r1 = r2.1 then (
      kl (x4 + 6) fun v3 =>
      k23 r2.2 v3) else
    none
set_option maxRecDepth 100000 in
set_option maxHeartbeats 4000000 in
theorem k_L_law_2175 {p : Program} {l : Launch} {e : Env} {s : State} {m : MethodId} {below : List Frame} {meth : Method} {c : Code} {g : kG} {b Ls : Nat} {xs : Nat → Int32} (hX : Cok (p, l, e, room_1, s, m, #[Value.ref b], below, meth, c, cL_law, 9, RL, g, 1000)) (hf : l.flags = flags0) (hN : kNc s) (hSc : va_X b Ls xs s s.heap) (hbl : b < s.heap.size) (hbB : s.heap.size = g.2.2.1 + 1) {k n : Nat} (hk : k + 5 ≤ room_1.cells) (hn : n + 30 ≤ room_1.slots) (N a1 a2 a3 : Nat) (k23 : kMem → Int32 → Option Unit) (h23 : ∀ (M : kMem) (x4 : Int32), GG (p, l, e, room_1, s, m, #[Value.ref b], below, meth, c, cL_law, 9, RL, g, 1000) (fun _ : Unit => lw_Z below #[Value.ref b] s) (k + 5) (n + 30) (k23 M x4) 23 [(0, .retAddr b), (1, .ref a1), (2, .ref a2), (3, .ref a3), (4, .int x4)] [] M) (M : kMem) (x4 : Int32) : GG (p, l, e, room_1, s, m, #[Value.ref b], below, meth, c, cL_law, 9, RL, g, 1000) (fun _ : Unit => lw_Z below #[Value.ref b] s) k n (F_L_law_2175 N Ls xs a1 a2 a3 k23 M x4) 2175 [(0, .retAddr b), (1, .ref a1), (2, .ref a2), (3, .ref a3), (4, .int x4)] [] M := by
  unfold F_L_law_2175
  refine g_aload_n 2176 1 hX dL_law_2175 rfl rfl ?_
  refine g_aloadS_n 2177 0 hX dL_law_2176 rfl rfl ?_
  refine g_iload 2179 4 hX dL_law_2177 rfl rfl ?_
  refine g_iconst 2180 hX 1 dL_law_2179 rfl kc_i_1 ?_
  refine g_iadd 2181 hX dL_law_2180 rfl ?_
  refine g_sld 2182 hX hSc hbl hbB dL_law_2181 rfl ?_
  refine g_callV_ip 2185 hX (k_X11_eventKind l g N M a1 (xs (kx (x4 + 1)))) lk_X11_eventKind rfl (ci := 11) rfl (Nat.le_of_ble_eq_true rfl) q_1093 q_1095 (by decide) rfl (Nat.le_of_ble_eq_true rfl) (by omega) (by omega) dL_law_2182 rfl (fun r1 => ?_)
  refine g_aload_n 2186 2 hX dL_law_2185 rfl rfl ?_
  refine g_aloadS_n 2187 0 hX dL_law_2186 rfl rfl ?_
  refine g_iload 2189 4 hX dL_law_2187 rfl rfl ?_
  refine g_iconst 2190 hX 1 dL_law_2189 rfl kc_i_1 ?_
  refine g_iadd 2191 hX dL_law_2190 rfl ?_
  refine g_sld 2192 hX hSc hbl hbB dL_law_2191 rfl ?_
  refine g_callV_i 2195 hX (k_X12_eventKind l g N M a2 (xs (kx (x4 + 1)))) lk_X12_eventKind rfl (ci := 12) rfl (Nat.le_of_ble_eq_true rfl) q_2339 q_2341 (by decide) rfl (Nat.le_of_ble_eq_true rfl) (by omega) (by omega) dL_law_2192 rfl (fun r2 => ?_)
  refine g_icmp_eq 3200 2198 hX dL_law_2195 (by decide) rfl (fun _ => ?_) (fun _ => ?_)
  · refine g_kl (fun v3 hv3 => ?_)
    refine g_iinc 3203 4 4 v3 [(4, .int v3), (0, .retAddr b), (1, .ref a1), (2, .ref a2), (3, .ref a3)] hX dL_law_3200 rfl rfl (by rw [hv3, kc_i_6]) (Nat.le_of_ble_eq_true rfl) rfl ?_
    refine g_goto 23 hX dL_law_3203 (by decide) ?_
    refine g_lv [1, 2, 3, 4, 0] rfl ?_
    refine g_widen (k2 := k + 5) (n2 := n + 30) (by omega) (by omega) ?_
    exact h23 r2.2 v3
  · exact g_none
def F_L_law_2200 (N Ls : Nat) (xs : Nat → Int32) (a1 a2 a3 : Nat) (k23 : kMem → Int32 → Option Unit) (M : kMem) (x4 : Int32) : Option Unit :=
    kg (decide (0 ≤ x4 + 1) && decide ((x4 + 1 : Int32).toNatClampNeg < Ls)) <|
    kg (kt M a1 11) <| (F_X11_eventTrader N M a1 (xs (kx (x4 + 1)))).bind fun r1 =>
    kg (decide (0 ≤ x4 + 1) && decide ((x4 + 1 : Int32).toNatClampNeg < Ls)) <|
    kg (kt M a2 12) <| (F_X12_eventTrader N M a2 (xs (kx (x4 + 1)))).bind fun r2 =>
    if r1 = r2.1 then (
      kl (x4 + 6) fun v3 =>
      k23 r2.2 v3) else
    none
set_option maxRecDepth 100000 in
set_option maxHeartbeats 4000000 in
theorem k_L_law_2200 {p : Program} {l : Launch} {e : Env} {s : State} {m : MethodId} {below : List Frame} {meth : Method} {c : Code} {g : kG} {b Ls : Nat} {xs : Nat → Int32} (hX : Cok (p, l, e, room_1, s, m, #[Value.ref b], below, meth, c, cL_law, 9, RL, g, 1000)) (hf : l.flags = flags0) (hN : kNc s) (hSc : va_X b Ls xs s s.heap) (hbl : b < s.heap.size) (hbB : s.heap.size = g.2.2.1 + 1) {k n : Nat} (hk : k + 5 ≤ room_1.cells) (hn : n + 30 ≤ room_1.slots) (N a1 a2 a3 : Nat) (k23 : kMem → Int32 → Option Unit) (h23 : ∀ (M : kMem) (x4 : Int32), GG (p, l, e, room_1, s, m, #[Value.ref b], below, meth, c, cL_law, 9, RL, g, 1000) (fun _ : Unit => lw_Z below #[Value.ref b] s) (k + 5) (n + 30) (k23 M x4) 23 [(0, .retAddr b), (1, .ref a1), (2, .ref a2), (3, .ref a3), (4, .int x4)] [] M) (M : kMem) (x4 : Int32) : GG (p, l, e, room_1, s, m, #[Value.ref b], below, meth, c, cL_law, 9, RL, g, 1000) (fun _ : Unit => lw_Z below #[Value.ref b] s) k n (F_L_law_2200 N Ls xs a1 a2 a3 k23 M x4) 2200 [(0, .retAddr b), (1, .ref a1), (2, .ref a2), (3, .ref a3), (4, .int x4)] [] M := by
  unfold F_L_law_2200
  refine g_aload_n 2201 1 hX dL_law_2200 rfl rfl ?_
  refine g_aloadS_n 2202 0 hX dL_law_2201 rfl rfl ?_
  refine g_iload 2204 4 hX dL_law_2202 rfl rfl ?_
  refine g_iconst 2205 hX 1 dL_law_2204 rfl kc_i_1 ?_
  refine g_iadd 2206 hX dL_law_2205 rfl ?_
  refine g_sld 2207 hX hSc hbl hbB dL_law_2206 rfl ?_
  refine g_callV_ip 2210 hX (k_X11_eventTrader l g N M a1 (xs (kx (x4 + 1)))) lk_X11_eventTrader rfl (ci := 11) rfl (Nat.le_of_ble_eq_true rfl) q_1105 q_1107 (by decide) rfl (Nat.le_of_ble_eq_true rfl) (by omega) (by omega) dL_law_2207 rfl (fun r1 => ?_)
  refine g_aload_n 2211 2 hX dL_law_2210 rfl rfl ?_
  refine g_aloadS_n 2212 0 hX dL_law_2211 rfl rfl ?_
  refine g_iload 2214 4 hX dL_law_2212 rfl rfl ?_
  refine g_iconst 2215 hX 1 dL_law_2214 rfl kc_i_1 ?_
  refine g_iadd 2216 hX dL_law_2215 rfl ?_
  refine g_sld 2217 hX hSc hbl hbB dL_law_2216 rfl ?_
  refine g_callV_i 2220 hX (k_X12_eventTrader l g N M a2 (xs (kx (x4 + 1)))) lk_X12_eventTrader rfl (ci := 12) rfl (Nat.le_of_ble_eq_true rfl) q_2347 q_2349 (by decide) rfl (Nat.le_of_ble_eq_true rfl) (by omega) (by omega) dL_law_2217 rfl (fun r2 => ?_)
  refine g_icmp_eq 3200 2223 hX dL_law_2220 (by decide) rfl (fun _ => ?_) (fun _ => ?_)
  · refine g_kl (fun v3 hv3 => ?_)
    refine g_iinc 3203 4 4 v3 [(4, .int v3), (0, .retAddr b), (1, .ref a1), (2, .ref a2), (3, .ref a3)] hX dL_law_3200 rfl rfl (by rw [hv3, kc_i_6]) (Nat.le_of_ble_eq_true rfl) rfl ?_
    refine g_goto 23 hX dL_law_3203 (by decide) ?_
    refine g_lv [1, 2, 3, 4, 0] rfl ?_
    refine g_widen (k2 := k + 5) (n2 := n + 30) (by omega) (by omega) ?_
    exact h23 r2.2 v3
  · exact g_none
def F_L_law_2225 (N Ls : Nat) (xs : Nat → Int32) (a1 a2 a3 : Nat) (k23 : kMem → Int32 → Option Unit) (M : kMem) (x4 : Int32) : Option Unit :=
    kg (decide (0 ≤ x4 + 1) && decide ((x4 + 1 : Int32).toNatClampNeg < Ls)) <|
    kg (kt M a1 11) <| (F_X11_eventDay N M a1 (xs (kx (x4 + 1)))).bind fun r1 =>
    kg (decide (0 ≤ x4 + 1) && decide ((x4 + 1 : Int32).toNatClampNeg < Ls)) <|
    kg (kt M a2 12) <| (F_X12_eventDay N M a2 (xs (kx (x4 + 1)))).bind fun r2 =>
    if r1 = r2.1 then (
      kl (x4 + 6) fun v3 =>
      k23 r2.2 v3) else
    none
set_option maxRecDepth 100000 in
set_option maxHeartbeats 4000000 in
theorem k_L_law_2225 {p : Program} {l : Launch} {e : Env} {s : State} {m : MethodId} {below : List Frame} {meth : Method} {c : Code} {g : kG} {b Ls : Nat} {xs : Nat → Int32} (hX : Cok (p, l, e, room_1, s, m, #[Value.ref b], below, meth, c, cL_law, 9, RL, g, 1000)) (hf : l.flags = flags0) (hN : kNc s) (hSc : va_X b Ls xs s s.heap) (hbl : b < s.heap.size) (hbB : s.heap.size = g.2.2.1 + 1) {k n : Nat} (hk : k + 5 ≤ room_1.cells) (hn : n + 30 ≤ room_1.slots) (N a1 a2 a3 : Nat) (k23 : kMem → Int32 → Option Unit) (h23 : ∀ (M : kMem) (x4 : Int32), GG (p, l, e, room_1, s, m, #[Value.ref b], below, meth, c, cL_law, 9, RL, g, 1000) (fun _ : Unit => lw_Z below #[Value.ref b] s) (k + 5) (n + 30) (k23 M x4) 23 [(0, .retAddr b), (1, .ref a1), (2, .ref a2), (3, .ref a3), (4, .int x4)] [] M) (M : kMem) (x4 : Int32) : GG (p, l, e, room_1, s, m, #[Value.ref b], below, meth, c, cL_law, 9, RL, g, 1000) (fun _ : Unit => lw_Z below #[Value.ref b] s) k n (F_L_law_2225 N Ls xs a1 a2 a3 k23 M x4) 2225 [(0, .retAddr b), (1, .ref a1), (2, .ref a2), (3, .ref a3), (4, .int x4)] [] M := by
  unfold F_L_law_2225
  refine g_aload_n 2226 1 hX dL_law_2225 rfl rfl ?_
  refine g_aloadS_n 2227 0 hX dL_law_2226 rfl rfl ?_
  refine g_iload 2229 4 hX dL_law_2227 rfl rfl ?_
  refine g_iconst 2230 hX 1 dL_law_2229 rfl kc_i_1 ?_
  refine g_iadd 2231 hX dL_law_2230 rfl ?_
  refine g_sld 2232 hX hSc hbl hbB dL_law_2231 rfl ?_
  refine g_callV_ip 2235 hX (k_X11_eventDay l g N M a1 (xs (kx (x4 + 1)))) lk_X11_eventDay rfl (ci := 11) rfl (Nat.le_of_ble_eq_true rfl) q_1113 q_1115 (by decide) rfl (Nat.le_of_ble_eq_true rfl) (by omega) (by omega) dL_law_2232 rfl (fun r1 => ?_)
  refine g_aload_n 2236 2 hX dL_law_2235 rfl rfl ?_
  refine g_aloadS_n 2237 0 hX dL_law_2236 rfl rfl ?_
  refine g_iload 2239 4 hX dL_law_2237 rfl rfl ?_
  refine g_iconst 2240 hX 1 dL_law_2239 rfl kc_i_1 ?_
  refine g_iadd 2241 hX dL_law_2240 rfl ?_
  refine g_sld 2242 hX hSc hbl hbB dL_law_2241 rfl ?_
  refine g_callV_i 2245 hX (k_X12_eventDay l g N M a2 (xs (kx (x4 + 1)))) lk_X12_eventDay rfl (ci := 12) rfl (Nat.le_of_ble_eq_true rfl) q_2351 q_2353 (by decide) rfl (Nat.le_of_ble_eq_true rfl) (by omega) (by omega) dL_law_2242 rfl (fun r2 => ?_)
  refine g_icmp_eq 3200 2248 hX dL_law_2245 (by decide) rfl (fun _ => ?_) (fun _ => ?_)
  · refine g_kl (fun v3 hv3 => ?_)
    refine g_iinc 3203 4 4 v3 [(4, .int v3), (0, .retAddr b), (1, .ref a1), (2, .ref a2), (3, .ref a3)] hX dL_law_3200 rfl rfl (by rw [hv3, kc_i_6]) (Nat.le_of_ble_eq_true rfl) rfl ?_
    refine g_goto 23 hX dL_law_3203 (by decide) ?_
    refine g_lv [1, 2, 3, 4, 0] rfl ?_
    refine g_widen (k2 := k + 5) (n2 := n + 30) (by omega) (by omega) ?_
    exact h23 r2.2 v3
  · exact g_none
def F_L_law_2250 (N Ls : Nat) (xs : Nat → Int32) (a1 a2 a3 : Nat) (k23 : kMem → Int32 → Option Unit) (M : kMem) (x4 : Int32) : Option Unit :=
    kg (decide (0 ≤ x4 + 1) && decide ((x4 + 1 : Int32).toNatClampNeg < Ls)) <|
    kg (decide (0 ≤ x4 + 2) && decide ((x4 + 2 : Int32).toNatClampNeg < Ls)) <|
    (F_L_purseAfter N M a1 (xs (kx (x4 + 1))) (xs (kx (x4 + 2))) a3).bind fun r1 =>
    kl r1.1 fun v2 =>
    kg (decide (0 ≤ x4 + 1) && decide ((x4 + 1 : Int32).toNatClampNeg < Ls)) <|
    kg (decide (0 ≤ x4 + 2) && decide ((x4 + 2 : Int32).toNatClampNeg < Ls)) <|
    kg (kt r1.2 a2 12) <| (F_X12_purseAfter N r1.2 a2 (xs (kx (x4 + 1))) (xs (kx (x4 + 2)))).bind fun r3 =>
    kl r3.1 fun v4 =>
    kg (kt r3.2 a2 12) <| (F_X12_thrown N r3.2 a2).bind fun r5 =>
    if r5 = v2 then (
      if v2 = 0 then (
        kg (kin r3.2 a3 15 0) <|
        if (lg_cmp (kL r3.2 a3 (kx 0)) v4.toInt64) = 0 then (
          kl (x4 + 6) fun v7 =>
          k23 r3.2 v7) else
        none) else
      kl (x4 + 6) fun v6 =>
      k23 r3.2 v6) else
    none
set_option maxRecDepth 100000 in
set_option maxHeartbeats 4000000 in
theorem k_L_law_2250 {p : Program} {l : Launch} {e : Env} {s : State} {m : MethodId} {below : List Frame} {meth : Method} {c : Code} {g : kG} {b Ls : Nat} {xs : Nat → Int32} (hX : Cok (p, l, e, room_1, s, m, #[Value.ref b], below, meth, c, cL_law, 9, RL, g, 1000)) (hf : l.flags = flags0) (hN : kNc s) (hSc : va_X b Ls xs s s.heap) (hbl : b < s.heap.size) (hbB : s.heap.size = g.2.2.1 + 1) {k n : Nat} (hk : k + 5 ≤ room_1.cells) (hn : n + 30 ≤ room_1.slots) (N a1 a2 a3 : Nat) (k23 : kMem → Int32 → Option Unit) (h23 : ∀ (M : kMem) (x4 : Int32), GG (p, l, e, room_1, s, m, #[Value.ref b], below, meth, c, cL_law, 9, RL, g, 1000) (fun _ : Unit => lw_Z below #[Value.ref b] s) (k + 5) (n + 30) (k23 M x4) 23 [(0, .retAddr b), (1, .ref a1), (2, .ref a2), (3, .ref a3), (4, .int x4)] [] M) (M : kMem) (x4 : Int32) : GG (p, l, e, room_1, s, m, #[Value.ref b], below, meth, c, cL_law, 9, RL, g, 1000) (fun _ : Unit => lw_Z below #[Value.ref b] s) k n (F_L_law_2250 N Ls xs a1 a2 a3 k23 M x4) 2250 [(0, .retAddr b), (1, .ref a1), (2, .ref a2), (3, .ref a3), (4, .int x4)] [] M := by
  unfold F_L_law_2250
  refine g_aload_n 2251 1 hX dL_law_2250 rfl rfl ?_
  refine g_aloadS_n 2252 0 hX dL_law_2251 rfl rfl ?_
  refine g_iload 2254 4 hX dL_law_2252 rfl rfl ?_
  refine g_iconst 2255 hX 1 dL_law_2254 rfl kc_i_1 ?_
  refine g_iadd 2256 hX dL_law_2255 rfl ?_
  refine g_sld 2257 hX hSc hbl hbB dL_law_2256 rfl ?_
  refine g_aloadS_n 2258 0 hX dL_law_2257 rfl rfl ?_
  refine g_iload 2260 4 hX dL_law_2258 rfl rfl ?_
  refine g_iconst 2261 hX 2 dL_law_2260 rfl kc_i_2 ?_
  refine g_iadd 2262 hX dL_law_2261 rfl ?_
  refine g_sld 2263 hX hSc hbl hbB dL_law_2262 rfl ?_
  refine g_aload_n 2264 3 hX dL_law_2263 rfl rfl ?_
  refine g_callSH 2267 hX hN (k_L_purseAfter l g hf N M a1 (xs (kx (x4 + 1))) (xs (kx (x4 + 2))) a3) lkH_L_purseAfter q_1459 (by decide) rfl (Nat.le_of_ble_eq_true rfl) (by omega) (by omega) dL_law_2264 rfl (fun r1 => ?_)
  refine g_klI (fun v2 hv2 => ?_)
  refine g_istore 2269 5 [(5, .int v2), (0, .retAddr b), (1, .ref a1), (2, .ref a2), (3, .ref a3), (4, .int x4)] hX dL_law_2267 rfl (Nat.le_of_ble_eq_true rfl) rfl ?_
  refine g_aload_n 2270 3 hX dL_law_2269 rfl rfl ?_
  refine g_aloadS_n 2271 1 hX dL_law_2270 rfl rfl ?_
  refine g_iload 2273 5 hX dL_law_2271 rfl rfl ?_
  refine g_iconst 2274 hX 1 dL_law_2273 rfl kc_i_1 ?_
  refine g_iadd 2275 hX dL_law_2274 rfl ?_
  refine g_sld 2276 hX hSc hbl hbB dL_law_2275 rfl ?_
  refine g_aloadS_n 2277 1 hX dL_law_2276 rfl rfl ?_
  refine g_iload 2279 5 hX dL_law_2277 rfl rfl ?_
  refine g_iconst 2280 hX 2 dL_law_2279 rfl kc_i_2 ?_
  refine g_iadd 2281 hX dL_law_2280 rfl ?_
  refine g_sld 2282 hX hSc hbl hbB dL_law_2281 rfl ?_
  refine g_callV_i 2285 hX (k_X12_purseAfter l g N r1.2 a2 (xs (kx (x4 + 1))) (xs (kx (x4 + 2)))) lk_X12_purseAfter rfl (ci := 12) rfl (Nat.le_of_ble_eq_true rfl) q_2355 q_2357 (by decide) rfl (Nat.le_of_ble_eq_true rfl) (by omega) (by omega) dL_law_2282 rfl (fun r3 => ?_)
  refine g_klI (fun v4 hv4 => ?_)
  refine g_istore 2287 6 [(6, .int v4), (5, .int v2), (0, .retAddr b), (1, .ref a1), (2, .ref a2), (3, .ref a3), (4, .int x4)] hX dL_law_2285 rfl (Nat.le_of_ble_eq_true rfl) rfl ?_
  refine g_aload_n 2288 4 hX dL_law_2287 rfl rfl ?_
  refine g_callV_ip 2291 hX (k_X12_thrown l g N r3.2 a2) lk_X12_thrown rfl (ci := 12) rfl (Nat.le_of_ble_eq_true rfl) q_1730 q_1732 (by decide) rfl (Nat.le_of_ble_eq_true rfl) (by omega) (by omega) dL_law_2288 rfl (fun r5 => ?_)
  refine g_iload 2293 1 hX dL_law_2291 rfl rfl ?_
  refine g_icmp_eq 2298 2296 hX dL_law_2293 (by decide) rfl (fun _ => ?_) (fun _ => ?_)
  · refine g_iload 2300 1 hX dL_law_2298 rfl rfl ?_
    refine g_if_ne 2315 2303 hX dL_law_2300 (by decide) rfl (fun _ => ?_) (fun _ => ?_)
    · refine g_goto 3200 hX dL_law_2315 (by decide) ?_
      refine g_kl (fun v6 hv6 => ?_)
      refine g_iinc 3203 4 6 v6 [(4, .int v6), (6, .int v4), (5, .int v2), (0, .retAddr b), (1, .ref a1), (2, .ref a2), (3, .ref a3)] hX dL_law_3200 rfl rfl (by rw [hv6, kc_i_6]) (Nat.le_of_ble_eq_true rfl) rfl ?_
      refine g_goto 23 hX dL_law_3203 (by decide) ?_
      refine g_lv [3, 4, 5, 6, 0] rfl ?_
      refine g_widen (k2 := k + 5) (n2 := n + 30) (by omega) (by omega) ?_
      exact h23 r3.2 v6
    · refine g_aload_n 2304 5 hX dL_law_2303 rfl rfl ?_
      refine g_iconst 2305 hX 0 dL_law_2304 rfl kc_i_0 ?_
      refine g_lald 2306 hX dL_law_2305 rfl ?_
      refine g_iload 2308 0 hX dL_law_2306 rfl rfl ?_
      refine g_i2l 2309 hX dL_law_2308 rfl ?_
      refine g_lcmp 2310 hX dL_law_2309 rfl ?_
      refine g_if_eq 2315 2313 hX dL_law_2310 (by decide) rfl (fun _ => ?_) (fun _ => ?_)
      · refine g_goto 3200 hX dL_law_2315 (by decide) ?_
        refine g_kl (fun v7 hv7 => ?_)
        refine g_iinc 3203 4 6 v7 [(4, .int v7), (6, .int v4), (5, .int v2), (0, .retAddr b), (1, .ref a1), (2, .ref a2), (3, .ref a3)] hX dL_law_3200 rfl rfl (by rw [hv7, kc_i_6]) (Nat.le_of_ble_eq_true rfl) rfl ?_
        refine g_goto 23 hX dL_law_3203 (by decide) ?_
        refine g_lv [3, 4, 5, 6, 0] rfl ?_
        refine g_widen (k2 := k + 5) (n2 := n + 30) (by omega) (by omega) ?_
        exact h23 r3.2 v7
      · exact g_none
  · exact g_none
def F_L_law_2318 (N Ls : Nat) (xs : Nat → Int32) (a1 a2 a3 : Nat) (k23 : kMem → Int32 → Option Unit) (M : kMem) (x4 : Int32) : Option Unit :=
    kg (decide (0 ≤ x4 + 1) && decide ((x4 + 1 : Int32).toNatClampNeg < Ls)) <|
    (F_L_bankAfter N M a1 (xs (kx (x4 + 1))) a3).bind fun r1 =>
    kl r1.1 fun v2 =>
    kg (decide (0 ≤ x4 + 1) && decide ((x4 + 1 : Int32).toNatClampNeg < Ls)) <|
    kg (kt r1.2 a2 12) <| (F_X12_bankAfter N r1.2 a2 (xs (kx (x4 + 1)))).bind fun r3 =>
    kl r3.1 fun v4 =>
    kg (kt r3.2 a2 12) <| (F_X12_thrown N r3.2 a2).bind fun r5 =>
    if r5 = v2 then (
      if v2 = 0 then (
        kg (kin r3.2 a3 15 0) <|
        if (lg_cmp (kL r3.2 a3 (kx 0)) v4.toInt64) = 0 then (
          kl (x4 + 6) fun v7 =>
          k23 r3.2 v7) else
        none) else
      kl (x4 + 6) fun v6 =>
      k23 r3.2 v6) else
    none
set_option maxRecDepth 100000 in
set_option maxHeartbeats 4000000 in
theorem k_L_law_2318 {p : Program} {l : Launch} {e : Env} {s : State} {m : MethodId} {below : List Frame} {meth : Method} {c : Code} {g : kG} {b Ls : Nat} {xs : Nat → Int32} (hX : Cok (p, l, e, room_1, s, m, #[Value.ref b], below, meth, c, cL_law, 9, RL, g, 1000)) (hf : l.flags = flags0) (hN : kNc s) (hSc : va_X b Ls xs s s.heap) (hbl : b < s.heap.size) (hbB : s.heap.size = g.2.2.1 + 1) {k n : Nat} (hk : k + 5 ≤ room_1.cells) (hn : n + 30 ≤ room_1.slots) (N a1 a2 a3 : Nat) (k23 : kMem → Int32 → Option Unit) (h23 : ∀ (M : kMem) (x4 : Int32), GG (p, l, e, room_1, s, m, #[Value.ref b], below, meth, c, cL_law, 9, RL, g, 1000) (fun _ : Unit => lw_Z below #[Value.ref b] s) (k + 5) (n + 30) (k23 M x4) 23 [(0, .retAddr b), (1, .ref a1), (2, .ref a2), (3, .ref a3), (4, .int x4)] [] M) (M : kMem) (x4 : Int32) : GG (p, l, e, room_1, s, m, #[Value.ref b], below, meth, c, cL_law, 9, RL, g, 1000) (fun _ : Unit => lw_Z below #[Value.ref b] s) k n (F_L_law_2318 N Ls xs a1 a2 a3 k23 M x4) 2318 [(0, .retAddr b), (1, .ref a1), (2, .ref a2), (3, .ref a3), (4, .int x4)] [] M := by
  unfold F_L_law_2318
  refine g_aload_n 2319 1 hX dL_law_2318 rfl rfl ?_
  refine g_aloadS_n 2320 0 hX dL_law_2319 rfl rfl ?_
  refine g_iload 2322 4 hX dL_law_2320 rfl rfl ?_
  refine g_iconst 2323 hX 1 dL_law_2322 rfl kc_i_1 ?_
  refine g_iadd 2324 hX dL_law_2323 rfl ?_
  refine g_sld 2325 hX hSc hbl hbB dL_law_2324 rfl ?_
  refine g_aload_n 2326 3 hX dL_law_2325 rfl rfl ?_
  refine g_callSH 2329 hX hN (k_L_bankAfter l g hf N M a1 (xs (kx (x4 + 1))) a3) lkH_L_bankAfter q_1467 (by decide) rfl (Nat.le_of_ble_eq_true rfl) (by omega) (by omega) dL_law_2326 rfl (fun r1 => ?_)
  refine g_klI (fun v2 hv2 => ?_)
  refine g_istore 2331 5 [(5, .int v2), (0, .retAddr b), (1, .ref a1), (2, .ref a2), (3, .ref a3), (4, .int x4)] hX dL_law_2329 rfl (Nat.le_of_ble_eq_true rfl) rfl ?_
  refine g_aload_n 2332 3 hX dL_law_2331 rfl rfl ?_
  refine g_aloadS_n 2333 1 hX dL_law_2332 rfl rfl ?_
  refine g_iload 2335 5 hX dL_law_2333 rfl rfl ?_
  refine g_iconst 2336 hX 1 dL_law_2335 rfl kc_i_1 ?_
  refine g_iadd 2337 hX dL_law_2336 rfl ?_
  refine g_sld 2338 hX hSc hbl hbB dL_law_2337 rfl ?_
  refine g_callV_i 2341 hX (k_X12_bankAfter l g N r1.2 a2 (xs (kx (x4 + 1)))) lk_X12_bankAfter rfl (ci := 12) rfl (Nat.le_of_ble_eq_true rfl) q_2364 q_2366 (by decide) rfl (Nat.le_of_ble_eq_true rfl) (by omega) (by omega) dL_law_2338 rfl (fun r3 => ?_)
  refine g_klI (fun v4 hv4 => ?_)
  refine g_istore 2343 6 [(6, .int v4), (5, .int v2), (0, .retAddr b), (1, .ref a1), (2, .ref a2), (3, .ref a3), (4, .int x4)] hX dL_law_2341 rfl (Nat.le_of_ble_eq_true rfl) rfl ?_
  refine g_aload_n 2344 4 hX dL_law_2343 rfl rfl ?_
  refine g_callV_ip 2347 hX (k_X12_thrown l g N r3.2 a2) lk_X12_thrown rfl (ci := 12) rfl (Nat.le_of_ble_eq_true rfl) q_1730 q_1732 (by decide) rfl (Nat.le_of_ble_eq_true rfl) (by omega) (by omega) dL_law_2344 rfl (fun r5 => ?_)
  refine g_iload 2349 1 hX dL_law_2347 rfl rfl ?_
  refine g_icmp_eq 2354 2352 hX dL_law_2349 (by decide) rfl (fun _ => ?_) (fun _ => ?_)
  · refine g_iload 2356 1 hX dL_law_2354 rfl rfl ?_
    refine g_if_ne 2371 2359 hX dL_law_2356 (by decide) rfl (fun _ => ?_) (fun _ => ?_)
    · refine g_goto 3200 hX dL_law_2371 (by decide) ?_
      refine g_kl (fun v6 hv6 => ?_)
      refine g_iinc 3203 4 6 v6 [(4, .int v6), (6, .int v4), (5, .int v2), (0, .retAddr b), (1, .ref a1), (2, .ref a2), (3, .ref a3)] hX dL_law_3200 rfl rfl (by rw [hv6, kc_i_6]) (Nat.le_of_ble_eq_true rfl) rfl ?_
      refine g_goto 23 hX dL_law_3203 (by decide) ?_
      refine g_lv [3, 4, 5, 6, 0] rfl ?_
      refine g_widen (k2 := k + 5) (n2 := n + 30) (by omega) (by omega) ?_
      exact h23 r3.2 v6
    · refine g_aload_n 2360 5 hX dL_law_2359 rfl rfl ?_
      refine g_iconst 2361 hX 0 dL_law_2360 rfl kc_i_0 ?_
      refine g_lald 2362 hX dL_law_2361 rfl ?_
      refine g_iload 2364 0 hX dL_law_2362 rfl rfl ?_
      refine g_i2l 2365 hX dL_law_2364 rfl ?_
      refine g_lcmp 2366 hX dL_law_2365 rfl ?_
      refine g_if_eq 2371 2369 hX dL_law_2366 (by decide) rfl (fun _ => ?_) (fun _ => ?_)
      · refine g_goto 3200 hX dL_law_2371 (by decide) ?_
        refine g_kl (fun v7 hv7 => ?_)
        refine g_iinc 3203 4 6 v7 [(4, .int v7), (6, .int v4), (5, .int v2), (0, .retAddr b), (1, .ref a1), (2, .ref a2), (3, .ref a3)] hX dL_law_3200 rfl rfl (by rw [hv7, kc_i_6]) (Nat.le_of_ble_eq_true rfl) rfl ?_
        refine g_goto 23 hX dL_law_3203 (by decide) ?_
        refine g_lv [3, 4, 5, 6, 0] rfl ?_
        refine g_widen (k2 := k + 5) (n2 := n + 30) (by omega) (by omega) ?_
        exact h23 r3.2 v7
      · exact g_none
  · exact g_none
