def F_L_law_822 (N Ls : Nat) (xs : Nat → Int32) (a1 a2 a3 : Nat) (k23 : kMem → Int32 → Option Unit) (M : kMem) (x4 : Int32) : Option Unit :=
    kg (decide (0 ≤ x4 + 1) && decide ((x4 + 1 : Int32).toNatClampNeg < Ls)) <|
    (F_L_isBalanced N M a1 (xs (kx (x4 + 1))) a3).bind fun r1 =>
    kl r1.1 fun v2 =>
    kg (decide (0 ≤ x4 + 1) && decide ((x4 + 1 : Int32).toNatClampNeg < Ls)) <|
    kg (kt r1.2 a2 12) <| (F_X12_isBalanced N r1.2 a2 (xs (kx (x4 + 1)))).bind fun r3 =>
    kl r3.1 fun v4 =>
    kg (kt r3.2 a2 12) <| (F_X12_thrown N r3.2 a2).bind fun r5 =>
    if r5 = v2 then (
      if v2 = 0 then (
        kg (kin r3.2 a3 15 0) <|
        if v4 = 0 then (
          if (lg_cmp (kL r3.2 a3 (kx 0)) 0) = 0 then (
            kl (x4 + 6) fun v7 =>
            k23 r3.2 v7) else
          none) else
        if (lg_cmp (kL r3.2 a3 (kx 0)) 1) = 0 then (
          kl (x4 + 6) fun v8 =>
          k23 r3.2 v8) else
        none) else
      kl (x4 + 6) fun v6 =>
      k23 r3.2 v6) else
    none
set_option maxRecDepth 100000 in
set_option maxHeartbeats 4000000 in
theorem k_L_law_822 {p : Program} {l : Launch} {e : Env} {s : State} {m : MethodId} {below : List Frame} {meth : Method} {c : Code} {g : kG} {b Ls : Nat} {xs : Nat → Int32} (hX : Cok (p, l, e, room_1, s, m, #[Value.ref b], below, meth, c, cL_law, 9, RL, g, 1000)) (hf : l.flags = flags0) (hN : kNc s) (hSc : va_X b Ls xs s s.heap) (hbl : b < s.heap.size) (hbB : s.heap.size = g.2.2.1 + 1) {k n : Nat} (hk : k + 5 ≤ room_1.cells) (hn : n + 30 ≤ room_1.slots) (N a1 a2 a3 : Nat) (k23 : kMem → Int32 → Option Unit) (h23 : ∀ (M : kMem) (x4 : Int32), GG (p, l, e, room_1, s, m, #[Value.ref b], below, meth, c, cL_law, 9, RL, g, 1000) (fun _ : Unit => lw_Z below #[Value.ref b] s) (k + 5) (n + 30) (k23 M x4) 23 [(0, .retAddr b), (1, .ref a1), (2, .ref a2), (3, .ref a3), (4, .int x4)] [] M) (M : kMem) (x4 : Int32) : GG (p, l, e, room_1, s, m, #[Value.ref b], below, meth, c, cL_law, 9, RL, g, 1000) (fun _ : Unit => lw_Z below #[Value.ref b] s) k n (F_L_law_822 N Ls xs a1 a2 a3 k23 M x4) 822 [(0, .retAddr b), (1, .ref a1), (2, .ref a2), (3, .ref a3), (4, .int x4)] [] M := by
  unfold F_L_law_822
  refine g_aload_n 823 1 hX dL_law_822 rfl rfl ?_
  refine g_aloadS_n 824 0 hX dL_law_823 rfl rfl ?_
  refine g_iload 826 4 hX dL_law_824 rfl rfl ?_
  refine g_iconst 827 hX 1 dL_law_826 rfl kc_i_1 ?_
  refine g_iadd 828 hX dL_law_827 rfl ?_
  refine g_sld 829 hX hSc hbl hbB dL_law_828 rfl ?_
  refine g_aload_n 830 3 hX dL_law_829 rfl rfl ?_
  refine g_callSH 833 hX hN (k_L_isBalanced l g hf N M a1 (xs (kx (x4 + 1))) a3) lkH_L_isBalanced q_1291 (by decide) rfl (Nat.le_of_ble_eq_true rfl) (by omega) (by omega) dL_law_830 rfl (fun r1 => ?_)
  refine g_klI (fun v2 hv2 => ?_)
  refine g_istore 835 5 [(5, .int v2), (0, .retAddr b), (1, .ref a1), (2, .ref a2), (3, .ref a3), (4, .int x4)] hX dL_law_833 rfl (Nat.le_of_ble_eq_true rfl) rfl ?_
  refine g_aload_n 836 3 hX dL_law_835 rfl rfl ?_
  refine g_aloadS_n 837 1 hX dL_law_836 rfl rfl ?_
  refine g_iload 839 5 hX dL_law_837 rfl rfl ?_
  refine g_iconst 840 hX 1 dL_law_839 rfl kc_i_1 ?_
  refine g_iadd 841 hX dL_law_840 rfl ?_
  refine g_sld 842 hX hSc hbl hbB dL_law_841 rfl ?_
  refine g_callV_i 845 hX (k_X12_isBalanced l g N r1.2 a2 (xs (kx (x4 + 1)))) lk_X12_isBalanced rfl (ci := 12) rfl (Nat.le_of_ble_eq_true rfl) q_2197 q_2199 (by decide) rfl (Nat.le_of_ble_eq_true rfl) (by omega) (by omega) dL_law_842 rfl (fun r3 => ?_)
  refine g_klI (fun v4 hv4 => ?_)
  refine g_istore 847 6 [(6, .int v4), (5, .int v2), (0, .retAddr b), (1, .ref a1), (2, .ref a2), (3, .ref a3), (4, .int x4)] hX dL_law_845 rfl (Nat.le_of_ble_eq_true rfl) rfl ?_
  refine g_aload_n 848 4 hX dL_law_847 rfl rfl ?_
  refine g_callV_ip 851 hX (k_X12_thrown l g N r3.2 a2) lk_X12_thrown rfl (ci := 12) rfl (Nat.le_of_ble_eq_true rfl) q_1730 q_1732 (by decide) rfl (Nat.le_of_ble_eq_true rfl) (by omega) (by omega) dL_law_848 rfl (fun r5 => ?_)
  refine g_iload 853 1 hX dL_law_851 rfl rfl ?_
  refine g_icmp_eq 858 856 hX dL_law_853 (by decide) rfl (fun _ => ?_) (fun _ => ?_)
  · refine g_iload 860 1 hX dL_law_858 rfl rfl ?_
    refine g_if_ne 882 863 hX dL_law_860 (by decide) rfl (fun _ => ?_) (fun _ => ?_)
    · refine g_goto 3200 hX dL_law_882 (by decide) ?_
      refine g_kl (fun v6 hv6 => ?_)
      refine g_iinc 3203 4 6 v6 [(4, .int v6), (6, .int v4), (5, .int v2), (0, .retAddr b), (1, .ref a1), (2, .ref a2), (3, .ref a3)] hX dL_law_3200 rfl rfl (by rw [hv6, kc_i_6]) (Nat.le_of_ble_eq_true rfl) rfl ?_
      refine g_goto 23 hX dL_law_3203 (by decide) ?_
      refine g_lv [3, 4, 5, 6, 0] rfl ?_
      refine g_widen (k2 := k + 5) (n2 := n + 30) (by omega) (by omega) ?_
      exact h23 r3.2 v6
    · refine g_aload_n 864 5 hX dL_law_863 rfl rfl ?_
      refine g_iconst 865 hX 0 dL_law_864 rfl kc_i_0 ?_
      refine g_lald 866 hX dL_law_865 rfl ?_
      refine g_iload 868 0 hX dL_law_866 rfl rfl ?_
      refine g_if_eq 875 871 hX dL_law_868 (by decide) rfl (fun _ => ?_) (fun _ => ?_)
      · refine g_lconst 876 hX 0 dL_law_875 rfl rfl ?_
        refine g_lcmp 877 hX dL_law_876 rfl ?_
        refine g_if_eq 882 880 hX dL_law_877 (by decide) rfl (fun _ => ?_) (fun _ => ?_)
        · refine g_goto 3200 hX dL_law_882 (by decide) ?_
          refine g_kl (fun v7 hv7 => ?_)
          refine g_iinc 3203 4 6 v7 [(4, .int v7), (6, .int v4), (5, .int v2), (0, .retAddr b), (1, .ref a1), (2, .ref a2), (3, .ref a3)] hX dL_law_3200 rfl rfl (by rw [hv7, kc_i_6]) (Nat.le_of_ble_eq_true rfl) rfl ?_
          refine g_goto 23 hX dL_law_3203 (by decide) ?_
          refine g_lv [3, 4, 5, 6, 0] rfl ?_
          refine g_widen (k2 := k + 5) (n2 := n + 30) (by omega) (by omega) ?_
          exact h23 r3.2 v7
        · exact g_none
      · refine g_lconst 872 hX 1 dL_law_871 rfl rfl ?_
        refine g_goto 876 hX dL_law_872 (by decide) ?_
        refine g_lcmp 877 hX dL_law_876 rfl ?_
        refine g_if_eq 882 880 hX dL_law_877 (by decide) rfl (fun _ => ?_) (fun _ => ?_)
        · refine g_goto 3200 hX dL_law_882 (by decide) ?_
          refine g_kl (fun v8 hv8 => ?_)
          refine g_iinc 3203 4 6 v8 [(4, .int v8), (6, .int v4), (5, .int v2), (0, .retAddr b), (1, .ref a1), (2, .ref a2), (3, .ref a3)] hX dL_law_3200 rfl rfl (by rw [hv8, kc_i_6]) (Nat.le_of_ble_eq_true rfl) rfl ?_
          refine g_goto 23 hX dL_law_3203 (by decide) ?_
          refine g_lv [3, 4, 5, 6, 0] rfl ?_
          refine g_widen (k2 := k + 5) (n2 := n + 30) (by omega) (by omega) ?_
          exact h23 r3.2 v8
        · exact g_none
  · exact g_none
def F_L_law_885 (N Ls : Nat) (xs : Nat → Int32) (a1 a2 a3 : Nat) (k23 : kMem → Int32 → Option Unit) (M : kMem) (x4 : Int32) : Option Unit :=
    kg (decide (0 ≤ x4 + 1) && decide ((x4 + 1 : Int32).toNatClampNeg < Ls)) <|
    kg (decide (0 ≤ x4 + 2) && decide ((x4 + 2 : Int32).toNatClampNeg < Ls)) <|
    (F_L_seatOwner N M a1 (xs (kx (x4 + 1))) (xs (kx (x4 + 2))) a3).bind fun r1 =>
    kl r1.1 fun v2 =>
    kg (decide (0 ≤ x4 + 1) && decide ((x4 + 1 : Int32).toNatClampNeg < Ls)) <|
    kg (decide (0 ≤ x4 + 2) && decide ((x4 + 2 : Int32).toNatClampNeg < Ls)) <|
    kg (kt r1.2 a2 12) <| (F_X12_seatOwner N r1.2 a2 (xs (kx (x4 + 1))) (xs (kx (x4 + 2)))).bind fun r3 =>
    kl r3.1 fun v4 =>
    kg (kt r3.2 a2 12) <| (F_X12_thrown N r3.2 a2).bind fun r5 =>
    if r5 = v2 then (
      if v2 = 0 then (
        kg (kin r3.2 a3 15 0) <|
        if (lg_cmp (kL r3.2 a3 (kx 0)) v4.toInt64) = 0 then (
          kl (x4 + 6) fun v7 =>
          k23 r3.2 v7) else
        none) else
      kl (x4 + 6) fun v6 =>
      k23 r3.2 v6) else
    none
set_option maxRecDepth 100000 in
set_option maxHeartbeats 4000000 in
theorem k_L_law_885 {p : Program} {l : Launch} {e : Env} {s : State} {m : MethodId} {below : List Frame} {meth : Method} {c : Code} {g : kG} {b Ls : Nat} {xs : Nat → Int32} (hX : Cok (p, l, e, room_1, s, m, #[Value.ref b], below, meth, c, cL_law, 9, RL, g, 1000)) (hf : l.flags = flags0) (hN : kNc s) (hSc : va_X b Ls xs s s.heap) (hbl : b < s.heap.size) (hbB : s.heap.size = g.2.2.1 + 1) {k n : Nat} (hk : k + 5 ≤ room_1.cells) (hn : n + 30 ≤ room_1.slots) (N a1 a2 a3 : Nat) (k23 : kMem → Int32 → Option Unit) (h23 : ∀ (M : kMem) (x4 : Int32), GG (p, l, e, room_1, s, m, #[Value.ref b], below, meth, c, cL_law, 9, RL, g, 1000) (fun _ : Unit => lw_Z below #[Value.ref b] s) (k + 5) (n + 30) (k23 M x4) 23 [(0, .retAddr b), (1, .ref a1), (2, .ref a2), (3, .ref a3), (4, .int x4)] [] M) (M : kMem) (x4 : Int32) : GG (p, l, e, room_1, s, m, #[Value.ref b], below, meth, c, cL_law, 9, RL, g, 1000) (fun _ : Unit => lw_Z below #[Value.ref b] s) k n (F_L_law_885 N Ls xs a1 a2 a3 k23 M x4) 885 [(0, .retAddr b), (1, .ref a1), (2, .ref a2), (3, .ref a3), (4, .int x4)] [] M := by
  unfold F_L_law_885
  refine g_aload_n 886 1 hX dL_law_885 rfl rfl ?_
  refine g_aloadS_n 887 0 hX dL_law_886 rfl rfl ?_
  refine g_iload 889 4 hX dL_law_887 rfl rfl ?_
  refine g_iconst 890 hX 1 dL_law_889 rfl kc_i_1 ?_
  refine g_iadd 891 hX dL_law_890 rfl ?_
  refine g_sld 892 hX hSc hbl hbB dL_law_891 rfl ?_
  refine g_aloadS_n 893 0 hX dL_law_892 rfl rfl ?_
  refine g_iload 895 4 hX dL_law_893 rfl rfl ?_
  refine g_iconst 896 hX 2 dL_law_895 rfl kc_i_2 ?_
  refine g_iadd 897 hX dL_law_896 rfl ?_
  refine g_sld 898 hX hSc hbl hbB dL_law_897 rfl ?_
  refine g_aload_n 899 3 hX dL_law_898 rfl rfl ?_
  refine g_callSH 902 hX hN (k_L_seatOwner l g hf N M a1 (xs (kx (x4 + 1))) (xs (kx (x4 + 2))) a3) lkH_L_seatOwner q_1298 (by decide) rfl (Nat.le_of_ble_eq_true rfl) (by omega) (by omega) dL_law_899 rfl (fun r1 => ?_)
  refine g_klI (fun v2 hv2 => ?_)
  refine g_istore 904 5 [(5, .int v2), (0, .retAddr b), (1, .ref a1), (2, .ref a2), (3, .ref a3), (4, .int x4)] hX dL_law_902 rfl (Nat.le_of_ble_eq_true rfl) rfl ?_
  refine g_aload_n 905 3 hX dL_law_904 rfl rfl ?_
  refine g_aloadS_n 906 1 hX dL_law_905 rfl rfl ?_
  refine g_iload 908 5 hX dL_law_906 rfl rfl ?_
  refine g_iconst 909 hX 1 dL_law_908 rfl kc_i_1 ?_
  refine g_iadd 910 hX dL_law_909 rfl ?_
  refine g_sld 911 hX hSc hbl hbB dL_law_910 rfl ?_
  refine g_aloadS_n 912 1 hX dL_law_911 rfl rfl ?_
  refine g_iload 914 5 hX dL_law_912 rfl rfl ?_
  refine g_iconst 915 hX 2 dL_law_914 rfl kc_i_2 ?_
  refine g_iadd 916 hX dL_law_915 rfl ?_
  refine g_sld 917 hX hSc hbl hbB dL_law_916 rfl ?_
  refine g_callV_i 920 hX (k_X12_seatOwner l g N r1.2 a2 (xs (kx (x4 + 1))) (xs (kx (x4 + 2)))) lk_X12_seatOwner rfl (ci := 12) rfl (Nat.le_of_ble_eq_true rfl) q_2201 q_2203 (by decide) rfl (Nat.le_of_ble_eq_true rfl) (by omega) (by omega) dL_law_917 rfl (fun r3 => ?_)
  refine g_klI (fun v4 hv4 => ?_)
  refine g_istore 922 6 [(6, .int v4), (5, .int v2), (0, .retAddr b), (1, .ref a1), (2, .ref a2), (3, .ref a3), (4, .int x4)] hX dL_law_920 rfl (Nat.le_of_ble_eq_true rfl) rfl ?_
  refine g_aload_n 923 4 hX dL_law_922 rfl rfl ?_
  refine g_callV_ip 926 hX (k_X12_thrown l g N r3.2 a2) lk_X12_thrown rfl (ci := 12) rfl (Nat.le_of_ble_eq_true rfl) q_1730 q_1732 (by decide) rfl (Nat.le_of_ble_eq_true rfl) (by omega) (by omega) dL_law_923 rfl (fun r5 => ?_)
  refine g_iload 928 1 hX dL_law_926 rfl rfl ?_
  refine g_icmp_eq 933 931 hX dL_law_928 (by decide) rfl (fun _ => ?_) (fun _ => ?_)
  · refine g_iload 935 1 hX dL_law_933 rfl rfl ?_
    refine g_if_ne 950 938 hX dL_law_935 (by decide) rfl (fun _ => ?_) (fun _ => ?_)
    · refine g_goto 3200 hX dL_law_950 (by decide) ?_
      refine g_kl (fun v6 hv6 => ?_)
      refine g_iinc 3203 4 6 v6 [(4, .int v6), (6, .int v4), (5, .int v2), (0, .retAddr b), (1, .ref a1), (2, .ref a2), (3, .ref a3)] hX dL_law_3200 rfl rfl (by rw [hv6, kc_i_6]) (Nat.le_of_ble_eq_true rfl) rfl ?_
      refine g_goto 23 hX dL_law_3203 (by decide) ?_
      refine g_lv [3, 4, 5, 6, 0] rfl ?_
      refine g_widen (k2 := k + 5) (n2 := n + 30) (by omega) (by omega) ?_
      exact h23 r3.2 v6
    · refine g_aload_n 939 5 hX dL_law_938 rfl rfl ?_
      refine g_iconst 940 hX 0 dL_law_939 rfl kc_i_0 ?_
      refine g_lald 941 hX dL_law_940 rfl ?_
      refine g_iload 943 0 hX dL_law_941 rfl rfl ?_
      refine g_i2l 944 hX dL_law_943 rfl ?_
      refine g_lcmp 945 hX dL_law_944 rfl ?_
      refine g_if_eq 950 948 hX dL_law_945 (by decide) rfl (fun _ => ?_) (fun _ => ?_)
      · refine g_goto 3200 hX dL_law_950 (by decide) ?_
        refine g_kl (fun v7 hv7 => ?_)
        refine g_iinc 3203 4 6 v7 [(4, .int v7), (6, .int v4), (5, .int v2), (0, .retAddr b), (1, .ref a1), (2, .ref a2), (3, .ref a3)] hX dL_law_3200 rfl rfl (by rw [hv7, kc_i_6]) (Nat.le_of_ble_eq_true rfl) rfl ?_
        refine g_goto 23 hX dL_law_3203 (by decide) ?_
        refine g_lv [3, 4, 5, 6, 0] rfl ?_
        refine g_widen (k2 := k + 5) (n2 := n + 30) (by omega) (by omega) ?_
        exact h23 r3.2 v7
      · exact g_none
  · exact g_none
def F_L_law_953 (N Ls : Nat) (xs : Nat → Int32) (a1 a2 a3 : Nat) (k23 : kMem → Int32 → Option Unit) (M : kMem) (x4 : Int32) : Option Unit :=
    kg (decide (0 ≤ x4 + 1) && decide ((x4 + 1 : Int32).toNatClampNeg < Ls)) <|
    kg (decide (0 ≤ x4 + 2) && decide ((x4 + 2 : Int32).toNatClampNeg < Ls)) <|
    (F_L_seatHeight N M a1 (xs (kx (x4 + 1))) (xs (kx (x4 + 2))) a3).bind fun r1 =>
    kl r1.1 fun v2 =>
    kg (decide (0 ≤ x4 + 1) && decide ((x4 + 1 : Int32).toNatClampNeg < Ls)) <|
    kg (decide (0 ≤ x4 + 2) && decide ((x4 + 2 : Int32).toNatClampNeg < Ls)) <|
    kg (kt r1.2 a2 12) <| (F_X12_seatHeight N r1.2 a2 (xs (kx (x4 + 1))) (xs (kx (x4 + 2)))).bind fun r3 =>
    kl r3.1 fun v4 =>
    kg (kt r3.2 a2 12) <| (F_X12_thrown N r3.2 a2).bind fun r5 =>
    if r5 = v2 then (
      if v2 = 0 then (
        kg (kin r3.2 a3 15 0) <|
        if (lg_cmp (kL r3.2 a3 (kx 0)) v4.toInt64) = 0 then (
          kl (x4 + 6) fun v7 =>
          k23 r3.2 v7) else
        none) else
      kl (x4 + 6) fun v6 =>
      k23 r3.2 v6) else
    none
set_option maxRecDepth 100000 in
set_option maxHeartbeats 4000000 in
theorem k_L_law_953 {p : Program} {l : Launch} {e : Env} {s : State} {m : MethodId} {below : List Frame} {meth : Method} {c : Code} {g : kG} {b Ls : Nat} {xs : Nat → Int32} (hX : Cok (p, l, e, room_1, s, m, #[Value.ref b], below, meth, c, cL_law, 9, RL, g, 1000)) (hf : l.flags = flags0) (hN : kNc s) (hSc : va_X b Ls xs s s.heap) (hbl : b < s.heap.size) (hbB : s.heap.size = g.2.2.1 + 1) {k n : Nat} (hk : k + 5 ≤ room_1.cells) (hn : n + 30 ≤ room_1.slots) (N a1 a2 a3 : Nat) (k23 : kMem → Int32 → Option Unit) (h23 : ∀ (M : kMem) (x4 : Int32), GG (p, l, e, room_1, s, m, #[Value.ref b], below, meth, c, cL_law, 9, RL, g, 1000) (fun _ : Unit => lw_Z below #[Value.ref b] s) (k + 5) (n + 30) (k23 M x4) 23 [(0, .retAddr b), (1, .ref a1), (2, .ref a2), (3, .ref a3), (4, .int x4)] [] M) (M : kMem) (x4 : Int32) : GG (p, l, e, room_1, s, m, #[Value.ref b], below, meth, c, cL_law, 9, RL, g, 1000) (fun _ : Unit => lw_Z below #[Value.ref b] s) k n (F_L_law_953 N Ls xs a1 a2 a3 k23 M x4) 953 [(0, .retAddr b), (1, .ref a1), (2, .ref a2), (3, .ref a3), (4, .int x4)] [] M := by
  unfold F_L_law_953
  refine g_aload_n 954 1 hX dL_law_953 rfl rfl ?_
  refine g_aloadS_n 955 0 hX dL_law_954 rfl rfl ?_
  refine g_iload 957 4 hX dL_law_955 rfl rfl ?_
  refine g_iconst 958 hX 1 dL_law_957 rfl kc_i_1 ?_
  refine g_iadd 959 hX dL_law_958 rfl ?_
  refine g_sld 960 hX hSc hbl hbB dL_law_959 rfl ?_
  refine g_aloadS_n 961 0 hX dL_law_960 rfl rfl ?_
  refine g_iload 963 4 hX dL_law_961 rfl rfl ?_
  refine g_iconst 964 hX 2 dL_law_963 rfl kc_i_2 ?_
  refine g_iadd 965 hX dL_law_964 rfl ?_
  refine g_sld 966 hX hSc hbl hbB dL_law_965 rfl ?_
  refine g_aload_n 967 3 hX dL_law_966 rfl rfl ?_
  refine g_callSH 970 hX hN (k_L_seatHeight l g hf N M a1 (xs (kx (x4 + 1))) (xs (kx (x4 + 2))) a3) lkH_L_seatHeight q_1312 (by decide) rfl (Nat.le_of_ble_eq_true rfl) (by omega) (by omega) dL_law_967 rfl (fun r1 => ?_)
  refine g_klI (fun v2 hv2 => ?_)
  refine g_istore 972 5 [(5, .int v2), (0, .retAddr b), (1, .ref a1), (2, .ref a2), (3, .ref a3), (4, .int x4)] hX dL_law_970 rfl (Nat.le_of_ble_eq_true rfl) rfl ?_
  refine g_aload_n 973 3 hX dL_law_972 rfl rfl ?_
  refine g_aloadS_n 974 1 hX dL_law_973 rfl rfl ?_
  refine g_iload 976 5 hX dL_law_974 rfl rfl ?_
  refine g_iconst 977 hX 1 dL_law_976 rfl kc_i_1 ?_
  refine g_iadd 978 hX dL_law_977 rfl ?_
  refine g_sld 979 hX hSc hbl hbB dL_law_978 rfl ?_
  refine g_aloadS_n 980 1 hX dL_law_979 rfl rfl ?_
  refine g_iload 982 5 hX dL_law_980 rfl rfl ?_
  refine g_iconst 983 hX 2 dL_law_982 rfl kc_i_2 ?_
  refine g_iadd 984 hX dL_law_983 rfl ?_
  refine g_sld 985 hX hSc hbl hbB dL_law_984 rfl ?_
  refine g_callV_i 988 hX (k_X12_seatHeight l g N r1.2 a2 (xs (kx (x4 + 1))) (xs (kx (x4 + 2)))) lk_X12_seatHeight rfl (ci := 12) rfl (Nat.le_of_ble_eq_true rfl) q_2205 q_2207 (by decide) rfl (Nat.le_of_ble_eq_true rfl) (by omega) (by omega) dL_law_985 rfl (fun r3 => ?_)
  refine g_klI (fun v4 hv4 => ?_)
  refine g_istore 990 6 [(6, .int v4), (5, .int v2), (0, .retAddr b), (1, .ref a1), (2, .ref a2), (3, .ref a3), (4, .int x4)] hX dL_law_988 rfl (Nat.le_of_ble_eq_true rfl) rfl ?_
  refine g_aload_n 991 4 hX dL_law_990 rfl rfl ?_
  refine g_callV_ip 994 hX (k_X12_thrown l g N r3.2 a2) lk_X12_thrown rfl (ci := 12) rfl (Nat.le_of_ble_eq_true rfl) q_1730 q_1732 (by decide) rfl (Nat.le_of_ble_eq_true rfl) (by omega) (by omega) dL_law_991 rfl (fun r5 => ?_)
  refine g_iload 996 1 hX dL_law_994 rfl rfl ?_
  refine g_icmp_eq 1001 999 hX dL_law_996 (by decide) rfl (fun _ => ?_) (fun _ => ?_)
  · refine g_iload 1003 1 hX dL_law_1001 rfl rfl ?_
    refine g_if_ne 1018 1006 hX dL_law_1003 (by decide) rfl (fun _ => ?_) (fun _ => ?_)
    · refine g_goto 3200 hX dL_law_1018 (by decide) ?_
      refine g_kl (fun v6 hv6 => ?_)
      refine g_iinc 3203 4 6 v6 [(4, .int v6), (6, .int v4), (5, .int v2), (0, .retAddr b), (1, .ref a1), (2, .ref a2), (3, .ref a3)] hX dL_law_3200 rfl rfl (by rw [hv6, kc_i_6]) (Nat.le_of_ble_eq_true rfl) rfl ?_
      refine g_goto 23 hX dL_law_3203 (by decide) ?_
      refine g_lv [3, 4, 5, 6, 0] rfl ?_
      refine g_widen (k2 := k + 5) (n2 := n + 30) (by omega) (by omega) ?_
      exact h23 r3.2 v6
    · refine g_aload_n 1007 5 hX dL_law_1006 rfl rfl ?_
      refine g_iconst 1008 hX 0 dL_law_1007 rfl kc_i_0 ?_
      refine g_lald 1009 hX dL_law_1008 rfl ?_
      refine g_iload 1011 0 hX dL_law_1009 rfl rfl ?_
      refine g_i2l 1012 hX dL_law_1011 rfl ?_
      refine g_lcmp 1013 hX dL_law_1012 rfl ?_
      refine g_if_eq 1018 1016 hX dL_law_1013 (by decide) rfl (fun _ => ?_) (fun _ => ?_)
      · refine g_goto 3200 hX dL_law_1018 (by decide) ?_
        refine g_kl (fun v7 hv7 => ?_)
        refine g_iinc 3203 4 6 v7 [(4, .int v7), (6, .int v4), (5, .int v2), (0, .retAddr b), (1, .ref a1), (2, .ref a2), (3, .ref a3)] hX dL_law_3200 rfl rfl (by rw [hv7, kc_i_6]) (Nat.le_of_ble_eq_true rfl) rfl ?_
        refine g_goto 23 hX dL_law_3203 (by decide) ?_
        refine g_lv [3, 4, 5, 6, 0] rfl ?_
        refine g_widen (k2 := k + 5) (n2 := n + 30) (by omega) (by omega) ?_
        exact h23 r3.2 v7
      · exact g_none
  · exact g_none
def F_L_law_1021 (N Ls : Nat) (xs : Nat → Int32) (a1 a2 a3 : Nat) (k23 : kMem → Int32 → Option Unit) (M : kMem) (x4 : Int32) : Option Unit :=
    kg (decide (0 ≤ x4 + 1) && decide ((x4 + 1 : Int32).toNatClampNeg < Ls)) <|
    kg (decide (0 ≤ x4 + 2) && decide ((x4 + 2 : Int32).toNatClampNeg < Ls)) <|
    (F_L_seatPrice N M a1 (xs (kx (x4 + 1))) (xs (kx (x4 + 2))) a3).bind fun r1 =>
    kl r1.1 fun v2 =>
    kg (decide (0 ≤ x4 + 1) && decide ((x4 + 1 : Int32).toNatClampNeg < Ls)) <|
    kg (decide (0 ≤ x4 + 2) && decide ((x4 + 2 : Int32).toNatClampNeg < Ls)) <|
    kg (kt r1.2 a2 12) <| (F_X12_seatPrice N r1.2 a2 (xs (kx (x4 + 1))) (xs (kx (x4 + 2)))).bind fun r3 =>
    kl r3.1 fun v4 =>
    kg (kt r3.2 a2 12) <| (F_X12_thrown N r3.2 a2).bind fun r5 =>
    if r5 = v2 then (
      if v2 = 0 then (
        kg (kin r3.2 a3 15 0) <|
        if (lg_cmp (kL r3.2 a3 (kx 0)) v4.toInt64) = 0 then (
          kl (x4 + 6) fun v7 =>
          k23 r3.2 v7) else
        none) else
      kl (x4 + 6) fun v6 =>
      k23 r3.2 v6) else
    none
set_option maxRecDepth 100000 in
set_option maxHeartbeats 4000000 in
theorem k_L_law_1021 {p : Program} {l : Launch} {e : Env} {s : State} {m : MethodId} {below : List Frame} {meth : Method} {c : Code} {g : kG} {b Ls : Nat} {xs : Nat → Int32} (hX : Cok (p, l, e, room_1, s, m, #[Value.ref b], below, meth, c, cL_law, 9, RL, g, 1000)) (hf : l.flags = flags0) (hN : kNc s) (hSc : va_X b Ls xs s s.heap) (hbl : b < s.heap.size) (hbB : s.heap.size = g.2.2.1 + 1) {k n : Nat} (hk : k + 5 ≤ room_1.cells) (hn : n + 30 ≤ room_1.slots) (N a1 a2 a3 : Nat) (k23 : kMem → Int32 → Option Unit) (h23 : ∀ (M : kMem) (x4 : Int32), GG (p, l, e, room_1, s, m, #[Value.ref b], below, meth, c, cL_law, 9, RL, g, 1000) (fun _ : Unit => lw_Z below #[Value.ref b] s) (k + 5) (n + 30) (k23 M x4) 23 [(0, .retAddr b), (1, .ref a1), (2, .ref a2), (3, .ref a3), (4, .int x4)] [] M) (M : kMem) (x4 : Int32) : GG (p, l, e, room_1, s, m, #[Value.ref b], below, meth, c, cL_law, 9, RL, g, 1000) (fun _ : Unit => lw_Z below #[Value.ref b] s) k n (F_L_law_1021 N Ls xs a1 a2 a3 k23 M x4) 1021 [(0, .retAddr b), (1, .ref a1), (2, .ref a2), (3, .ref a3), (4, .int x4)] [] M := by
  unfold F_L_law_1021
  refine g_aload_n 1022 1 hX dL_law_1021 rfl rfl ?_
  refine g_aloadS_n 1023 0 hX dL_law_1022 rfl rfl ?_
  refine g_iload 1025 4 hX dL_law_1023 rfl rfl ?_
  refine g_iconst 1026 hX 1 dL_law_1025 rfl kc_i_1 ?_
  refine g_iadd 1027 hX dL_law_1026 rfl ?_
  refine g_sld 1028 hX hSc hbl hbB dL_law_1027 rfl ?_
  refine g_aloadS_n 1029 0 hX dL_law_1028 rfl rfl ?_
  refine g_iload 1031 4 hX dL_law_1029 rfl rfl ?_
  refine g_iconst 1032 hX 2 dL_law_1031 rfl kc_i_2 ?_
  refine g_iadd 1033 hX dL_law_1032 rfl ?_
  refine g_sld 1034 hX hSc hbl hbB dL_law_1033 rfl ?_
  refine g_aload_n 1035 3 hX dL_law_1034 rfl rfl ?_
  refine g_callSH 1038 hX hN (k_L_seatPrice l g hf N M a1 (xs (kx (x4 + 1))) (xs (kx (x4 + 2))) a3) lkH_L_seatPrice q_1320 (by decide) rfl (Nat.le_of_ble_eq_true rfl) (by omega) (by omega) dL_law_1035 rfl (fun r1 => ?_)
  refine g_klI (fun v2 hv2 => ?_)
  refine g_istore 1040 5 [(5, .int v2), (0, .retAddr b), (1, .ref a1), (2, .ref a2), (3, .ref a3), (4, .int x4)] hX dL_law_1038 rfl (Nat.le_of_ble_eq_true rfl) rfl ?_
  refine g_aload_n 1041 3 hX dL_law_1040 rfl rfl ?_
  refine g_aloadS_n 1042 1 hX dL_law_1041 rfl rfl ?_
  refine g_iload 1044 5 hX dL_law_1042 rfl rfl ?_
  refine g_iconst 1045 hX 1 dL_law_1044 rfl kc_i_1 ?_
  refine g_iadd 1046 hX dL_law_1045 rfl ?_
  refine g_sld 1047 hX hSc hbl hbB dL_law_1046 rfl ?_
  refine g_aloadS_n 1048 1 hX dL_law_1047 rfl rfl ?_
  refine g_iload 1050 5 hX dL_law_1048 rfl rfl ?_
  refine g_iconst 1051 hX 2 dL_law_1050 rfl kc_i_2 ?_
  refine g_iadd 1052 hX dL_law_1051 rfl ?_
  refine g_sld 1053 hX hSc hbl hbB dL_law_1052 rfl ?_
  refine g_callV_i 1056 hX (k_X12_seatPrice l g N r1.2 a2 (xs (kx (x4 + 1))) (xs (kx (x4 + 2)))) lk_X12_seatPrice rfl (ci := 12) rfl (Nat.le_of_ble_eq_true rfl) q_2209 q_2211 (by decide) rfl (Nat.le_of_ble_eq_true rfl) (by omega) (by omega) dL_law_1053 rfl (fun r3 => ?_)
  refine g_klI (fun v4 hv4 => ?_)
  refine g_istore 1058 6 [(6, .int v4), (5, .int v2), (0, .retAddr b), (1, .ref a1), (2, .ref a2), (3, .ref a3), (4, .int x4)] hX dL_law_1056 rfl (Nat.le_of_ble_eq_true rfl) rfl ?_
  refine g_aload_n 1059 4 hX dL_law_1058 rfl rfl ?_
  refine g_callV_ip 1062 hX (k_X12_thrown l g N r3.2 a2) lk_X12_thrown rfl (ci := 12) rfl (Nat.le_of_ble_eq_true rfl) q_1730 q_1732 (by decide) rfl (Nat.le_of_ble_eq_true rfl) (by omega) (by omega) dL_law_1059 rfl (fun r5 => ?_)
  refine g_iload 1064 1 hX dL_law_1062 rfl rfl ?_
  refine g_icmp_eq 1069 1067 hX dL_law_1064 (by decide) rfl (fun _ => ?_) (fun _ => ?_)
  · refine g_iload 1071 1 hX dL_law_1069 rfl rfl ?_
    refine g_if_ne 1086 1074 hX dL_law_1071 (by decide) rfl (fun _ => ?_) (fun _ => ?_)
    · refine g_goto 3200 hX dL_law_1086 (by decide) ?_
      refine g_kl (fun v6 hv6 => ?_)
      refine g_iinc 3203 4 6 v6 [(4, .int v6), (6, .int v4), (5, .int v2), (0, .retAddr b), (1, .ref a1), (2, .ref a2), (3, .ref a3)] hX dL_law_3200 rfl rfl (by rw [hv6, kc_i_6]) (Nat.le_of_ble_eq_true rfl) rfl ?_
      refine g_goto 23 hX dL_law_3203 (by decide) ?_
      refine g_lv [3, 4, 5, 6, 0] rfl ?_
      refine g_widen (k2 := k + 5) (n2 := n + 30) (by omega) (by omega) ?_
      exact h23 r3.2 v6
    · refine g_aload_n 1075 5 hX dL_law_1074 rfl rfl ?_
      refine g_iconst 1076 hX 0 dL_law_1075 rfl kc_i_0 ?_
      refine g_lald 1077 hX dL_law_1076 rfl ?_
      refine g_iload 1079 0 hX dL_law_1077 rfl rfl ?_
      refine g_i2l 1080 hX dL_law_1079 rfl ?_
      refine g_lcmp 1081 hX dL_law_1080 rfl ?_
      refine g_if_eq 1086 1084 hX dL_law_1081 (by decide) rfl (fun _ => ?_) (fun _ => ?_)
      · refine g_goto 3200 hX dL_law_1086 (by decide) ?_
        refine g_kl (fun v7 hv7 => ?_)
        refine g_iinc 3203 4 6 v7 [(4, .int v7), (6, .int v4), (5, .int v2), (0, .retAddr b), (1, .ref a1), (2, .ref a2), (3, .ref a3)] hX dL_law_3200 rfl rfl (by rw [hv7, kc_i_6]) (Nat.le_of_ble_eq_true rfl) rfl ?_
        refine g_goto 23 hX dL_law_3203 (by decide) ?_
        refine g_lv [3, 4, 5, 6, 0] rfl ?_
        refine g_widen (k2 := k + 5) (n2 := n + 30) (by omega) (by omega) ?_
        exact h23 r3.2 v7
      · exact g_none
  · exact g_none
def F_L_law_1089 (N Ls : Nat) (xs : Nat → Int32) (a1 a2 a3 : Nat) (k23 : kMem → Int32 → Option Unit) (M : kMem) (x4 : Int32) : Option Unit :=
    kg (decide (0 ≤ x4 + 1) && decide ((x4 + 1 : Int32).toNatClampNeg < Ls)) <|
    kg (decide (0 ≤ x4 + 2) && decide ((x4 + 2 : Int32).toNatClampNeg < Ls)) <|
    (F_L_balancingSeat N M a1 (xs (kx (x4 + 1))) (xs (kx (x4 + 2))) a3).bind fun r1 =>
    kl r1.1 fun v2 =>
    kg (decide (0 ≤ x4 + 1) && decide ((x4 + 1 : Int32).toNatClampNeg < Ls)) <|
    kg (decide (0 ≤ x4 + 2) && decide ((x4 + 2 : Int32).toNatClampNeg < Ls)) <|
    kg (kt r1.2 a2 12) <| (F_X12_balancingSeat N r1.2 a2 (xs (kx (x4 + 1))) (xs (kx (x4 + 2)))).bind fun r3 =>
    kl r3.1 fun v4 =>
    kg (kt r3.2 a2 12) <| (F_X12_thrown N r3.2 a2).bind fun r5 =>
    if r5 = v2 then (
      if v2 = 0 then (
        kg (kin r3.2 a3 15 0) <|
        if (lg_cmp (kL r3.2 a3 (kx 0)) v4.toInt64) = 0 then (
          kl (x4 + 6) fun v7 =>
          k23 r3.2 v7) else
        none) else
      kl (x4 + 6) fun v6 =>
      k23 r3.2 v6) else
    none
set_option maxRecDepth 100000 in
set_option maxHeartbeats 4000000 in
theorem k_L_law_1089 {p : Program} {l : Launch} {e : Env} {s : State} {m : MethodId} {below : List Frame} {meth : Method} {c : Code} {g : kG} {b Ls : Nat} {xs : Nat → Int32} (hX : Cok (p, l, e, room_1, s, m, #[Value.ref b], below, meth, c, cL_law, 9, RL, g, 1000)) (hf : l.flags = flags0) (hN : kNc s) (hSc : va_X b Ls xs s s.heap) (hbl : b < s.heap.size) (hbB : s.heap.size = g.2.2.1 + 1) {k n : Nat} (hk : k + 5 ≤ room_1.cells) (hn : n + 30 ≤ room_1.slots) (N a1 a2 a3 : Nat) (k23 : kMem → Int32 → Option Unit) (h23 : ∀ (M : kMem) (x4 : Int32), GG (p, l, e, room_1, s, m, #[Value.ref b], below, meth, c, cL_law, 9, RL, g, 1000) (fun _ : Unit => lw_Z below #[Value.ref b] s) (k + 5) (n + 30) (k23 M x4) 23 [(0, .retAddr b), (1, .ref a1), (2, .ref a2), (3, .ref a3), (4, .int x4)] [] M) (M : kMem) (x4 : Int32) : GG (p, l, e, room_1, s, m, #[Value.ref b], below, meth, c, cL_law, 9, RL, g, 1000) (fun _ : Unit => lw_Z below #[Value.ref b] s) k n (F_L_law_1089 N Ls xs a1 a2 a3 k23 M x4) 1089 [(0, .retAddr b), (1, .ref a1), (2, .ref a2), (3, .ref a3), (4, .int x4)] [] M := by
  unfold F_L_law_1089
  refine g_aload_n 1090 1 hX dL_law_1089 rfl rfl ?_
  refine g_aloadS_n 1091 0 hX dL_law_1090 rfl rfl ?_
  refine g_iload 1093 4 hX dL_law_1091 rfl rfl ?_
  refine g_iconst 1094 hX 1 dL_law_1093 rfl kc_i_1 ?_
  refine g_iadd 1095 hX dL_law_1094 rfl ?_
  refine g_sld 1096 hX hSc hbl hbB dL_law_1095 rfl ?_
  refine g_aloadS_n 1097 0 hX dL_law_1096 rfl rfl ?_
  refine g_iload 1099 4 hX dL_law_1097 rfl rfl ?_
  refine g_iconst 1100 hX 2 dL_law_1099 rfl kc_i_2 ?_
  refine g_iadd 1101 hX dL_law_1100 rfl ?_
  refine g_sld 1102 hX hSc hbl hbB dL_law_1101 rfl ?_
  refine g_aload_n 1103 3 hX dL_law_1102 rfl rfl ?_
  refine g_callSH 1106 hX hN (k_L_balancingSeat l g hf N M a1 (xs (kx (x4 + 1))) (xs (kx (x4 + 2))) a3) lkH_L_balancingSeat q_1328 (by decide) rfl (Nat.le_of_ble_eq_true rfl) (by omega) (by omega) dL_law_1103 rfl (fun r1 => ?_)
  refine g_klI (fun v2 hv2 => ?_)
  refine g_istore 1108 5 [(5, .int v2), (0, .retAddr b), (1, .ref a1), (2, .ref a2), (3, .ref a3), (4, .int x4)] hX dL_law_1106 rfl (Nat.le_of_ble_eq_true rfl) rfl ?_
  refine g_aload_n 1109 3 hX dL_law_1108 rfl rfl ?_
  refine g_aloadS_n 1110 1 hX dL_law_1109 rfl rfl ?_
  refine g_iload 1112 5 hX dL_law_1110 rfl rfl ?_
  refine g_iconst 1113 hX 1 dL_law_1112 rfl kc_i_1 ?_
  refine g_iadd 1114 hX dL_law_1113 rfl ?_
  refine g_sld 1115 hX hSc hbl hbB dL_law_1114 rfl ?_
  refine g_aloadS_n 1116 1 hX dL_law_1115 rfl rfl ?_
  refine g_iload 1118 5 hX dL_law_1116 rfl rfl ?_
  refine g_iconst 1119 hX 2 dL_law_1118 rfl kc_i_2 ?_
  refine g_iadd 1120 hX dL_law_1119 rfl ?_
  refine g_sld 1121 hX hSc hbl hbB dL_law_1120 rfl ?_
  refine g_callV_i 1124 hX (k_X12_balancingSeat l g N r1.2 a2 (xs (kx (x4 + 1))) (xs (kx (x4 + 2)))) lk_X12_balancingSeat rfl (ci := 12) rfl (Nat.le_of_ble_eq_true rfl) q_2213 q_2215 (by decide) rfl (Nat.le_of_ble_eq_true rfl) (by omega) (by omega) dL_law_1121 rfl (fun r3 => ?_)
  refine g_klI (fun v4 hv4 => ?_)
  refine g_istore 1126 6 [(6, .int v4), (5, .int v2), (0, .retAddr b), (1, .ref a1), (2, .ref a2), (3, .ref a3), (4, .int x4)] hX dL_law_1124 rfl (Nat.le_of_ble_eq_true rfl) rfl ?_
  refine g_aload_n 1127 4 hX dL_law_1126 rfl rfl ?_
  refine g_callV_ip 1130 hX (k_X12_thrown l g N r3.2 a2) lk_X12_thrown rfl (ci := 12) rfl (Nat.le_of_ble_eq_true rfl) q_1730 q_1732 (by decide) rfl (Nat.le_of_ble_eq_true rfl) (by omega) (by omega) dL_law_1127 rfl (fun r5 => ?_)
  refine g_iload 1132 1 hX dL_law_1130 rfl rfl ?_
  refine g_icmp_eq 1137 1135 hX dL_law_1132 (by decide) rfl (fun _ => ?_) (fun _ => ?_)
  · refine g_iload 1139 1 hX dL_law_1137 rfl rfl ?_
    refine g_if_ne 1154 1142 hX dL_law_1139 (by decide) rfl (fun _ => ?_) (fun _ => ?_)
    · refine g_goto 3200 hX dL_law_1154 (by decide) ?_
      refine g_kl (fun v6 hv6 => ?_)
      refine g_iinc 3203 4 6 v6 [(4, .int v6), (6, .int v4), (5, .int v2), (0, .retAddr b), (1, .ref a1), (2, .ref a2), (3, .ref a3)] hX dL_law_3200 rfl rfl (by rw [hv6, kc_i_6]) (Nat.le_of_ble_eq_true rfl) rfl ?_
      refine g_goto 23 hX dL_law_3203 (by decide) ?_
      refine g_lv [3, 4, 5, 6, 0] rfl ?_
      refine g_widen (k2 := k + 5) (n2 := n + 30) (by omega) (by omega) ?_
      exact h23 r3.2 v6
    · refine g_aload_n 1143 5 hX dL_law_1142 rfl rfl ?_
      refine g_iconst 1144 hX 0 dL_law_1143 rfl kc_i_0 ?_
      refine g_lald 1145 hX dL_law_1144 rfl ?_
      refine g_iload 1147 0 hX dL_law_1145 rfl rfl ?_
      refine g_i2l 1148 hX dL_law_1147 rfl ?_
      refine g_lcmp 1149 hX dL_law_1148 rfl ?_
      refine g_if_eq 1154 1152 hX dL_law_1149 (by decide) rfl (fun _ => ?_) (fun _ => ?_)
      · refine g_goto 3200 hX dL_law_1154 (by decide) ?_
        refine g_kl (fun v7 hv7 => ?_)
        refine g_iinc 3203 4 6 v7 [(4, .int v7), (6, .int v4), (5, .int v2), (0, .retAddr b), (1, .ref a1), (2, .ref a2), (3, .ref a3)] hX dL_law_3200 rfl rfl (by rw [hv7, kc_i_6]) (Nat.le_of_ble_eq_true rfl) rfl ?_
        refine g_goto 23 hX dL_law_3203 (by decide) ?_
        refine g_lv [3, 4, 5, 6, 0] rfl ?_
        refine g_widen (k2 := k + 5) (n2 := n + 30) (by omega) (by omega) ?_
        exact h23 r3.2 v7
      · exact g_none
  · exact g_none
def F_L_law_1157 (N Ls : Nat) (xs : Nat → Int32) (a1 a2 a3 : Nat) (k23 : kMem → Int32 → Option Unit) (M : kMem) (x4 : Int32) : Option Unit :=
    kg (kt M a1 11) <| (F_X11_traderCount N M a1).bind fun r1 =>
    kg (kt M a2 12) <| (F_X12_traderCount N M a2).bind fun r2 =>
    if r1 = r2.1 then (
      kl (x4 + 6) fun v3 =>
      k23 r2.2 v3) else
    none
set_option maxRecDepth 100000 in
set_option maxHeartbeats 4000000 in
theorem k_L_law_1157 {p : Program} {l : Launch} {e : Env} {s : State} {m : MethodId} {below : List Frame} {meth : Method} {c : Code} {g : kG} {b Ls : Nat} {xs : Nat → Int32} (hX : Cok (p, l, e, room_1, s, m, #[Value.ref b], below, meth, c, cL_law, 9, RL, g, 1000)) (hf : l.flags = flags0) (hN : kNc s) (hSc : va_X b Ls xs s s.heap) (hbl : b < s.heap.size) (hbB : s.heap.size = g.2.2.1 + 1) {k n : Nat} (hk : k + 5 ≤ room_1.cells) (hn : n + 30 ≤ room_1.slots) (N a1 a2 a3 : Nat) (k23 : kMem → Int32 → Option Unit) (h23 : ∀ (M : kMem) (x4 : Int32), GG (p, l, e, room_1, s, m, #[Value.ref b], below, meth, c, cL_law, 9, RL, g, 1000) (fun _ : Unit => lw_Z below #[Value.ref b] s) (k + 5) (n + 30) (k23 M x4) 23 [(0, .retAddr b), (1, .ref a1), (2, .ref a2), (3, .ref a3), (4, .int x4)] [] M) (M : kMem) (x4 : Int32) : GG (p, l, e, room_1, s, m, #[Value.ref b], below, meth, c, cL_law, 9, RL, g, 1000) (fun _ : Unit => lw_Z below #[Value.ref b] s) k n (F_L_law_1157 N Ls xs a1 a2 a3 k23 M x4) 1157 [(0, .retAddr b), (1, .ref a1), (2, .ref a2), (3, .ref a3), (4, .int x4)] [] M := by
  unfold F_L_law_1157
  refine g_aload_n 1158 1 hX dL_law_1157 rfl rfl ?_
  refine g_callV_ip 1161 hX (k_X11_traderCount l g N M a1) lk_X11_traderCount rfl (ci := 11) rfl (Nat.le_of_ble_eq_true rfl) q_1014 q_1016 (by decide) rfl (Nat.le_of_ble_eq_true rfl) (by omega) (by omega) dL_law_1158 rfl (fun r1 => ?_)
  refine g_aload_n 1162 2 hX dL_law_1161 rfl rfl ?_
  refine g_callV_i 1165 hX (k_X12_traderCount l g N M a2) lk_X12_traderCount rfl (ci := 12) rfl (Nat.le_of_ble_eq_true rfl) q_2217 q_2219 (by decide) rfl (Nat.le_of_ble_eq_true rfl) (by omega) (by omega) dL_law_1162 rfl (fun r2 => ?_)
  refine g_icmp_eq 3200 1168 hX dL_law_1165 (by decide) rfl (fun _ => ?_) (fun _ => ?_)
  · refine g_kl (fun v3 hv3 => ?_)
    refine g_iinc 3203 4 4 v3 [(4, .int v3), (0, .retAddr b), (1, .ref a1), (2, .ref a2), (3, .ref a3)] hX dL_law_3200 rfl rfl (by rw [hv3, kc_i_6]) (Nat.le_of_ble_eq_true rfl) rfl ?_
    refine g_goto 23 hX dL_law_3203 (by decide) ?_
    refine g_lv [1, 2, 3, 4, 0] rfl ?_
    refine g_widen (k2 := k + 5) (n2 := n + 30) (by omega) (by omega) ?_
    exact h23 r2.2 v3
  · exact g_none
def F_L_law_1170 (N Ls : Nat) (xs : Nat → Int32) (a1 a2 a3 : Nat) (k23 : kMem → Int32 → Option Unit) (M : kMem) (x4 : Int32) : Option Unit :=
    kg (kt M a1 11) <| (F_X11_findTrader N M a1).bind fun r1 =>
    kg (kt M a2 12) <| (F_X12_findTrader N M a2).bind fun r2 =>
    if r1 = r2.1 then (
      kl (x4 + 6) fun v3 =>
      k23 r2.2 v3) else
    none
set_option maxRecDepth 100000 in
set_option maxHeartbeats 4000000 in
theorem k_L_law_1170 {p : Program} {l : Launch} {e : Env} {s : State} {m : MethodId} {below : List Frame} {meth : Method} {c : Code} {g : kG} {b Ls : Nat} {xs : Nat → Int32} (hX : Cok (p, l, e, room_1, s, m, #[Value.ref b], below, meth, c, cL_law, 9, RL, g, 1000)) (hf : l.flags = flags0) (hN : kNc s) (hSc : va_X b Ls xs s s.heap) (hbl : b < s.heap.size) (hbB : s.heap.size = g.2.2.1 + 1) {k n : Nat} (hk : k + 5 ≤ room_1.cells) (hn : n + 30 ≤ room_1.slots) (N a1 a2 a3 : Nat) (k23 : kMem → Int32 → Option Unit) (h23 : ∀ (M : kMem) (x4 : Int32), GG (p, l, e, room_1, s, m, #[Value.ref b], below, meth, c, cL_law, 9, RL, g, 1000) (fun _ : Unit => lw_Z below #[Value.ref b] s) (k + 5) (n + 30) (k23 M x4) 23 [(0, .retAddr b), (1, .ref a1), (2, .ref a2), (3, .ref a3), (4, .int x4)] [] M) (M : kMem) (x4 : Int32) : GG (p, l, e, room_1, s, m, #[Value.ref b], below, meth, c, cL_law, 9, RL, g, 1000) (fun _ : Unit => lw_Z below #[Value.ref b] s) k n (F_L_law_1170 N Ls xs a1 a2 a3 k23 M x4) 1170 [(0, .retAddr b), (1, .ref a1), (2, .ref a2), (3, .ref a3), (4, .int x4)] [] M := by
  unfold F_L_law_1170
  refine g_aload_n 1171 1 hX dL_law_1170 rfl rfl ?_
  refine g_callV_ip 1174 hX (k_X11_findTrader l g N M a1) lk_X11_findTrader rfl (ci := 11) rfl (Nat.le_of_ble_eq_true rfl) q_1018 q_1020 (by decide) rfl (Nat.le_of_ble_eq_true rfl) (by omega) (by omega) dL_law_1171 rfl (fun r1 => ?_)
  refine g_aload_n 1175 2 hX dL_law_1174 rfl rfl ?_
  refine g_callV_i 1178 hX (k_X12_findTrader l g N M a2) lk_X12_findTrader rfl (ci := 12) rfl (Nat.le_of_ble_eq_true rfl) q_2221 q_2223 (by decide) rfl (Nat.le_of_ble_eq_true rfl) (by omega) (by omega) dL_law_1175 rfl (fun r2 => ?_)
  refine g_icmp_eq 3200 1181 hX dL_law_1178 (by decide) rfl (fun _ => ?_) (fun _ => ?_)
  · refine g_kl (fun v3 hv3 => ?_)
    refine g_iinc 3203 4 4 v3 [(4, .int v3), (0, .retAddr b), (1, .ref a1), (2, .ref a2), (3, .ref a3)] hX dL_law_3200 rfl rfl (by rw [hv3, kc_i_6]) (Nat.le_of_ble_eq_true rfl) rfl ?_
    refine g_goto 23 hX dL_law_3203 (by decide) ?_
    refine g_lv [1, 2, 3, 4, 0] rfl ?_
    refine g_widen (k2 := k + 5) (n2 := n + 30) (by omega) (by omega) ?_
    exact h23 r2.2 v3
  · exact g_none
def F_L_law_1183 (N Ls : Nat) (xs : Nat → Int32) (a1 a2 a3 : Nat) (k23 : kMem → Int32 → Option Unit) (M : kMem) (x4 : Int32) : Option Unit :=
    kg (decide (0 ≤ x4 + 1) && decide ((x4 + 1 : Int32).toNatClampNeg < Ls)) <|
    kg (decide (0 ≤ x4 + 2) && decide ((x4 + 2 : Int32).toNatClampNeg < Ls)) <|
    (F_L_nameLetter N M a1 (xs (kx (x4 + 1))) (xs (kx (x4 + 2))) a3).bind fun r1 =>
    kl r1.1 fun v2 =>
    kg (decide (0 ≤ x4 + 1) && decide ((x4 + 1 : Int32).toNatClampNeg < Ls)) <|
    kg (decide (0 ≤ x4 + 2) && decide ((x4 + 2 : Int32).toNatClampNeg < Ls)) <|
    kg (kt r1.2 a2 12) <| (F_X12_nameLetter N r1.2 a2 (xs (kx (x4 + 1))) (xs (kx (x4 + 2)))).bind fun r3 =>
    kl r3.1 fun v4 =>
    kg (kt r3.2 a2 12) <| (F_X12_thrown N r3.2 a2).bind fun r5 =>
    if r5 = v2 then (
      if v2 = 0 then (
        kg (kin r3.2 a3 15 0) <|
        if (lg_cmp (kL r3.2 a3 (kx 0)) v4.toInt64) = 0 then (
          kl (x4 + 6) fun v7 =>
          k23 r3.2 v7) else
        none) else
      kl (x4 + 6) fun v6 =>
      k23 r3.2 v6) else
    none
set_option maxRecDepth 100000 in
set_option maxHeartbeats 4000000 in
theorem k_L_law_1183 {p : Program} {l : Launch} {e : Env} {s : State} {m : MethodId} {below : List Frame} {meth : Method} {c : Code} {g : kG} {b Ls : Nat} {xs : Nat → Int32} (hX : Cok (p, l, e, room_1, s, m, #[Value.ref b], below, meth, c, cL_law, 9, RL, g, 1000)) (hf : l.flags = flags0) (hN : kNc s) (hSc : va_X b Ls xs s s.heap) (hbl : b < s.heap.size) (hbB : s.heap.size = g.2.2.1 + 1) {k n : Nat} (hk : k + 5 ≤ room_1.cells) (hn : n + 30 ≤ room_1.slots) (N a1 a2 a3 : Nat) (k23 : kMem → Int32 → Option Unit) (h23 : ∀ (M : kMem) (x4 : Int32), GG (p, l, e, room_1, s, m, #[Value.ref b], below, meth, c, cL_law, 9, RL, g, 1000) (fun _ : Unit => lw_Z below #[Value.ref b] s) (k + 5) (n + 30) (k23 M x4) 23 [(0, .retAddr b), (1, .ref a1), (2, .ref a2), (3, .ref a3), (4, .int x4)] [] M) (M : kMem) (x4 : Int32) : GG (p, l, e, room_1, s, m, #[Value.ref b], below, meth, c, cL_law, 9, RL, g, 1000) (fun _ : Unit => lw_Z below #[Value.ref b] s) k n (F_L_law_1183 N Ls xs a1 a2 a3 k23 M x4) 1183 [(0, .retAddr b), (1, .ref a1), (2, .ref a2), (3, .ref a3), (4, .int x4)] [] M := by
  unfold F_L_law_1183
  refine g_aload_n 1184 1 hX dL_law_1183 rfl rfl ?_
  refine g_aloadS_n 1185 0 hX dL_law_1184 rfl rfl ?_
  refine g_iload 1187 4 hX dL_law_1185 rfl rfl ?_
  refine g_iconst 1188 hX 1 dL_law_1187 rfl kc_i_1 ?_
  refine g_iadd 1189 hX dL_law_1188 rfl ?_
  refine g_sld 1190 hX hSc hbl hbB dL_law_1189 rfl ?_
  refine g_aloadS_n 1191 0 hX dL_law_1190 rfl rfl ?_
  refine g_iload 1193 4 hX dL_law_1191 rfl rfl ?_
  refine g_iconst 1194 hX 2 dL_law_1193 rfl kc_i_2 ?_
  refine g_iadd 1195 hX dL_law_1194 rfl ?_
  refine g_sld 1196 hX hSc hbl hbB dL_law_1195 rfl ?_
  refine g_aload_n 1197 3 hX dL_law_1196 rfl rfl ?_
  refine g_callSH 1200 hX hN (k_L_nameLetter l g hf N M a1 (xs (kx (x4 + 1))) (xs (kx (x4 + 2))) a3) lkH_L_nameLetter q_1339 (by decide) rfl (Nat.le_of_ble_eq_true rfl) (by omega) (by omega) dL_law_1197 rfl (fun r1 => ?_)
  refine g_klI (fun v2 hv2 => ?_)
  refine g_istore 1202 5 [(5, .int v2), (0, .retAddr b), (1, .ref a1), (2, .ref a2), (3, .ref a3), (4, .int x4)] hX dL_law_1200 rfl (Nat.le_of_ble_eq_true rfl) rfl ?_
  refine g_aload_n 1203 3 hX dL_law_1202 rfl rfl ?_
  refine g_aloadS_n 1204 1 hX dL_law_1203 rfl rfl ?_
  refine g_iload 1206 5 hX dL_law_1204 rfl rfl ?_
  refine g_iconst 1207 hX 1 dL_law_1206 rfl kc_i_1 ?_
  refine g_iadd 1208 hX dL_law_1207 rfl ?_
  refine g_sld 1209 hX hSc hbl hbB dL_law_1208 rfl ?_
  refine g_aloadS_n 1210 1 hX dL_law_1209 rfl rfl ?_
  refine g_iload 1212 5 hX dL_law_1210 rfl rfl ?_
  refine g_iconst 1213 hX 2 dL_law_1212 rfl kc_i_2 ?_
  refine g_iadd 1214 hX dL_law_1213 rfl ?_
  refine g_sld 1215 hX hSc hbl hbB dL_law_1214 rfl ?_
  refine g_callV_i 1218 hX (k_X12_nameLetter l g N r1.2 a2 (xs (kx (x4 + 1))) (xs (kx (x4 + 2)))) lk_X12_nameLetter rfl (ci := 12) rfl (Nat.le_of_ble_eq_true rfl) q_2225 q_2227 (by decide) rfl (Nat.le_of_ble_eq_true rfl) (by omega) (by omega) dL_law_1215 rfl (fun r3 => ?_)
  refine g_klI (fun v4 hv4 => ?_)
  refine g_istore 1220 6 [(6, .int v4), (5, .int v2), (0, .retAddr b), (1, .ref a1), (2, .ref a2), (3, .ref a3), (4, .int x4)] hX dL_law_1218 rfl (Nat.le_of_ble_eq_true rfl) rfl ?_
  refine g_aload_n 1221 4 hX dL_law_1220 rfl rfl ?_
  refine g_callV_ip 1224 hX (k_X12_thrown l g N r3.2 a2) lk_X12_thrown rfl (ci := 12) rfl (Nat.le_of_ble_eq_true rfl) q_1730 q_1732 (by decide) rfl (Nat.le_of_ble_eq_true rfl) (by omega) (by omega) dL_law_1221 rfl (fun r5 => ?_)
  refine g_iload 1226 1 hX dL_law_1224 rfl rfl ?_
  refine g_icmp_eq 1231 1229 hX dL_law_1226 (by decide) rfl (fun _ => ?_) (fun _ => ?_)
  · refine g_iload 1233 1 hX dL_law_1231 rfl rfl ?_
    refine g_if_ne 1248 1236 hX dL_law_1233 (by decide) rfl (fun _ => ?_) (fun _ => ?_)
    · refine g_goto 3200 hX dL_law_1248 (by decide) ?_
      refine g_kl (fun v6 hv6 => ?_)
      refine g_iinc 3203 4 6 v6 [(4, .int v6), (6, .int v4), (5, .int v2), (0, .retAddr b), (1, .ref a1), (2, .ref a2), (3, .ref a3)] hX dL_law_3200 rfl rfl (by rw [hv6, kc_i_6]) (Nat.le_of_ble_eq_true rfl) rfl ?_
      refine g_goto 23 hX dL_law_3203 (by decide) ?_
      refine g_lv [3, 4, 5, 6, 0] rfl ?_
      refine g_widen (k2 := k + 5) (n2 := n + 30) (by omega) (by omega) ?_
      exact h23 r3.2 v6
    · refine g_aload_n 1237 5 hX dL_law_1236 rfl rfl ?_
      refine g_iconst 1238 hX 0 dL_law_1237 rfl kc_i_0 ?_
      refine g_lald 1239 hX dL_law_1238 rfl ?_
      refine g_iload 1241 0 hX dL_law_1239 rfl rfl ?_
      refine g_i2l 1242 hX dL_law_1241 rfl ?_
      refine g_lcmp 1243 hX dL_law_1242 rfl ?_
      refine g_if_eq 1248 1246 hX dL_law_1243 (by decide) rfl (fun _ => ?_) (fun _ => ?_)
      · refine g_goto 3200 hX dL_law_1248 (by decide) ?_
        refine g_kl (fun v7 hv7 => ?_)
        refine g_iinc 3203 4 6 v7 [(4, .int v7), (6, .int v4), (5, .int v2), (0, .retAddr b), (1, .ref a1), (2, .ref a2), (3, .ref a3)] hX dL_law_3200 rfl rfl (by rw [hv7, kc_i_6]) (Nat.le_of_ble_eq_true rfl) rfl ?_
        refine g_goto 23 hX dL_law_3203 (by decide) ?_
        refine g_lv [3, 4, 5, 6, 0] rfl ?_
        refine g_widen (k2 := k + 5) (n2 := n + 30) (by omega) (by omega) ?_
        exact h23 r3.2 v7
      · exact g_none
  · exact g_none
def F_L_law_1251 (N Ls : Nat) (xs : Nat → Int32) (a1 a2 a3 : Nat) (k23 : kMem → Int32 → Option Unit) (M : kMem) (x4 : Int32) : Option Unit :=
    kg (decide (0 ≤ x4 + 1) && decide ((x4 + 1 : Int32).toNatClampNeg < Ls)) <|
    (F_L_weightOf N M a1 (xs (kx (x4 + 1))) a3).bind fun r1 =>
    kl r1.1 fun v2 =>
    kg (decide (0 ≤ x4 + 1) && decide ((x4 + 1 : Int32).toNatClampNeg < Ls)) <|
    kg (kt r1.2 a2 12) <| (F_X12_weightOf N r1.2 a2 (xs (kx (x4 + 1)))).bind fun r3 =>
    kl r3.1 fun v4 =>
    kg (kt r3.2 a2 12) <| (F_X12_thrown N r3.2 a2).bind fun r5 =>
    if r5 = v2 then (
      if v2 = 0 then (
        kg (kin r3.2 a3 15 0) <|
        if (lg_cmp (kL r3.2 a3 (kx 0)) v4.toInt64) = 0 then (
          kl (x4 + 6) fun v7 =>
          k23 r3.2 v7) else
        none) else
      kl (x4 + 6) fun v6 =>
      k23 r3.2 v6) else
    none
set_option maxRecDepth 100000 in
set_option maxHeartbeats 4000000 in
theorem k_L_law_1251 {p : Program} {l : Launch} {e : Env} {s : State} {m : MethodId} {below : List Frame} {meth : Method} {c : Code} {g : kG} {b Ls : Nat} {xs : Nat → Int32} (hX : Cok (p, l, e, room_1, s, m, #[Value.ref b], below, meth, c, cL_law, 9, RL, g, 1000)) (hf : l.flags = flags0) (hN : kNc s) (hSc : va_X b Ls xs s s.heap) (hbl : b < s.heap.size) (hbB : s.heap.size = g.2.2.1 + 1) {k n : Nat} (hk : k + 5 ≤ room_1.cells) (hn : n + 30 ≤ room_1.slots) (N a1 a2 a3 : Nat) (k23 : kMem → Int32 → Option Unit) (h23 : ∀ (M : kMem) (x4 : Int32), GG (p, l, e, room_1, s, m, #[Value.ref b], below, meth, c, cL_law, 9, RL, g, 1000) (fun _ : Unit => lw_Z below #[Value.ref b] s) (k + 5) (n + 30) (k23 M x4) 23 [(0, .retAddr b), (1, .ref a1), (2, .ref a2), (3, .ref a3), (4, .int x4)] [] M) (M : kMem) (x4 : Int32) : GG (p, l, e, room_1, s, m, #[Value.ref b], below, meth, c, cL_law, 9, RL, g, 1000) (fun _ : Unit => lw_Z below #[Value.ref b] s) k n (F_L_law_1251 N Ls xs a1 a2 a3 k23 M x4) 1251 [(0, .retAddr b), (1, .ref a1), (2, .ref a2), (3, .ref a3), (4, .int x4)] [] M := by
  unfold F_L_law_1251
  refine g_aload_n 1252 1 hX dL_law_1251 rfl rfl ?_
  refine g_aloadS_n 1253 0 hX dL_law_1252 rfl rfl ?_
  refine g_iload 1255 4 hX dL_law_1253 rfl rfl ?_
  refine g_iconst 1256 hX 1 dL_law_1255 rfl kc_i_1 ?_
  refine g_iadd 1257 hX dL_law_1256 rfl ?_
  refine g_sld 1258 hX hSc hbl hbB dL_law_1257 rfl ?_
  refine g_aload_n 1259 3 hX dL_law_1258 rfl rfl ?_
  refine g_callSH 1262 hX hN (k_L_weightOf l g hf N M a1 (xs (kx (x4 + 1))) a3) lkH_L_weightOf q_1356 (by decide) rfl (Nat.le_of_ble_eq_true rfl) (by omega) (by omega) dL_law_1259 rfl (fun r1 => ?_)
  refine g_klI (fun v2 hv2 => ?_)
  refine g_istore 1264 5 [(5, .int v2), (0, .retAddr b), (1, .ref a1), (2, .ref a2), (3, .ref a3), (4, .int x4)] hX dL_law_1262 rfl (Nat.le_of_ble_eq_true rfl) rfl ?_
  refine g_aload_n 1265 3 hX dL_law_1264 rfl rfl ?_
  refine g_aloadS_n 1266 1 hX dL_law_1265 rfl rfl ?_
  refine g_iload 1268 5 hX dL_law_1266 rfl rfl ?_
  refine g_iconst 1269 hX 1 dL_law_1268 rfl kc_i_1 ?_
  refine g_iadd 1270 hX dL_law_1269 rfl ?_
  refine g_sld 1271 hX hSc hbl hbB dL_law_1270 rfl ?_
  refine g_callV_i 1274 hX (k_X12_weightOf l g N r1.2 a2 (xs (kx (x4 + 1)))) lk_X12_weightOf rfl (ci := 12) rfl (Nat.le_of_ble_eq_true rfl) q_2235 q_2237 (by decide) rfl (Nat.le_of_ble_eq_true rfl) (by omega) (by omega) dL_law_1271 rfl (fun r3 => ?_)
  refine g_klI (fun v4 hv4 => ?_)
  refine g_istore 1276 6 [(6, .int v4), (5, .int v2), (0, .retAddr b), (1, .ref a1), (2, .ref a2), (3, .ref a3), (4, .int x4)] hX dL_law_1274 rfl (Nat.le_of_ble_eq_true rfl) rfl ?_
  refine g_aload_n 1277 4 hX dL_law_1276 rfl rfl ?_
  refine g_callV_ip 1280 hX (k_X12_thrown l g N r3.2 a2) lk_X12_thrown rfl (ci := 12) rfl (Nat.le_of_ble_eq_true rfl) q_1730 q_1732 (by decide) rfl (Nat.le_of_ble_eq_true rfl) (by omega) (by omega) dL_law_1277 rfl (fun r5 => ?_)
  refine g_iload 1282 1 hX dL_law_1280 rfl rfl ?_
  refine g_icmp_eq 1287 1285 hX dL_law_1282 (by decide) rfl (fun _ => ?_) (fun _ => ?_)
  · refine g_iload 1289 1 hX dL_law_1287 rfl rfl ?_
    refine g_if_ne 1304 1292 hX dL_law_1289 (by decide) rfl (fun _ => ?_) (fun _ => ?_)
    · refine g_goto 3200 hX dL_law_1304 (by decide) ?_
      refine g_kl (fun v6 hv6 => ?_)
      refine g_iinc 3203 4 6 v6 [(4, .int v6), (6, .int v4), (5, .int v2), (0, .retAddr b), (1, .ref a1), (2, .ref a2), (3, .ref a3)] hX dL_law_3200 rfl rfl (by rw [hv6, kc_i_6]) (Nat.le_of_ble_eq_true rfl) rfl ?_
      refine g_goto 23 hX dL_law_3203 (by decide) ?_
      refine g_lv [3, 4, 5, 6, 0] rfl ?_
      refine g_widen (k2 := k + 5) (n2 := n + 30) (by omega) (by omega) ?_
      exact h23 r3.2 v6
    · refine g_aload_n 1293 5 hX dL_law_1292 rfl rfl ?_
      refine g_iconst 1294 hX 0 dL_law_1293 rfl kc_i_0 ?_
      refine g_lald 1295 hX dL_law_1294 rfl ?_
      refine g_iload 1297 0 hX dL_law_1295 rfl rfl ?_
      refine g_i2l 1298 hX dL_law_1297 rfl ?_
      refine g_lcmp 1299 hX dL_law_1298 rfl ?_
      refine g_if_eq 1304 1302 hX dL_law_1299 (by decide) rfl (fun _ => ?_) (fun _ => ?_)
      · refine g_goto 3200 hX dL_law_1304 (by decide) ?_
        refine g_kl (fun v7 hv7 => ?_)
        refine g_iinc 3203 4 6 v7 [(4, .int v7), (6, .int v4), (5, .int v2), (0, .retAddr b), (1, .ref a1), (2, .ref a2), (3, .ref a3)] hX dL_law_3200 rfl rfl (by rw [hv7, kc_i_6]) (Nat.le_of_ble_eq_true rfl) rfl ?_
        refine g_goto 23 hX dL_law_3203 (by decide) ?_
        refine g_lv [3, 4, 5, 6, 0] rfl ?_
        refine g_widen (k2 := k + 5) (n2 := n + 30) (by omega) (by omega) ?_
        exact h23 r3.2 v7
      · exact g_none
  · exact g_none
def F_L_law_1307 (N Ls : Nat) (xs : Nat → Int32) (a1 a2 a3 : Nat) (k23 : kMem → Int32 → Option Unit) (M : kMem) (x4 : Int32) : Option Unit :=
    kg (decide (0 ≤ x4 + 1) && decide ((x4 + 1 : Int32).toNatClampNeg < Ls)) <|
    (F_L_purseOf N M a1 (xs (kx (x4 + 1))) a3).bind fun r1 =>
    kl r1.1 fun v2 =>
    kg (decide (0 ≤ x4 + 1) && decide ((x4 + 1 : Int32).toNatClampNeg < Ls)) <|
    kg (kt r1.2 a2 12) <| (F_X12_purseOf N r1.2 a2 (xs (kx (x4 + 1)))).bind fun r3 =>
    kl r3.1 fun v4 =>
    kg (kt r3.2 a2 12) <| (F_X12_thrown N r3.2 a2).bind fun r5 =>
    if r5 = v2 then (
      if v2 = 0 then (
        kg (kin r3.2 a3 15 0) <|
        if (lg_cmp (kL r3.2 a3 (kx 0)) v4.toInt64) = 0 then (
          kl (x4 + 6) fun v7 =>
          k23 r3.2 v7) else
        none) else
      kl (x4 + 6) fun v6 =>
      k23 r3.2 v6) else
    none
set_option maxRecDepth 100000 in
set_option maxHeartbeats 4000000 in
theorem k_L_law_1307 {p : Program} {l : Launch} {e : Env} {s : State} {m : MethodId} {below : List Frame} {meth : Method} {c : Code} {g : kG} {b Ls : Nat} {xs : Nat → Int32} (hX : Cok (p, l, e, room_1, s, m, #[Value.ref b], below, meth, c, cL_law, 9, RL, g, 1000)) (hf : l.flags = flags0) (hN : kNc s) (hSc : va_X b Ls xs s s.heap) (hbl : b < s.heap.size) (hbB : s.heap.size = g.2.2.1 + 1) {k n : Nat} (hk : k + 5 ≤ room_1.cells) (hn : n + 30 ≤ room_1.slots) (N a1 a2 a3 : Nat) (k23 : kMem → Int32 → Option Unit) (h23 : ∀ (M : kMem) (x4 : Int32), GG (p, l, e, room_1, s, m, #[Value.ref b], below, meth, c, cL_law, 9, RL, g, 1000) (fun _ : Unit => lw_Z below #[Value.ref b] s) (k + 5) (n + 30) (k23 M x4) 23 [(0, .retAddr b), (1, .ref a1), (2, .ref a2), (3, .ref a3), (4, .int x4)] [] M) (M : kMem) (x4 : Int32) : GG (p, l, e, room_1, s, m, #[Value.ref b], below, meth, c, cL_law, 9, RL, g, 1000) (fun _ : Unit => lw_Z below #[Value.ref b] s) k n (F_L_law_1307 N Ls xs a1 a2 a3 k23 M x4) 1307 [(0, .retAddr b), (1, .ref a1), (2, .ref a2), (3, .ref a3), (4, .int x4)] [] M := by
  unfold F_L_law_1307
  refine g_aload_n 1308 1 hX dL_law_1307 rfl rfl ?_
  refine g_aloadS_n 1309 0 hX dL_law_1308 rfl rfl ?_
  refine g_iload 1311 4 hX dL_law_1309 rfl rfl ?_
  refine g_iconst 1312 hX 1 dL_law_1311 rfl kc_i_1 ?_
  refine g_iadd 1313 hX dL_law_1312 rfl ?_
  refine g_sld 1314 hX hSc hbl hbB dL_law_1313 rfl ?_
  refine g_aload_n 1315 3 hX dL_law_1314 rfl rfl ?_
  refine g_callSH 1318 hX hN (k_L_purseOf l g hf N M a1 (xs (kx (x4 + 1))) a3) lkH_L_purseOf q_1363 (by decide) rfl (Nat.le_of_ble_eq_true rfl) (by omega) (by omega) dL_law_1315 rfl (fun r1 => ?_)
  refine g_klI (fun v2 hv2 => ?_)
  refine g_istore 1320 5 [(5, .int v2), (0, .retAddr b), (1, .ref a1), (2, .ref a2), (3, .ref a3), (4, .int x4)] hX dL_law_1318 rfl (Nat.le_of_ble_eq_true rfl) rfl ?_
  refine g_aload_n 1321 3 hX dL_law_1320 rfl rfl ?_
  refine g_aloadS_n 1322 1 hX dL_law_1321 rfl rfl ?_
  refine g_iload 1324 5 hX dL_law_1322 rfl rfl ?_
  refine g_iconst 1325 hX 1 dL_law_1324 rfl kc_i_1 ?_
  refine g_iadd 1326 hX dL_law_1325 rfl ?_
  refine g_sld 1327 hX hSc hbl hbB dL_law_1326 rfl ?_
  refine g_callV_i 1330 hX (k_X12_purseOf l g N r1.2 a2 (xs (kx (x4 + 1)))) lk_X12_purseOf rfl (ci := 12) rfl (Nat.le_of_ble_eq_true rfl) q_2243 q_2245 (by decide) rfl (Nat.le_of_ble_eq_true rfl) (by omega) (by omega) dL_law_1327 rfl (fun r3 => ?_)
  refine g_klI (fun v4 hv4 => ?_)
  refine g_istore 1332 6 [(6, .int v4), (5, .int v2), (0, .retAddr b), (1, .ref a1), (2, .ref a2), (3, .ref a3), (4, .int x4)] hX dL_law_1330 rfl (Nat.le_of_ble_eq_true rfl) rfl ?_
  refine g_aload_n 1333 4 hX dL_law_1332 rfl rfl ?_
  refine g_callV_ip 1336 hX (k_X12_thrown l g N r3.2 a2) lk_X12_thrown rfl (ci := 12) rfl (Nat.le_of_ble_eq_true rfl) q_1730 q_1732 (by decide) rfl (Nat.le_of_ble_eq_true rfl) (by omega) (by omega) dL_law_1333 rfl (fun r5 => ?_)
  refine g_iload 1338 1 hX dL_law_1336 rfl rfl ?_
  refine g_icmp_eq 1343 1341 hX dL_law_1338 (by decide) rfl (fun _ => ?_) (fun _ => ?_)
  · refine g_iload 1345 1 hX dL_law_1343 rfl rfl ?_
    refine g_if_ne 1360 1348 hX dL_law_1345 (by decide) rfl (fun _ => ?_) (fun _ => ?_)
    · refine g_goto 3200 hX dL_law_1360 (by decide) ?_
      refine g_kl (fun v6 hv6 => ?_)
      refine g_iinc 3203 4 6 v6 [(4, .int v6), (6, .int v4), (5, .int v2), (0, .retAddr b), (1, .ref a1), (2, .ref a2), (3, .ref a3)] hX dL_law_3200 rfl rfl (by rw [hv6, kc_i_6]) (Nat.le_of_ble_eq_true rfl) rfl ?_
      refine g_goto 23 hX dL_law_3203 (by decide) ?_
      refine g_lv [3, 4, 5, 6, 0] rfl ?_
      refine g_widen (k2 := k + 5) (n2 := n + 30) (by omega) (by omega) ?_
      exact h23 r3.2 v6
    · refine g_aload_n 1349 5 hX dL_law_1348 rfl rfl ?_
      refine g_iconst 1350 hX 0 dL_law_1349 rfl kc_i_0 ?_
      refine g_lald 1351 hX dL_law_1350 rfl ?_
      refine g_iload 1353 0 hX dL_law_1351 rfl rfl ?_
      refine g_i2l 1354 hX dL_law_1353 rfl ?_
      refine g_lcmp 1355 hX dL_law_1354 rfl ?_
      refine g_if_eq 1360 1358 hX dL_law_1355 (by decide) rfl (fun _ => ?_) (fun _ => ?_)
      · refine g_goto 3200 hX dL_law_1360 (by decide) ?_
        refine g_kl (fun v7 hv7 => ?_)
        refine g_iinc 3203 4 6 v7 [(4, .int v7), (6, .int v4), (5, .int v2), (0, .retAddr b), (1, .ref a1), (2, .ref a2), (3, .ref a3)] hX dL_law_3200 rfl rfl (by rw [hv7, kc_i_6]) (Nat.le_of_ble_eq_true rfl) rfl ?_
        refine g_goto 23 hX dL_law_3203 (by decide) ?_
        refine g_lv [3, 4, 5, 6, 0] rfl ?_
        refine g_widen (k2 := k + 5) (n2 := n + 30) (by omega) (by omega) ?_
        exact h23 r3.2 v7
      · exact g_none
  · exact g_none
def F_L_law_1363 (N Ls : Nat) (xs : Nat → Int32) (a1 a2 a3 : Nat) (k23 : kMem → Int32 → Option Unit) (M : kMem) (x4 : Int32) : Option Unit :=
    kg (decide (0 ≤ x4 + 1) && decide ((x4 + 1 : Int32).toNatClampNeg < Ls)) <|
    (F_L_ageOf N M a1 (xs (kx (x4 + 1))) a3).bind fun r1 =>
    kl r1.1 fun v2 =>
    kg (decide (0 ≤ x4 + 1) && decide ((x4 + 1 : Int32).toNatClampNeg < Ls)) <|
    kg (kt r1.2 a2 12) <| (F_X12_ageOf N r1.2 a2 (xs (kx (x4 + 1)))).bind fun r3 =>
    kl r3.1 fun v4 =>
    kg (kt r3.2 a2 12) <| (F_X12_thrown N r3.2 a2).bind fun r5 =>
    if r5 = v2 then (
      if v2 = 0 then (
        kg (kin r3.2 a3 15 0) <|
        if (lg_cmp (kL r3.2 a3 (kx 0)) v4.toInt64) = 0 then (
          kl (x4 + 6) fun v7 =>
          k23 r3.2 v7) else
        none) else
      kl (x4 + 6) fun v6 =>
      k23 r3.2 v6) else
    none
set_option maxRecDepth 100000 in
set_option maxHeartbeats 4000000 in
theorem k_L_law_1363 {p : Program} {l : Launch} {e : Env} {s : State} {m : MethodId} {below : List Frame} {meth : Method} {c : Code} {g : kG} {b Ls : Nat} {xs : Nat → Int32} (hX : Cok (p, l, e, room_1, s, m, #[Value.ref b], below, meth, c, cL_law, 9, RL, g, 1000)) (hf : l.flags = flags0) (hN : kNc s) (hSc : va_X b Ls xs s s.heap) (hbl : b < s.heap.size) (hbB : s.heap.size = g.2.2.1 + 1) {k n : Nat} (hk : k + 5 ≤ room_1.cells) (hn : n + 30 ≤ room_1.slots) (N a1 a2 a3 : Nat) (k23 : kMem → Int32 → Option Unit) (h23 : ∀ (M : kMem) (x4 : Int32), GG (p, l, e, room_1, s, m, #[Value.ref b], below, meth, c, cL_law, 9, RL, g, 1000) (fun _ : Unit => lw_Z below #[Value.ref b] s) (k + 5) (n + 30) (k23 M x4) 23 [(0, .retAddr b), (1, .ref a1), (2, .ref a2), (3, .ref a3), (4, .int x4)] [] M) (M : kMem) (x4 : Int32) : GG (p, l, e, room_1, s, m, #[Value.ref b], below, meth, c, cL_law, 9, RL, g, 1000) (fun _ : Unit => lw_Z below #[Value.ref b] s) k n (F_L_law_1363 N Ls xs a1 a2 a3 k23 M x4) 1363 [(0, .retAddr b), (1, .ref a1), (2, .ref a2), (3, .ref a3), (4, .int x4)] [] M := by
  unfold F_L_law_1363
  refine g_aload_n 1364 1 hX dL_law_1363 rfl rfl ?_
  refine g_aloadS_n 1365 0 hX dL_law_1364 rfl rfl ?_
  refine g_iload 1367 4 hX dL_law_1365 rfl rfl ?_
  refine g_iconst 1368 hX 1 dL_law_1367 rfl kc_i_1 ?_
  refine g_iadd 1369 hX dL_law_1368 rfl ?_
  refine g_sld 1370 hX hSc hbl hbB dL_law_1369 rfl ?_
  refine g_aload_n 1371 3 hX dL_law_1370 rfl rfl ?_
  refine g_callSH 1374 hX hN (k_L_ageOf l g hf N M a1 (xs (kx (x4 + 1))) a3) lkH_L_ageOf q_1370 (by decide) rfl (Nat.le_of_ble_eq_true rfl) (by omega) (by omega) dL_law_1371 rfl (fun r1 => ?_)
  refine g_klI (fun v2 hv2 => ?_)
  refine g_istore 1376 5 [(5, .int v2), (0, .retAddr b), (1, .ref a1), (2, .ref a2), (3, .ref a3), (4, .int x4)] hX dL_law_1374 rfl (Nat.le_of_ble_eq_true rfl) rfl ?_
  refine g_aload_n 1377 3 hX dL_law_1376 rfl rfl ?_
  refine g_aloadS_n 1378 1 hX dL_law_1377 rfl rfl ?_
  refine g_iload 1380 5 hX dL_law_1378 rfl rfl ?_
  refine g_iconst 1381 hX 1 dL_law_1380 rfl kc_i_1 ?_
  refine g_iadd 1382 hX dL_law_1381 rfl ?_
  refine g_sld 1383 hX hSc hbl hbB dL_law_1382 rfl ?_
  refine g_callV_i 1386 hX (k_X12_ageOf l g N r1.2 a2 (xs (kx (x4 + 1)))) lk_X12_ageOf rfl (ci := 12) rfl (Nat.le_of_ble_eq_true rfl) q_2247 q_2249 (by decide) rfl (Nat.le_of_ble_eq_true rfl) (by omega) (by omega) dL_law_1383 rfl (fun r3 => ?_)
  refine g_klI (fun v4 hv4 => ?_)
  refine g_istore 1388 6 [(6, .int v4), (5, .int v2), (0, .retAddr b), (1, .ref a1), (2, .ref a2), (3, .ref a3), (4, .int x4)] hX dL_law_1386 rfl (Nat.le_of_ble_eq_true rfl) rfl ?_
  refine g_aload_n 1389 4 hX dL_law_1388 rfl rfl ?_
  refine g_callV_ip 1392 hX (k_X12_thrown l g N r3.2 a2) lk_X12_thrown rfl (ci := 12) rfl (Nat.le_of_ble_eq_true rfl) q_1730 q_1732 (by decide) rfl (Nat.le_of_ble_eq_true rfl) (by omega) (by omega) dL_law_1389 rfl (fun r5 => ?_)
  refine g_iload 1394 1 hX dL_law_1392 rfl rfl ?_
  refine g_icmp_eq 1399 1397 hX dL_law_1394 (by decide) rfl (fun _ => ?_) (fun _ => ?_)
  · refine g_iload 1401 1 hX dL_law_1399 rfl rfl ?_
    refine g_if_ne 1416 1404 hX dL_law_1401 (by decide) rfl (fun _ => ?_) (fun _ => ?_)
    · refine g_goto 3200 hX dL_law_1416 (by decide) ?_
      refine g_kl (fun v6 hv6 => ?_)
      refine g_iinc 3203 4 6 v6 [(4, .int v6), (6, .int v4), (5, .int v2), (0, .retAddr b), (1, .ref a1), (2, .ref a2), (3, .ref a3)] hX dL_law_3200 rfl rfl (by rw [hv6, kc_i_6]) (Nat.le_of_ble_eq_true rfl) rfl ?_
      refine g_goto 23 hX dL_law_3203 (by decide) ?_
      refine g_lv [3, 4, 5, 6, 0] rfl ?_
      refine g_widen (k2 := k + 5) (n2 := n + 30) (by omega) (by omega) ?_
      exact h23 r3.2 v6
    · refine g_aload_n 1405 5 hX dL_law_1404 rfl rfl ?_
      refine g_iconst 1406 hX 0 dL_law_1405 rfl kc_i_0 ?_
      refine g_lald 1407 hX dL_law_1406 rfl ?_
      refine g_iload 1409 0 hX dL_law_1407 rfl rfl ?_
      refine g_i2l 1410 hX dL_law_1409 rfl ?_
      refine g_lcmp 1411 hX dL_law_1410 rfl ?_
      refine g_if_eq 1416 1414 hX dL_law_1411 (by decide) rfl (fun _ => ?_) (fun _ => ?_)
      · refine g_goto 3200 hX dL_law_1416 (by decide) ?_
        refine g_kl (fun v7 hv7 => ?_)
        refine g_iinc 3203 4 6 v7 [(4, .int v7), (6, .int v4), (5, .int v2), (0, .retAddr b), (1, .ref a1), (2, .ref a2), (3, .ref a3)] hX dL_law_3200 rfl rfl (by rw [hv7, kc_i_6]) (Nat.le_of_ble_eq_true rfl) rfl ?_
        refine g_goto 23 hX dL_law_3203 (by decide) ?_
        refine g_lv [3, 4, 5, 6, 0] rfl ?_
        refine g_widen (k2 := k + 5) (n2 := n + 30) (by omega) (by omega) ?_
        exact h23 r3.2 v7
      · exact g_none
  · exact g_none
def F_L_law_1419 (N Ls : Nat) (xs : Nat → Int32) (a1 a2 a3 : Nat) (k23 : kMem → Int32 → Option Unit) (M : kMem) (x4 : Int32) : Option Unit :=
    kg (decide (0 ≤ x4 + 1) && decide ((x4 + 1 : Int32).toNatClampNeg < Ls)) <|
    (F_L_isPresent N M a1 (xs (kx (x4 + 1))) a3).bind fun r1 =>
    kl r1.1 fun v2 =>
    kg (decide (0 ≤ x4 + 1) && decide ((x4 + 1 : Int32).toNatClampNeg < Ls)) <|
    kg (kt r1.2 a2 12) <| (F_X12_isPresent N r1.2 a2 (xs (kx (x4 + 1)))).bind fun r3 =>
    kl r3.1 fun v4 =>
    kg (kt r3.2 a2 12) <| (F_X12_thrown N r3.2 a2).bind fun r5 =>
    if r5 = v2 then (
      if v2 = 0 then (
        kg (kin r3.2 a3 15 0) <|
        if v4 = 0 then (
          if (lg_cmp (kL r3.2 a3 (kx 0)) 0) = 0 then (
            kl (x4 + 6) fun v7 =>
            k23 r3.2 v7) else
          none) else
        if (lg_cmp (kL r3.2 a3 (kx 0)) 1) = 0 then (
          kl (x4 + 6) fun v8 =>
          k23 r3.2 v8) else
        none) else
      kl (x4 + 6) fun v6 =>
      k23 r3.2 v6) else
    none
set_option maxRecDepth 100000 in
set_option maxHeartbeats 4000000 in
theorem k_L_law_1419 {p : Program} {l : Launch} {e : Env} {s : State} {m : MethodId} {below : List Frame} {meth : Method} {c : Code} {g : kG} {b Ls : Nat} {xs : Nat → Int32} (hX : Cok (p, l, e, room_1, s, m, #[Value.ref b], below, meth, c, cL_law, 9, RL, g, 1000)) (hf : l.flags = flags0) (hN : kNc s) (hSc : va_X b Ls xs s s.heap) (hbl : b < s.heap.size) (hbB : s.heap.size = g.2.2.1 + 1) {k n : Nat} (hk : k + 5 ≤ room_1.cells) (hn : n + 30 ≤ room_1.slots) (N a1 a2 a3 : Nat) (k23 : kMem → Int32 → Option Unit) (h23 : ∀ (M : kMem) (x4 : Int32), GG (p, l, e, room_1, s, m, #[Value.ref b], below, meth, c, cL_law, 9, RL, g, 1000) (fun _ : Unit => lw_Z below #[Value.ref b] s) (k + 5) (n + 30) (k23 M x4) 23 [(0, .retAddr b), (1, .ref a1), (2, .ref a2), (3, .ref a3), (4, .int x4)] [] M) (M : kMem) (x4 : Int32) : GG (p, l, e, room_1, s, m, #[Value.ref b], below, meth, c, cL_law, 9, RL, g, 1000) (fun _ : Unit => lw_Z below #[Value.ref b] s) k n (F_L_law_1419 N Ls xs a1 a2 a3 k23 M x4) 1419 [(0, .retAddr b), (1, .ref a1), (2, .ref a2), (3, .ref a3), (4, .int x4)] [] M := by
  unfold F_L_law_1419
  refine g_aload_n 1420 1 hX dL_law_1419 rfl rfl ?_
  refine g_aloadS_n 1421 0 hX dL_law_1420 rfl rfl ?_
  refine g_iload 1423 4 hX dL_law_1421 rfl rfl ?_
  refine g_iconst 1424 hX 1 dL_law_1423 rfl kc_i_1 ?_
  refine g_iadd 1425 hX dL_law_1424 rfl ?_
  refine g_sld 1426 hX hSc hbl hbB dL_law_1425 rfl ?_
  refine g_aload_n 1427 3 hX dL_law_1426 rfl rfl ?_
  refine g_callSH 1430 hX hN (k_L_isPresent l g hf N M a1 (xs (kx (x4 + 1))) a3) lkH_L_isPresent q_1377 (by decide) rfl (Nat.le_of_ble_eq_true rfl) (by omega) (by omega) dL_law_1427 rfl (fun r1 => ?_)
  refine g_klI (fun v2 hv2 => ?_)
  refine g_istore 1432 5 [(5, .int v2), (0, .retAddr b), (1, .ref a1), (2, .ref a2), (3, .ref a3), (4, .int x4)] hX dL_law_1430 rfl (Nat.le_of_ble_eq_true rfl) rfl ?_
  refine g_aload_n 1433 3 hX dL_law_1432 rfl rfl ?_
  refine g_aloadS_n 1434 1 hX dL_law_1433 rfl rfl ?_
  refine g_iload 1436 5 hX dL_law_1434 rfl rfl ?_
  refine g_iconst 1437 hX 1 dL_law_1436 rfl kc_i_1 ?_
  refine g_iadd 1438 hX dL_law_1437 rfl ?_
  refine g_sld 1439 hX hSc hbl hbB dL_law_1438 rfl ?_
  refine g_callV_i 1442 hX (k_X12_isPresent l g N r1.2 a2 (xs (kx (x4 + 1)))) lk_X12_isPresent rfl (ci := 12) rfl (Nat.le_of_ble_eq_true rfl) q_2251 q_2253 (by decide) rfl (Nat.le_of_ble_eq_true rfl) (by omega) (by omega) dL_law_1439 rfl (fun r3 => ?_)
  refine g_klI (fun v4 hv4 => ?_)
  refine g_istore 1444 6 [(6, .int v4), (5, .int v2), (0, .retAddr b), (1, .ref a1), (2, .ref a2), (3, .ref a3), (4, .int x4)] hX dL_law_1442 rfl (Nat.le_of_ble_eq_true rfl) rfl ?_
  refine g_aload_n 1445 4 hX dL_law_1444 rfl rfl ?_
  refine g_callV_ip 1448 hX (k_X12_thrown l g N r3.2 a2) lk_X12_thrown rfl (ci := 12) rfl (Nat.le_of_ble_eq_true rfl) q_1730 q_1732 (by decide) rfl (Nat.le_of_ble_eq_true rfl) (by omega) (by omega) dL_law_1445 rfl (fun r5 => ?_)
  refine g_iload 1450 1 hX dL_law_1448 rfl rfl ?_
  refine g_icmp_eq 1455 1453 hX dL_law_1450 (by decide) rfl (fun _ => ?_) (fun _ => ?_)
  · refine g_iload 1457 1 hX dL_law_1455 rfl rfl ?_
    refine g_if_ne 1479 1460 hX dL_law_1457 (by decide) rfl (fun _ => ?_) (fun _ => ?_)
    · refine g_goto 3200 hX dL_law_1479 (by decide) ?_
      refine g_kl (fun v6 hv6 => ?_)
      refine g_iinc 3203 4 6 v6 [(4, .int v6), (6, .int v4), (5, .int v2), (0, .retAddr b), (1, .ref a1), (2, .ref a2), (3, .ref a3)] hX dL_law_3200 rfl rfl (by rw [hv6, kc_i_6]) (Nat.le_of_ble_eq_true rfl) rfl ?_
      refine g_goto 23 hX dL_law_3203 (by decide) ?_
      refine g_lv [3, 4, 5, 6, 0] rfl ?_
      refine g_widen (k2 := k + 5) (n2 := n + 30) (by omega) (by omega) ?_
      exact h23 r3.2 v6
    · refine g_aload_n 1461 5 hX dL_law_1460 rfl rfl ?_
      refine g_iconst 1462 hX 0 dL_law_1461 rfl kc_i_0 ?_
      refine g_lald 1463 hX dL_law_1462 rfl ?_
      refine g_iload 1465 0 hX dL_law_1463 rfl rfl ?_
      refine g_if_eq 1472 1468 hX dL_law_1465 (by decide) rfl (fun _ => ?_) (fun _ => ?_)
      · refine g_lconst 1473 hX 0 dL_law_1472 rfl rfl ?_
        refine g_lcmp 1474 hX dL_law_1473 rfl ?_
        refine g_if_eq 1479 1477 hX dL_law_1474 (by decide) rfl (fun _ => ?_) (fun _ => ?_)
        · refine g_goto 3200 hX dL_law_1479 (by decide) ?_
          refine g_kl (fun v7 hv7 => ?_)
          refine g_iinc 3203 4 6 v7 [(4, .int v7), (6, .int v4), (5, .int v2), (0, .retAddr b), (1, .ref a1), (2, .ref a2), (3, .ref a3)] hX dL_law_3200 rfl rfl (by rw [hv7, kc_i_6]) (Nat.le_of_ble_eq_true rfl) rfl ?_
          refine g_goto 23 hX dL_law_3203 (by decide) ?_
          refine g_lv [3, 4, 5, 6, 0] rfl ?_
          refine g_widen (k2 := k + 5) (n2 := n + 30) (by omega) (by omega) ?_
          exact h23 r3.2 v7
        · exact g_none
      · refine g_lconst 1469 hX 1 dL_law_1468 rfl rfl ?_
        refine g_goto 1473 hX dL_law_1469 (by decide) ?_
        refine g_lcmp 1474 hX dL_law_1473 rfl ?_
        refine g_if_eq 1479 1477 hX dL_law_1474 (by decide) rfl (fun _ => ?_) (fun _ => ?_)
        · refine g_goto 3200 hX dL_law_1479 (by decide) ?_
          refine g_kl (fun v8 hv8 => ?_)
          refine g_iinc 3203 4 6 v8 [(4, .int v8), (6, .int v4), (5, .int v2), (0, .retAddr b), (1, .ref a1), (2, .ref a2), (3, .ref a3)] hX dL_law_3200 rfl rfl (by rw [hv8, kc_i_6]) (Nat.le_of_ble_eq_true rfl) rfl ?_
          refine g_goto 23 hX dL_law_3203 (by decide) ?_
          refine g_lv [3, 4, 5, 6, 0] rfl ?_
          refine g_widen (k2 := k + 5) (n2 := n + 30) (by omega) (by omega) ?_
          exact h23 r3.2 v8
        · exact g_none
  · exact g_none
def F_L_law_1482 (N Ls : Nat) (xs : Nat → Int32) (a1 a2 a3 : Nat) (k23 : kMem → Int32 → Option Unit) (M : kMem) (x4 : Int32) : Option Unit :=
    kg (decide (0 ≤ x4 + 1) && decide ((x4 + 1 : Int32).toNatClampNeg < Ls)) <|
    (F_L_boardOf N M a1 (xs (kx (x4 + 1))) a3).bind fun r1 =>
    kl r1.1 fun v2 =>
    kg (decide (0 ≤ x4 + 1) && decide ((x4 + 1 : Int32).toNatClampNeg < Ls)) <|
    kg (kt r1.2 a2 12) <| (F_X12_boardOf N r1.2 a2 (xs (kx (x4 + 1)))).bind fun r3 =>
    kl r3.1 fun v4 =>
    kg (kt r3.2 a2 12) <| (F_X12_thrown N r3.2 a2).bind fun r5 =>
    if r5 = v2 then (
      if v2 = 0 then (
        kg (kin r3.2 a3 15 0) <|
        if (lg_cmp (kL r3.2 a3 (kx 0)) v4.toInt64) = 0 then (
          kl (x4 + 6) fun v7 =>
          k23 r3.2 v7) else
        none) else
      kl (x4 + 6) fun v6 =>
      k23 r3.2 v6) else
    none
set_option maxRecDepth 100000 in
set_option maxHeartbeats 4000000 in
theorem k_L_law_1482 {p : Program} {l : Launch} {e : Env} {s : State} {m : MethodId} {below : List Frame} {meth : Method} {c : Code} {g : kG} {b Ls : Nat} {xs : Nat → Int32} (hX : Cok (p, l, e, room_1, s, m, #[Value.ref b], below, meth, c, cL_law, 9, RL, g, 1000)) (hf : l.flags = flags0) (hN : kNc s) (hSc : va_X b Ls xs s s.heap) (hbl : b < s.heap.size) (hbB : s.heap.size = g.2.2.1 + 1) {k n : Nat} (hk : k + 5 ≤ room_1.cells) (hn : n + 30 ≤ room_1.slots) (N a1 a2 a3 : Nat) (k23 : kMem → Int32 → Option Unit) (h23 : ∀ (M : kMem) (x4 : Int32), GG (p, l, e, room_1, s, m, #[Value.ref b], below, meth, c, cL_law, 9, RL, g, 1000) (fun _ : Unit => lw_Z below #[Value.ref b] s) (k + 5) (n + 30) (k23 M x4) 23 [(0, .retAddr b), (1, .ref a1), (2, .ref a2), (3, .ref a3), (4, .int x4)] [] M) (M : kMem) (x4 : Int32) : GG (p, l, e, room_1, s, m, #[Value.ref b], below, meth, c, cL_law, 9, RL, g, 1000) (fun _ : Unit => lw_Z below #[Value.ref b] s) k n (F_L_law_1482 N Ls xs a1 a2 a3 k23 M x4) 1482 [(0, .retAddr b), (1, .ref a1), (2, .ref a2), (3, .ref a3), (4, .int x4)] [] M := by
  unfold F_L_law_1482
  refine g_aload_n 1483 1 hX dL_law_1482 rfl rfl ?_
  refine g_aloadS_n 1484 0 hX dL_law_1483 rfl rfl ?_
  refine g_iload 1486 4 hX dL_law_1484 rfl rfl ?_
  refine g_iconst 1487 hX 1 dL_law_1486 rfl kc_i_1 ?_
  refine g_iadd 1488 hX dL_law_1487 rfl ?_
  refine g_sld 1489 hX hSc hbl hbB dL_law_1488 rfl ?_
  refine g_aload_n 1490 3 hX dL_law_1489 rfl rfl ?_
  refine g_callSH 1493 hX hN (k_L_boardOf l g hf N M a1 (xs (kx (x4 + 1))) a3) lkH_L_boardOf q_1384 (by decide) rfl (Nat.le_of_ble_eq_true rfl) (by omega) (by omega) dL_law_1490 rfl (fun r1 => ?_)
  refine g_klI (fun v2 hv2 => ?_)
  refine g_istore 1495 5 [(5, .int v2), (0, .retAddr b), (1, .ref a1), (2, .ref a2), (3, .ref a3), (4, .int x4)] hX dL_law_1493 rfl (Nat.le_of_ble_eq_true rfl) rfl ?_
  refine g_aload_n 1496 3 hX dL_law_1495 rfl rfl ?_
  refine g_aloadS_n 1497 1 hX dL_law_1496 rfl rfl ?_
  refine g_iload 1499 5 hX dL_law_1497 rfl rfl ?_
  refine g_iconst 1500 hX 1 dL_law_1499 rfl kc_i_1 ?_
  refine g_iadd 1501 hX dL_law_1500 rfl ?_
  refine g_sld 1502 hX hSc hbl hbB dL_law_1501 rfl ?_
  refine g_callV_i 1505 hX (k_X12_boardOf l g N r1.2 a2 (xs (kx (x4 + 1)))) lk_X12_boardOf rfl (ci := 12) rfl (Nat.le_of_ble_eq_true rfl) q_2255 q_2257 (by decide) rfl (Nat.le_of_ble_eq_true rfl) (by omega) (by omega) dL_law_1502 rfl (fun r3 => ?_)
  refine g_klI (fun v4 hv4 => ?_)
  refine g_istore 1507 6 [(6, .int v4), (5, .int v2), (0, .retAddr b), (1, .ref a1), (2, .ref a2), (3, .ref a3), (4, .int x4)] hX dL_law_1505 rfl (Nat.le_of_ble_eq_true rfl) rfl ?_
  refine g_aload_n 1508 4 hX dL_law_1507 rfl rfl ?_
  refine g_callV_ip 1511 hX (k_X12_thrown l g N r3.2 a2) lk_X12_thrown rfl (ci := 12) rfl (Nat.le_of_ble_eq_true rfl) q_1730 q_1732 (by decide) rfl (Nat.le_of_ble_eq_true rfl) (by omega) (by omega) dL_law_1508 rfl (fun r5 => ?_)
  refine g_iload 1513 1 hX dL_law_1511 rfl rfl ?_
  refine g_icmp_eq 1518 1516 hX dL_law_1513 (by decide) rfl (fun _ => ?_) (fun _ => ?_)
  · refine g_iload 1520 1 hX dL_law_1518 rfl rfl ?_
    refine g_if_ne 1535 1523 hX dL_law_1520 (by decide) rfl (fun _ => ?_) (fun _ => ?_)
    · refine g_goto 3200 hX dL_law_1535 (by decide) ?_
      refine g_kl (fun v6 hv6 => ?_)
      refine g_iinc 3203 4 6 v6 [(4, .int v6), (6, .int v4), (5, .int v2), (0, .retAddr b), (1, .ref a1), (2, .ref a2), (3, .ref a3)] hX dL_law_3200 rfl rfl (by rw [hv6, kc_i_6]) (Nat.le_of_ble_eq_true rfl) rfl ?_
      refine g_goto 23 hX dL_law_3203 (by decide) ?_
      refine g_lv [3, 4, 5, 6, 0] rfl ?_
      refine g_widen (k2 := k + 5) (n2 := n + 30) (by omega) (by omega) ?_
      exact h23 r3.2 v6
    · refine g_aload_n 1524 5 hX dL_law_1523 rfl rfl ?_
      refine g_iconst 1525 hX 0 dL_law_1524 rfl kc_i_0 ?_
      refine g_lald 1526 hX dL_law_1525 rfl ?_
      refine g_iload 1528 0 hX dL_law_1526 rfl rfl ?_
      refine g_i2l 1529 hX dL_law_1528 rfl ?_
      refine g_lcmp 1530 hX dL_law_1529 rfl ?_
      refine g_if_eq 1535 1533 hX dL_law_1530 (by decide) rfl (fun _ => ?_) (fun _ => ?_)
      · refine g_goto 3200 hX dL_law_1535 (by decide) ?_
        refine g_kl (fun v7 hv7 => ?_)
        refine g_iinc 3203 4 6 v7 [(4, .int v7), (6, .int v4), (5, .int v2), (0, .retAddr b), (1, .ref a1), (2, .ref a2), (3, .ref a3)] hX dL_law_3200 rfl rfl (by rw [hv7, kc_i_6]) (Nat.le_of_ble_eq_true rfl) rfl ?_
        refine g_goto 23 hX dL_law_3203 (by decide) ?_
        refine g_lv [3, 4, 5, 6, 0] rfl ?_
        refine g_widen (k2 := k + 5) (n2 := n + 30) (by omega) (by omega) ?_
        exact h23 r3.2 v7
      · exact g_none
  · exact g_none
def F_L_law_1538 (N Ls : Nat) (xs : Nat → Int32) (a1 a2 a3 : Nat) (k23 : kMem → Int32 → Option Unit) (M : kMem) (x4 : Int32) : Option Unit :=
    kg (decide (0 ≤ x4 + 1) && decide ((x4 + 1 : Int32).toNatClampNeg < Ls)) <|
    (F_L_positionOf N M a1 (xs (kx (x4 + 1))) a3).bind fun r1 =>
    kl r1.1 fun v2 =>
    kg (decide (0 ≤ x4 + 1) && decide ((x4 + 1 : Int32).toNatClampNeg < Ls)) <|
    kg (kt r1.2 a2 12) <| (F_X12_positionOf N r1.2 a2 (xs (kx (x4 + 1)))).bind fun r3 =>
    kl r3.1 fun v4 =>
    kg (kt r3.2 a2 12) <| (F_X12_thrown N r3.2 a2).bind fun r5 =>
    if r5 = v2 then (
      if v2 = 0 then (
        kg (kin r3.2 a3 15 0) <|
        if (lg_cmp (kL r3.2 a3 (kx 0)) v4.toInt64) = 0 then (
          kl (x4 + 6) fun v7 =>
          k23 r3.2 v7) else
        none) else
      kl (x4 + 6) fun v6 =>
      k23 r3.2 v6) else
    none
set_option maxRecDepth 100000 in
set_option maxHeartbeats 4000000 in
theorem k_L_law_1538 {p : Program} {l : Launch} {e : Env} {s : State} {m : MethodId} {below : List Frame} {meth : Method} {c : Code} {g : kG} {b Ls : Nat} {xs : Nat → Int32} (hX : Cok (p, l, e, room_1, s, m, #[Value.ref b], below, meth, c, cL_law, 9, RL, g, 1000)) (hf : l.flags = flags0) (hN : kNc s) (hSc : va_X b Ls xs s s.heap) (hbl : b < s.heap.size) (hbB : s.heap.size = g.2.2.1 + 1) {k n : Nat} (hk : k + 5 ≤ room_1.cells) (hn : n + 30 ≤ room_1.slots) (N a1 a2 a3 : Nat) (k23 : kMem → Int32 → Option Unit) (h23 : ∀ (M : kMem) (x4 : Int32), GG (p, l, e, room_1, s, m, #[Value.ref b], below, meth, c, cL_law, 9, RL, g, 1000) (fun _ : Unit => lw_Z below #[Value.ref b] s) (k + 5) (n + 30) (k23 M x4) 23 [(0, .retAddr b), (1, .ref a1), (2, .ref a2), (3, .ref a3), (4, .int x4)] [] M) (M : kMem) (x4 : Int32) : GG (p, l, e, room_1, s, m, #[Value.ref b], below, meth, c, cL_law, 9, RL, g, 1000) (fun _ : Unit => lw_Z below #[Value.ref b] s) k n (F_L_law_1538 N Ls xs a1 a2 a3 k23 M x4) 1538 [(0, .retAddr b), (1, .ref a1), (2, .ref a2), (3, .ref a3), (4, .int x4)] [] M := by
  unfold F_L_law_1538
  refine g_aload_n 1539 1 hX dL_law_1538 rfl rfl ?_
  refine g_aloadS_n 1540 0 hX dL_law_1539 rfl rfl ?_
  refine g_iload 1542 4 hX dL_law_1540 rfl rfl ?_
  refine g_iconst 1543 hX 1 dL_law_1542 rfl kc_i_1 ?_
  refine g_iadd 1544 hX dL_law_1543 rfl ?_
  refine g_sld 1545 hX hSc hbl hbB dL_law_1544 rfl ?_
  refine g_aload_n 1546 3 hX dL_law_1545 rfl rfl ?_
  refine g_callSH 1549 hX hN (k_L_positionOf l g hf N M a1 (xs (kx (x4 + 1))) a3) lkH_L_positionOf q_1391 (by decide) rfl (Nat.le_of_ble_eq_true rfl) (by omega) (by omega) dL_law_1546 rfl (fun r1 => ?_)
  refine g_klI (fun v2 hv2 => ?_)
  refine g_istore 1551 5 [(5, .int v2), (0, .retAddr b), (1, .ref a1), (2, .ref a2), (3, .ref a3), (4, .int x4)] hX dL_law_1549 rfl (Nat.le_of_ble_eq_true rfl) rfl ?_
  refine g_aload_n 1552 3 hX dL_law_1551 rfl rfl ?_
  refine g_aloadS_n 1553 1 hX dL_law_1552 rfl rfl ?_
  refine g_iload 1555 5 hX dL_law_1553 rfl rfl ?_
  refine g_iconst 1556 hX 1 dL_law_1555 rfl kc_i_1 ?_
  refine g_iadd 1557 hX dL_law_1556 rfl ?_
  refine g_sld 1558 hX hSc hbl hbB dL_law_1557 rfl ?_
  refine g_callV_i 1561 hX (k_X12_positionOf l g N r1.2 a2 (xs (kx (x4 + 1)))) lk_X12_positionOf rfl (ci := 12) rfl (Nat.le_of_ble_eq_true rfl) q_2259 q_2261 (by decide) rfl (Nat.le_of_ble_eq_true rfl) (by omega) (by omega) dL_law_1558 rfl (fun r3 => ?_)
  refine g_klI (fun v4 hv4 => ?_)
  refine g_istore 1563 6 [(6, .int v4), (5, .int v2), (0, .retAddr b), (1, .ref a1), (2, .ref a2), (3, .ref a3), (4, .int x4)] hX dL_law_1561 rfl (Nat.le_of_ble_eq_true rfl) rfl ?_
  refine g_aload_n 1564 4 hX dL_law_1563 rfl rfl ?_
  refine g_callV_ip 1567 hX (k_X12_thrown l g N r3.2 a2) lk_X12_thrown rfl (ci := 12) rfl (Nat.le_of_ble_eq_true rfl) q_1730 q_1732 (by decide) rfl (Nat.le_of_ble_eq_true rfl) (by omega) (by omega) dL_law_1564 rfl (fun r5 => ?_)
  refine g_iload 1569 1 hX dL_law_1567 rfl rfl ?_
  refine g_icmp_eq 1574 1572 hX dL_law_1569 (by decide) rfl (fun _ => ?_) (fun _ => ?_)
  · refine g_iload 1576 1 hX dL_law_1574 rfl rfl ?_
    refine g_if_ne 1591 1579 hX dL_law_1576 (by decide) rfl (fun _ => ?_) (fun _ => ?_)
    · refine g_goto 3200 hX dL_law_1591 (by decide) ?_
      refine g_kl (fun v6 hv6 => ?_)
      refine g_iinc 3203 4 6 v6 [(4, .int v6), (6, .int v4), (5, .int v2), (0, .retAddr b), (1, .ref a1), (2, .ref a2), (3, .ref a3)] hX dL_law_3200 rfl rfl (by rw [hv6, kc_i_6]) (Nat.le_of_ble_eq_true rfl) rfl ?_
      refine g_goto 23 hX dL_law_3203 (by decide) ?_
      refine g_lv [3, 4, 5, 6, 0] rfl ?_
      refine g_widen (k2 := k + 5) (n2 := n + 30) (by omega) (by omega) ?_
      exact h23 r3.2 v6
    · refine g_aload_n 1580 5 hX dL_law_1579 rfl rfl ?_
      refine g_iconst 1581 hX 0 dL_law_1580 rfl kc_i_0 ?_
      refine g_lald 1582 hX dL_law_1581 rfl ?_
      refine g_iload 1584 0 hX dL_law_1582 rfl rfl ?_
      refine g_i2l 1585 hX dL_law_1584 rfl ?_
      refine g_lcmp 1586 hX dL_law_1585 rfl ?_
      refine g_if_eq 1591 1589 hX dL_law_1586 (by decide) rfl (fun _ => ?_) (fun _ => ?_)
      · refine g_goto 3200 hX dL_law_1591 (by decide) ?_
        refine g_kl (fun v7 hv7 => ?_)
        refine g_iinc 3203 4 6 v7 [(4, .int v7), (6, .int v4), (5, .int v2), (0, .retAddr b), (1, .ref a1), (2, .ref a2), (3, .ref a3)] hX dL_law_3200 rfl rfl (by rw [hv7, kc_i_6]) (Nat.le_of_ble_eq_true rfl) rfl ?_
        refine g_goto 23 hX dL_law_3203 (by decide) ?_
        refine g_lv [3, 4, 5, 6, 0] rfl ?_
        refine g_widen (k2 := k + 5) (n2 := n + 30) (by omega) (by omega) ?_
        exact h23 r3.2 v7
      · exact g_none
  · exact g_none
def F_L_law_1594 (N Ls : Nat) (xs : Nat → Int32) (a1 a2 a3 : Nat) (k23 : kMem → Int32 → Option Unit) (M : kMem) (x4 : Int32) : Option Unit :=
    kg (decide (0 ≤ x4 + 1) && decide ((x4 + 1 : Int32).toNatClampNeg < Ls)) <|
    (F_L_incomeOf N M a1 (xs (kx (x4 + 1))) a3).bind fun r1 =>
    kl r1.1 fun v2 =>
    kg (decide (0 ≤ x4 + 1) && decide ((x4 + 1 : Int32).toNatClampNeg < Ls)) <|
    kg (kt r1.2 a2 12) <| (F_X12_incomeOf N r1.2 a2 (xs (kx (x4 + 1)))).bind fun r3 =>
    kl r3.1 fun v4 =>
    kg (kt r3.2 a2 12) <| (F_X12_thrown N r3.2 a2).bind fun r5 =>
    if r5 = v2 then (
      if v2 = 0 then (
        kg (kin r3.2 a3 15 0) <|
        if (lg_cmp (kL r3.2 a3 (kx 0)) v4.toInt64) = 0 then (
          kl (x4 + 6) fun v7 =>
          k23 r3.2 v7) else
        none) else
      kl (x4 + 6) fun v6 =>
      k23 r3.2 v6) else
    none
set_option maxRecDepth 100000 in
set_option maxHeartbeats 4000000 in
theorem k_L_law_1594 {p : Program} {l : Launch} {e : Env} {s : State} {m : MethodId} {below : List Frame} {meth : Method} {c : Code} {g : kG} {b Ls : Nat} {xs : Nat → Int32} (hX : Cok (p, l, e, room_1, s, m, #[Value.ref b], below, meth, c, cL_law, 9, RL, g, 1000)) (hf : l.flags = flags0) (hN : kNc s) (hSc : va_X b Ls xs s s.heap) (hbl : b < s.heap.size) (hbB : s.heap.size = g.2.2.1 + 1) {k n : Nat} (hk : k + 5 ≤ room_1.cells) (hn : n + 30 ≤ room_1.slots) (N a1 a2 a3 : Nat) (k23 : kMem → Int32 → Option Unit) (h23 : ∀ (M : kMem) (x4 : Int32), GG (p, l, e, room_1, s, m, #[Value.ref b], below, meth, c, cL_law, 9, RL, g, 1000) (fun _ : Unit => lw_Z below #[Value.ref b] s) (k + 5) (n + 30) (k23 M x4) 23 [(0, .retAddr b), (1, .ref a1), (2, .ref a2), (3, .ref a3), (4, .int x4)] [] M) (M : kMem) (x4 : Int32) : GG (p, l, e, room_1, s, m, #[Value.ref b], below, meth, c, cL_law, 9, RL, g, 1000) (fun _ : Unit => lw_Z below #[Value.ref b] s) k n (F_L_law_1594 N Ls xs a1 a2 a3 k23 M x4) 1594 [(0, .retAddr b), (1, .ref a1), (2, .ref a2), (3, .ref a3), (4, .int x4)] [] M := by
  unfold F_L_law_1594
  refine g_aload_n 1595 1 hX dL_law_1594 rfl rfl ?_
  refine g_aloadS_n 1596 0 hX dL_law_1595 rfl rfl ?_
  refine g_iload 1598 4 hX dL_law_1596 rfl rfl ?_
  refine g_iconst 1599 hX 1 dL_law_1598 rfl kc_i_1 ?_
  refine g_iadd 1600 hX dL_law_1599 rfl ?_
  refine g_sld 1601 hX hSc hbl hbB dL_law_1600 rfl ?_
  refine g_aload_n 1602 3 hX dL_law_1601 rfl rfl ?_
  refine g_callSH 1605 hX hN (k_L_incomeOf l g hf N M a1 (xs (kx (x4 + 1))) a3) lkH_L_incomeOf q_1398 (by decide) rfl (Nat.le_of_ble_eq_true rfl) (by omega) (by omega) dL_law_1602 rfl (fun r1 => ?_)
  refine g_klI (fun v2 hv2 => ?_)
  refine g_istore 1607 5 [(5, .int v2), (0, .retAddr b), (1, .ref a1), (2, .ref a2), (3, .ref a3), (4, .int x4)] hX dL_law_1605 rfl (Nat.le_of_ble_eq_true rfl) rfl ?_
  refine g_aload_n 1608 3 hX dL_law_1607 rfl rfl ?_
  refine g_aloadS_n 1609 1 hX dL_law_1608 rfl rfl ?_
  refine g_iload 1611 5 hX dL_law_1609 rfl rfl ?_
  refine g_iconst 1612 hX 1 dL_law_1611 rfl kc_i_1 ?_
  refine g_iadd 1613 hX dL_law_1612 rfl ?_
  refine g_sld 1614 hX hSc hbl hbB dL_law_1613 rfl ?_
  refine g_callV_i 1617 hX (k_X12_incomeOf l g N r1.2 a2 (xs (kx (x4 + 1)))) lk_X12_incomeOf rfl (ci := 12) rfl (Nat.le_of_ble_eq_true rfl) q_2263 q_2265 (by decide) rfl (Nat.le_of_ble_eq_true rfl) (by omega) (by omega) dL_law_1614 rfl (fun r3 => ?_)
  refine g_klI (fun v4 hv4 => ?_)
  refine g_istore 1619 6 [(6, .int v4), (5, .int v2), (0, .retAddr b), (1, .ref a1), (2, .ref a2), (3, .ref a3), (4, .int x4)] hX dL_law_1617 rfl (Nat.le_of_ble_eq_true rfl) rfl ?_
  refine g_aload_n 1620 4 hX dL_law_1619 rfl rfl ?_
  refine g_callV_ip 1623 hX (k_X12_thrown l g N r3.2 a2) lk_X12_thrown rfl (ci := 12) rfl (Nat.le_of_ble_eq_true rfl) q_1730 q_1732 (by decide) rfl (Nat.le_of_ble_eq_true rfl) (by omega) (by omega) dL_law_1620 rfl (fun r5 => ?_)
  refine g_iload 1625 1 hX dL_law_1623 rfl rfl ?_
  refine g_icmp_eq 1630 1628 hX dL_law_1625 (by decide) rfl (fun _ => ?_) (fun _ => ?_)
  · refine g_iload 1632 1 hX dL_law_1630 rfl rfl ?_
    refine g_if_ne 1647 1635 hX dL_law_1632 (by decide) rfl (fun _ => ?_) (fun _ => ?_)
    · refine g_goto 3200 hX dL_law_1647 (by decide) ?_
      refine g_kl (fun v6 hv6 => ?_)
      refine g_iinc 3203 4 6 v6 [(4, .int v6), (6, .int v4), (5, .int v2), (0, .retAddr b), (1, .ref a1), (2, .ref a2), (3, .ref a3)] hX dL_law_3200 rfl rfl (by rw [hv6, kc_i_6]) (Nat.le_of_ble_eq_true rfl) rfl ?_
      refine g_goto 23 hX dL_law_3203 (by decide) ?_
      refine g_lv [3, 4, 5, 6, 0] rfl ?_
      refine g_widen (k2 := k + 5) (n2 := n + 30) (by omega) (by omega) ?_
      exact h23 r3.2 v6
    · refine g_aload_n 1636 5 hX dL_law_1635 rfl rfl ?_
      refine g_iconst 1637 hX 0 dL_law_1636 rfl kc_i_0 ?_
      refine g_lald 1638 hX dL_law_1637 rfl ?_
      refine g_iload 1640 0 hX dL_law_1638 rfl rfl ?_
      refine g_i2l 1641 hX dL_law_1640 rfl ?_
      refine g_lcmp 1642 hX dL_law_1641 rfl ?_
      refine g_if_eq 1647 1645 hX dL_law_1642 (by decide) rfl (fun _ => ?_) (fun _ => ?_)
      · refine g_goto 3200 hX dL_law_1647 (by decide) ?_
        refine g_kl (fun v7 hv7 => ?_)
        refine g_iinc 3203 4 6 v7 [(4, .int v7), (6, .int v4), (5, .int v2), (0, .retAddr b), (1, .ref a1), (2, .ref a2), (3, .ref a3)] hX dL_law_3200 rfl rfl (by rw [hv7, kc_i_6]) (Nat.le_of_ble_eq_true rfl) rfl ?_
        refine g_goto 23 hX dL_law_3203 (by decide) ?_
        refine g_lv [3, 4, 5, 6, 0] rfl ?_
        refine g_widen (k2 := k + 5) (n2 := n + 30) (by omega) (by omega) ?_
        exact h23 r3.2 v7
      · exact g_none
  · exact g_none
def F_L_law_1650 (N Ls : Nat) (xs : Nat → Int32) (a1 a2 a3 : Nat) (k23 : kMem → Int32 → Option Unit) (M : kMem) (x4 : Int32) : Option Unit :=
    kg (decide (0 ≤ x4 + 1) && decide ((x4 + 1 : Int32).toNatClampNeg < Ls)) <|
    kg (kt M a1 11) <| (F_X11_richestAt N M a1 (xs (kx (x4 + 1)))).bind fun r1 =>
    kg (decide (0 ≤ x4 + 1) && decide ((x4 + 1 : Int32).toNatClampNeg < Ls)) <|
    kg (kt M a2 12) <| (F_X12_richestAt N M a2 (xs (kx (x4 + 1)))).bind fun r2 =>
    if r1 = r2.1 then (
      kl (x4 + 6) fun v3 =>
      k23 r2.2 v3) else
    none
set_option maxRecDepth 100000 in
set_option maxHeartbeats 4000000 in
theorem k_L_law_1650 {p : Program} {l : Launch} {e : Env} {s : State} {m : MethodId} {below : List Frame} {meth : Method} {c : Code} {g : kG} {b Ls : Nat} {xs : Nat → Int32} (hX : Cok (p, l, e, room_1, s, m, #[Value.ref b], below, meth, c, cL_law, 9, RL, g, 1000)) (hf : l.flags = flags0) (hN : kNc s) (hSc : va_X b Ls xs s s.heap) (hbl : b < s.heap.size) (hbB : s.heap.size = g.2.2.1 + 1) {k n : Nat} (hk : k + 5 ≤ room_1.cells) (hn : n + 30 ≤ room_1.slots) (N a1 a2 a3 : Nat) (k23 : kMem → Int32 → Option Unit) (h23 : ∀ (M : kMem) (x4 : Int32), GG (p, l, e, room_1, s, m, #[Value.ref b], below, meth, c, cL_law, 9, RL, g, 1000) (fun _ : Unit => lw_Z below #[Value.ref b] s) (k + 5) (n + 30) (k23 M x4) 23 [(0, .retAddr b), (1, .ref a1), (2, .ref a2), (3, .ref a3), (4, .int x4)] [] M) (M : kMem) (x4 : Int32) : GG (p, l, e, room_1, s, m, #[Value.ref b], below, meth, c, cL_law, 9, RL, g, 1000) (fun _ : Unit => lw_Z below #[Value.ref b] s) k n (F_L_law_1650 N Ls xs a1 a2 a3 k23 M x4) 1650 [(0, .retAddr b), (1, .ref a1), (2, .ref a2), (3, .ref a3), (4, .int x4)] [] M := by
  unfold F_L_law_1650
  refine g_aload_n 1651 1 hX dL_law_1650 rfl rfl ?_
  refine g_aloadS_n 1652 0 hX dL_law_1651 rfl rfl ?_
  refine g_iload 1654 4 hX dL_law_1652 rfl rfl ?_
  refine g_iconst 1655 hX 1 dL_law_1654 rfl kc_i_1 ?_
  refine g_iadd 1656 hX dL_law_1655 rfl ?_
  refine g_sld 1657 hX hSc hbl hbB dL_law_1656 rfl ?_
  refine g_callV_ip 1660 hX (k_X11_richestAt l g N M a1 (xs (kx (x4 + 1)))) lk_X11_richestAt rfl (ci := 11) rfl (Nat.le_of_ble_eq_true rfl) q_1024 q_1026 (by decide) rfl (Nat.le_of_ble_eq_true rfl) (by omega) (by omega) dL_law_1657 rfl (fun r1 => ?_)
  refine g_aload_n 1661 2 hX dL_law_1660 rfl rfl ?_
  refine g_aloadS_n 1662 0 hX dL_law_1661 rfl rfl ?_
  refine g_iload 1664 4 hX dL_law_1662 rfl rfl ?_
  refine g_iconst 1665 hX 1 dL_law_1664 rfl kc_i_1 ?_
  refine g_iadd 1666 hX dL_law_1665 rfl ?_
  refine g_sld 1667 hX hSc hbl hbB dL_law_1666 rfl ?_
  refine g_callV_i 1670 hX (k_X12_richestAt l g N M a2 (xs (kx (x4 + 1)))) lk_X12_richestAt rfl (ci := 12) rfl (Nat.le_of_ble_eq_true rfl) q_2267 q_2269 (by decide) rfl (Nat.le_of_ble_eq_true rfl) (by omega) (by omega) dL_law_1667 rfl (fun r2 => ?_)
  refine g_icmp_eq 3200 1673 hX dL_law_1670 (by decide) rfl (fun _ => ?_) (fun _ => ?_)
  · refine g_kl (fun v3 hv3 => ?_)
    refine g_iinc 3203 4 4 v3 [(4, .int v3), (0, .retAddr b), (1, .ref a1), (2, .ref a2), (3, .ref a3)] hX dL_law_3200 rfl rfl (by rw [hv3, kc_i_6]) (Nat.le_of_ble_eq_true rfl) rfl ?_
    refine g_goto 23 hX dL_law_3203 (by decide) ?_
    refine g_lv [1, 2, 3, 4, 0] rfl ?_
    refine g_widen (k2 := k + 5) (n2 := n + 30) (by omega) (by omega) ?_
    exact h23 r2.2 v3
  · exact g_none
