set_option maxRecDepth 100000 in
set_option maxHeartbeats 4000000 in
theorem k_TM_addEntry_32 {l : Launch} {g : kG} {L0 : Nat} (N : Nat) : ∀ (M : kMem) (a0 : Nat) (a5 : Nat), GD (l, cTM_addEntry, 6, RTM, g, 4, L0, none, yTM_addEntry.name) (fun r : kMem => (none, r)) (F_TM_addEntry_32 N M a0 a5) 32 [(0, .ref a0), (5, .ref a5)] [] M := by
  intro M a0 a5
  unfold F_TM_addEntry_32
  refine d_st (fun hX _ => g_aload_n 33 0 (hX _) dTM_addEntry_32 rfl rfl) rfl ?_
  refine d_st (fun hX _ => g_aload 35 1 (hX _) dTM_addEntry_33 rfl rfl) rfl ?_
  refine d_callV 38 (k_TM_fixAfterInsertion l g N M a0 a5) lk_TM_fixAfterInsertion (ci := 34) (T := TTM) (N := 9) rfl (Nat.le_of_ble_eq_true rfl) q_1401 (fun s args ht => ht _ q_13) (by decide) rfl (Nat.le_of_ble_eq_true rfl) dTM_addEntry_35 rfl (fun r5 _ => ?_)
  show GD _ _ _ _ _ [] r5
  refine d_st (fun hX _ => g_aload_n 39 0 (hX _) dTM_addEntry_38 rfl rfl) rfl ?_
  refine d_st (fun hX _ => g_dup 40 (hX _) dTM_addEntry_39 rfl rfl) rfl ?_
  refine d_g (fun hX _ => e_TM_7 43 (hX _) dTM_addEntry_40 rfl) rfl ?_
  refine d_st (fun hX _ => g_iconst 44 (hX _) 1 dTM_addEntry_43 rfl kc_i_1) rfl ?_
  refine d_st (fun hX _ => g_iadd 45 (hX _) dTM_addEntry_44 rfl) rfl ?_
  refine d_g (fun hX _ => ui_TM_7 48 (hX _) dTM_addEntry_45 rfl) rfl ?_
  refine d_klM (fun M6 hM6 => ?_)
  refine d_st (fun hX _ => g_aload_n 49 0 (hX _) dTM_addEntry_48 rfl rfl) rfl ?_
  refine d_st (fun hX _ => g_dup 50 (hX _) dTM_addEntry_49 rfl rfl) rfl ?_
  refine d_g (fun hX _ => e_TM_13 53 (hX _) dTM_addEntry_50 rfl) rfl ?_
  refine d_st (fun hX _ => g_iconst 54 (hX _) 1 dTM_addEntry_53 rfl kc_i_1) rfl ?_
  refine d_st (fun hX _ => g_iadd 55 (hX _) dTM_addEntry_54 rfl) rfl ?_
  refine d_g (fun hX _ => ui_TM_13 58 (hX _) dTM_addEntry_55 rfl) rfl ?_
  refine d_klM (fun M7 hM7 => ?_)
  exact d_vret rfl rfl dTM_addEntry_58
set_option maxRecDepth 100000 in
set_option maxHeartbeats 4000000 in
theorem k_TM_addEntry (l : Launch) (g : kG) (N : Nat) (M : kMem) (a0 : Nat) (x1 : Int32) (a2 : Nat) (a3 : Nat) (x4 : Int32) : kMetD l g yTM_addEntry cTM_addEntry 6 none 4 [.ref a0, .retAddr (g.1 (2000 + kBi x1)), .ref a2, .ref a3, .int x4] M (fun r : kMem => (none, r)) (F_TM_addEntry N M a0 x1 a2 a3 x4) := by
  refine k_ofD (lv := [(0, .ref a0), (1, .retAddr (g.1 (2000 + kBi x1))), (2, .ref a2), (3, .ref a3), (4, .int x4)]) RTM (by decide) rfl rfl (Nat.le_of_ble_eq_true rfl) ?_
  unfold F_TM_addEntry
  refine dn_TE 3 q_1367 dTM_addEntry_0 rfl ?_
  refine d_klR (fun w1 hw1 => ?_)
  refine d_klM (fun M2 hM2 => ?_)
  refine d_st (fun hX _ => g_dup 4 (hX _) dTM_addEntry_3 rfl rfl) rfl ?_
  refine d_st (fun hX _ => g_aloadS_n 5 1 (hX _) dTM_addEntry_4 rfl rfl) rfl ?_
  refine d_st (fun hX _ => g_aload_n 6 2 (hX _) dTM_addEntry_5 rfl rfl) rfl ?_
  refine d_st (fun hX _ => g_aload_n 7 3 (hX _) dTM_addEntry_6 rfl rfl) rfl ?_
  refine d_callI 10 (k_TE_init l g N M2 w1 x1 a2 a3) lk_TE_init q_1369 rfl (by decide) rfl (Nat.le_of_ble_eq_true rfl) dTM_addEntry_7 rfl (fun r3 _ => ?_)
  show GD _ _ _ _ _ [.ref w1] r3
  refine d_st (fun hX _ => g_astore 12 5 [(5, .ref w1), (0, .ref a0), (1, .retAddr (g.1 (2000 + kBi x1))), (2, .ref a2), (3, .ref a3), (4, .int x4)] (hX _) dTM_addEntry_10 rfl (Nat.le_of_ble_eq_true rfl) rfl) rfl ?_
  refine d_st (fun hX _ => g_iload 14 5 (hX _) dTM_addEntry_12 rfl rfl) rfl ?_
  refine d_if (fun hX _ => g_if_eq 26 17 (hX _) dTM_addEntry_14 (by decide) rfl) (fun _ => ?_) (fun _ => ?_)
  · refine d_st (fun hX _ => g_aload_n 27 4 (hX _) dTM_addEntry_26 rfl rfl) rfl ?_
    refine d_st (fun hX _ => g_aload 29 0 (hX _) dTM_addEntry_27 rfl rfl) rfl ?_
    refine d_g (fun hX _ => ur_TM_114 32 (hX _) dTM_addEntry_29 rfl) rfl ?_
    refine d_klM (fun M4 hM4 => ?_)
    refine d_st (fun hX _ => g_lv [1, 0] rfl) rfl ?_
    exact k_TM_addEntry_32 N M4 a0 w1
  · refine d_st (fun hX _ => g_aload_n 18 4 (hX _) dTM_addEntry_17 rfl rfl) rfl ?_
    refine d_st (fun hX _ => g_aload 20 0 (hX _) dTM_addEntry_18 rfl rfl) rfl ?_
    refine d_g (fun hX _ => ur_TM_111 23 (hX _) dTM_addEntry_20 rfl) rfl ?_
    refine d_klM (fun M8 hM8 => ?_)
    refine d_st (fun hX _ => g_goto 32 (hX _) dTM_addEntry_23 (by decide)) rfl ?_
    refine d_st (fun hX _ => g_lv [1, 0] rfl) rfl ?_
    exact k_TM_addEntry_32 N M8 a0 w1
set_option maxRecDepth 100000 in
set_option maxHeartbeats 4000000 in
theorem k_TM_addEntryToEmptyMap (l : Launch) (g : kG) (N : Nat) (M : kMem) (a0 : Nat) (x1 : Int32) (a2 : Nat) : kMetD l g yTM_addEntryToEmptyMap cTM_addEntryToEmptyMap 3 none 6 [.ref a0, .retAddr (g.1 (2000 + kBi x1)), .ref a2] M (fun r : kMem => (none, r)) (F_TM_addEntryToEmptyMap N M a0 x1 a2) := by
  refine k_ofD (lv := [(0, .ref a0), (1, .retAddr (g.1 (2000 + kBi x1))), (2, .ref a2)]) RTM (by decide) rfl rfl (Nat.le_of_ble_eq_true rfl) ?_
  unfold F_TM_addEntryToEmptyMap
  refine d_st (fun hX _ => g_aload_n 1 0 (hX _) dTM_addEntryToEmptyMap_0 rfl rfl) rfl ?_
  refine d_st (fun hX _ => g_aloadS_n 2 1 (hX _) dTM_addEntryToEmptyMap_1 rfl rfl) rfl ?_
  refine d_st (fun hX _ => g_aloadS_n 3 1 (hX _) dTM_addEntryToEmptyMap_2 rfl rfl) rfl ?_
  refine d_callV 6 (k_TM_compare l g N M a0 x1 x1) lk_TM_compare (ci := 34) (T := TTM) (N := 9) rfl (Nat.le_of_ble_eq_true rfl) q_1363 (fun s args ht => ht _ q_1365) (by decide) rfl (Nat.le_of_ble_eq_true rfl) dTM_addEntryToEmptyMap_3 rfl (fun r1 _ => ?_)
  show GD _ _ _ _ _ [.int r1] M
  refine d_st (fun hX _ => g_pop 7 (hX _) dTM_addEntryToEmptyMap_6 rfl rfl) rfl ?_
  refine d_st (fun hX _ => g_aload_n 8 0 (hX _) dTM_addEntryToEmptyMap_7 rfl rfl) rfl ?_
  refine dn_TE 11 q_1367 dTM_addEntryToEmptyMap_8 rfl ?_
  refine d_klR (fun w2 hw2 => ?_)
  refine d_klM (fun M3 hM3 => ?_)
  refine d_st (fun hX _ => g_dup 12 (hX _) dTM_addEntryToEmptyMap_11 rfl rfl) rfl ?_
  refine d_st (fun hX _ => g_aloadS_n 13 1 (hX _) dTM_addEntryToEmptyMap_12 rfl rfl) rfl ?_
  refine d_st (fun hX _ => g_aload_n 14 2 (hX _) dTM_addEntryToEmptyMap_13 rfl rfl) rfl ?_
  refine d_st (fun hX _ => g_null 15 (hX _) dTM_addEntryToEmptyMap_14 rfl) rfl ?_
  refine d_callI 18 (k_TE_init l g N M3 w2 x1 a2 0) lk_TE_init q_1369 rfl (by decide) rfl (Nat.le_of_ble_eq_true rfl) dTM_addEntryToEmptyMap_15 rfl (fun r4 _ => ?_)
  show GD _ _ _ _ _ [.ref w2, .ref a0] r4
  refine d_g (fun hX _ => ur_TM_101 21 (hX _) dTM_addEntryToEmptyMap_18 rfl) rfl ?_
  refine d_klM (fun M5 hM5 => ?_)
  refine d_st (fun hX _ => g_aload_n 22 0 (hX _) dTM_addEntryToEmptyMap_21 rfl rfl) rfl ?_
  refine d_st (fun hX _ => g_iconst 23 (hX _) 1 dTM_addEntryToEmptyMap_22 rfl kc_i_1) rfl ?_
  refine d_g (fun hX _ => ui_TM_7 26 (hX _) dTM_addEntryToEmptyMap_23 rfl) rfl ?_
  refine d_klM (fun M6 hM6 => ?_)
  refine d_st (fun hX _ => g_aload_n 27 0 (hX _) dTM_addEntryToEmptyMap_26 rfl rfl) rfl ?_
  refine d_st (fun hX _ => g_dup 28 (hX _) dTM_addEntryToEmptyMap_27 rfl rfl) rfl ?_
  refine d_g (fun hX _ => e_TM_13 31 (hX _) dTM_addEntryToEmptyMap_28 rfl) rfl ?_
  refine d_st (fun hX _ => g_iconst 32 (hX _) 1 dTM_addEntryToEmptyMap_31 rfl kc_i_1) rfl ?_
  refine d_st (fun hX _ => g_iadd 33 (hX _) dTM_addEntryToEmptyMap_32 rfl) rfl ?_
  refine d_g (fun hX _ => ui_TM_13 36 (hX _) dTM_addEntryToEmptyMap_33 rfl) rfl ?_
  refine d_klM (fun M7 hM7 => ?_)
  exact d_vret rfl rfl dTM_addEntryToEmptyMap_36
set_option maxRecDepth 100000 in
set_option maxHeartbeats 4000000 in
theorem k_TM_put__196 {l : Launch} {g : kG} {L0 : Nat} (N : Nat) (k123 : kMem → Nat → Int32 → Nat → Int32 → Nat → Int32 → Option (Nat × kMem)) (h123 : ∀ (M : kMem) (a0 : Nat) (x1 : Int32) (a2 : Nat) (x3 : Int32) (a4 : Nat) (x8 : Int32), GD (l, cTM_put_, 10, RTM, g, 7, L0, (some (.object "java/lang/Object")), yTM_put_.name) (fun r : Nat × kMem => (some (.ref r.1), r.2)) (k123 M a0 x1 a2 x3 a4 x8) 123 [(0, .ref a0), (1, .retAddr (g.1 (2000 + kBi x1))), (2, .ref a2), (3, .int x3), (4, .ref a4), (8, .retAddr (g.1 (2000 + kBi x8)))] [] M) : ∀ (M : kMem) (a0 : Nat) (x1 : Int32) (a2 : Nat) (x3 : Int32) (a4 : Nat) (x5 : Int32) (a6 : Nat) (x8 : Int32), GD (l, cTM_put_, 10, RTM, g, 7, L0, (some (.object "java/lang/Object")), yTM_put_.name) (fun r : Nat × kMem => (some (.ref r.1), r.2)) (F_TM_put__196 N k123 M a0 x1 a2 x3 a4 x5 a6 x8) 196 [(0, .ref a0), (1, .retAddr (g.1 (2000 + kBi x1))), (2, .ref a2), (3, .int x3), (4, .ref a4), (5, .int x5), (6, .ref a6), (8, .retAddr (g.1 (2000 + kBi x8)))] [] M := by
  intro M a0 x1 a2 x3 a4 x5 a6 x8
  unfold F_TM_put__196
  refine d_st (fun hX _ => g_aload 198 4 (hX _) dTM_put__196 rfl rfl) rfl ?_
  refine d_ifN (fun hX _ => g_ifnonnull 123 201 (hX _) dTM_put__198 (by decide) rfl) (fun _ => ?_) (fun _ => ?_)
  · refine d_st (fun hX _ => g_lv [0, 1, 2, 3, 4, 7] rfl) rfl ?_
    exact h123 M a0 x1 a2 x3 a4 x8
  · refine d_st (fun hX _ => g_aload_n 202 0 (hX _) dTM_put__201 rfl rfl) rfl ?_
    refine d_st (fun hX _ => g_aloadS_n 203 1 (hX _) dTM_put__202 rfl rfl) rfl ?_
    refine d_st (fun hX _ => g_aload_n 204 2 (hX _) dTM_put__203 rfl rfl) rfl ?_
    refine d_st (fun hX _ => g_aload 206 6 (hX _) dTM_put__204 rfl rfl) rfl ?_
    refine d_st (fun hX _ => g_iload 208 5 (hX _) dTM_put__206 rfl rfl) rfl ?_
    refine d_ifN (fun hX _ => g_if_ge 215 211 (hX _) dTM_put__208 (by decide) rfl) (fun _ => ?_) (fun _ => ?_)
    · refine d_st (fun hX _ => g_iconst 216 (hX _) 0 dTM_put__215 rfl kc_i_0) rfl ?_
      refine d_callV 219 (k_TM_addEntry l g N M a0 x1 a2 a6 0) lk_TM_addEntry (ci := 34) (T := TTM) (N := 9) rfl (Nat.le_of_ble_eq_true rfl) q_1397 (fun s args ht => ht _ q_12) (by decide) rfl (Nat.le_of_ble_eq_true rfl) dTM_put__216 rfl (fun r9 _ => ?_)
      show GD _ _ _ _ _ [] r9
      refine d_st (fun hX _ => g_null 220 (hX _) dTM_put__219 rfl) rfl ?_
      exact d_aret rfl (Or.inl ⟨_, rfl⟩) rfl dTM_put__220
    · refine d_st (fun hX _ => g_iconst 212 (hX _) 1 dTM_put__211 rfl kc_i_1) rfl ?_
      refine d_st (fun hX _ => g_goto 216 (hX _) dTM_put__212 (by decide)) rfl ?_
      refine d_callV 219 (k_TM_addEntry l g N M a0 x1 a2 a6 1) lk_TM_addEntry (ci := 34) (T := TTM) (N := 9) rfl (Nat.le_of_ble_eq_true rfl) q_1397 (fun s args ht => ht _ q_12) (by decide) rfl (Nat.le_of_ble_eq_true rfl) dTM_put__216 rfl (fun r10 _ => ?_)
      show GD _ _ _ _ _ [] r10
      refine d_st (fun hX _ => g_null 220 (hX _) dTM_put__219 rfl) rfl ?_
      exact d_aret rfl (Or.inl ⟨_, rfl⟩) rfl dTM_put__220
set_option maxRecDepth 100000 in
set_option maxHeartbeats 4000000 in
theorem k_TM_put__123 {l : Launch} {g : kG} {L0 : Nat} (N : Nat) : ∀ (n : Nat) (M : kMem) (a0 : Nat) (x1 : Int32) (a2 : Nat) (x3 : Int32) (a4 : Nat) (x8 : Int32), GD (l, cTM_put_, 10, RTM, g, 7, L0, (some (.object "java/lang/Object")), yTM_put_.name) (fun r : Nat × kMem => (some (.ref r.1), r.2)) (F_TM_put__123 N n M a0 x1 a2 x3 a4 x8) 123 [(0, .ref a0), (1, .retAddr (g.1 (2000 + kBi x1))), (2, .ref a2), (3, .int x3), (4, .ref a4), (8, .retAddr (g.1 (2000 + kBi x8)))] [] M := by
  intro n
  induction n with
  | zero => intro _ _ _ _ _ _ _; exact d_none
  | succ n ih =>
    intro M a0 x1 a2 x3 a4 x8
    unfold F_TM_put__123
    refine d_st (fun hX _ => g_aload 125 4 (hX _) dTM_put__123 rfl rfl) rfl ?_
    refine d_st (fun hX _ => g_astore 127 6 [(6, .ref a4), (0, .ref a0), (1, .retAddr (g.1 (2000 + kBi x1))), (2, .ref a2), (3, .int x3), (4, .ref a4), (8, .retAddr (g.1 (2000 + kBi x8)))] (hX _) dTM_put__125 rfl (Nat.le_of_ble_eq_true rfl) rfl) rfl ?_
    refine d_st (fun hX _ => g_aloadS 129 6 (hX _) dTM_put__127 rfl rfl) rfl ?_
    refine d_st (fun hX _ => g_aload 131 5 (hX _) dTM_put__129 rfl rfl) rfl ?_
    refine d_g (fun hX _ => e_TM_105 134 (hX _) dTM_put__131 rfl) rfl ?_
    refine d_callFB 139 (k_IN_cmpTo l g N M x8 (kI M a4 0)) lk_IN_compareTo_e47da  q_1151 q_1155 (by decide +kernel) (by decide +kernel) (by decide) rfl (Nat.le_of_ble_eq_true rfl) dTM_put__134 rfl (fun r4 _ => ?_)
    show GD _ _ _ _ _ [.int r4] M
    refine d_st (fun hX _ => g_istore 141 5 [(5, .int r4), (6, .ref a4), (0, .ref a0), (1, .retAddr (g.1 (2000 + kBi x1))), (2, .ref a2), (3, .int x3), (4, .ref a4), (8, .retAddr (g.1 (2000 + kBi x8)))] (hX _) dTM_put__139 rfl (Nat.le_of_ble_eq_true rfl) rfl) rfl ?_
    refine d_st (fun hX _ => g_iload 143 0 (hX _) dTM_put__141 rfl rfl) rfl ?_
    refine d_ifN (fun hX _ => g_if_ge 156 146 (hX _) dTM_put__143 (by decide) rfl) (fun _ => ?_) (fun _ => ?_)
    · refine d_st (fun hX _ => g_iload 158 0 (hX _) dTM_put__156 rfl rfl) rfl ?_
      refine d_ifN (fun hX _ => g_if_le 171 161 (hX _) dTM_put__158 (by decide) rfl) (fun _ => ?_) (fun _ => ?_)
      · refine d_st (fun hX _ => g_aload 173 6 (hX _) dTM_put__171 rfl rfl) rfl ?_
        refine d_g (fun hX _ => e_TM_58 176 (hX _) dTM_put__173 rfl) rfl ?_
        refine d_klR (fun w5 hw5 => ?_)
        refine d_st (fun hX _ => g_astore 178 9 [(9, .ref w5), (5, .int r4), (6, .ref a4), (0, .ref a0), (1, .retAddr (g.1 (2000 + kBi x1))), (2, .ref a2), (3, .int x3), (4, .ref a4), (8, .retAddr (g.1 (2000 + kBi x8)))] (hX _) dTM_put__176 rfl (Nat.le_of_ble_eq_true rfl) rfl) rfl ?_
        refine d_st (fun hX _ => g_iload_n 179 6 (hX _) dTM_put__178 rfl rfl) rfl ?_
        refine d_ifN (fun hX _ => g_if_ne 187 182 (hX _) dTM_put__179 (by decide) rfl) (fun _ => ?_) (fun _ => ?_)
        · refine d_st (fun hX _ => g_aload 189 7 (hX _) dTM_put__187 rfl rfl) rfl ?_
          refine d_st (fun hX _ => g_aload_n 190 5 (hX _) dTM_put__189 rfl rfl) rfl ?_
          refine d_g (fun hX _ => ur_TM_58 193 (hX _) dTM_put__190 rfl) rfl ?_
          refine d_klM (fun M6 hM6 => ?_)
          refine d_st (fun hX _ => g_aload 195 0 (hX _) dTM_put__193 rfl rfl) rfl ?_
          exact d_aret rfl (Or.inl ⟨_, rfl⟩) rfl dTM_put__195
        · refine d_st (fun hX _ => g_aload 184 0 (hX _) dTM_put__182 rfl rfl) rfl ?_
          refine d_ifN (fun hX _ => g_ifnonnull 193 187 (hX _) dTM_put__184 (by decide) rfl) (fun _ => ?_) (fun _ => ?_)
          · refine d_st (fun hX _ => g_aload 195 0 (hX _) dTM_put__193 rfl rfl) rfl ?_
            exact d_aret rfl (Or.inl ⟨_, rfl⟩) rfl dTM_put__195
          · refine d_st (fun hX _ => g_aload 189 7 (hX _) dTM_put__187 rfl rfl) rfl ?_
            refine d_st (fun hX _ => g_aload_n 190 5 (hX _) dTM_put__189 rfl rfl) rfl ?_
            refine d_g (fun hX _ => ur_TM_58 193 (hX _) dTM_put__190 rfl) rfl ?_
            refine d_klM (fun M7 hM7 => ?_)
            refine d_st (fun hX _ => g_aload 195 0 (hX _) dTM_put__193 rfl rfl) rfl ?_
            exact d_aret rfl (Or.inl ⟨_, rfl⟩) rfl dTM_put__195
      · refine d_st (fun hX _ => g_aload 163 6 (hX _) dTM_put__161 rfl rfl) rfl ?_
        refine d_g (fun hX _ => e_TM_114 166 (hX _) dTM_put__163 rfl) rfl ?_
        refine d_klR (fun w8 hw8 => ?_)
        refine d_st (fun hX _ => g_astore 168 4 [(4, .ref w8), (5, .int r4), (6, .ref a4), (0, .ref a0), (1, .retAddr (g.1 (2000 + kBi x1))), (2, .ref a2), (3, .int x3), (8, .retAddr (g.1 (2000 + kBi x8)))] (hX _) dTM_put__166 rfl (Nat.le_of_ble_eq_true rfl) rfl) rfl ?_
        refine d_st (fun hX _ => g_goto 196 (hX _) dTM_put__168 (by decide)) rfl ?_
        refine d_st (fun hX _ => g_lv [3, 4, 5, 6, 0, 1, 2, 7] rfl) rfl ?_
        exact k_TM_put__196 N (fun M a0 x1 a2 x3 a4 x8 => F_TM_put__123 N n M a0 x1 a2 x3 a4 x8) ih M a0 x1 a2 x3 w8 r4 a4 x8
    · refine d_st (fun hX _ => g_aload 148 6 (hX _) dTM_put__146 rfl rfl) rfl ?_
      refine d_g (fun hX _ => e_TM_111 151 (hX _) dTM_put__148 rfl) rfl ?_
      refine d_klR (fun w11 hw11 => ?_)
      refine d_st (fun hX _ => g_astore 153 4 [(4, .ref w11), (5, .int r4), (6, .ref a4), (0, .ref a0), (1, .retAddr (g.1 (2000 + kBi x1))), (2, .ref a2), (3, .int x3), (8, .retAddr (g.1 (2000 + kBi x8)))] (hX _) dTM_put__151 rfl (Nat.le_of_ble_eq_true rfl) rfl) rfl ?_
      refine d_st (fun hX _ => g_goto 196 (hX _) dTM_put__153 (by decide)) rfl ?_
      refine d_st (fun hX _ => g_lv [3, 4, 5, 6, 0, 1, 2, 7] rfl) rfl ?_
      exact k_TM_put__196 N (fun M a0 x1 a2 x3 a4 x8 => F_TM_put__123 N n M a0 x1 a2 x3 a4 x8) ih M a0 x1 a2 x3 w11 r4 a4 x8
set_option maxRecDepth 100000 in
set_option maxHeartbeats 4000000 in
theorem k_TM_put__30 {l : Launch} {g : kG} {L0 : Nat} (N : Nat) : ∀ (n : Nat) (M : kMem) (a0 : Nat) (x1 : Int32) (a2 : Nat) (x3 : Int32) (a4 : Nat) (a7 : Nat), GD (l, cTM_put_, 10, RTM, g, 7, L0, (some (.object "java/lang/Object")), yTM_put_.name) (fun r : Nat × kMem => (some (.ref r.1), r.2)) (F_TM_put__30 N n M a0 x1 a2 x3 a4 a7) 30 [(0, .ref a0), (1, .retAddr (g.1 (2000 + kBi x1))), (2, .ref a2), (3, .int x3), (4, .ref a4), (7, .ref a7)] [] M := by
  intro n
  induction n with
  | zero => intro _ _ _ _ _ _ _; exact d_none
  | succ n ih =>
    intro M a0 x1 a2 x3 a4 a7
    unfold F_TM_put__30
    exact d_none
set_option maxRecDepth 100000 in
set_option maxHeartbeats 4000000 in
theorem k_TM_put_ (l : Launch) (g : kG) (N : Nat) (M : kMem) (a0 : Nat) (x1 : Int32) (a2 : Nat) (x3 : Int32) : kMetD l g yTM_put_ cTM_put_ 10 (some (.object "java/lang/Object")) 7 [.ref a0, .retAddr (g.1 (2000 + kBi x1)), .ref a2, .int x3] M (fun r : Nat × kMem => (some (.ref r.1), r.2)) (F_TM_put_ N M a0 x1 a2 x3) := by
  refine k_ofD (lv := [(0, .ref a0), (1, .retAddr (g.1 (2000 + kBi x1))), (2, .ref a2), (3, .int x3)]) RTM (by decide) rfl rfl (Nat.le_of_ble_eq_true rfl) ?_
  unfold F_TM_put_
  refine d_st (fun hX _ => g_aload_n 1 0 (hX _) dTM_put__0 rfl rfl) rfl ?_
  refine d_g (fun hX _ => e_TM_101 4 (hX _) dTM_put__1 rfl) rfl ?_
  refine d_klR (fun w1 hw1 => ?_)
  refine d_st (fun hX _ => g_astore 6 4 [(4, .ref w1), (0, .ref a0), (1, .retAddr (g.1 (2000 + kBi x1))), (2, .ref a2), (3, .int x3)] (hX _) dTM_put__4 rfl (Nat.le_of_ble_eq_true rfl) rfl) rfl ?_
  refine d_st (fun hX _ => g_aload 8 0 (hX _) dTM_put__6 rfl rfl) rfl ?_
  refine d_ifN (fun hX _ => g_ifnonnull 19 11 (hX _) dTM_put__8 (by decide) rfl) (fun _ => ?_) (fun _ => ?_)
  · refine d_st (fun hX _ => g_aload_n 20 1 (hX _) dTM_put__19 rfl rfl) rfl ?_
    refine d_g (fun hX _ => e_TM_16 23 (hX _) dTM_put__20 rfl) rfl ?_
    refine d_klR (fun w2 hw2 => ?_)
    refine d_st (fun hX _ => g_astore 25 7 [(7, .ref w2), (4, .ref w1), (0, .ref a0), (1, .retAddr (g.1 (2000 + kBi x1))), (2, .ref a2), (3, .int x3)] (hX _) dTM_put__23 rfl (Nat.le_of_ble_eq_true rfl) rfl) rfl ?_
    refine d_st (fun hX _ => g_aload 27 0 (hX _) dTM_put__25 rfl rfl) rfl ?_
    refine d_if (fun hX _ => g_ifnull 112 30 (hX _) dTM_put__27 (by decide) rfl) (fun _ => ?_) (fun _ => ?_)
    · refine d_st (fun hX _ => g_aloadS_n 113 3 (hX _) dTM_put__112 rfl rfl) rfl ?_
      refine d_callS 116 (k_OJ_rnn l g N M x1) lk_OJ_requireNonNull_262c5 q_1146 (by decide) rfl (Nat.le_of_ble_eq_true rfl) dTM_put__113 rfl (fun r3 _ => ?_)
      show GD _ _ _ _ _ [.retAddr (g.1 (2000 + kBi r3))] M
      refine d_st (fun hX _ => g_pop 117 (hX _) dTM_put__116 rfl rfl) rfl ?_
      refine d_st (fun hX _ => g_aloadS_n 118 3 (hX _) dTM_put__117 rfl rfl) rfl ?_
      refine d_g (fun hX _ => g_castIC 121 (hX _) q_1149 dTM_put__118 rfl) rfl ?_
      refine d_st (fun hX _ => g_astoreS 123 8 [(8, .retAddr (g.1 (2000 + kBi x1))), (7, .ref w2), (4, .ref w1), (0, .ref a0), (1, .retAddr (g.1 (2000 + kBi x1))), (2, .ref a2), (3, .int x3)] (hX _) dTM_put__121 rfl (Nat.le_of_ble_eq_true rfl) rfl) rfl ?_
      refine d_st (fun hX _ => g_lv [3, 4, 5, 6, 2, 0] rfl) rfl ?_
      exact k_TM_put__123 N N M a0 x1 a2 x3 w1 x1
    · refine d_st (fun hX _ => g_lv [2, 3, 4, 5, 1, 0] rfl) rfl ?_
      exact k_TM_put__30 N N M a0 x1 a2 x3 w1 w2
  · refine d_st (fun hX _ => g_aload_n 12 1 (hX _) dTM_put__11 rfl rfl) rfl ?_
    refine d_st (fun hX _ => g_aloadS_n 13 2 (hX _) dTM_put__12 rfl rfl) rfl ?_
    refine d_st (fun hX _ => g_aload_n 14 3 (hX _) dTM_put__13 rfl rfl) rfl ?_
    refine d_callV 17 (k_TM_addEntryToEmptyMap l g N M a0 x1 a2) lk_TM_addEntryToEmptyMap (ci := 34) (T := TTM) (N := 9) rfl (Nat.le_of_ble_eq_true rfl) q_1359 (fun s args ht => ht _ q_11) (by decide) rfl (Nat.le_of_ble_eq_true rfl) dTM_put__14 rfl (fun r12 _ => ?_)
    show GD _ _ _ _ _ [] r12
    refine d_st (fun hX _ => g_null 18 (hX _) dTM_put__17 rfl) rfl ?_
    exact d_aret rfl (Or.inl ⟨_, rfl⟩) rfl dTM_put__18
set_option maxRecDepth 100000 in
set_option maxHeartbeats 4000000 in
theorem k_TM_put (l : Launch) (g : kG) (N : Nat) (M : kMem) (a0 : Nat) (x1 : Int32) (a2 : Nat) : kMetD l g yTM_put cTM_put 3 (some (.object "java/lang/Object")) 8 [.ref a0, .retAddr (g.1 (2000 + kBi x1)), .ref a2] M (fun r : Nat × kMem => (some (.ref r.1), r.2)) (F_TM_put N M a0 x1 a2) := by
  refine k_ofD (lv := [(0, .ref a0), (1, .retAddr (g.1 (2000 + kBi x1))), (2, .ref a2)]) RTM (by decide) rfl rfl (Nat.le_of_ble_eq_true rfl) ?_
  unfold F_TM_put
  refine d_st (fun hX _ => g_aload_n 1 0 (hX _) dTM_put_0 rfl rfl) rfl ?_
  refine d_st (fun hX _ => g_aloadS_n 2 1 (hX _) dTM_put_1 rfl rfl) rfl ?_
  refine d_st (fun hX _ => g_aload_n 3 2 (hX _) dTM_put_2 rfl rfl) rfl ?_
  refine d_st (fun hX _ => g_iconst 4 (hX _) 1 dTM_put_3 rfl kc_i_1) rfl ?_
  refine d_callV 7 (k_TM_put_ l g N M a0 x1 a2 1) lk_TM_put_ (ci := 34) (T := TTM) (N := 9) rfl (Nat.le_of_ble_eq_true rfl) q_1355 (fun s args ht => ht _ q_10) (by decide) rfl (Nat.le_of_ble_eq_true rfl) dTM_put_4 rfl (fun r1 _ => ?_)
  show GD _ _ _ _ _ [.ref r1.1] r1.2
  exact d_aret rfl (Or.inl ⟨_, rfl⟩) rfl dTM_put_7
set_option maxRecDepth 100000 in
set_option maxHeartbeats 4000000 in
theorem k_TM_remove (l : Launch) (g : kG) (N : Nat) (M : kMem) (a0 : Nat) (x1 : Int32) : kMetD l g yTM_remove cTM_remove 4 (some (.object "java/lang/Object")) 6 [.ref a0, .retAddr (g.1 (2000 + kBi x1))] M (fun r : Nat × kMem => (some (.ref r.1), r.2)) (F_TM_remove N M a0 x1) := by
  refine k_ofD (lv := [(0, .ref a0), (1, .retAddr (g.1 (2000 + kBi x1)))]) RTM (by decide) rfl rfl (Nat.le_of_ble_eq_true rfl) ?_
  unfold F_TM_remove
  refine d_st (fun hX _ => g_aload_n 1 0 (hX _) dTM_remove_0 rfl rfl) rfl ?_
  refine d_st (fun hX _ => g_aloadS_n 2 1 (hX _) dTM_remove_1 rfl rfl) rfl ?_
  refine d_callV 5 (k_TM_getEntry l g N M a0 x1) lk_TM_getEntry (ci := 34) (T := TTM) (N := 9) rfl (Nat.le_of_ble_eq_true rfl) q_1134 (fun s args ht => ht _ q_1136) (by decide) rfl (Nat.le_of_ble_eq_true rfl) dTM_remove_2 rfl (fun r1 _ => ?_)
  show GD _ _ _ _ _ [.ref r1] M
  refine d_st (fun hX _ => g_astore_n 6 2 [(2, .ref r1), (0, .ref a0), (1, .retAddr (g.1 (2000 + kBi x1)))] (hX _) dTM_remove_5 rfl rfl (Nat.le_of_ble_eq_true rfl) rfl) rfl ?_
  refine d_st (fun hX _ => g_aload_n 7 0 (hX _) dTM_remove_6 rfl rfl) rfl ?_
  refine d_ifN (fun hX _ => g_ifnonnull 12 10 (hX _) dTM_remove_7 (by decide) rfl) (fun _ => ?_) (fun _ => ?_)
  · refine d_st (fun hX _ => g_aload_n 13 0 (hX _) dTM_remove_12 rfl rfl) rfl ?_
    refine d_g (fun hX _ => e_TM_58 16 (hX _) dTM_remove_13 rfl) rfl ?_
    refine d_klR (fun w2 hw2 => ?_)
    refine d_st (fun hX _ => g_astore_n 17 3 [(3, .ref w2), (2, .ref r1), (0, .ref a0), (1, .retAddr (g.1 (2000 + kBi x1)))] (hX _) dTM_remove_16 rfl rfl (Nat.le_of_ble_eq_true rfl) rfl) rfl ?_
    refine d_st (fun hX _ => g_aload_n 18 2 (hX _) dTM_remove_17 rfl rfl) rfl ?_
    refine d_st (fun hX _ => g_aload_n 19 1 (hX _) dTM_remove_18 rfl rfl) rfl ?_
    refine d_callV 22 (k_TM_deleteEntry l g N M a0 r1) lk_TM_deleteEntry (ci := 34) (T := TTM) (N := 9) rfl (Nat.le_of_ble_eq_true rfl) q_1954 (fun s args ht => ht _ q_28) (by decide) rfl (Nat.le_of_ble_eq_true rfl) dTM_remove_19 rfl (fun r3 _ => ?_)
    show GD _ _ _ _ _ [] r3
    refine d_st (fun hX _ => g_aload_n 23 0 (hX _) dTM_remove_22 rfl rfl) rfl ?_
    exact d_aret rfl (Or.inl ⟨_, rfl⟩) rfl dTM_remove_23
  · refine d_st (fun hX _ => g_null 11 (hX _) dTM_remove_10 rfl) rfl ?_
    exact d_aret rfl (Or.inl ⟨_, rfl⟩) rfl dTM_remove_11
set_option maxRecDepth 100000 in
set_option maxHeartbeats 4000000 in
theorem k_TM_exportEntry (l : Launch) (g : kG) (N : Nat) (M : kMem) (a0 : Nat) : kMetD l g yTM_exportEntry cTM_exportEntry 1 (some (.object "java/util/Map$Entry")) 4 [.ref a0] M (fun r : Nat × kMem => (some (.ref r.1), r.2)) (F_TM_exportEntry N M a0) := by
  refine k_ofD (lv := [(0, .ref a0)]) RTM (by decide) rfl rfl (Nat.le_of_ble_eq_true rfl) ?_
  unfold F_TM_exportEntry
  refine d_st (fun hX _ => g_aload_n 1 0 (hX _) dTM_exportEntry_0 rfl rfl) rfl ?_
  refine d_ifN (fun hX _ => g_ifnonnull 8 4 (hX _) dTM_exportEntry_1 (by decide) rfl) (fun _ => ?_) (fun _ => ?_)
  · refine dn_SE 11 q_2070 dTM_exportEntry_8 rfl ?_
    refine d_klR (fun w1 hw1 => ?_)
    refine d_klM (fun M2 hM2 => ?_)
    refine d_st (fun hX _ => g_dup 12 (hX _) dTM_exportEntry_11 rfl rfl) rfl ?_
    refine d_st (fun hX _ => g_aload_n 13 0 (hX _) dTM_exportEntry_12 rfl rfl) rfl ?_
    refine d_callI 16 (k_SE_init l g N M2 w1 a0) lk_SE_init q_2072 rfl (by decide) rfl (Nat.le_of_ble_eq_true rfl) dTM_exportEntry_13 rfl (fun r3 _ => ?_)
    show GD _ _ _ _ _ [.ref w1] r3
    exact d_aret rfl (Or.inl ⟨_, rfl⟩) rfl dTM_exportEntry_16
  · refine d_st (fun hX _ => g_null 5 (hX _) dTM_exportEntry_4 rfl) rfl ?_
    refine d_st (fun hX _ => g_goto 16 (hX _) dTM_exportEntry_5 (by decide)) rfl ?_
    exact d_aret rfl (Or.inl ⟨_, rfl⟩) rfl dTM_exportEntry_16
set_option maxRecDepth 100000 in
set_option maxHeartbeats 4000000 in
theorem k_TM_firstEntry (l : Launch) (g : kG) (N : Nat) (M : kMem) (a0 : Nat) : kMetD l g yTM_firstEntry cTM_firstEntry 1 (some (.object "java/util/Map$Entry")) 5 [.ref a0] M (fun r : Nat × kMem => (some (.ref r.1), r.2)) (F_TM_firstEntry N M a0) := by
  refine k_ofD (lv := [(0, .ref a0)]) RTM (by decide) rfl rfl (Nat.le_of_ble_eq_true rfl) ?_
  unfold F_TM_firstEntry
  refine d_st (fun hX _ => g_aload_n 1 0 (hX _) dTM_firstEntry_0 rfl rfl) rfl ?_
  refine d_callV 4 (k_TM_getFirstEntry l g N M a0) lk_TM_getFirstEntry (ci := 34) (T := TTM) (N := 9) rfl (Nat.le_of_ble_eq_true rfl) q_2119 (fun s args ht => ht _ q_1793) (by decide) rfl (Nat.le_of_ble_eq_true rfl) dTM_firstEntry_1 rfl (fun r1 _ => ?_)
  show GD _ _ _ _ _ [.ref r1] M
  refine d_callS 7 (k_TM_exportEntry l g N M r1) lk_TM_exportEntry q_2067 (by decide) rfl (Nat.le_of_ble_eq_true rfl) dTM_firstEntry_4 rfl (fun r2 _ => ?_)
  show GD _ _ _ _ _ [.ref r2.1] r2.2
  exact d_aret rfl (Or.inl ⟨_, rfl⟩) rfl dTM_firstEntry_7
set_option maxRecDepth 100000 in
set_option maxHeartbeats 4000000 in
theorem k_TM_lastEntry (l : Launch) (g : kG) (N : Nat) (M : kMem) (a0 : Nat) : kMetD l g yTM_lastEntry cTM_lastEntry 1 (some (.object "java/util/Map$Entry")) 5 [.ref a0] M (fun r : Nat × kMem => (some (.ref r.1), r.2)) (F_TM_lastEntry N M a0) := by
  refine k_ofD (lv := [(0, .ref a0)]) RTM (by decide) rfl rfl (Nat.le_of_ble_eq_true rfl) ?_
  unfold F_TM_lastEntry
  refine d_st (fun hX _ => g_aload_n 1 0 (hX _) dTM_lastEntry_0 rfl rfl) rfl ?_
  refine d_callV 4 (k_TM_getLastEntry l g N M a0) lk_TM_getLastEntry (ci := 34) (T := TTM) (N := 9) rfl (Nat.le_of_ble_eq_true rfl) q_2063 (fun s args ht => ht _ q_2065) (by decide) rfl (Nat.le_of_ble_eq_true rfl) dTM_lastEntry_1 rfl (fun r1 _ => ?_)
  show GD _ _ _ _ _ [.ref r1] M
  refine d_callS 7 (k_TM_exportEntry l g N M r1) lk_TM_exportEntry q_2067 (by decide) rfl (Nat.le_of_ble_eq_true rfl) dTM_lastEntry_4 rfl (fun r2 _ => ?_)
  show GD _ _ _ _ _ [.ref r2.1] r2.2
  exact d_aret rfl (Or.inl ⟨_, rfl⟩) rfl dTM_lastEntry_7
set_option maxRecDepth 100000 in
set_option maxHeartbeats 4000000 in
theorem k_TV_init (l : Launch) (g : kG) (N : Nat) (M : kMem) (a0 : Nat) (a1 : Nat) : kMetD l g yTV_init cTV_init 2 none 3 [.ref a0, .ref a1] M (fun r : kMem => (none, r)) (F_TV_init N M a0 a1) := by
  refine k_ofD (lv := [(0, .ref a0), (1, .ref a1)]) RTV (by decide) rfl rfl (Nat.le_of_ble_eq_true rfl) ?_
  unfold F_TV_init
  refine d_st (fun hX _ => g_aload_n 1 0 (hX _) dTV_init_0 rfl rfl) rfl ?_
  refine d_st (fun hX _ => g_aload_n 2 1 (hX _) dTV_init_1 rfl rfl) rfl ?_
  refine d_stN (fun hX hn _ _ => ur_TV_1 5 (hX _) hn dTV_init_2 rfl) rfl ?_
  refine d_klM (fun M1 hM1 => ?_)
  refine d_st (fun hX _ => g_aload_n 6 0 (hX _) dTV_init_5 rfl rfl) rfl ?_
  refine d_callI 9 (k_AC_init l g N M1 a0) lk_AC_init_da8c8 q_1749 rfl (by decide) rfl (Nat.le_of_ble_eq_true rfl) dTV_init_6 rfl (fun r2 _ => ?_)
  show GD _ _ _ _ _ [] M1
  exact d_vret rfl rfl dTV_init_9
set_option maxRecDepth 100000 in
set_option maxHeartbeats 4000000 in
theorem k_TM_values (l : Launch) (g : kG) (N : Nat) (M : kMem) (a0 : Nat) : kMetD l g yTM_values cTM_values 2 (some (.object "java/util/Collection")) 4 [.ref a0] M (fun r : Nat × kMem => (some (.ref r.1), r.2)) (F_TM_values N M a0) := by
  refine k_ofD (lv := [(0, .ref a0)]) RTM (by decide) rfl rfl (Nat.le_of_ble_eq_true rfl) ?_
  unfold F_TM_values
  refine d_st (fun hX _ => g_aload_n 1 0 (hX _) dTM_values_0 rfl rfl) rfl ?_
  refine d_g (fun hX _ => e_TM_233 4 (hX _) dTM_values_1 rfl) rfl ?_
  refine d_klR (fun w1 hw1 => ?_)
  refine d_st (fun hX _ => g_astore_n 5 1 [(1, .ref w1), (0, .ref a0)] (hX _) dTM_values_4 rfl rfl (Nat.le_of_ble_eq_true rfl) rfl) rfl ?_
  refine d_st (fun hX _ => g_aload_n 6 0 (hX _) dTM_values_5 rfl rfl) rfl ?_
  refine d_ifN (fun hX _ => g_ifnonnull 23 9 (hX _) dTM_values_6 (by decide) rfl) (fun _ => ?_) (fun _ => ?_)
  · refine d_st (fun hX _ => g_aload_n 24 0 (hX _) dTM_values_23 rfl rfl) rfl ?_
    exact d_aret rfl (Or.inl ⟨_, rfl⟩) rfl dTM_values_24
  · refine dn_TV 12 q_1744 dTM_values_9 rfl ?_
    refine d_klR (fun w2 hw2 => ?_)
    refine d_klM (fun M3 hM3 => ?_)
    refine d_st (fun hX _ => g_dup 13 (hX _) dTM_values_12 rfl rfl) rfl ?_
    refine d_st (fun hX _ => g_aload_n 14 1 (hX _) dTM_values_13 rfl rfl) rfl ?_
    refine d_callI 17 (k_TV_init l g N M3 w2 a0) lk_TV_init q_1746 rfl (by decide) rfl (Nat.le_of_ble_eq_true rfl) dTM_values_14 rfl (fun r4 _ => ?_)
    show GD _ _ _ _ _ [.ref w2] r4
    refine d_st (fun hX _ => g_astore_n 18 1 [(1, .ref w2), (0, .ref a0)] (hX _) dTM_values_17 rfl rfl (Nat.le_of_ble_eq_true rfl) rfl) rfl ?_
    refine d_st (fun hX _ => g_aload_n 19 1 (hX _) dTM_values_18 rfl rfl) rfl ?_
    refine d_st (fun hX _ => g_aload_n 20 0 (hX _) dTM_values_19 rfl rfl) rfl ?_
    refine d_g (fun hX _ => ur_TM_233 23 (hX _) dTM_values_20 rfl) rfl ?_
    refine d_klM (fun M5 hM5 => ?_)
    refine d_st (fun hX _ => g_aload_n 24 0 (hX _) dTM_values_23 rfl rfl) rfl ?_
    exact d_aret rfl (Or.inl ⟨_, rfl⟩) rfl dTM_values_24
set_option maxRecDepth 100000 in
set_option maxHeartbeats 4000000 in
theorem k_PI_init (l : Launch) (g : kG) (N : Nat) (M : kMem) (a0 : Nat) (a1 : Nat) (a2 : Nat) : kMetD l g yPI_init cPI_init 3 none 2 [.ref a0, .ref a1, .ref a2] M (fun r : kMem => (none, r)) (F_PI_init N M a0 a1 a2) := by
  refine k_ofD (lv := [(0, .ref a0), (1, .ref a1), (2, .ref a2)]) RPI (by decide) rfl rfl (Nat.le_of_ble_eq_true rfl) ?_
  unfold F_PI_init
  refine d_st (fun hX _ => g_aload_n 1 0 (hX _) dPI_init_0 rfl rfl) rfl ?_
  refine d_st (fun hX _ => g_aload_n 2 1 (hX _) dPI_init_1 rfl rfl) rfl ?_
  refine d_stN (fun hX hn _ _ => ur_PI_1 5 (hX _) hn dPI_init_2 rfl) rfl ?_
  refine d_klM (fun M1 hM1 => ?_)
  refine d_st (fun hX _ => g_aload_n 6 0 (hX _) dPI_init_5 rfl rfl) rfl ?_
  refine d_objInit 9 q_1801 (Nat.le_of_ble_eq_true rfl) (by decide) dPI_init_6 rfl ?_
  refine d_st (fun hX _ => g_aload_n 10 0 (hX _) dPI_init_9 rfl rfl) rfl ?_
  refine d_st (fun hX _ => g_aload_n 11 1 (hX _) dPI_init_10 rfl rfl) rfl ?_
  refine d_g (fun hX _ => e_PI_13 14 (hX _) dPI_init_11 rfl) rfl ?_
  refine d_g (fun hX _ => ui_PI_19 17 (hX _) dPI_init_14 rfl) rfl ?_
  refine d_klM (fun M2 hM2 => ?_)
  refine d_st (fun hX _ => g_aload_n 18 0 (hX _) dPI_init_17 rfl rfl) rfl ?_
  refine d_st (fun hX _ => g_null 19 (hX _) dPI_init_18 rfl) rfl ?_
  refine d_g (fun hX _ => ur_PI_22 22 (hX _) dPI_init_19 rfl) rfl ?_
  refine d_klM (fun M3 hM3 => ?_)
  refine d_st (fun hX _ => g_aload_n 23 0 (hX _) dPI_init_22 rfl rfl) rfl ?_
  refine d_st (fun hX _ => g_aload_n 24 2 (hX _) dPI_init_23 rfl rfl) rfl ?_
  refine d_g (fun hX _ => ur_PI_26 27 (hX _) dPI_init_24 rfl) rfl ?_
  refine d_klM (fun M4 hM4 => ?_)
  exact d_vret rfl rfl dPI_init_27
set_option maxRecDepth 100000 in
set_option maxHeartbeats 4000000 in
theorem k_TI_init (l : Launch) (g : kG) (N : Nat) (M : kMem) (a0 : Nat) (a1 : Nat) (a2 : Nat) : kMetD l g yTI_init cTI_init 3 none 3 [.ref a0, .ref a1, .ref a2] M (fun r : kMem => (none, r)) (F_TI_init N M a0 a1 a2) := by
  refine k_ofD (lv := [(0, .ref a0), (1, .ref a1), (2, .ref a2)]) RTI (by decide) rfl rfl (Nat.le_of_ble_eq_true rfl) ?_
  unfold F_TI_init
  refine d_st (fun hX _ => g_aload_n 1 0 (hX _) dTI_init_0 rfl rfl) rfl ?_
  refine d_st (fun hX _ => g_aload_n 2 1 (hX _) dTI_init_1 rfl rfl) rfl ?_
  refine d_st (fun hX _ => g_aload_n 3 2 (hX _) dTI_init_2 rfl rfl) rfl ?_
  refine d_callI 6 (k_PI_init l g N M a0 a1 a2) lk_PI_init q_1798 rfl (by decide) rfl (Nat.le_of_ble_eq_true rfl) dTI_init_3 rfl (fun r1 _ => ?_)
  show GD _ _ _ _ _ [] r1
  exact d_vret rfl rfl dTI_init_6
set_option maxRecDepth 100000 in
set_option maxHeartbeats 4000000 in
theorem k_TV_iterator (l : Launch) (g : kG) (N : Nat) (M : kMem) (a0 : Nat) : kMetD l g yTV_iterator cTV_iterator 1 (some (.object "java/util/Iterator")) 4 [.ref a0] M (fun r : Nat × kMem => (some (.ref r.1), r.2)) (F_TV_iterator N M a0) := by
  refine k_ofD (lv := [(0, .ref a0)]) RTV (by decide) rfl rfl (Nat.le_of_ble_eq_true rfl) ?_
  unfold F_TV_iterator
  refine dn_TI 3 q_1789 dTV_iterator_0 rfl ?_
  refine d_klR (fun w1 hw1 => ?_)
  refine d_klM (fun M2 hM2 => ?_)
  refine d_st (fun hX _ => g_dup 4 (hX _) dTV_iterator_3 rfl rfl) rfl ?_
  refine d_st (fun hX _ => g_aload_n 5 0 (hX _) dTV_iterator_4 rfl rfl) rfl ?_
  refine d_g (fun hX _ => e_TV_1 8 (hX _) dTV_iterator_5 rfl) rfl ?_
  refine d_st (fun hX _ => g_aload_n 9 0 (hX _) dTV_iterator_8 rfl rfl) rfl ?_
  refine d_g (fun hX _ => e_TV_1 12 (hX _) dTV_iterator_9 rfl) rfl ?_
  refine d_callV 15 (k_TM_getFirstEntry l g N M2 (kR M2 a0 0)) lk_TM_getFirstEntry (ci := 34) (T := TTM) (N := 9) rfl (Nat.le_of_ble_eq_true rfl) q_1791 (fun s args ht => ht _ q_1793) (by decide) rfl (Nat.le_of_ble_eq_true rfl) dTV_iterator_12 rfl (fun r3 _ => ?_)
  show GD _ _ _ _ _ [.ref r3, .ref (kR M2 a0 0), .ref w1, .ref w1] M2
  refine d_callI 18 (k_TI_init l g N M2 w1 (kR M2 a0 0) r3) lk_TI_init q_1795 rfl (by decide) rfl (Nat.le_of_ble_eq_true rfl) dTV_iterator_15 rfl (fun r4 _ => ?_)
  show GD _ _ _ _ _ [.ref w1] r4
  exact d_aret rfl (Or.inl ⟨_, rfl⟩) rfl dTV_iterator_18
set_option maxRecDepth 100000 in
set_option maxHeartbeats 4000000 in
theorem k_PI_hasNext (l : Launch) (g : kG) (N : Nat) (M : kMem) (a0 : Nat) : kMetD l g yPI_hasNext cPI_hasNext 1 (some .boolean) 2 [.ref a0] M (fun r : Int32 => (some (.int r), M)) (F_PI_hasNext N M a0) := by
  refine k_ofD (lv := [(0, .ref a0)]) RPI (by decide) rfl rfl (Nat.le_of_ble_eq_true rfl) ?_
  unfold F_PI_hasNext
  refine d_st (fun hX _ => g_aload_n 1 0 (hX _) dPI_hasNext_0 rfl rfl) rfl ?_
  refine d_g (fun hX _ => e_PI_26 4 (hX _) dPI_hasNext_1 rfl) rfl ?_
  refine d_if (fun hX _ => g_ifnull 11 7 (hX _) dPI_hasNext_4 (by decide) rfl) (fun _ => ?_) (fun _ => ?_)
  · refine d_st (fun hX _ => g_iconst 12 (hX _) 0 dPI_hasNext_11 rfl kc_i_0) rfl ?_
    exact d_zretL rfl rfl rfl dPI_hasNext_12
  · refine d_st (fun hX _ => g_iconst 8 (hX _) 1 dPI_hasNext_7 rfl kc_i_1) rfl ?_
    refine d_st (fun hX _ => g_goto 12 (hX _) dPI_hasNext_8 (by decide)) rfl ?_
    exact d_zretL rfl rfl rfl dPI_hasNext_12
set_option maxRecDepth 100000 in
set_option maxHeartbeats 4000000 in
theorem k_PI_nextEntry (l : Launch) (g : kG) (N : Nat) (M : kMem) (a0 : Nat) : kMetD l g yPI_nextEntry cPI_nextEntry 2 (some (.object "java/util/TreeMap$Entry")) 3 [.ref a0] M (fun r : Nat × kMem => (some (.ref r.1), r.2)) (F_PI_nextEntry N M a0) := by
  refine k_ofD (lv := [(0, .ref a0)]) RPI (by decide) rfl rfl (Nat.le_of_ble_eq_true rfl) ?_
  unfold F_PI_nextEntry
  refine d_st (fun hX _ => g_aload_n 1 0 (hX _) dPI_nextEntry_0 rfl rfl) rfl ?_
  refine d_g (fun hX _ => e_PI_26 4 (hX _) dPI_nextEntry_1 rfl) rfl ?_
  refine d_klR (fun w1 hw1 => ?_)
  refine d_st (fun hX _ => g_astore_n 5 1 [(1, .ref w1), (0, .ref a0)] (hX _) dPI_nextEntry_4 rfl rfl (Nat.le_of_ble_eq_true rfl) rfl) rfl ?_
  refine d_st (fun hX _ => g_aload_n 6 0 (hX _) dPI_nextEntry_5 rfl rfl) rfl ?_
  refine d_ifN (fun hX _ => g_ifnonnull 17 9 (hX _) dPI_nextEntry_6 (by decide) rfl) (fun _ => ?_) (fun _ => ?_)
  · refine d_st (fun hX _ => g_aload_n 18 1 (hX _) dPI_nextEntry_17 rfl rfl) rfl ?_
    refine d_g (fun hX _ => e_PI_1 21 (hX _) dPI_nextEntry_18 rfl) rfl ?_
    refine d_g (fun hX _ => e_PI_13 24 (hX _) dPI_nextEntry_21 rfl) rfl ?_
    refine d_st (fun hX _ => g_aload_n 25 1 (hX _) dPI_nextEntry_24 rfl rfl) rfl ?_
    refine d_g (fun hX _ => e_PI_19 28 (hX _) dPI_nextEntry_25 rfl) rfl ?_
    refine d_if (fun hX _ => g_icmp_eq 39 31 (hX _) dPI_nextEntry_28 (by decide) rfl) (fun _ => ?_) (fun _ => ?_)
    · refine d_st (fun hX _ => g_aload_n 40 1 (hX _) dPI_nextEntry_39 rfl rfl) rfl ?_
      refine d_st (fun hX _ => g_aload_n 41 0 (hX _) dPI_nextEntry_40 rfl rfl) rfl ?_
      refine d_callS 44 (k_TM_successor l g N M w1) lk_TM_successor q_1855 (by decide) rfl (Nat.le_of_ble_eq_true rfl) dPI_nextEntry_41 rfl (fun r2 _ => ?_)
      show GD _ _ _ _ _ [.ref r2, .ref a0] M
      refine d_g (fun hX _ => ur_PI_26 47 (hX _) dPI_nextEntry_44 rfl) rfl ?_
      refine d_klM (fun M3 hM3 => ?_)
      refine d_st (fun hX _ => g_aload_n 48 1 (hX _) dPI_nextEntry_47 rfl rfl) rfl ?_
      refine d_st (fun hX _ => g_aload_n 49 0 (hX _) dPI_nextEntry_48 rfl rfl) rfl ?_
      refine d_g (fun hX _ => ur_PI_22 52 (hX _) dPI_nextEntry_49 rfl) rfl ?_
      refine d_klM (fun M4 hM4 => ?_)
      refine d_st (fun hX _ => g_aload_n 53 0 (hX _) dPI_nextEntry_52 rfl rfl) rfl ?_
      exact d_aret rfl (Or.inl ⟨_, rfl⟩) rfl dPI_nextEntry_53
    · exact d_none
  · exact d_none
set_option maxRecDepth 100000 in
set_option maxHeartbeats 4000000 in
theorem k_TI_next (l : Launch) (g : kG) (N : Nat) (M : kMem) (a0 : Nat) : kMetD l g yTI_next cTI_next 1 (some (.object "java/lang/Object")) 4 [.ref a0] M (fun r : Nat × kMem => (some (.ref r.1), r.2)) (F_TI_next N M a0) := by
  refine k_ofD (lv := [(0, .ref a0)]) RTI (by decide) rfl rfl (Nat.le_of_ble_eq_true rfl) ?_
  unfold F_TI_next
  refine d_st (fun hX _ => g_aload_n 1 0 (hX _) dTI_next_0 rfl rfl) rfl ?_
  refine d_callU 4 (x9 := ⟨"java/util/TreeMap$ValueIterator", "nextEntry", "()Ljava/util/TreeMap$Entry;"⟩) (k_PI_nextEntry l g N M a0) lk_PI_nextEntry (ci := 37) (T := TTI) (N := 4) rfl (Nat.le_of_ble_eq_true rfl) q_1849 q_1852 "java/util/TreeMap$PrivateEntryIterator" q_1850 (fun s args ht => va_Decl.of (ht _ q_1853) (ht _ q_1854)) ⟨by decide, by decide, by decide +kernel⟩ (by decide) rfl (Nat.le_of_ble_eq_true rfl) dTI_next_1 rfl (fun r1 _ => ?_)
  show GD _ _ _ _ _ [.ref r1.1] r1.2
  refine d_g (fun hX _ => e_TI_13 7 (hX _) dTI_next_4 rfl) rfl ?_
  exact d_aret rfl (Or.inl ⟨_, rfl⟩) rfl dTI_next_7
set_option maxRecDepth 100000 in
set_option maxHeartbeats 4000000 in
theorem k_AS_isLatin1 (l : Launch) (g : kG) (N : Nat) (M : kMem) (a0 : Nat) : kMetD l g yAS_isLatin1_aae02 cAS_isLatin1_aae02 1 (some .boolean) 2 [.ref a0] M (fun r : Int32 => (some (.int r), M)) (F_AS_isLatin1 N M a0) := by
  refine k_ofD (lv := [(0, .ref a0)]) RAS (by decide) rfl rfl (Nat.le_of_ble_eq_true rfl) ?_
  unfold F_AS_isLatin1
  refine d_st (fun hX _ => g_gsCompact 3 (hX _) q_814 dAS_isLatin1_aae02_0 rfl) rfl ?_
  refine d_if (fun hX _ => g_if_eq 17 6 (hX _) dAS_isLatin1_aae02_3 (by decide) rfl) (fun _ => ?_) (fun _ => ?_)
  · refine d_st (fun hX _ => g_iconst 18 (hX _) 0 dAS_isLatin1_aae02_17 rfl kc_i_0) rfl ?_
    exact d_zretL rfl rfl rfl dAS_isLatin1_aae02_18
  · refine d_st (fun hX _ => g_aload_n 7 0 (hX _) dAS_isLatin1_aae02_6 rfl rfl) rfl ?_
    refine d_g (fun hX _ => e_AS_22 10 (hX _) dAS_isLatin1_aae02_7 rfl) rfl ?_
    refine d_ifN (fun hX _ => g_if_ne 17 13 (hX _) dAS_isLatin1_aae02_10 (by decide) rfl) (fun _ => ?_) (fun _ => ?_)
    · refine d_st (fun hX _ => g_iconst 18 (hX _) 0 dAS_isLatin1_aae02_17 rfl kc_i_0) rfl ?_
      exact d_zretL rfl rfl rfl dAS_isLatin1_aae02_18
    · refine d_st (fun hX _ => g_iconst 14 (hX _) 1 dAS_isLatin1_aae02_13 rfl kc_i_1) rfl ?_
      refine d_st (fun hX _ => g_goto 18 (hX _) dAS_isLatin1_aae02_14 (by decide)) rfl ?_
      exact d_zretL rfl rfl rfl dAS_isLatin1_aae02_18
set_option maxRecDepth 100000 in
set_option maxHeartbeats 4000000 in
theorem k_AS_getValue (l : Launch) (g : kG) (N : Nat) (M : kMem) (a0 : Nat) : kMetD l g yAS_getValue_6d5f1 cAS_getValue_6d5f1 1 (some (.array .byte)) 2 [.ref a0] M (fun r : Nat => (some (.ref r), M)) (F_AS_getValue N M a0) := by
  refine k_ofD (lv := [(0, .ref a0)]) RAS (by decide) rfl rfl (Nat.le_of_ble_eq_true rfl) ?_
  unfold F_AS_getValue
  refine d_st (fun hX _ => g_aload_n 1 0 (hX _) dAS_getValue_6d5f1_0 rfl rfl) rfl ?_
  refine d_g (fun hX _ => e_AS_15 4 (hX _) dAS_getValue_6d5f1_1 rfl) rfl ?_
  exact d_aret rfl (Or.inr ⟨_, rfl⟩) rfl dAS_getValue_6d5f1_4
set_option maxRecDepth 100000 in
set_option maxHeartbeats 4000000 in
theorem k_AS_length (l : Launch) (g : kG) (N : Nat) (M : kMem) (a0 : Nat) : kMetD l g yAS_length_8abf5 cAS_length_8abf5 1 (some .int) 2 [.ref a0] M (fun r : Int32 => (some (.int r), M)) (F_AS_length N M a0) := by
  refine k_ofD (lv := [(0, .ref a0)]) RAS (by decide) rfl rfl (Nat.le_of_ble_eq_true rfl) ?_
  unfold F_AS_length
  refine d_st (fun hX _ => g_aload_n 1 0 (hX _) dAS_length_8abf5_0 rfl rfl) rfl ?_
  refine d_g (fun hX _ => e_AS_79 4 (hX _) dAS_length_8abf5_1 rfl) rfl ?_
  exact d_iret rfl rfl dAS_length_8abf5_4
set_option maxRecDepth 100000 in
set_option maxHeartbeats 4000000 in
theorem k_SB_length (l : Launch) (g : kG) (N : Nat) (M : kMem) (a0 : Nat) : kMetD l g ySB_length_8abf5 cSB_length_8abf5 1 (some .int) 3 [.ref a0] M (fun r : Int32 => (some (.int r), M)) (F_SB_length N M a0) := by
  refine k_ofD (lv := [(0, .ref a0)]) RSB (by decide) rfl rfl (Nat.le_of_ble_eq_true rfl) ?_
  unfold F_SB_length
  refine d_st (fun hX _ => g_aload_n 1 0 (hX _) dSB_length_8abf5_0 rfl rfl) rfl ?_
  refine d_callP 4 (k_AS_length l g N M a0) lk_AS_length_8abf5 (ci := 39) (T := TSB) (N := 4) rfl (Nat.le_of_ble_eq_true rfl) q_1459 q_1455 q_773 (by decide) (by decide) rfl (Nat.le_of_ble_eq_true rfl) dSB_length_8abf5_1 rfl (fun r1 _ => ?_)
  show GD _ _ _ _ _ [.int r1] M
  exact d_iret rfl rfl dSB_length_8abf5_4
set_option maxRecDepth 100000 in
set_option maxHeartbeats 4000000 in
theorem k_AX_newLength (l : Launch) (g : kG) (N : Nat) (M : kMem) (x0 : Int32) (x1 : Int32) (x2 : Int32) : kMetD l g yAX_newLength_cabcc cAX_newLength_cabcc 4 (some .int) 2 [.int x0, .int x1, .int x2] M (fun r : Int32 => (some (.int r), M)) (F_AX_newLength N M x0 x1 x2) := by
  refine k_ofD (lv := [(0, .int x0), (1, .int x1), (2, .int x2)]) RAX (by decide) rfl rfl (Nat.le_of_ble_eq_true rfl) ?_
  unfold F_AX_newLength
  refine d_st (fun hX _ => g_iload_n 1 0 (hX _) dAX_newLength_cabcc_0 rfl rfl) rfl ?_
  refine d_st (fun hX _ => g_iload_n 2 1 (hX _) dAX_newLength_cabcc_1 rfl rfl) rfl ?_
  refine d_st (fun hX _ => g_iload_n 3 2 (hX _) dAX_newLength_cabcc_2 rfl rfl) rfl ?_
  refine d_stR (fun hX _ hRc hRs => g_mmax 6 (hX _) q_790 dAX_newLength_cabcc_3 rfl (Nat.le_of_ble_eq_true rfl) (by decide) hRc hRs) rfl ?_
  refine d_st (fun hX _ => g_iadd 7 (hX _) dAX_newLength_cabcc_6 rfl) rfl ?_
  refine d_klI (fun v1 hv1 => ?_)
  refine d_st (fun hX _ => g_istore_n 8 3 [(3, .int v1), (0, .int x0), (1, .int x1), (2, .int x2)] (hX _) dAX_newLength_cabcc_7 rfl rfl (Nat.le_of_ble_eq_true rfl) rfl) rfl ?_
  refine d_st (fun hX _ => g_iconst 9 (hX _) 0 dAX_newLength_cabcc_8 rfl kc_i_0) rfl ?_
  refine d_st (fun hX _ => g_iload_n 10 0 (hX _) dAX_newLength_cabcc_9 rfl rfl) rfl ?_
  refine d_ifN (fun hX _ => g_icmp_ge 21 13 (hX _) dAX_newLength_cabcc_10 (by decide) rfl) (fun _ => ?_) (fun _ => ?_)
  · exact d_none
  · refine d_st (fun hX _ => g_iload_n 14 0 (hX _) dAX_newLength_cabcc_13 rfl rfl) rfl ?_
    refine d_st (fun hX _ => g_ldc 16 (hX _) 2147483639 dAX_newLength_cabcc_14 rfl q_793) rfl ?_
    refine d_if (fun hX _ => g_icmp_gt 21 19 (hX _) dAX_newLength_cabcc_16 (by decide) rfl) (fun _ => ?_) (fun _ => ?_)
    · exact d_none
    · refine d_st (fun hX _ => g_iload_n 20 0 (hX _) dAX_newLength_cabcc_19 rfl rfl) rfl ?_
      exact d_iret rfl rfl dAX_newLength_cabcc_20
set_option maxRecDepth 100000 in
set_option maxHeartbeats 4000000 in
theorem k_AS_newCapacity (l : Launch) (g : kG) (N : Nat) (M : kMem) (a0 : Nat) (x1 : Int32) : kMetD l g yAS_newCapacity_0f7a4 cAS_newCapacity_0f7a4 6 (some .int) 3 [.ref a0, .int x1] M (fun r : Int32 => (some (.int r), M)) (F_AS_newCapacity N M a0 x1) := by
  refine k_ofD (lv := [(0, .ref a0), (1, .int x1)]) RAS (by decide) rfl rfl (Nat.le_of_ble_eq_true rfl) ?_
  unfold F_AS_newCapacity
  refine d_st (fun hX _ => g_aload_n 1 0 (hX _) dAS_newCapacity_0f7a4_0 rfl rfl) rfl ?_
  refine d_g (fun hX _ => e_AS_15 4 (hX _) dAS_newCapacity_0f7a4_1 rfl) rfl ?_
  refine d_g (fun hX _ => g_alen20 5 (hX _) dAS_newCapacity_0f7a4_4 rfl) rfl ?_
  refine d_klI (fun v1 hv1 => ?_)
  refine d_st (fun hX _ => g_istore_n 6 2 [(2, .int v1), (0, .ref a0), (1, .int x1)] (hX _) dAS_newCapacity_0f7a4_5 rfl rfl (Nat.le_of_ble_eq_true rfl) rfl) rfl ?_
  refine d_st (fun hX _ => g_iload_n 7 2 (hX _) dAS_newCapacity_0f7a4_6 rfl rfl) rfl ?_
  refine d_st (fun hX _ => g_aload_n 8 1 (hX _) dAS_newCapacity_0f7a4_7 rfl rfl) rfl ?_
  refine d_g (fun hX _ => e_AS_22 11 (hX _) dAS_newCapacity_0f7a4_8 rfl) rfl ?_
  refine d_st (fun hX _ => g_ishl 12 (hX _) dAS_newCapacity_0f7a4_11 rfl) rfl ?_
  refine d_klI (fun v2 hv2 => ?_)
  refine d_st (fun hX _ => g_istore_n 13 3 [(3, .int v2), (2, .int v1), (0, .ref a0), (1, .int x1)] (hX _) dAS_newCapacity_0f7a4_12 rfl rfl (Nat.le_of_ble_eq_true rfl) rfl) rfl ?_
  refine d_st (fun hX _ => g_iload_n 14 0 (hX _) dAS_newCapacity_0f7a4_13 rfl rfl) rfl ?_
  refine d_st (fun hX _ => g_iload_n 15 1 (hX _) dAS_newCapacity_0f7a4_14 rfl rfl) rfl ?_
  refine d_st (fun hX _ => g_isub 16 (hX _) dAS_newCapacity_0f7a4_15 rfl) rfl ?_
  refine d_klI (fun v3 hv3 => ?_)
  refine d_st (fun hX _ => g_istore 18 4 [(4, .int v3), (3, .int v2), (2, .int v1), (0, .ref a0), (1, .int x1)] (hX _) dAS_newCapacity_0f7a4_16 rfl (Nat.le_of_ble_eq_true rfl) rfl) rfl ?_
  refine d_st (fun hX _ => g_iload_n 19 2 (hX _) dAS_newCapacity_0f7a4_18 rfl rfl) rfl ?_
  refine d_st (fun hX _ => g_iload 21 0 (hX _) dAS_newCapacity_0f7a4_19 rfl rfl) rfl ?_
  refine d_st (fun hX _ => g_iload_n 22 2 (hX _) dAS_newCapacity_0f7a4_21 rfl rfl) rfl ?_
  refine d_st (fun hX _ => g_iconst 23 (hX _) 2 dAS_newCapacity_0f7a4_22 rfl kc_i_2) rfl ?_
  refine d_st (fun hX _ => g_aload_n 24 3 (hX _) dAS_newCapacity_0f7a4_23 rfl rfl) rfl ?_
  refine d_g (fun hX _ => e_AS_22 27 (hX _) dAS_newCapacity_0f7a4_24 rfl) rfl ?_
  refine d_st (fun hX _ => g_ishl 28 (hX _) dAS_newCapacity_0f7a4_27 rfl) rfl ?_
  refine d_st (fun hX _ => g_iadd 29 (hX _) dAS_newCapacity_0f7a4_28 rfl) rfl ?_
  refine d_callS 32 (k_AX_newLength l g N M v1 v3 (v1 + (2 <<< ((kI M a0 1) &&& 31)))) lk_AX_newLength_cabcc q_787 (by decide) rfl (Nat.le_of_ble_eq_true rfl) dAS_newCapacity_0f7a4_29 rfl (fun r4 _ => ?_)
  show GD _ _ _ _ _ [.int r4] M
  refine d_st (fun hX _ => g_istore 34 5 [(5, .int r4), (4, .int v3), (3, .int v2), (2, .int v1), (0, .ref a0), (1, .int x1)] (hX _) dAS_newCapacity_0f7a4_32 rfl (Nat.le_of_ble_eq_true rfl) rfl) rfl ?_
  refine d_st (fun hX _ => g_iload 36 0 (hX _) dAS_newCapacity_0f7a4_34 rfl rfl) rfl ?_
  refine d_st (fun hX _ => g_ldc 38 (hX _) 2147483647 dAS_newCapacity_0f7a4_36 rfl q_753) rfl ?_
  refine d_ifN (fun hX _ => g_icmp_ne 51 41 (hX _) dAS_newCapacity_0f7a4_38 (by decide) rfl) (fun _ => ?_) (fun _ => ?_)
  · refine d_st (fun hX _ => g_iload 53 0 (hX _) dAS_newCapacity_0f7a4_51 rfl rfl) rfl ?_
    refine d_st (fun hX _ => g_aload_n 54 4 (hX _) dAS_newCapacity_0f7a4_53 rfl rfl) rfl ?_
    refine d_g (fun hX _ => e_AS_22 57 (hX _) dAS_newCapacity_0f7a4_54 rfl) rfl ?_
    refine d_st (fun hX _ => g_ishr 58 (hX _) dAS_newCapacity_0f7a4_57 rfl) rfl ?_
    exact d_iret rfl rfl dAS_newCapacity_0f7a4_58
  · exact d_none
set_option maxRecDepth 100000 in
set_option maxHeartbeats 4000000 in
theorem k_AR_checkLength (l : Launch) (g : kG) (N : Nat) (M : kMem) (x0 : Int32) (x1 : Int32) : kMetD l g yAR_checkLength_df160 cAR_checkLength_df160 2 none 2 [.int x0, .int x1] M (fun _ : Unit => (none, M)) (F_AR_checkLength N M x0 x1) := by
  refine k_ofD (lv := [(0, .int x0), (1, .int x1)]) RAR (by decide) rfl rfl (Nat.le_of_ble_eq_true rfl) ?_
  unfold F_AR_checkLength
  refine d_st (fun hX _ => g_iload_n 1 1 (hX _) dAR_checkLength_df160_0 rfl rfl) rfl ?_
  refine d_st (fun hX _ => g_iload_n 2 0 (hX _) dAR_checkLength_df160_1 rfl rfl) rfl ?_
  refine d_ifN (fun hX _ => g_icmp_ge 37 5 (hX _) dAR_checkLength_df160_2 (by decide) rfl) (fun _ => ?_) (fun _ => ?_)
  · exact d_vret rfl rfl dAR_checkLength_df160_37
  · exact d_none
set_option maxRecDepth 100000 in
set_option maxHeartbeats 4000000 in
theorem k_AR_copyOfRangeByte (l : Launch) (g : kG) (N : Nat) (M : kMem) (a0 : Nat) (x1 : Int32) (x2 : Int32) : kMetD l g yAR_copyOfRangeByte_39247 cAR_copyOfRangeByte_39247 5 (some (.array .byte)) 3 [.ref a0, .int x1, .int x2] M (fun r : Nat × kMem => (some (.ref r.1), r.2)) (F_AR_copyOfRangeByte N M a0 x1 x2) := by
  refine k_ofD (lv := [(0, .ref a0), (1, .int x1), (2, .int x2)]) RAR (by decide) rfl rfl (Nat.le_of_ble_eq_true rfl) ?_
  unfold F_AR_copyOfRangeByte
  refine d_st (fun hX _ => g_iload_n 1 1 (hX _) dAR_copyOfRangeByte_39247_0 rfl rfl) rfl ?_
  refine d_st (fun hX _ => g_iload_n 2 2 (hX _) dAR_copyOfRangeByte_39247_1 rfl rfl) rfl ?_
  refine d_callS 5 (k_AR_checkLength l g N M x1 x2) lk_AR_checkLength_df160 q_1468 (by decide) rfl (Nat.le_of_ble_eq_true rfl) dAR_copyOfRangeByte_39247_2 rfl (fun r1 _ => ?_)
  show GD _ _ _ _ _ [] M
  refine d_st (fun hX _ => g_iload_n 6 2 (hX _) dAR_copyOfRangeByte_39247_5 rfl rfl) rfl ?_
  refine d_st (fun hX _ => g_iload_n 7 1 (hX _) dAR_copyOfRangeByte_39247_6 rfl rfl) rfl ?_
  refine d_st (fun hX _ => g_isub 8 (hX _) dAR_copyOfRangeByte_39247_7 rfl) rfl ?_
  refine d_klI (fun v2 hv2 => ?_)
  refine d_st (fun hX _ => g_istore_n 9 3 [(3, .int v2), (0, .ref a0), (1, .int x1), (2, .int x2)] (hX _) dAR_copyOfRangeByte_39247_8 rfl rfl (Nat.le_of_ble_eq_true rfl) rfl) rfl ?_
  refine d_st (fun hX _ => g_iload_n 10 0 (hX _) dAR_copyOfRangeByte_39247_9 rfl rfl) rfl ?_
  refine d_newaB 12 dAR_copyOfRangeByte_39247_10 rfl ?_
  refine d_klR (fun w3 hw3 => ?_)
  refine d_klM (fun M4 hM4 => ?_)
  refine d_st (fun hX _ => g_astore 14 4 [(4, .ref w3), (3, .int v2), (0, .ref a0), (1, .int x1), (2, .int x2)] (hX _) dAR_copyOfRangeByte_39247_12 rfl (Nat.le_of_ble_eq_true rfl) rfl) rfl ?_
  refine d_st (fun hX _ => g_aload_n 15 2 (hX _) dAR_copyOfRangeByte_39247_14 rfl rfl) rfl ?_
  refine d_st (fun hX _ => g_iload_n 16 3 (hX _) dAR_copyOfRangeByte_39247_15 rfl rfl) rfl ?_
  refine d_st (fun hX _ => g_aload 18 0 (hX _) dAR_copyOfRangeByte_39247_16 rfl rfl) rfl ?_
  refine d_st (fun hX _ => g_iconst 19 (hX _) 0 dAR_copyOfRangeByte_39247_18 rfl kc_i_0) rfl ?_
  refine d_st (fun hX _ => g_aload_n 20 2 (hX _) dAR_copyOfRangeByte_39247_19 rfl rfl) rfl ?_
  refine d_g (fun hX _ => g_alen20 21 (hX _) dAR_copyOfRangeByte_39247_20 rfl) rfl ?_
  refine d_st (fun hX _ => g_iload_n 22 3 (hX _) dAR_copyOfRangeByte_39247_21 rfl rfl) rfl ?_
  refine d_st (fun hX _ => g_isub 23 (hX _) dAR_copyOfRangeByte_39247_22 rfl) rfl ?_
  refine d_st (fun hX _ => g_iload_n 24 1 (hX _) dAR_copyOfRangeByte_39247_23 rfl rfl) rfl ?_
  refine d_stR (fun hX _ hRc hRs => g_mmin 27 (hX _) q_807 dAR_copyOfRangeByte_39247_24 rfl (Nat.le_of_ble_eq_true rfl) (by decide) hRc hRs) rfl ?_
  refine d_g (fun hX _ => g_copyB 30 (hX _) q_808 dAR_copyOfRangeByte_39247_27 rfl (Nat.le_of_ble_eq_true rfl) (by decide)) rfl ?_
  refine d_klM (fun M5 hM5 => ?_)
  refine d_st (fun hX _ => g_aload 32 0 (hX _) dAR_copyOfRangeByte_39247_30 rfl rfl) rfl ?_
  exact d_aret rfl (Or.inr ⟨_, rfl⟩) rfl dAR_copyOfRangeByte_39247_32
set_option maxRecDepth 100000 in
set_option maxHeartbeats 4000000 in
theorem k_AR_copyOfRange (l : Launch) (g : kG) (N : Nat) (M : kMem) (a0 : Nat) (x1 : Int32) (x2 : Int32) : kMetD l g yAR_copyOfRange_39247 cAR_copyOfRange_39247 3 (some (.array .byte)) 4 [.ref a0, .int x1, .int x2] M (fun r : Nat × kMem => (some (.ref r.1), r.2)) (F_AR_copyOfRange N M a0 x1 x2) := by
  refine k_ofD (lv := [(0, .ref a0), (1, .int x1), (2, .int x2)]) RAR (by decide) rfl rfl (Nat.le_of_ble_eq_true rfl) ?_
  unfold F_AR_copyOfRange
  refine d_st (fun hX _ => g_iload_n 1 1 (hX _) dAR_copyOfRange_39247_0 rfl rfl) rfl ?_
  refine d_ifN (fun hX _ => g_if_ne 10 4 (hX _) dAR_copyOfRange_39247_1 (by decide) rfl) (fun _ => ?_) (fun _ => ?_)
  · refine d_st (fun hX _ => g_aload_n 11 0 (hX _) dAR_copyOfRange_39247_10 rfl rfl) rfl ?_
    refine d_st (fun hX _ => g_iload_n 12 1 (hX _) dAR_copyOfRange_39247_11 rfl rfl) rfl ?_
    refine d_st (fun hX _ => g_iload_n 13 2 (hX _) dAR_copyOfRange_39247_12 rfl rfl) rfl ?_
    refine d_callS 16 (k_AR_copyOfRangeByte l g N M a0 x1 x2) lk_AR_copyOfRangeByte_39247 q_1465 (by decide) rfl (Nat.le_of_ble_eq_true rfl) dAR_copyOfRange_39247_13 rfl (fun r1 _ => ?_)
    show GD _ _ _ _ _ [.ref r1.1] r1.2
    exact d_aret rfl (Or.inr ⟨_, rfl⟩) rfl dAR_copyOfRange_39247_16
  · refine d_st (fun hX _ => g_iload_n 5 2 (hX _) dAR_copyOfRange_39247_4 rfl rfl) rfl ?_
    refine d_st (fun hX _ => g_aload_n 6 0 (hX _) dAR_copyOfRange_39247_5 rfl rfl) rfl ?_
    refine d_g (fun hX _ => g_alen20 7 (hX _) dAR_copyOfRange_39247_6 rfl) rfl ?_
    refine d_if (fun hX _ => g_icmp_eq 17 10 (hX _) dAR_copyOfRange_39247_7 (by decide) rfl) (fun _ => ?_) (fun _ => ?_)
    · refine d_st (fun hX _ => g_aload_n 18 0 (hX _) dAR_copyOfRange_39247_17 rfl rfl) rfl ?_
      refine d_clone 21 q_800 dAR_copyOfRange_39247_18 rfl (Nat.le_of_ble_eq_true rfl) (by decide) ?_
      refine d_klR (fun w2 hw2 => ?_)
      refine d_klM (fun M3 hM3 => ?_)
      refine d_g (fun hX _ => g_castBy 24 (hX _) q_806 dAR_copyOfRange_39247_21 rfl) rfl ?_
      exact d_aret rfl (Or.inr ⟨_, rfl⟩) rfl dAR_copyOfRange_39247_24
    · refine d_st (fun hX _ => g_aload_n 11 0 (hX _) dAR_copyOfRange_39247_10 rfl rfl) rfl ?_
      refine d_st (fun hX _ => g_iload_n 12 1 (hX _) dAR_copyOfRange_39247_11 rfl rfl) rfl ?_
      refine d_st (fun hX _ => g_iload_n 13 2 (hX _) dAR_copyOfRange_39247_12 rfl rfl) rfl ?_
      refine d_callS 16 (k_AR_copyOfRangeByte l g N M a0 x1 x2) lk_AR_copyOfRangeByte_39247 q_1465 (by decide) rfl (Nat.le_of_ble_eq_true rfl) dAR_copyOfRange_39247_13 rfl (fun r4 _ => ?_)
      show GD _ _ _ _ _ [.ref r4.1] r4.2
      exact d_aret rfl (Or.inr ⟨_, rfl⟩) rfl dAR_copyOfRange_39247_16
set_option maxRecDepth 100000 in
set_option maxHeartbeats 4000000 in
theorem k_AR_copyOf (l : Launch) (g : kG) (N : Nat) (M : kMem) (a0 : Nat) (x1 : Int32) : kMetD l g yAR_copyOf_9075b cAR_copyOf_9075b 3 (some (.array .byte)) 2 [.ref a0, .int x1] M (fun r : Nat × kMem => (some (.ref r.1), r.2)) (F_AR_copyOf N M a0 x1) := by
  refine k_ofD (lv := [(0, .ref a0), (1, .int x1)]) RAR (by decide) rfl rfl (Nat.le_of_ble_eq_true rfl) ?_
  unfold F_AR_copyOf
  refine d_st (fun hX _ => g_iload_n 1 1 (hX _) dAR_copyOf_9075b_0 rfl rfl) rfl ?_
  refine d_st (fun hX _ => g_aload_n 2 0 (hX _) dAR_copyOf_9075b_1 rfl rfl) rfl ?_
  refine d_g (fun hX _ => g_alen20 3 (hX _) dAR_copyOf_9075b_2 rfl) rfl ?_
  refine d_ifN (fun hX _ => g_icmp_ne 14 6 (hX _) dAR_copyOf_9075b_3 (by decide) rfl) (fun _ => ?_) (fun _ => ?_)
  · refine d_st (fun hX _ => g_iload_n 15 1 (hX _) dAR_copyOf_9075b_14 rfl rfl) rfl ?_
    refine d_newaB 17 dAR_copyOf_9075b_15 rfl ?_
    refine d_klR (fun w1 hw1 => ?_)
    refine d_klM (fun M2 hM2 => ?_)
    refine d_st (fun hX _ => g_astore_n 18 2 [(2, .ref w1), (0, .ref a0), (1, .int x1)] (hX _) dAR_copyOf_9075b_17 rfl rfl (Nat.le_of_ble_eq_true rfl) rfl) rfl ?_
    refine d_st (fun hX _ => g_aload_n 19 1 (hX _) dAR_copyOf_9075b_18 rfl rfl) rfl ?_
    refine d_st (fun hX _ => g_iconst 20 (hX _) 0 dAR_copyOf_9075b_19 rfl kc_i_0) rfl ?_
    refine d_st (fun hX _ => g_aload_n 21 0 (hX _) dAR_copyOf_9075b_20 rfl rfl) rfl ?_
    refine d_st (fun hX _ => g_iconst 22 (hX _) 0 dAR_copyOf_9075b_21 rfl kc_i_0) rfl ?_
    refine d_st (fun hX _ => g_aload_n 23 1 (hX _) dAR_copyOf_9075b_22 rfl rfl) rfl ?_
    refine d_g (fun hX _ => g_alen20 24 (hX _) dAR_copyOf_9075b_23 rfl) rfl ?_
    refine d_st (fun hX _ => g_iload_n 25 2 (hX _) dAR_copyOf_9075b_24 rfl rfl) rfl ?_
    refine d_stR (fun hX _ hRc hRs => g_mmin 28 (hX _) q_807 dAR_copyOf_9075b_25 rfl (Nat.le_of_ble_eq_true rfl) (by decide) hRc hRs) rfl ?_
    refine d_g (fun hX _ => g_copyB 31 (hX _) q_808 dAR_copyOf_9075b_28 rfl (Nat.le_of_ble_eq_true rfl) (by decide)) rfl ?_
    refine d_klM (fun M3 hM3 => ?_)
    refine d_st (fun hX _ => g_aload_n 32 0 (hX _) dAR_copyOf_9075b_31 rfl rfl) rfl ?_
    exact d_aret rfl (Or.inr ⟨_, rfl⟩) rfl dAR_copyOf_9075b_32
  · refine d_st (fun hX _ => g_aload_n 7 0 (hX _) dAR_copyOf_9075b_6 rfl rfl) rfl ?_
    refine d_clone 10 q_800 dAR_copyOf_9075b_7 rfl (Nat.le_of_ble_eq_true rfl) (by decide) ?_
    refine d_klR (fun w4 hw4 => ?_)
    refine d_klM (fun M5 hM5 => ?_)
    refine d_g (fun hX _ => g_castBy 13 (hX _) q_806 dAR_copyOf_9075b_10 rfl) rfl ?_
    exact d_aret rfl (Or.inr ⟨_, rfl⟩) rfl dAR_copyOf_9075b_13
set_option maxRecDepth 100000 in
set_option maxHeartbeats 4000000 in
theorem k_AS_ensure (l : Launch) (g : kG) (N : Nat) (M : kMem) (a0 : Nat) (x1 : Int32) : kMetD l g yAS_ensureCapacityInternal_d00df cAS_ensureCapacityInternal_d00df 3 none 4 [.ref a0, .int x1] M (fun r : kMem => (none, r)) (F_AS_ensure N M a0 x1) := by
  refine k_ofD (lv := [(0, .ref a0), (1, .int x1)]) RAS (by decide) rfl rfl (Nat.le_of_ble_eq_true rfl) ?_
  unfold F_AS_ensure
  refine d_st (fun hX _ => g_aload_n 1 0 (hX _) dAS_ensureCapacityInternal_d00df_0 rfl rfl) rfl ?_
  refine d_g (fun hX _ => e_AS_15 4 (hX _) dAS_ensureCapacityInternal_d00df_1 rfl) rfl ?_
  refine d_g (fun hX _ => g_alen20 5 (hX _) dAS_ensureCapacityInternal_d00df_4 rfl) rfl ?_
  refine d_st (fun hX _ => g_aload_n 6 0 (hX _) dAS_ensureCapacityInternal_d00df_5 rfl rfl) rfl ?_
  refine d_g (fun hX _ => e_AS_22 9 (hX _) dAS_ensureCapacityInternal_d00df_6 rfl) rfl ?_
  refine d_st (fun hX _ => g_ishr 10 (hX _) dAS_ensureCapacityInternal_d00df_9 rfl) rfl ?_
  refine d_klI (fun v1 hv1 => ?_)
  refine d_st (fun hX _ => g_istore_n 11 2 [(2, .int v1), (0, .ref a0), (1, .int x1)] (hX _) dAS_ensureCapacityInternal_d00df_10 rfl rfl (Nat.le_of_ble_eq_true rfl) rfl) rfl ?_
  refine d_st (fun hX _ => g_iload_n 12 2 (hX _) dAS_ensureCapacityInternal_d00df_11 rfl rfl) rfl ?_
  refine d_st (fun hX _ => g_iload_n 13 0 (hX _) dAS_ensureCapacityInternal_d00df_12 rfl rfl) rfl ?_
  refine d_st (fun hX _ => g_isub 14 (hX _) dAS_ensureCapacityInternal_d00df_13 rfl) rfl ?_
  refine d_ifN (fun hX _ => g_if_le 38 17 (hX _) dAS_ensureCapacityInternal_d00df_14 (by decide) rfl) (fun _ => ?_) (fun _ => ?_)
  · exact d_vret rfl rfl dAS_ensureCapacityInternal_d00df_38
  · refine d_st (fun hX _ => g_aload_n 18 1 (hX _) dAS_ensureCapacityInternal_d00df_17 rfl rfl) rfl ?_
    refine d_st (fun hX _ => g_aload_n 19 1 (hX _) dAS_ensureCapacityInternal_d00df_18 rfl rfl) rfl ?_
    refine d_g (fun hX _ => e_AS_15 22 (hX _) dAS_ensureCapacityInternal_d00df_19 rfl) rfl ?_
    refine d_st (fun hX _ => g_aload_n 23 1 (hX _) dAS_ensureCapacityInternal_d00df_22 rfl rfl) rfl ?_
    refine d_st (fun hX _ => g_iload_n 24 2 (hX _) dAS_ensureCapacityInternal_d00df_23 rfl rfl) rfl ?_
    refine d_callV 27 (k_AS_newCapacity l g N M a0 x1) lk_AS_newCapacity_0f7a4 (ci := 39) (T := TSB) (N := 4) rfl (Nat.le_of_ble_eq_true rfl) q_783 (fun s args ht => ht _ (kwx 1 rfl rfl)) (by decide) rfl (Nat.le_of_ble_eq_true rfl) dAS_ensureCapacityInternal_d00df_24 rfl (fun r2 _ => ?_)
    show GD _ _ _ _ _ [.int r2, .ref (kR M a0 0), .ref a0] M
    refine d_st (fun hX _ => g_aload_n 28 1 (hX _) dAS_ensureCapacityInternal_d00df_27 rfl rfl) rfl ?_
    refine d_g (fun hX _ => e_AS_22 31 (hX _) dAS_ensureCapacityInternal_d00df_28 rfl) rfl ?_
    refine d_st (fun hX _ => g_ishl 32 (hX _) dAS_ensureCapacityInternal_d00df_31 rfl) rfl ?_
    refine d_callS 35 (k_AR_copyOf l g N M (kR M a0 0) (r2 <<< ((kI M a0 1) &&& 31))) lk_AR_copyOf_9075b q_797 (by decide) rfl (Nat.le_of_ble_eq_true rfl) dAS_ensureCapacityInternal_d00df_32 rfl (fun r3 _ => ?_)
    show GD _ _ _ _ _ [.ref r3.1, .ref a0] r3.2
    refine d_g (fun hX _ => ur_AS_15 38 (hX _) dAS_ensureCapacityInternal_d00df_35 rfl) rfl ?_
    refine d_klM (fun M4 hM4 => ?_)
    exact d_vret rfl rfl dAS_ensureCapacityInternal_d00df_38
set_option maxRecDepth 100000 in
set_option maxHeartbeats 4000000 in
theorem k_AS_inflateIf (l : Launch) (g : kG) (N : Nat) (M : kMem) (a0 : Nat) (s1 : Nat) : kMetD l g yAS_inflateIfNeededFor_a7421 cAS_inflateIfNeededFor_a7421 2 none 2 [.ref a0, .retAddr (g.2.2.2.1 s1)] M (fun _ : Unit => (none, M)) (F_AS_inflateIf N M a0 s1) := by
  refine k_ofD (lv := [(0, .ref a0), (1, .retAddr (g.2.2.2.1 s1))]) RAS (by decide) rfl rfl (Nat.le_of_ble_eq_true rfl) ?_
  unfold F_AS_inflateIf
  refine d_st (fun hX _ => g_gsCompact 3 (hX _) q_814 dAS_inflateIfNeededFor_a7421_0 rfl) rfl ?_
  refine d_if (fun hX _ => g_if_eq 21 6 (hX _) dAS_inflateIfNeededFor_a7421_3 (by decide) rfl) (fun _ => ?_) (fun _ => ?_)
  · exact d_vret rfl rfl dAS_inflateIfNeededFor_a7421_21
  · refine d_st (fun hX _ => g_aload_n 7 0 (hX _) dAS_inflateIfNeededFor_a7421_6 rfl rfl) rfl ?_
    refine d_g (fun hX _ => e_AS_22 10 (hX _) dAS_inflateIfNeededFor_a7421_7 rfl) rfl ?_
    refine d_st (fun hX _ => g_aloadS_n 11 1 (hX _) dAS_inflateIfNeededFor_a7421_10 rfl rfl) rfl ?_
    refine d_callJ 14 (k_J0_coder l g M s1) (F_J0_coder_i s1) lk_J0_coder q_754 ws_J0_coder (by decide) rfl (Nat.le_of_ble_eq_true rfl) dAS_inflateIfNeededFor_a7421_11 rfl (fun r1 _ => ?_)
    show GD _ _ _ _ _ (.int r1 :: [.int (kI M a0 1)]) M
    refine d_if (fun hX _ => g_icmp_eq 21 17 (hX _) dAS_inflateIfNeededFor_a7421_14 (by decide) rfl) (fun _ => ?_) (fun _ => ?_)
    · exact d_vret rfl rfl dAS_inflateIfNeededFor_a7421_21
    · exact d_none
set_option maxRecDepth 100000 in
set_option maxHeartbeats 4000000 in
theorem k_J0_getBytesS (l : Launch) (g : kG) (N : Nat) (M : kMem) (s0 : Nat) (a1 : Nat) (x2 : Int32) (x3 : Int32) : kMetD l g yJ0_getBytes_840e7 cJ0_getBytes_840e7 4 none 2 [.retAddr (g.2.2.2.1 s0), .ref a1, .int x2, .int x3] M (fun r : kMem => (none, r)) (F_J0_getBytesS N M s0 a1 x2 x3) := by
  refine k_ofD (lv := [(0, .retAddr (g.2.2.2.1 s0)), (1, .ref a1), (2, .int x2), (3, .int x3)]) RJ0 (by decide) rfl rfl (Nat.le_of_ble_eq_true rfl) ?_
  unfold F_J0_getBytesS
  refine d_st (fun hX _ => g_aloadS_n 1 0 (hX _) dJ0_getBytes_840e7_0 rfl rfl) rfl ?_
  refine d_callJ 4 (k_J0_coder l g M s0) (F_J0_coder_i s0) lk_J0_coder q_379 ws_J0_coder (by decide) rfl (Nat.le_of_ble_eq_true rfl) dJ0_getBytes_840e7_1 rfl (fun r1 _ => ?_)
  show GD _ _ _ _ _ (.int r1 :: []) M
  refine d_st (fun hX _ => g_iload_n 5 3 (hX _) dJ0_getBytes_840e7_4 rfl rfl) rfl ?_
  refine d_ifN (fun hX _ => g_icmp_ne 28 8 (hX _) dJ0_getBytes_840e7_5 (by decide) rfl) (fun _ => ?_) (fun _ => ?_)
  · exact d_none
  · refine d_st (fun hX _ => g_aloadS_n 9 0 (hX _) dJ0_getBytes_840e7_8 rfl rfl) rfl ?_
    refine d_g (fun hX _ => g_sval 12 (hX _) dJ0_getBytes_840e7_9 rfl) rfl ?_
    refine d_st (fun hX _ => g_iconst 13 (hX _) 0 dJ0_getBytes_840e7_12 rfl kc_i_0) rfl ?_
    refine d_st (fun hX _ => g_aload_n 14 1 (hX _) dJ0_getBytes_840e7_13 rfl rfl) rfl ?_
    refine d_st (fun hX _ => g_iload_n 15 2 (hX _) dJ0_getBytes_840e7_14 rfl rfl) rfl ?_
    refine d_st (fun hX _ => g_iload_n 16 3 (hX _) dJ0_getBytes_840e7_15 rfl rfl) rfl ?_
    refine d_st (fun hX _ => g_ishl 17 (hX _) dJ0_getBytes_840e7_16 rfl) rfl ?_
    refine d_st (fun hX _ => g_aloadS_n 18 0 (hX _) dJ0_getBytes_840e7_17 rfl rfl) rfl ?_
    refine d_g (fun hX _ => g_sval 21 (hX _) dJ0_getBytes_840e7_18 rfl) rfl ?_
    refine d_g (fun hX _ => g_slen 22 (hX _) dJ0_getBytes_840e7_21 rfl) rfl ?_
    refine d_g (fun hX _ => g_copyT 25 (hX _) q_861 dJ0_getBytes_840e7_22 rfl (Nat.le_of_ble_eq_true rfl) (by decide)) rfl ?_
    refine d_klM (fun M2 hM2 => ?_)
    refine d_st (fun hX _ => g_goto 43 (hX _) dJ0_getBytes_840e7_25 (by decide)) rfl ?_
    exact d_vret rfl rfl dJ0_getBytes_840e7_43
set_option maxRecDepth 100000 in
set_option maxHeartbeats 4000000 in
theorem k_AS_putStringAt (l : Launch) (g : kG) (N : Nat) (M : kMem) (a0 : Nat) (x1 : Int32) (s2 : Nat) : kMetD l g yAS_putStringAt_47b60 cAS_putStringAt_47b60 3 none 3 [.ref a0, .int x1, .retAddr (g.2.2.2.1 s2)] M (fun r : kMem => (none, r)) (F_AS_putStringAt N M a0 x1 s2) := by
  refine k_ofD (lv := [(0, .ref a0), (1, .int x1), (2, .retAddr (g.2.2.2.1 s2))]) RAS (by decide) rfl rfl (Nat.le_of_ble_eq_true rfl) ?_
  unfold F_AS_putStringAt
  refine d_st (fun hX _ => g_aload_n 1 0 (hX _) dAS_putStringAt_47b60_0 rfl rfl) rfl ?_
  refine d_st (fun hX _ => g_aloadS_n 2 2 (hX _) dAS_putStringAt_47b60_1 rfl rfl) rfl ?_
  refine d_callV 5 (k_AS_inflateIf l g N M a0 s2) lk_AS_inflateIfNeededFor_a7421 (ci := 39) (T := TSB) (N := 4) rfl (Nat.le_of_ble_eq_true rfl) q_834 (fun s args ht => ht _ (kwx 3 rfl rfl)) (by decide) rfl (Nat.le_of_ble_eq_true rfl) dAS_putStringAt_47b60_2 rfl (fun r1 _ => ?_)
  show GD _ _ _ _ _ [] M
  refine d_st (fun hX _ => g_aloadS_n 6 2 (hX _) dAS_putStringAt_47b60_5 rfl rfl) rfl ?_
  refine d_st (fun hX _ => g_aload_n 7 0 (hX _) dAS_putStringAt_47b60_6 rfl rfl) rfl ?_
  refine d_g (fun hX _ => e_AS_15 10 (hX _) dAS_putStringAt_47b60_7 rfl) rfl ?_
  refine d_st (fun hX _ => g_iload_n 11 1 (hX _) dAS_putStringAt_47b60_10 rfl rfl) rfl ?_
  refine d_st (fun hX _ => g_aload_n 12 0 (hX _) dAS_putStringAt_47b60_11 rfl rfl) rfl ?_
  refine d_g (fun hX _ => e_AS_22 15 (hX _) dAS_putStringAt_47b60_12 rfl) rfl ?_
  refine d_callVS 18 (k_J0_getBytesS l g N M s2 (kR M a0 0) x1 (kI M a0 1)) lk_J0_getBytes_840e7  q_857 (fun s args ht => ht _ q_859) (by decide) rfl (Nat.le_of_ble_eq_true rfl) dAS_putStringAt_47b60_15 rfl (fun r2 _ => ?_)
  show GD _ _ _ _ _ [] r2
  exact d_vret rfl rfl dAS_putStringAt_47b60_18
set_option maxRecDepth 100000 in
set_option maxHeartbeats 4000000 in
theorem k_AS_appendS (l : Launch) (g : kG) (N : Nat) (M : kMem) (a0 : Nat) (s1 : Nat) : kMetD l g yAS_append_cf1ce cAS_append_cf1ce 3 (some (.object "java/lang/AbstractStringBuilder")) 5 [.ref a0, .retAddr (g.2.2.2.1 s1)] M (fun r : Nat × kMem => (some (.ref r.1), r.2)) (F_AS_appendS N M a0 s1) := by
  refine k_ofD (lv := [(0, .ref a0), (1, .retAddr (g.2.2.2.1 s1))]) RAS (by decide) rfl rfl (Nat.le_of_ble_eq_true rfl) ?_
  unfold F_AS_appendS
  refine d_st (fun hX _ => g_aloadS_n 1 1 (hX _) dAS_append_cf1ce_0 rfl rfl) rfl ?_
  refine d_st (fun hX _ => g_nnC 9 (hX _) dAS_append_cf1ce_1 (by decide)) rfl ?_
  refine d_st (fun hX _ => g_aloadS_n 10 1 (hX _) dAS_append_cf1ce_9 rfl rfl) rfl ?_
  refine d_callJ 13 (k_J0_length l g M s1) (F_J0_length_i s1) lk_J0_length q_751 ws_J0_length (by decide) rfl (Nat.le_of_ble_eq_true rfl) dAS_append_cf1ce_10 rfl (fun r1 _ => ?_)
  show GD _ _ _ _ _ (.int r1 :: []) M
  refine d_st (fun hX _ => g_istore_n 14 2 [(2, .int r1), (0, .ref a0), (1, .retAddr (g.2.2.2.1 s1))] (hX _) dAS_append_cf1ce_13 rfl rfl (Nat.le_of_ble_eq_true rfl) rfl) rfl ?_
  refine d_st (fun hX _ => g_aload_n 15 1 (hX _) dAS_append_cf1ce_14 rfl rfl) rfl ?_
  refine d_st (fun hX _ => g_aload_n 16 1 (hX _) dAS_append_cf1ce_15 rfl rfl) rfl ?_
  refine d_g (fun hX _ => e_AS_79 19 (hX _) dAS_append_cf1ce_16 rfl) rfl ?_
  refine d_st (fun hX _ => g_iload_n 20 0 (hX _) dAS_append_cf1ce_19 rfl rfl) rfl ?_
  refine d_st (fun hX _ => g_iadd 21 (hX _) dAS_append_cf1ce_20 rfl) rfl ?_
  refine d_callV 24 (k_AS_ensure l g N M a0 ((kI M a0 3) + r1)) lk_AS_ensureCapacityInternal_d00df (ci := 39) (T := TSB) (N := 4) rfl (Nat.le_of_ble_eq_true rfl) q_779 (fun s args ht => ht _ (kwx 0 rfl rfl)) (by decide) rfl (Nat.le_of_ble_eq_true rfl) dAS_append_cf1ce_21 rfl (fun r2 _ => ?_)
  show GD _ _ _ _ _ [] r2
  refine d_st (fun hX _ => g_aload_n 25 1 (hX _) dAS_append_cf1ce_24 rfl rfl) rfl ?_
  refine d_st (fun hX _ => g_aload_n 26 1 (hX _) dAS_append_cf1ce_25 rfl rfl) rfl ?_
  refine d_g (fun hX _ => e_AS_79 29 (hX _) dAS_append_cf1ce_26 rfl) rfl ?_
  refine d_st (fun hX _ => g_aloadS_n 30 2 (hX _) dAS_append_cf1ce_29 rfl rfl) rfl ?_
  refine d_callV 33 (k_AS_putStringAt l g N r2 a0 (kI r2 a0 3) s1) lk_AS_putStringAt_47b60 (ci := 39) (T := TSB) (N := 4) rfl (Nat.le_of_ble_eq_true rfl) q_830 (fun s args ht => ht _ (kwx 2 rfl rfl)) (by decide) rfl (Nat.le_of_ble_eq_true rfl) dAS_append_cf1ce_30 rfl (fun r3 _ => ?_)
  show GD _ _ _ _ _ [] r3
  refine d_st (fun hX _ => g_aload_n 34 1 (hX _) dAS_append_cf1ce_33 rfl rfl) rfl ?_
  refine d_st (fun hX _ => g_dup 35 (hX _) dAS_append_cf1ce_34 rfl rfl) rfl ?_
  refine d_g (fun hX _ => e_AS_79 38 (hX _) dAS_append_cf1ce_35 rfl) rfl ?_
  refine d_st (fun hX _ => g_iload_n 39 0 (hX _) dAS_append_cf1ce_38 rfl rfl) rfl ?_
  refine d_st (fun hX _ => g_iadd 40 (hX _) dAS_append_cf1ce_39 rfl) rfl ?_
  refine d_g (fun hX _ => ui_AS_79 43 (hX _) dAS_append_cf1ce_40 rfl) rfl ?_
  refine d_klM (fun M4 hM4 => ?_)
  refine d_st (fun hX _ => g_aload_n 44 1 (hX _) dAS_append_cf1ce_43 rfl rfl) rfl ?_
  exact d_aret rfl (Or.inl ⟨_, rfl⟩) rfl dAS_append_cf1ce_44
set_option maxRecDepth 100000 in
set_option maxHeartbeats 4000000 in
theorem k_J1_canEncode (l : Launch) (g : kG) (N : Nat) (M : kMem) (x0 : Int32) : kMetD l g yJ1_canEncode_fc78d cJ1_canEncode_fc78d 1 (some .boolean) 2 [.int x0] M (fun r : Int32 => (some (.int r), M)) (F_J1_canEncode N M x0) := by
  refine k_ofD (lv := [(0, .int x0)]) RJ1 (by decide) rfl rfl (Nat.le_of_ble_eq_true rfl) ?_
  unfold F_J1_canEncode
  refine d_st (fun hX _ => g_iload_n 1 0 (hX _) dJ1_canEncode_fc78d_0 rfl rfl) rfl ?_
  refine d_st (fun hX _ => g_sipush 4 (hX _) 255 dJ1_canEncode_fc78d_1 rfl kc_s_255) rfl ?_
  refine d_if (fun hX _ => g_icmp_gt 11 7 (hX _) dJ1_canEncode_fc78d_4 (by decide) rfl) (fun _ => ?_) (fun _ => ?_)
  · refine d_st (fun hX _ => g_iconst 12 (hX _) 0 dJ1_canEncode_fc78d_11 rfl kc_i_0) rfl ?_
    exact d_zretL rfl rfl rfl dJ1_canEncode_fc78d_12
  · refine d_st (fun hX _ => g_iconst 8 (hX _) 1 dJ1_canEncode_fc78d_7 rfl kc_i_1) rfl ?_
    refine d_st (fun hX _ => g_goto 12 (hX _) dJ1_canEncode_fc78d_8 (by decide)) rfl ?_
    exact d_zretL rfl rfl rfl dJ1_canEncode_fc78d_12
set_option maxRecDepth 100000 in
set_option maxHeartbeats 4000000 in
theorem k_AS_appendC_56 {l : Launch} {g : kG} {L0 : Nat} (N : Nat) : ∀ (M : kMem) (a0 : Nat) (x1 : Int32), GD (l, cAS_append_3fe6f, 2, RAS, g, 5, L0, (some (.object "java/lang/AbstractStringBuilder")), yAS_append_3fe6f.name) (fun r : Nat × kMem => (some (.ref r.1), r.2)) (F_AS_appendC_56 N M a0 x1) 56 [(0, .ref a0), (1, .int x1)] [] M := by
  intro M a0 x1
  unfold F_AS_appendC_56
  exact d_none
set_option maxRecDepth 100000 in
set_option maxHeartbeats 4000000 in
theorem k_AS_appendC_45 {l : Launch} {g : kG} {L0 : Nat} (N : Nat) : ∀ (M : kMem) (a0 : Nat) (x1 : Int32), GD (l, cAS_append_3fe6f, 2, RAS, g, 5, L0, (some (.object "java/lang/AbstractStringBuilder")), yAS_append_3fe6f.name) (fun r : Nat × kMem => (some (.ref r.1), r.2)) (F_AS_appendC_45 N M a0 x1) 45 [(0, .ref a0), (1, .int x1)] [] M := by
  intro M a0 x1
  unfold F_AS_appendC_45
  refine d_st (fun hX _ => g_aload_n 46 0 (hX _) dAS_append_3fe6f_45 rfl rfl) rfl ?_
  refine d_callV 49 (k_AS_isLatin1 l g N M a0) lk_AS_isLatin1_aae02 (ci := 39) (T := TSB) (N := 4) rfl (Nat.le_of_ble_eq_true rfl) q_809 (fun s args ht => ht _ q_812) (by decide) rfl (Nat.le_of_ble_eq_true rfl) dAS_append_3fe6f_46 rfl (fun r3 _ => ?_)
  show GD _ _ _ _ _ [.int r3] M
  refine d_if (fun hX _ => g_if_eq 56 52 (hX _) dAS_append_3fe6f_49 (by decide) rfl) (fun _ => ?_) (fun _ => ?_)
  · exact k_AS_appendC_56 N M a0 x1
  · exact d_none
set_option maxRecDepth 100000 in
set_option maxHeartbeats 4000000 in
theorem k_AS_appendC (l : Launch) (g : kG) (N : Nat) (M : kMem) (a0 : Nat) (x1 : Int32) : kMetD l g yAS_append_3fe6f cAS_append_3fe6f 2 (some (.object "java/lang/AbstractStringBuilder")) 5 [.ref a0, .int x1] M (fun r : Nat × kMem => (some (.ref r.1), r.2)) (F_AS_appendC N M a0 x1) := by
  refine k_ofD (lv := [(0, .ref a0), (1, .int x1)]) RAS (by decide) rfl rfl (Nat.le_of_ble_eq_true rfl) ?_
  unfold F_AS_appendC
  refine d_st (fun hX _ => g_aload_n 1 0 (hX _) dAS_append_3fe6f_0 rfl rfl) rfl ?_
  refine d_st (fun hX _ => g_aload_n 2 0 (hX _) dAS_append_3fe6f_1 rfl rfl) rfl ?_
  refine d_g (fun hX _ => e_AS_79 5 (hX _) dAS_append_3fe6f_2 rfl) rfl ?_
  refine d_st (fun hX _ => g_iconst 6 (hX _) 1 dAS_append_3fe6f_5 rfl kc_i_1) rfl ?_
  refine d_st (fun hX _ => g_iadd 7 (hX _) dAS_append_3fe6f_6 rfl) rfl ?_
  refine d_callV 10 (k_AS_ensure l g N M a0 ((kI M a0 3) + 1)) lk_AS_ensureCapacityInternal_d00df (ci := 39) (T := TSB) (N := 4) rfl (Nat.le_of_ble_eq_true rfl) q_779 (fun s args ht => ht _ (kwx 0 rfl rfl)) (by decide) rfl (Nat.le_of_ble_eq_true rfl) dAS_append_3fe6f_7 rfl (fun r1 _ => ?_)
  show GD _ _ _ _ _ [] r1
  refine d_st (fun hX _ => g_aload_n 11 0 (hX _) dAS_append_3fe6f_10 rfl rfl) rfl ?_
  refine d_callV 14 (k_AS_isLatin1 l g N r1 a0) lk_AS_isLatin1_aae02 (ci := 39) (T := TSB) (N := 4) rfl (Nat.le_of_ble_eq_true rfl) q_809 (fun s args ht => ht _ q_812) (by decide) rfl (Nat.le_of_ble_eq_true rfl) dAS_append_3fe6f_11 rfl (fun r2 _ => ?_)
  show GD _ _ _ _ _ [.int r2] r1
  refine d_if (fun hX _ => g_if_eq 45 17 (hX _) dAS_append_3fe6f_14 (by decide) rfl) (fun _ => ?_) (fun _ => ?_)
  · exact k_AS_appendC_45 N r1 a0 x1
  · refine d_st (fun hX _ => g_iload_n 18 1 (hX _) dAS_append_3fe6f_17 rfl rfl) rfl ?_
    refine d_callS 21 (k_J1_canEncode l g N r1 x1) lk_J1_canEncode_fc78d q_907 (by decide) rfl (Nat.le_of_ble_eq_true rfl) dAS_append_3fe6f_18 rfl (fun r5 _ => ?_)
    show GD _ _ _ _ _ [.int r5] r1
    refine d_if (fun hX _ => g_if_eq 45 24 (hX _) dAS_append_3fe6f_21 (by decide) rfl) (fun _ => ?_) (fun _ => ?_)
    · exact k_AS_appendC_45 N r1 a0 x1
    · refine d_st (fun hX _ => g_aload_n 25 0 (hX _) dAS_append_3fe6f_24 rfl rfl) rfl ?_
      refine d_g (fun hX _ => e_AS_15 28 (hX _) dAS_append_3fe6f_25 rfl) rfl ?_
      refine d_st (fun hX _ => g_aload_n 29 0 (hX _) dAS_append_3fe6f_28 rfl rfl) rfl ?_
      refine d_st (fun hX _ => g_dup 30 (hX _) dAS_append_3fe6f_29 rfl rfl) rfl ?_
      refine d_g (fun hX _ => e_AS_79 33 (hX _) dAS_append_3fe6f_30 rfl) rfl ?_
      refine d_st (fun hX _ => g_dup_x1 34 (hX _) dAS_append_3fe6f_33 rfl rfl rfl) rfl ?_
      refine d_st (fun hX _ => g_iconst 35 (hX _) 1 dAS_append_3fe6f_34 rfl kc_i_1) rfl ?_
      refine d_st (fun hX _ => g_iadd 36 (hX _) dAS_append_3fe6f_35 rfl) rfl ?_
      refine d_g (fun hX _ => ui_AS_79 39 (hX _) dAS_append_3fe6f_36 rfl) rfl ?_
      refine d_klM (fun M6 hM6 => ?_)
      refine d_st (fun hX _ => g_iload_n 40 1 (hX _) dAS_append_3fe6f_39 rfl rfl) rfl ?_
      refine d_st (fun hX _ => g_i2b 41 (hX _) dAS_append_3fe6f_40 rfl) rfl ?_
      refine d_g (fun hX _ => g_bast 42 (hX _) dAS_append_3fe6f_41 rfl) rfl ?_
      refine d_klM (fun M7 hM7 => ?_)
      refine d_st (fun hX _ => g_goto 75 (hX _) dAS_append_3fe6f_42 (by decide)) rfl ?_
      refine d_st (fun hX _ => g_aload_n 76 0 (hX _) dAS_append_3fe6f_75 rfl rfl) rfl ?_
      exact d_aret rfl (Or.inl ⟨_, rfl⟩) rfl dAS_append_3fe6f_76
set_option maxRecDepth 100000 in
set_option maxHeartbeats 4000000 in
theorem k_IN_stringSize_16 {l : Launch} {g : kG} {L0 : Nat} (N : Nat) (M : kMem) : ∀ (n : Nat) (x0 : Int32) (x1 : Int32) (x2 : Int32) (x3 : Int32), GD (l, cIN_stringSize_0f7a4, 4, RIN, g, 2, L0, (some .int), yIN_stringSize_0f7a4.name) (fun r : Int32 => (some (.int r), M)) (F_IN_stringSize_16 N M n x0 x1 x2 x3) 16 [(0, .int x0), (1, .int x1), (2, .int x2), (3, .int x3)] [] M := by
  intro n
  induction n with
  | zero => intro _ _ _ _; exact d_none
  | succ n ih =>
    intro x0 x1 x2 x3
    unfold F_IN_stringSize_16
    refine d_st (fun hX _ => g_iload_n 17 3 (hX _) dIN_stringSize_0f7a4_16 rfl rfl) rfl ?_
    refine d_st (fun hX _ => g_bipush 19 (hX _) 10 dIN_stringSize_0f7a4_17 rfl kc_b_10) rfl ?_
    refine d_ifN (fun hX _ => g_icmp_ge 42 22 (hX _) dIN_stringSize_0f7a4_19 (by decide) rfl) (fun _ => ?_) (fun _ => ?_)
    · refine d_st (fun hX _ => g_bipush 44 (hX _) 10 dIN_stringSize_0f7a4_42 rfl kc_b_10) rfl ?_
      refine d_st (fun hX _ => g_iload_n 45 1 (hX _) dIN_stringSize_0f7a4_44 rfl rfl) rfl ?_
      refine d_st (fun hX _ => g_iadd 46 (hX _) dIN_stringSize_0f7a4_45 rfl) rfl ?_
      exact d_iret rfl rfl dIN_stringSize_0f7a4_46
    · refine d_st (fun hX _ => g_iload_n 23 0 (hX _) dIN_stringSize_0f7a4_22 rfl rfl) rfl ?_
      refine d_st (fun hX _ => g_iload_n 24 2 (hX _) dIN_stringSize_0f7a4_23 rfl rfl) rfl ?_
      refine d_ifN (fun hX _ => g_icmp_le 31 27 (hX _) dIN_stringSize_0f7a4_24 (by decide) rfl) (fun _ => ?_) (fun _ => ?_)
      · refine d_st (fun hX _ => g_bipush 33 (hX _) 10 dIN_stringSize_0f7a4_31 rfl kc_b_10) rfl ?_
        refine d_st (fun hX _ => g_iload_n 34 2 (hX _) dIN_stringSize_0f7a4_33 rfl rfl) rfl ?_
        refine d_st (fun hX _ => g_imul 35 (hX _) dIN_stringSize_0f7a4_34 rfl) rfl ?_
        refine d_klI (fun v1 hv1 => ?_)
        refine d_st (fun hX _ => g_istore_n 36 2 [(2, .int v1), (0, .int x0), (1, .int x1), (3, .int x3)] (hX _) dIN_stringSize_0f7a4_35 rfl rfl (Nat.le_of_ble_eq_true rfl) rfl) rfl ?_
        refine d_kl (fun v2 hv2 => ?_)
        refine d_st (fun hX _ => g_iinc 39 3 3 v2 [(3, .int v2), (2, .int v1), (0, .int x0), (1, .int x1)] (hX _) dIN_stringSize_0f7a4_36 rfl rfl (by rw [hv2, kc_i_1]) (Nat.le_of_ble_eq_true rfl) rfl) rfl ?_
        refine d_st (fun hX _ => g_goto 16 (hX _) dIN_stringSize_0f7a4_39 (by decide)) rfl ?_
        refine d_st (fun hX _ => g_lv [2, 3, 1, 0] rfl) rfl ?_
        exact ih x0 x1 v1 v2
      · refine d_st (fun hX _ => g_iload_n 28 3 (hX _) dIN_stringSize_0f7a4_27 rfl rfl) rfl ?_
        refine d_st (fun hX _ => g_iload_n 29 1 (hX _) dIN_stringSize_0f7a4_28 rfl rfl) rfl ?_
        refine d_st (fun hX _ => g_iadd 30 (hX _) dIN_stringSize_0f7a4_29 rfl) rfl ?_
        exact d_iret rfl rfl dIN_stringSize_0f7a4_30
set_option maxRecDepth 100000 in
set_option maxHeartbeats 4000000 in
theorem k_IN_stringSize (l : Launch) (g : kG) (N : Nat) (M : kMem) (x0 : Int32) : kMetD l g yIN_stringSize_0f7a4 cIN_stringSize_0f7a4 4 (some .int) 2 [.int x0] M (fun r : Int32 => (some (.int r), M)) (F_IN_stringSize N M x0) := by
  refine k_ofD (lv := [(0, .int x0)]) RIN (by decide) rfl rfl (Nat.le_of_ble_eq_true rfl) ?_
  unfold F_IN_stringSize
  refine d_st (fun hX _ => g_iconst 1 (hX _) 1 dIN_stringSize_0f7a4_0 rfl kc_i_1) rfl ?_
  refine d_st (fun hX _ => g_istore_n 2 1 [(1, .int 1), (0, .int x0)] (hX _) dIN_stringSize_0f7a4_1 rfl rfl (Nat.le_of_ble_eq_true rfl) rfl) rfl ?_
  refine d_st (fun hX _ => g_iload_n 3 1 (hX _) dIN_stringSize_0f7a4_2 rfl rfl) rfl ?_
  refine d_if (fun hX _ => g_if_lt 11 6 (hX _) dIN_stringSize_0f7a4_3 (by decide) rfl) (fun _ => ?_) (fun _ => ?_)
  · refine d_st (fun hX _ => g_bipush 13 (hX _) (-10) dIN_stringSize_0f7a4_11 rfl kc_b_m10) rfl ?_
    refine d_st (fun hX _ => g_istore_n 14 2 [(2, .int (-10)), (1, .int 1), (0, .int x0)] (hX _) dIN_stringSize_0f7a4_13 rfl rfl (Nat.le_of_ble_eq_true rfl) rfl) rfl ?_
    refine d_st (fun hX _ => g_iconst 15 (hX _) 1 dIN_stringSize_0f7a4_14 rfl kc_i_1) rfl ?_
    refine d_st (fun hX _ => g_istore_n 16 3 [(3, .int 1), (2, .int (-10)), (1, .int 1), (0, .int x0)] (hX _) dIN_stringSize_0f7a4_15 rfl rfl (Nat.le_of_ble_eq_true rfl) rfl) rfl ?_
    refine d_st (fun hX _ => g_lv [3, 2, 1, 0] rfl) rfl ?_
    exact k_IN_stringSize_16 N M N x0 1 (-10) 1
  · refine d_st (fun hX _ => g_iconst 7 (hX _) 0 dIN_stringSize_0f7a4_6 rfl kc_i_0) rfl ?_
    refine d_st (fun hX _ => g_istore_n 8 1 [(1, .int 0), (0, .int x0)] (hX _) dIN_stringSize_0f7a4_7 rfl rfl (Nat.le_of_ble_eq_true rfl) rfl) rfl ?_
    refine d_st (fun hX _ => g_iload_n 9 1 (hX _) dIN_stringSize_0f7a4_8 rfl rfl) rfl ?_
    refine d_st (fun hX _ => g_ineg 10 (hX _) dIN_stringSize_0f7a4_9 rfl) rfl ?_
    refine d_klI (fun v3 hv3 => ?_)
    refine d_st (fun hX _ => g_istore_n 11 0 [(0, .int v3), (1, .int 0)] (hX _) dIN_stringSize_0f7a4_10 rfl rfl (Nat.le_of_ble_eq_true rfl) rfl) rfl ?_
    refine d_st (fun hX _ => g_bipush 13 (hX _) (-10) dIN_stringSize_0f7a4_11 rfl kc_b_m10) rfl ?_
    refine d_st (fun hX _ => g_istore_n 14 2 [(2, .int (-10)), (0, .int v3), (1, .int 0)] (hX _) dIN_stringSize_0f7a4_13 rfl rfl (Nat.le_of_ble_eq_true rfl) rfl) rfl ?_
    refine d_st (fun hX _ => g_iconst 15 (hX _) 1 dIN_stringSize_0f7a4_14 rfl kc_i_1) rfl ?_
    refine d_st (fun hX _ => g_istore_n 16 3 [(3, .int 1), (2, .int (-10)), (0, .int v3), (1, .int 0)] (hX _) dIN_stringSize_0f7a4_15 rfl rfl (Nat.le_of_ble_eq_true rfl) rfl) rfl ?_
    refine d_st (fun hX _ => g_lv [2, 3, 1, 0] rfl) rfl ?_
    exact k_IN_stringSize_16 N M N v3 0 (-10) 1
set_option maxRecDepth 100000 in
set_option maxHeartbeats 4000000 in
theorem k_IN_getChars_22 {l : Launch} {g : kG} {L0 : Nat} (N : Nat) : ∀ (n : Nat) (M : kMem) (x0 : Int32) (a2 : Nat) (x5 : Int32) (x6 : Int32), GD (l, cIN_getChars_ba4f3, 7, RIN, g, 2, L0, (some .int), yIN_getChars_ba4f3.name) (fun r : Int32 × kMem => (some (.int r.1), r.2)) (F_IN_getChars_22 N n M x0 a2 x5 x6) 22 [(0, .int x0), (2, .ref a2), (5, .int x5), (6, .int x6)] [] M := by
  intro n
  induction n with
  | zero => intro _ _ _ _ _; exact d_none
  | succ n ih =>
    intro M x0 a2 x5 x6
    unfold F_IN_getChars_22
    refine d_st (fun hX _ => g_iload_n 23 0 (hX _) dIN_getChars_ba4f3_22 rfl rfl) rfl ?_
    refine d_st (fun hX _ => g_bipush 25 (hX _) (-100) dIN_getChars_ba4f3_23 rfl kc_b_m100) rfl ?_
    refine d_if (fun hX _ => g_icmp_gt 72 28 (hX _) dIN_getChars_ba4f3_25 (by decide) rfl) (fun _ => ?_) (fun _ => ?_)
    · refine d_st (fun hX _ => g_aload_n 73 1 (hX _) dIN_getChars_ba4f3_72 rfl rfl) rfl ?_
      refine d_kl (fun v1 hv1 => ?_)
      refine d_st (fun hX _ => g_iinc 76 5 2 v1 [(5, .int v1), (0, .int x0), (2, .ref a2), (6, .int x6)] (hX _) dIN_getChars_ba4f3_73 rfl rfl (by rw [hv1, kc_i_m1]) (Nat.le_of_ble_eq_true rfl) rfl) rfl ?_
      refine d_st (fun hX _ => g_iload 78 0 (hX _) dIN_getChars_ba4f3_76 rfl rfl) rfl ?_
      refine d_st (fun hX _ => g_gsOnes 81 (hX _) q_888 dIN_getChars_ba4f3_78 rfl) rfl ?_
      refine d_st (fun hX _ => g_iload_n 82 1 (hX _) dIN_getChars_ba4f3_81 rfl rfl) rfl ?_
      refine d_st (fun hX _ => g_ineg 83 (hX _) dIN_getChars_ba4f3_82 rfl) rfl ?_
      refine d_g (fun hX _ => g_onesAt 84 (hX _) dIN_getChars_ba4f3_83 rfl) rfl ?_
      refine d_g (fun hX _ => g_bast 85 (hX _) dIN_getChars_ba4f3_84 rfl) rfl ?_
      refine d_klM (fun M2 hM2 => ?_)
      refine d_st (fun hX _ => g_iload_n 86 1 (hX _) dIN_getChars_ba4f3_85 rfl rfl) rfl ?_
      refine d_st (fun hX _ => g_bipush 88 (hX _) (-9) dIN_getChars_ba4f3_86 rfl kc_b_m9) rfl ?_
      refine d_ifN (fun hX _ => g_icmp_ge 104 91 (hX _) dIN_getChars_ba4f3_88 (by decide) rfl) (fun _ => ?_) (fun _ => ?_)
      · refine d_st (fun hX _ => g_iload 106 3 (hX _) dIN_getChars_ba4f3_104 rfl rfl) rfl ?_
        refine d_if (fun hX _ => g_if_eq 118 109 (hX _) dIN_getChars_ba4f3_106 (by decide) rfl) (fun _ => ?_) (fun _ => ?_)
        · refine d_st (fun hX _ => g_iload 120 0 (hX _) dIN_getChars_ba4f3_118 rfl rfl) rfl ?_
          exact d_iret rfl rfl dIN_getChars_ba4f3_120
        · refine d_st (fun hX _ => g_aload_n 110 2 (hX _) dIN_getChars_ba4f3_109 rfl rfl) rfl ?_
          refine d_kl (fun v3 hv3 => ?_)
          refine d_st (fun hX _ => g_iinc 113 5 0 v3 [(5, .int v3), (0, .int x0), (2, .ref a2), (6, .int x6)] (hX _) dIN_getChars_ba4f3_110 rfl rfl (by rw [hv3, kc_i_m1]) (Nat.le_of_ble_eq_true rfl) rfl) rfl ?_
          refine d_st (fun hX _ => g_iload 115 0 (hX _) dIN_getChars_ba4f3_113 rfl rfl) rfl ?_
          refine d_st (fun hX _ => g_bipush 117 (hX _) 45 dIN_getChars_ba4f3_115 rfl kc_b_45) rfl ?_
          refine d_g (fun hX _ => g_bast 118 (hX _) dIN_getChars_ba4f3_117 rfl) rfl ?_
          refine d_klM (fun M4 hM4 => ?_)
          refine d_st (fun hX _ => g_iload 120 0 (hX _) dIN_getChars_ba4f3_118 rfl rfl) rfl ?_
          exact d_iret rfl rfl dIN_getChars_ba4f3_120
      · refine d_st (fun hX _ => g_aload_n 92 2 (hX _) dIN_getChars_ba4f3_91 rfl rfl) rfl ?_
        refine d_kl (fun v5 hv5 => ?_)
        refine d_st (fun hX _ => g_iinc 95 5 0 v5 [(5, .int v5), (0, .int x0), (2, .ref a2), (6, .int x6)] (hX _) dIN_getChars_ba4f3_92 rfl rfl (by rw [hv5, kc_i_m1]) (Nat.le_of_ble_eq_true rfl) rfl) rfl ?_
        refine d_st (fun hX _ => g_iload 97 0 (hX _) dIN_getChars_ba4f3_95 rfl rfl) rfl ?_
        refine d_st (fun hX _ => g_gsTens 100 (hX _) q_890 dIN_getChars_ba4f3_97 rfl) rfl ?_
        refine d_st (fun hX _ => g_iload_n 101 1 (hX _) dIN_getChars_ba4f3_100 rfl rfl) rfl ?_
        refine d_st (fun hX _ => g_ineg 102 (hX _) dIN_getChars_ba4f3_101 rfl) rfl ?_
        refine d_g (fun hX _ => g_tensAt 103 (hX _) dIN_getChars_ba4f3_102 rfl) rfl ?_
        refine d_g (fun hX _ => g_bast 104 (hX _) dIN_getChars_ba4f3_103 rfl) rfl ?_
        refine d_klM (fun M6 hM6 => ?_)
        refine d_st (fun hX _ => g_iload 106 3 (hX _) dIN_getChars_ba4f3_104 rfl rfl) rfl ?_
        refine d_if (fun hX _ => g_if_eq 118 109 (hX _) dIN_getChars_ba4f3_106 (by decide) rfl) (fun _ => ?_) (fun _ => ?_)
        · refine d_st (fun hX _ => g_iload 120 0 (hX _) dIN_getChars_ba4f3_118 rfl rfl) rfl ?_
          exact d_iret rfl rfl dIN_getChars_ba4f3_120
        · refine d_st (fun hX _ => g_aload_n 110 2 (hX _) dIN_getChars_ba4f3_109 rfl rfl) rfl ?_
          refine d_kl (fun v7 hv7 => ?_)
          refine d_st (fun hX _ => g_iinc 113 5 0 v7 [(5, .int v7), (0, .int x0), (2, .ref a2), (6, .int x6)] (hX _) dIN_getChars_ba4f3_110 rfl rfl (by rw [hv7, kc_i_m1]) (Nat.le_of_ble_eq_true rfl) rfl) rfl ?_
          refine d_st (fun hX _ => g_iload 115 0 (hX _) dIN_getChars_ba4f3_113 rfl rfl) rfl ?_
          refine d_st (fun hX _ => g_bipush 117 (hX _) 45 dIN_getChars_ba4f3_115 rfl kc_b_45) rfl ?_
          refine d_g (fun hX _ => g_bast 118 (hX _) dIN_getChars_ba4f3_117 rfl) rfl ?_
          refine d_klM (fun M8 hM8 => ?_)
          refine d_st (fun hX _ => g_iload 120 0 (hX _) dIN_getChars_ba4f3_118 rfl rfl) rfl ?_
          exact d_iret rfl rfl dIN_getChars_ba4f3_120
    · refine d_st (fun hX _ => g_iload_n 29 0 (hX _) dIN_getChars_ba4f3_28 rfl rfl) rfl ?_
      refine d_st (fun hX _ => g_bipush 31 (hX _) 100 dIN_getChars_ba4f3_29 rfl kc_b_100) rfl ?_
      refine d_g (fun hX _ => g_idiv 32 (hX _) dIN_getChars_ba4f3_31 rfl) rfl ?_
      refine d_klI (fun v9 hv9 => ?_)
      refine d_st (fun hX _ => g_istore_n 33 3 [(3, .int v9), (0, .int x0), (2, .ref a2), (5, .int x5), (6, .int x6)] (hX _) dIN_getChars_ba4f3_32 rfl rfl (Nat.le_of_ble_eq_true rfl) rfl) rfl ?_
      refine d_st (fun hX _ => g_iload_n 34 0 (hX _) dIN_getChars_ba4f3_33 rfl rfl) rfl ?_
      refine d_st (fun hX _ => g_bipush 36 (hX _) 100 dIN_getChars_ba4f3_34 rfl kc_b_100) rfl ?_
      refine d_st (fun hX _ => g_imul 37 (hX _) dIN_getChars_ba4f3_36 rfl) rfl ?_
      refine d_st (fun hX _ => g_iload_n 38 1 (hX _) dIN_getChars_ba4f3_37 rfl rfl) rfl ?_
      refine d_st (fun hX _ => g_isub 39 (hX _) dIN_getChars_ba4f3_38 rfl) rfl ?_
      refine d_klI (fun v10 hv10 => ?_)
      refine d_st (fun hX _ => g_istore 41 4 [(4, .int v10), (3, .int v9), (0, .int x0), (2, .ref a2), (5, .int x5), (6, .int x6)] (hX _) dIN_getChars_ba4f3_39 rfl (Nat.le_of_ble_eq_true rfl) rfl) rfl ?_
      refine d_st (fun hX _ => g_iload_n 42 1 (hX _) dIN_getChars_ba4f3_41 rfl rfl) rfl ?_
      refine d_st (fun hX _ => g_istore_n 43 0 [(0, .int v9), (4, .int v10), (3, .int v9), (2, .ref a2), (5, .int x5), (6, .int x6)] (hX _) dIN_getChars_ba4f3_42 rfl rfl (Nat.le_of_ble_eq_true rfl) rfl) rfl ?_
      refine d_st (fun hX _ => g_aload_n 44 3 (hX _) dIN_getChars_ba4f3_43 rfl rfl) rfl ?_
      refine d_kl (fun v11 hv11 => ?_)
      refine d_st (fun hX _ => g_iinc 47 5 4 v11 [(5, .int v11), (0, .int v9), (4, .int v10), (3, .int v9), (2, .ref a2), (6, .int x6)] (hX _) dIN_getChars_ba4f3_44 rfl rfl (by rw [hv11, kc_i_m1]) (Nat.le_of_ble_eq_true rfl) rfl) rfl ?_
      refine d_st (fun hX _ => g_iload 49 0 (hX _) dIN_getChars_ba4f3_47 rfl rfl) rfl ?_
      refine d_st (fun hX _ => g_gsOnes 52 (hX _) q_888 dIN_getChars_ba4f3_49 rfl) rfl ?_
      refine d_st (fun hX _ => g_iload 54 2 (hX _) dIN_getChars_ba4f3_52 rfl rfl) rfl ?_
      refine d_g (fun hX _ => g_onesAt 55 (hX _) dIN_getChars_ba4f3_54 rfl) rfl ?_
      refine d_g (fun hX _ => g_bast 56 (hX _) dIN_getChars_ba4f3_55 rfl) rfl ?_
      refine d_klM (fun M12 hM12 => ?_)
      refine d_st (fun hX _ => g_aload_n 57 4 (hX _) dIN_getChars_ba4f3_56 rfl rfl) rfl ?_
      refine d_kl (fun v13 hv13 => ?_)
      refine d_st (fun hX _ => g_iinc 60 5 0 v13 [(5, .int v13), (0, .int v9), (4, .int v10), (3, .int v9), (2, .ref a2), (6, .int x6)] (hX _) dIN_getChars_ba4f3_57 rfl rfl (by rw [hv13, kc_i_m1]) (Nat.le_of_ble_eq_true rfl) rfl) rfl ?_
      refine d_st (fun hX _ => g_iload 62 0 (hX _) dIN_getChars_ba4f3_60 rfl rfl) rfl ?_
      refine d_st (fun hX _ => g_gsTens 65 (hX _) q_890 dIN_getChars_ba4f3_62 rfl) rfl ?_
      refine d_st (fun hX _ => g_iload 67 2 (hX _) dIN_getChars_ba4f3_65 rfl rfl) rfl ?_
      refine d_g (fun hX _ => g_tensAt 68 (hX _) dIN_getChars_ba4f3_67 rfl) rfl ?_
      refine d_g (fun hX _ => g_bast 69 (hX _) dIN_getChars_ba4f3_68 rfl) rfl ?_
      refine d_klM (fun M14 hM14 => ?_)
      refine d_st (fun hX _ => g_goto 22 (hX _) dIN_getChars_ba4f3_69 (by decide)) rfl ?_
      refine d_st (fun hX _ => g_lv [1, 4, 0, 5] rfl) rfl ?_
      exact ih M14 v9 a2 v13 x6
set_option maxRecDepth 100000 in
set_option maxHeartbeats 4000000 in
theorem k_IN_getChars (l : Launch) (g : kG) (N : Nat) (M : kMem) (x0 : Int32) (x1 : Int32) (a2 : Nat) : kMetD l g yIN_getChars_ba4f3 cIN_getChars_ba4f3 7 (some .int) 2 [.int x0, .int x1, .ref a2] M (fun r : Int32 × kMem => (some (.int r.1), r.2)) (F_IN_getChars N M x0 x1 a2) := by
  refine k_ofD (lv := [(0, .int x0), (1, .int x1), (2, .ref a2)]) RIN (by decide) rfl rfl (Nat.le_of_ble_eq_true rfl) ?_
  unfold F_IN_getChars
  refine d_st (fun hX _ => g_iload_n 1 1 (hX _) dIN_getChars_ba4f3_0 rfl rfl) rfl ?_
  refine d_st (fun hX _ => g_istore 3 5 [(5, .int x1), (0, .int x0), (1, .int x1), (2, .ref a2)] (hX _) dIN_getChars_ba4f3_1 rfl (Nat.le_of_ble_eq_true rfl) rfl) rfl ?_
  refine d_st (fun hX _ => g_iload_n 4 1 (hX _) dIN_getChars_ba4f3_3 rfl rfl) rfl ?_
  refine d_ifN (fun hX _ => g_if_ge 11 7 (hX _) dIN_getChars_ba4f3_4 (by decide) rfl) (fun _ => ?_) (fun _ => ?_)
  · refine d_st (fun hX _ => g_iconst 12 (hX _) 0 dIN_getChars_ba4f3_11 rfl kc_i_0) rfl ?_
    refine d_st (fun hX _ => g_istore 14 6 [(6, .int 0), (5, .int x1), (0, .int x0), (1, .int x1), (2, .ref a2)] (hX _) dIN_getChars_ba4f3_12 rfl (Nat.le_of_ble_eq_true rfl) rfl) rfl ?_
    refine d_st (fun hX _ => g_iload 16 0 (hX _) dIN_getChars_ba4f3_14 rfl rfl) rfl ?_
    refine d_ifN (fun hX _ => g_if_ne 22 19 (hX _) dIN_getChars_ba4f3_16 (by decide) rfl) (fun _ => ?_) (fun _ => ?_)
    · refine d_st (fun hX _ => g_lv [2, 4, 1, 0] rfl) rfl ?_
      exact k_IN_getChars_22 N N M x0 a2 x1 0
    · refine d_st (fun hX _ => g_iload_n 20 2 (hX _) dIN_getChars_ba4f3_19 rfl rfl) rfl ?_
      refine d_st (fun hX _ => g_ineg 21 (hX _) dIN_getChars_ba4f3_20 rfl) rfl ?_
      refine d_klI (fun v15 hv15 => ?_)
      refine d_st (fun hX _ => g_istore_n 22 0 [(0, .int v15), (6, .int 0), (5, .int x1), (1, .int x1), (2, .ref a2)] (hX _) dIN_getChars_ba4f3_21 rfl rfl (Nat.le_of_ble_eq_true rfl) rfl) rfl ?_
      refine d_st (fun hX _ => g_lv [0, 4, 2, 1] rfl) rfl ?_
      exact k_IN_getChars_22 N N M v15 a2 x1 0
  · refine d_st (fun hX _ => g_iconst 8 (hX _) 1 dIN_getChars_ba4f3_7 rfl kc_i_1) rfl ?_
    refine d_st (fun hX _ => g_goto 12 (hX _) dIN_getChars_ba4f3_8 (by decide)) rfl ?_
    refine d_st (fun hX _ => g_istore 14 6 [(6, .int 1), (5, .int x1), (0, .int x0), (1, .int x1), (2, .ref a2)] (hX _) dIN_getChars_ba4f3_12 rfl (Nat.le_of_ble_eq_true rfl) rfl) rfl ?_
    refine d_st (fun hX _ => g_iload 16 0 (hX _) dIN_getChars_ba4f3_14 rfl rfl) rfl ?_
    refine d_ifN (fun hX _ => g_if_ne 22 19 (hX _) dIN_getChars_ba4f3_16 (by decide) rfl) (fun _ => ?_) (fun _ => ?_)
    · refine d_st (fun hX _ => g_lv [2, 4, 1, 0] rfl) rfl ?_
      exact k_IN_getChars_22 N N M x0 a2 x1 1
    · refine d_st (fun hX _ => g_iload_n 20 2 (hX _) dIN_getChars_ba4f3_19 rfl rfl) rfl ?_
      refine d_st (fun hX _ => g_ineg 21 (hX _) dIN_getChars_ba4f3_20 rfl) rfl ?_
      refine d_klI (fun v16 hv16 => ?_)
      refine d_st (fun hX _ => g_istore_n 22 0 [(0, .int v16), (6, .int 1), (5, .int x1), (1, .int x1), (2, .ref a2)] (hX _) dIN_getChars_ba4f3_21 rfl rfl (Nat.le_of_ble_eq_true rfl) rfl) rfl ?_
      refine d_st (fun hX _ => g_lv [0, 4, 2, 1] rfl) rfl ?_
      exact k_IN_getChars_22 N N M v16 a2 x1 1
set_option maxRecDepth 100000 in
set_option maxHeartbeats 4000000 in
theorem k_AS_appendI (l : Launch) (g : kG) (N : Nat) (M : kMem) (a0 : Nat) (x1 : Int32) : kMetD l g yAS_append_c97b9 cAS_append_c97b9 4 (some (.object "java/lang/AbstractStringBuilder")) 5 [.ref a0, .int x1] M (fun r : Nat × kMem => (some (.ref r.1), r.2)) (F_AS_appendI N M a0 x1) := by
  refine k_ofD (lv := [(0, .ref a0), (1, .int x1)]) RAS (by decide) rfl rfl (Nat.le_of_ble_eq_true rfl) ?_
  unfold F_AS_appendI
  refine d_st (fun hX _ => g_aload_n 1 0 (hX _) dAS_append_c97b9_0 rfl rfl) rfl ?_
  refine d_g (fun hX _ => e_AS_79 4 (hX _) dAS_append_c97b9_1 rfl) rfl ?_
  refine d_klI (fun v1 hv1 => ?_)
  refine d_st (fun hX _ => g_istore_n 5 2 [(2, .int v1), (0, .ref a0), (1, .int x1)] (hX _) dAS_append_c97b9_4 rfl rfl (Nat.le_of_ble_eq_true rfl) rfl) rfl ?_
  refine d_st (fun hX _ => g_iload_n 6 0 (hX _) dAS_append_c97b9_5 rfl rfl) rfl ?_
  refine d_st (fun hX _ => g_iload_n 7 2 (hX _) dAS_append_c97b9_6 rfl rfl) rfl ?_
  refine d_callS 10 (k_IN_stringSize l g N M x1) lk_IN_stringSize_0f7a4 q_882 (by decide) rfl (Nat.le_of_ble_eq_true rfl) dAS_append_c97b9_7 rfl (fun r2 _ => ?_)
  show GD _ _ _ _ _ [.int r2, .int v1] M
  refine d_st (fun hX _ => g_iadd 11 (hX _) dAS_append_c97b9_10 rfl) rfl ?_
  refine d_klI (fun v3 hv3 => ?_)
  refine d_st (fun hX _ => g_istore_n 12 3 [(3, .int v3), (2, .int v1), (0, .ref a0), (1, .int x1)] (hX _) dAS_append_c97b9_11 rfl rfl (Nat.le_of_ble_eq_true rfl) rfl) rfl ?_
  refine d_st (fun hX _ => g_aload_n 13 2 (hX _) dAS_append_c97b9_12 rfl rfl) rfl ?_
  refine d_st (fun hX _ => g_iload_n 14 0 (hX _) dAS_append_c97b9_13 rfl rfl) rfl ?_
  refine d_callV 17 (k_AS_ensure l g N M a0 v3) lk_AS_ensureCapacityInternal_d00df (ci := 39) (T := TSB) (N := 4) rfl (Nat.le_of_ble_eq_true rfl) q_779 (fun s args ht => ht _ (kwx 0 rfl rfl)) (by decide) rfl (Nat.le_of_ble_eq_true rfl) dAS_append_c97b9_14 rfl (fun r4 _ => ?_)
  show GD _ _ _ _ _ [] r4
  refine d_st (fun hX _ => g_aload_n 18 2 (hX _) dAS_append_c97b9_17 rfl rfl) rfl ?_
  refine d_callV 21 (k_AS_isLatin1 l g N r4 a0) lk_AS_isLatin1_aae02 (ci := 39) (T := TSB) (N := 4) rfl (Nat.le_of_ble_eq_true rfl) q_809 (fun s args ht => ht _ q_812) (by decide) rfl (Nat.le_of_ble_eq_true rfl) dAS_append_c97b9_18 rfl (fun r5 _ => ?_)
  show GD _ _ _ _ _ [.int r5] r4
  refine d_if (fun hX _ => g_if_eq 37 24 (hX _) dAS_append_c97b9_21 (by decide) rfl) (fun _ => ?_) (fun _ => ?_)
  · exact d_none
  · refine d_st (fun hX _ => g_iload_n 25 3 (hX _) dAS_append_c97b9_24 rfl rfl) rfl ?_
    refine d_st (fun hX _ => g_iload_n 26 0 (hX _) dAS_append_c97b9_25 rfl rfl) rfl ?_
    refine d_st (fun hX _ => g_aload_n 27 2 (hX _) dAS_append_c97b9_26 rfl rfl) rfl ?_
    refine d_g (fun hX _ => e_AS_15 30 (hX _) dAS_append_c97b9_27 rfl) rfl ?_
    refine d_callS 33 (k_IN_getChars l g N r4 x1 v3 (kR r4 a0 0)) lk_IN_getChars_ba4f3 q_885 (by decide) rfl (Nat.le_of_ble_eq_true rfl) dAS_append_c97b9_30 rfl (fun r6 _ => ?_)
    show GD _ _ _ _ _ [.int r6.1] r6.2
    refine d_st (fun hX _ => g_pop 34 (hX _) dAS_append_c97b9_33 rfl rfl) rfl ?_
    refine d_st (fun hX _ => g_goto 48 (hX _) dAS_append_c97b9_34 (by decide)) rfl ?_
    refine d_st (fun hX _ => g_aload_n 49 2 (hX _) dAS_append_c97b9_48 rfl rfl) rfl ?_
    refine d_st (fun hX _ => g_iload_n 50 0 (hX _) dAS_append_c97b9_49 rfl rfl) rfl ?_
    refine d_g (fun hX _ => ui_AS_79 53 (hX _) dAS_append_c97b9_50 rfl) rfl ?_
    refine d_klM (fun M7 hM7 => ?_)
    refine d_st (fun hX _ => g_aload_n 54 2 (hX _) dAS_append_c97b9_53 rfl rfl) rfl ?_
    exact d_aret rfl (Or.inl ⟨_, rfl⟩) rfl dAS_append_c97b9_54
set_option maxRecDepth 100000 in
set_option maxHeartbeats 4000000 in
theorem k_SB_appendS (l : Launch) (g : kG) (N : Nat) (M : kMem) (a0 : Nat) (s1 : Nat) : kMetD l g ySB_append_15ec4 cSB_append_15ec4 2 (some (.object "java/lang/StringBuilder")) 6 [.ref a0, .retAddr (g.2.2.2.1 s1)] M (fun r : Nat × kMem => (some (.ref r.1), r.2)) (F_SB_appendS N M a0 s1) := by
  refine k_ofD (lv := [(0, .ref a0), (1, .retAddr (g.2.2.2.1 s1))]) RSB (by decide) rfl rfl (Nat.le_of_ble_eq_true rfl) ?_
  unfold F_SB_appendS
  refine d_st (fun hX _ => g_aload_n 1 0 (hX _) dSB_append_15ec4_0 rfl rfl) rfl ?_
  refine d_st (fun hX _ => g_aloadS_n 2 1 (hX _) dSB_append_15ec4_1 rfl rfl) rfl ?_
  refine d_callP 5 (k_AS_appendS l g N M a0 s1) lk_AS_append_cf1ce (ci := 39) (T := TSB) (N := 4) rfl (Nat.le_of_ble_eq_true rfl) q_772 q_764 q_773 (by decide) (by decide) rfl (Nat.le_of_ble_eq_true rfl) dSB_append_15ec4_2 rfl (fun r1 _ => ?_)
  show GD _ _ _ _ _ [.ref r1.1] r1.2
  refine d_st (fun hX _ => g_pop 6 (hX _) dSB_append_15ec4_5 rfl rfl) rfl ?_
  refine d_st (fun hX _ => g_aload_n 7 0 (hX _) dSB_append_15ec4_6 rfl rfl) rfl ?_
  exact d_aret rfl (Or.inl ⟨_, rfl⟩) rfl dSB_append_15ec4_7
set_option maxRecDepth 100000 in
set_option maxHeartbeats 4000000 in
theorem k_SB_appendB (l : Launch) (g : kG) (N : Nat) (M : kMem) (a0 : Nat) (s1 : Nat) : kMetD l g ySB_append_cf1ce cSB_append_cf1ce 2 (some (.object "java/lang/AbstractStringBuilder")) 7 [.ref a0, .retAddr (g.2.2.2.1 s1)] M (fun r : Nat × kMem => (some (.ref r.1), r.2)) (F_SB_appendB N M a0 s1) := by
  refine k_ofD (lv := [(0, .ref a0), (1, .retAddr (g.2.2.2.1 s1))]) RSB (by decide) rfl rfl (Nat.le_of_ble_eq_true rfl) ?_
  unfold F_SB_appendB
  refine d_st (fun hX _ => g_aload_n 1 0 (hX _) dSB_append_cf1ce_0 rfl rfl) rfl ?_
  refine d_st (fun hX _ => g_aloadS_n 2 1 (hX _) dSB_append_cf1ce_1 rfl rfl) rfl ?_
  refine d_callV 5 (k_SB_appendS l g N M a0 s1) lk_SB_append_15ec4 (ci := 39) (T := TSB) (N := 4) rfl (Nat.le_of_ble_eq_true rfl) q_768 (fun s args ht => ht _ q_770) (by decide) rfl (Nat.le_of_ble_eq_true rfl) dSB_append_cf1ce_2 rfl (fun r1 _ => ?_)
  show GD _ _ _ _ _ [.ref r1.1] r1.2
  exact d_aret rfl (Or.inl ⟨_, rfl⟩) rfl dSB_append_cf1ce_5
set_option maxRecDepth 100000 in
set_option maxHeartbeats 4000000 in
theorem k_SB_appendC (l : Launch) (g : kG) (N : Nat) (M : kMem) (a0 : Nat) (x1 : Int32) : kMetD l g ySB_append_cf468 cSB_append_cf468 2 (some (.object "java/lang/StringBuilder")) 6 [.ref a0, .int x1] M (fun r : Nat × kMem => (some (.ref r.1), r.2)) (F_SB_appendC N M a0 x1) := by
  refine k_ofD (lv := [(0, .ref a0), (1, .int x1)]) RSB (by decide) rfl rfl (Nat.le_of_ble_eq_true rfl) ?_
  unfold F_SB_appendC
  refine d_st (fun hX _ => g_aload_n 1 0 (hX _) dSB_append_cf468_0 rfl rfl) rfl ?_
  refine d_st (fun hX _ => g_iload_n 2 1 (hX _) dSB_append_cf468_1 rfl rfl) rfl ?_
  refine d_callP 5 (k_AS_appendC l g N M a0 x1) lk_AS_append_3fe6f (ci := 39) (T := TSB) (N := 4) rfl (Nat.le_of_ble_eq_true rfl) q_904 q_2171 q_773 (by decide) (by decide) rfl (Nat.le_of_ble_eq_true rfl) dSB_append_cf468_2 rfl (fun r1 _ => ?_)
  show GD _ _ _ _ _ [.ref r1.1] r1.2
  refine d_st (fun hX _ => g_pop 6 (hX _) dSB_append_cf468_5 rfl rfl) rfl ?_
  refine d_st (fun hX _ => g_aload_n 7 0 (hX _) dSB_append_cf468_6 rfl rfl) rfl ?_
  exact d_aret rfl (Or.inl ⟨_, rfl⟩) rfl dSB_append_cf468_7
set_option maxRecDepth 100000 in
set_option maxHeartbeats 4000000 in
theorem k_SB_appendI (l : Launch) (g : kG) (N : Nat) (M : kMem) (a0 : Nat) (x1 : Int32) : kMetD l g ySB_append_bf812 cSB_append_bf812 2 (some (.object "java/lang/StringBuilder")) 6 [.ref a0, .int x1] M (fun r : Nat × kMem => (some (.ref r.1), r.2)) (F_SB_appendI N M a0 x1) := by
  refine k_ofD (lv := [(0, .ref a0), (1, .int x1)]) RSB (by decide) rfl rfl (Nat.le_of_ble_eq_true rfl) ?_
  unfold F_SB_appendI
  refine d_st (fun hX _ => g_aload_n 1 0 (hX _) dSB_append_bf812_0 rfl rfl) rfl ?_
  refine d_st (fun hX _ => g_iload_n 2 1 (hX _) dSB_append_bf812_1 rfl rfl) rfl ?_
  refine d_callP 5 (k_AS_appendI l g N M a0 x1) lk_AS_append_c97b9 (ci := 39) (T := TSB) (N := 4) rfl (Nat.le_of_ble_eq_true rfl) q_879 q_2170 q_773 (by decide) (by decide) rfl (Nat.le_of_ble_eq_true rfl) dSB_append_bf812_2 rfl (fun r1 _ => ?_)
  show GD _ _ _ _ _ [.ref r1.1] r1.2
  refine d_st (fun hX _ => g_pop 6 (hX _) dSB_append_bf812_5 rfl rfl) rfl ?_
  refine d_st (fun hX _ => g_aload_n 7 0 (hX _) dSB_append_bf812_6 rfl rfl) rfl ?_
  exact d_aret rfl (Or.inl ⟨_, rfl⟩) rfl dSB_append_bf812_7
set_option maxRecDepth 100000 in
set_option maxHeartbeats 4000000 in
theorem k_AS_init_24 {l : Launch} {g : kG} {L0 : Nat} (N : Nat) : ∀ (M : kMem) (a0 : Nat) (s1 : Nat) (y0 : Int32), GD (l, cAS_init_a7421, 5, RAS, g, 8, L0, none, yAS_init_a7421.name) (fun r : kMem => (none, r)) (F_AS_init_24 N M a0 s1 y0) 24 [(0, .ref a0), (1, .retAddr (g.2.2.2.1 s1))] [.int y0] M := by
  intro M a0 s1 y0
  unfold F_AS_init_24
  refine d_st (fun hX _ => g_istore_n 25 3 [(3, .int y0), (0, .ref a0), (1, .retAddr (g.2.2.2.1 s1))] (hX _) dAS_init_a7421_24 rfl rfl (Nat.le_of_ble_eq_true rfl) rfl) rfl ?_
  refine d_st (fun hX _ => g_aloadS_n 26 2 (hX _) dAS_init_a7421_25 rfl rfl) rfl ?_
  refine d_callJ 29 (k_J0_coder l g M s1) (F_J0_coder_i s1) lk_J0_coder q_754 ws_J0_coder (by decide) rfl (Nat.le_of_ble_eq_true rfl) dAS_init_a7421_26 rfl (fun r2 _ => ?_)
  show GD _ _ _ _ _ (.int r2 :: []) M
  refine d_st (fun hX _ => g_istore 31 4 [(4, .int r2), (3, .int y0), (0, .ref a0), (1, .retAddr (g.2.2.2.1 s1))] (hX _) dAS_init_a7421_29 rfl (Nat.le_of_ble_eq_true rfl) rfl) rfl ?_
  refine d_st (fun hX _ => g_aload_n 32 2 (hX _) dAS_init_a7421_31 rfl rfl) rfl ?_
  refine d_st (fun hX _ => g_iload 34 0 (hX _) dAS_init_a7421_32 rfl rfl) rfl ?_
  refine d_g (fun hX _ => ui_AS_22 37 (hX _) dAS_init_a7421_34 rfl) rfl ?_
  refine d_klM (fun M3 hM3 => ?_)
  refine d_st (fun hX _ => g_aload_n 38 2 (hX _) dAS_init_a7421_37 rfl rfl) rfl ?_
  refine d_st (fun hX _ => g_iload 40 0 (hX _) dAS_init_a7421_38 rfl rfl) rfl ?_
  refine d_ifN (fun hX _ => g_if_ne 49 43 (hX _) dAS_init_a7421_40 (by decide) rfl) (fun _ => ?_) (fun _ => ?_)
  · exact d_none
  · refine d_st (fun hX _ => g_iload_n 44 1 (hX _) dAS_init_a7421_43 rfl rfl) rfl ?_
    refine d_newaB 46 dAS_init_a7421_44 rfl ?_
    refine d_klR (fun w4 hw4 => ?_)
    refine d_klM (fun M5 hM5 => ?_)
    refine d_st (fun hX _ => g_goto 53 (hX _) dAS_init_a7421_46 (by decide)) rfl ?_
    refine d_g (fun hX _ => ur_AS_15 56 (hX _) dAS_init_a7421_53 rfl) rfl ?_
    refine d_klM (fun M6 hM6 => ?_)
    refine d_st (fun hX _ => g_aload_n 57 2 (hX _) dAS_init_a7421_56 rfl rfl) rfl ?_
    refine d_st (fun hX _ => g_aloadS_n 58 3 (hX _) dAS_init_a7421_57 rfl rfl) rfl ?_
    refine d_callU 61 (x9 := yAS_append_cf1ce) (k_SB_appendB l g N M6 a0 s1) lk_SB_append_cf1ce (ci := 39) (T := TSB) (N := 4) rfl (Nat.le_of_ble_eq_true rfl) q_762 q_765 "java/lang/AbstractStringBuilder" q_764_322 (fun s args ht => va_Decl.of (ht _ q_763) (ht _ q_774)) ⟨by decide, by decide, by decide +kernel⟩ (by decide) rfl (Nat.le_of_ble_eq_true rfl) dAS_init_a7421_58 rfl (fun r7 _ => ?_)
    show GD _ _ _ _ _ [.ref r7.1] r7.2
    refine d_st (fun hX _ => g_pop 62 (hX _) dAS_init_a7421_61 rfl rfl) rfl ?_
    exact d_vret rfl rfl dAS_init_a7421_62
set_option maxRecDepth 100000 in
set_option maxHeartbeats 4000000 in
theorem k_AS_init (l : Launch) (g : kG) (N : Nat) (M : kMem) (a0 : Nat) (s1 : Nat) : kMetD l g yAS_init_a7421 cAS_init_a7421 5 none 8 [.ref a0, .retAddr (g.2.2.2.1 s1)] M (fun r : kMem => (none, r)) (F_AS_init N M a0 s1) := by
  refine k_ofD (lv := [(0, .ref a0), (1, .retAddr (g.2.2.2.1 s1))]) RAS (by decide) rfl rfl (Nat.le_of_ble_eq_true rfl) ?_
  unfold F_AS_init
  refine d_st (fun hX _ => g_aload_n 1 0 (hX _) dAS_init_a7421_0 rfl rfl) rfl ?_
  refine d_objInit 4 q_750 (Nat.le_of_ble_eq_true rfl) (by decide) dAS_init_a7421_1 rfl ?_
  refine d_st (fun hX _ => g_aloadS_n 5 1 (hX _) dAS_init_a7421_4 rfl rfl) rfl ?_
  refine d_callJ 8 (k_J0_length l g M s1) (F_J0_length_i s1) lk_J0_length q_751 ws_J0_length (by decide) rfl (Nat.le_of_ble_eq_true rfl) dAS_init_a7421_5 rfl (fun r1 _ => ?_)
  show GD _ _ _ _ _ (.int r1 :: []) M
  refine d_st (fun hX _ => g_istore_n 9 2 [(2, .int r1), (0, .ref a0), (1, .retAddr (g.2.2.2.1 s1))] (hX _) dAS_init_a7421_8 rfl rfl (Nat.le_of_ble_eq_true rfl) rfl) rfl ?_
  refine d_st (fun hX _ => g_iload_n 10 0 (hX _) dAS_init_a7421_9 rfl rfl) rfl ?_
  refine d_st (fun hX _ => g_ldc 12 (hX _) 2147483631 dAS_init_a7421_10 rfl q_752) rfl ?_
  refine d_ifN (fun hX _ => g_icmp_ge 22 15 (hX _) dAS_init_a7421_12 (by decide) rfl) (fun _ => ?_) (fun _ => ?_)
  · refine d_st (fun hX _ => g_ldc 24 (hX _) 2147483647 dAS_init_a7421_22 rfl q_753) rfl ?_
    refine d_st (fun hX _ => g_lv [1, 2] rfl) rfl ?_
    exact k_AS_init_24 N M a0 s1 2147483647
  · refine d_st (fun hX _ => g_iload_n 16 0 (hX _) dAS_init_a7421_15 rfl rfl) rfl ?_
    refine d_st (fun hX _ => g_bipush 18 (hX _) 16 dAS_init_a7421_16 rfl kc_b_16) rfl ?_
    refine d_st (fun hX _ => g_iadd 19 (hX _) dAS_init_a7421_18 rfl) rfl ?_
    refine d_st (fun hX _ => g_goto 24 (hX _) dAS_init_a7421_19 (by decide)) rfl ?_
    refine d_st (fun hX _ => g_lv [1, 2] rfl) rfl ?_
    exact k_AS_init_24 N M a0 s1 (r1 + 16)
set_option maxRecDepth 100000 in
set_option maxHeartbeats 4000000 in
theorem k_SB_init (l : Launch) (g : kG) (N : Nat) (M : kMem) (a0 : Nat) (s1 : Nat) : kMetD l g ySB_init_a7421 cSB_init_a7421 2 none 9 [.ref a0, .retAddr (g.2.2.2.1 s1)] M (fun r : kMem => (none, r)) (F_SB_init N M a0 s1) := by
  refine k_ofD (lv := [(0, .ref a0), (1, .retAddr (g.2.2.2.1 s1))]) RSB (by decide) rfl rfl (Nat.le_of_ble_eq_true rfl) ?_
  unfold F_SB_init
  refine d_st (fun hX _ => g_aload_n 1 0 (hX _) dSB_init_a7421_0 rfl rfl) rfl ?_
  refine d_st (fun hX _ => g_aloadS_n 2 1 (hX _) dSB_init_a7421_1 rfl rfl) rfl ?_
  refine d_callI 5 (k_AS_init l g N M a0 s1) lk_AS_init_a7421 q_747 rfl (by decide) rfl (Nat.le_of_ble_eq_true rfl) dSB_init_a7421_2 rfl (fun r1 _ => ?_)
  show GD _ _ _ _ _ [] r1
  exact d_vret rfl rfl dSB_init_a7421_5
set_option maxRecDepth 100000 in
set_option maxHeartbeats 4000000 in
theorem k_J0_coderR (l : Launch) (g : kG) (N : Nat) (M : kMem) (a0 : Nat) : kMetD l g yJ0_coder_7d493 cJ0_coder_7d493 1 (some .byte) 2 [.ref a0] M (fun r : Int32 => (some (.int r), M)) (F_J0_coderR N M a0) := by
  refine k_ofD (lv := [(0, .ref a0)]) RJ0 (by decide) rfl rfl (Nat.le_of_ble_eq_true rfl) ?_
  unfold F_J0_coderR
  refine d_st (fun hX _ => g_gsCompact 3 (hX _) q_383 dJ0_coder_7d493_0 rfl) rfl ?_
  refine d_if (fun hX _ => g_if_eq 13 6 (hX _) dJ0_coder_7d493_3 (by decide) rfl) (fun _ => ?_) (fun _ => ?_)
  · refine d_st (fun hX _ => g_iconst 14 (hX _) 1 dJ0_coder_7d493_13 rfl kc_i_1) rfl ?_
    exact d_nbret rfl rfl dJ0_coder_7d493_14
  · refine d_st (fun hX _ => g_aload_n 7 0 (hX _) dJ0_coder_7d493_6 rfl rfl) rfl ?_
    refine d_g (fun hX _ => e_J0_15 10 (hX _) dJ0_coder_7d493_7 rfl) rfl ?_
    refine d_st (fun hX _ => g_goto 14 (hX _) dJ0_coder_7d493_10 (by decide)) rfl ?_
    exact d_nbret rfl rfl dJ0_coder_7d493_14
set_option maxRecDepth 100000 in
set_option maxHeartbeats 4000000 in
theorem k_J0_isLatin1R (l : Launch) (g : kG) (N : Nat) (M : kMem) (a0 : Nat) : kMetD l g yJ0_isLatin1_aae02 cJ0_isLatin1_aae02 1 (some .boolean) 2 [.ref a0] M (fun r : Int32 => (some (.int r), M)) (F_J0_isLatin1R N M a0) := by
  refine k_ofD (lv := [(0, .ref a0)]) RJ0 (by decide) rfl rfl (Nat.le_of_ble_eq_true rfl) ?_
  unfold F_J0_isLatin1R
  refine d_st (fun hX _ => g_gsCompact 3 (hX _) q_383 dJ0_isLatin1_aae02_0 rfl) rfl ?_
  refine d_if (fun hX _ => g_if_eq 17 6 (hX _) dJ0_isLatin1_aae02_3 (by decide) rfl) (fun _ => ?_) (fun _ => ?_)
  · refine d_st (fun hX _ => g_iconst 18 (hX _) 0 dJ0_isLatin1_aae02_17 rfl kc_i_0) rfl ?_
    exact d_zretL rfl rfl rfl dJ0_isLatin1_aae02_18
  · refine d_st (fun hX _ => g_aload_n 7 0 (hX _) dJ0_isLatin1_aae02_6 rfl rfl) rfl ?_
    refine d_g (fun hX _ => e_J0_15 10 (hX _) dJ0_isLatin1_aae02_7 rfl) rfl ?_
    refine d_ifN (fun hX _ => g_if_ne 17 13 (hX _) dJ0_isLatin1_aae02_10 (by decide) rfl) (fun _ => ?_) (fun _ => ?_)
    · refine d_st (fun hX _ => g_iconst 18 (hX _) 0 dJ0_isLatin1_aae02_17 rfl kc_i_0) rfl ?_
      exact d_zretL rfl rfl rfl dJ0_isLatin1_aae02_18
    · refine d_st (fun hX _ => g_iconst 14 (hX _) 1 dJ0_isLatin1_aae02_13 rfl kc_i_1) rfl ?_
      refine d_st (fun hX _ => g_goto 18 (hX _) dJ0_isLatin1_aae02_14 (by decide)) rfl ?_
      exact d_zretL rfl rfl rfl dJ0_isLatin1_aae02_18
set_option maxRecDepth 100000 in
set_option maxHeartbeats 4000000 in
theorem k_J0_lengthR (l : Launch) (g : kG) (N : Nat) (M : kMem) (a0 : Nat) : kMetD l g yJ0_length_8abf5 cJ0_length_8abf5 1 (some .int) 3 [.ref a0] M (fun r : Int32 => (some (.int r), M)) (F_J0_lengthR N M a0) := by
  refine k_ofD (lv := [(0, .ref a0)]) RJ0 (by decide) rfl rfl (Nat.le_of_ble_eq_true rfl) ?_
  unfold F_J0_lengthR
  refine d_st (fun hX _ => g_aload_n 1 0 (hX _) dJ0_length_8abf5_0 rfl rfl) rfl ?_
  refine d_g (fun hX _ => e_J0_9 4 (hX _) dJ0_length_8abf5_1 rfl) rfl ?_
  refine d_g (fun hX _ => g_alen20 5 (hX _) dJ0_length_8abf5_4 rfl) rfl ?_
  refine d_st (fun hX _ => g_aload_n 6 0 (hX _) dJ0_length_8abf5_5 rfl rfl) rfl ?_
  refine d_callV 9 (k_J0_coderR l g N M a0) lk_J0_coder_7d493 (ci := 40) (T := TJ0) (N := 4) rfl (Nat.le_of_ble_eq_true rfl) q_379 (fun s args ht => ht _ q_381) (by decide) rfl (Nat.le_of_ble_eq_true rfl) dJ0_length_8abf5_6 rfl (fun r1 _ => ?_)
  show GD _ _ _ _ _ [.int r1, .int (Int32.ofNat (kn M (kR M a0 0)))] M
  refine d_st (fun hX _ => g_ishr 10 (hX _) dJ0_length_8abf5_9 rfl) rfl ?_
  exact d_iret rfl rfl dJ0_length_8abf5_10
set_option maxRecDepth 100000 in
set_option maxHeartbeats 4000000 in
theorem k_J1_charAtR (l : Launch) (g : kG) (N : Nat) (M : kMem) (a0 : Nat) (x1 : Int32) : kMetD l g yJ1_charAt_3b067 cJ1_charAt_3b067 2 (some .char) 3 [.ref a0, .int x1] M (fun r : Int32 => (some (.int r), M)) (F_J1_charAtR N M a0 x1) := by
  refine k_ofD (lv := [(0, .ref a0), (1, .int x1)]) RJ1 (by decide) rfl rfl (Nat.le_of_ble_eq_true rfl) ?_
  unfold F_J1_charAtR
  refine d_st (fun hX _ => g_iload_n 1 1 (hX _) dJ1_charAt_3b067_0 rfl rfl) rfl ?_
  refine d_st (fun hX _ => g_aload_n 2 0 (hX _) dJ1_charAt_3b067_1 rfl rfl) rfl ?_
  refine d_g (fun hX _ => g_alen20 3 (hX _) dJ1_charAt_3b067_2 rfl) rfl ?_
  refine d_callSX 6 (k_J0_check l g M x1 (Int32.ofNat (kn M a0))) (fun _ => rfl) lk_J0_check q_396 (by decide) rfl (Nat.le_of_ble_eq_true rfl) dJ1_charAt_3b067_3 rfl (fun r1 _ => ?_)
  show GD _ _ _ _ _ [] M
  refine d_st (fun hX _ => g_aload_n 7 0 (hX _) dJ1_charAt_3b067_6 rfl rfl) rfl ?_
  refine d_st (fun hX _ => g_iload_n 8 1 (hX _) dJ1_charAt_3b067_7 rfl rfl) rfl ?_
  refine d_g (fun hX _ => g_bald 9 (hX _) dJ1_charAt_3b067_8 rfl) rfl ?_
  refine d_st (fun hX _ => g_sipush 12 (hX _) 255 dJ1_charAt_3b067_9 rfl kc_s_255) rfl ?_
  refine d_st (fun hX _ => g_iand 13 (hX _) dJ1_charAt_3b067_12 rfl) rfl ?_
  refine d_st (fun hX _ => g_i2c 14 (hX _) ((((kI M a0 (kx x1)) &&& 255).toUInt32 % 65536).toInt32) dJ1_charAt_3b067_13 rfl rfl) rfl ?_
  exact d_cret rfl rfl dJ1_charAt_3b067_14
set_option maxRecDepth 100000 in
set_option maxHeartbeats 4000000 in
theorem k_J0_charAtR (l : Launch) (g : kG) (N : Nat) (M : kMem) (a0 : Nat) (x1 : Int32) : kMetD l g yJ0_charAt_5068e cJ0_charAt_5068e 2 (some .char) 4 [.ref a0, .int x1] M (fun r : Int32 => (some (.int r), M)) (F_J0_charAtR N M a0 x1) := by
  refine k_ofD (lv := [(0, .ref a0), (1, .int x1)]) RJ0 (by decide) rfl rfl (Nat.le_of_ble_eq_true rfl) ?_
  unfold F_J0_charAtR
  refine d_st (fun hX _ => g_aload_n 1 0 (hX _) dJ0_charAt_5068e_0 rfl rfl) rfl ?_
  refine d_callV 4 (k_J0_isLatin1R l g N M a0) lk_J0_isLatin1_aae02 (ci := 40) (T := TJ0) (N := 4) rfl (Nat.le_of_ble_eq_true rfl) q_389 (fun s args ht => ht _ q_391) (by decide) rfl (Nat.le_of_ble_eq_true rfl) dJ0_charAt_5068e_1 rfl (fun r1 _ => ?_)
  show GD _ _ _ _ _ [.int r1] M
  refine d_if (fun hX _ => g_if_eq 16 7 (hX _) dJ0_charAt_5068e_4 (by decide) rfl) (fun _ => ?_) (fun _ => ?_)
  · exact d_none
  · refine d_st (fun hX _ => g_aload_n 8 0 (hX _) dJ0_charAt_5068e_7 rfl rfl) rfl ?_
    refine d_g (fun hX _ => e_J0_9 11 (hX _) dJ0_charAt_5068e_8 rfl) rfl ?_
    refine d_st (fun hX _ => g_iload_n 12 1 (hX _) dJ0_charAt_5068e_11 rfl rfl) rfl ?_
    refine d_callS 15 (k_J1_charAtR l g N M (kR M a0 0) x1) lk_J1_charAt_3b067 q_393 (by decide) rfl (Nat.le_of_ble_eq_true rfl) dJ0_charAt_5068e_12 rfl (fun r2 _ => ?_)
    show GD _ _ _ _ _ [.int r2] M
    exact d_cret rfl rfl dJ0_charAt_5068e_15
set_option maxRecDepth 100000 in
set_option maxHeartbeats 4000000 in
theorem k_J0_init2_79 {l : Launch} {g : kG} {L0 : Nat} (N : Nat) : ∀ (M : kMem) (a0 : Nat) (a3 : Nat) (x4 : Int32), GD (l, cJ0_init_db425, 5, RJ0, g, 5, L0, none, yJ0_init_db425.name) (fun r : kMem => (none, r)) (F_J0_init2_79 N M a0 a3 x4) 79 [(0, .ref a0), (3, .ref a3), (4, .int x4)] [] M := by
  intro M a0 a3 x4
  unfold F_J0_init2_79
  refine d_st (fun hX _ => g_aload_n 80 0 (hX _) dJ0_init_db425_79 rfl rfl) rfl ?_
  refine d_st (fun hX _ => g_iconst 81 (hX _) 1 dJ0_init_db425_80 rfl kc_i_1) rfl ?_
  refine d_stN (fun hX hn _ _ => ui_J0_15 84 (hX _) hn dJ0_init_db425_81 rfl) rfl ?_
  refine d_klM (fun M4 hM4 => ?_)
  refine d_st (fun hX _ => g_aload_n 85 0 (hX _) dJ0_init_db425_84 rfl rfl) rfl ?_
  refine d_st (fun hX _ => g_aload_n 86 1 (hX _) dJ0_init_db425_85 rfl rfl) rfl ?_
  refine d_st (fun hX _ => g_iconst 87 (hX _) 0 dJ0_init_db425_86 rfl kc_i_0) rfl ?_
  refine d_st (fun hX _ => g_iload 89 2 (hX _) dJ0_init_db425_87 rfl rfl) rfl ?_
  refine d_st (fun hX _ => g_iconst 90 (hX _) 1 dJ0_init_db425_89 rfl kc_i_1) rfl ?_
  refine d_st (fun hX _ => g_ishl 91 (hX _) dJ0_init_db425_90 rfl) rfl ?_
  refine d_callS 94 (k_AR_copyOfRange l g N M4 a3 0 (x4 <<< (1 &&& 31))) lk_AR_copyOfRange_39247 q_1462 (by decide) rfl (Nat.le_of_ble_eq_true rfl) dJ0_init_db425_91 rfl (fun r5 _ => ?_)
  show GD _ _ _ _ _ [.ref r5.1, .ref a0] r5.2
  refine d_stN (fun hX hn _ _ => ur_J0_9 97 (hX _) hn dJ0_init_db425_94 rfl) rfl ?_
  refine d_klM (fun M6 hM6 => ?_)
  exact d_vret rfl rfl dJ0_init_db425_97
set_option maxRecDepth 100000 in
set_option maxHeartbeats 4000000 in
theorem k_J0_init2 (l : Launch) (g : kG) (N : Nat) (M : kMem) (a0 : Nat) (a1 : Nat) (a2 : Nat) : kMetD l g yJ0_init_db425 cJ0_init_db425 5 none 5 [.ref a0, .ref a1, .ref a2] M (fun r : kMem => (none, r)) (F_J0_init2 N M a0 a1 a2) := by
  refine k_ofD (lv := [(0, .ref a0), (1, .ref a1), (2, .ref a2)]) RJ0 (by decide) rfl rfl (Nat.le_of_ble_eq_true rfl) ?_
  unfold F_J0_init2
  refine d_st (fun hX _ => g_aload_n 1 0 (hX _) dJ0_init_db425_0 rfl rfl) rfl ?_
  refine d_objInit 4 q_1447 (Nat.le_of_ble_eq_true rfl) (by decide) dJ0_init_db425_1 rfl ?_
  refine d_st (fun hX _ => g_aload_n 5 1 (hX _) dJ0_init_db425_4 rfl rfl) rfl ?_
  refine d_callV 8 (k_AS_getValue l g N M a1) lk_AS_getValue_6d5f1 (ci := 39) (T := TSB) (N := 4) rfl (Nat.le_of_ble_eq_true rfl) q_1448 (fun s args ht => ht _ q_1451) (by decide) rfl (Nat.le_of_ble_eq_true rfl) dJ0_init_db425_5 rfl (fun r1 _ => ?_)
  show GD _ _ _ _ _ [.ref r1] M
  refine d_st (fun hX _ => g_astore_n 9 3 [(3, .ref r1), (0, .ref a0), (1, .ref a1), (2, .ref a2)] (hX _) dJ0_init_db425_8 rfl rfl (Nat.le_of_ble_eq_true rfl) rfl) rfl ?_
  refine d_st (fun hX _ => g_aload_n 10 2 (hX _) dJ0_init_db425_9 rfl rfl) rfl ?_
  refine d_callU 13 (x9 := yAS_length_8abf5) (k_SB_length l g N M a1) lk_SB_length_8abf5 (ci := 39) (T := TSB) (N := 4) rfl (Nat.le_of_ble_eq_true rfl) q_1453 q_1456 "java/lang/AbstractStringBuilder" q_1455_337 (fun s args ht => va_Decl.of (ht _ q_1454) (ht _ q_1460)) ⟨by decide, by decide, by decide +kernel⟩ (by decide) rfl (Nat.le_of_ble_eq_true rfl) dJ0_init_db425_10 rfl (fun r2 _ => ?_)
  show GD _ _ _ _ _ [.int r2] M
  refine d_st (fun hX _ => g_istore 15 4 [(4, .int r2), (3, .ref r1), (0, .ref a0), (1, .ref a1), (2, .ref a2)] (hX _) dJ0_init_db425_13 rfl (Nat.le_of_ble_eq_true rfl) rfl) rfl ?_
  refine d_st (fun hX _ => g_aload_n 16 3 (hX _) dJ0_init_db425_15 rfl rfl) rfl ?_
  refine d_callV 19 (k_AS_isLatin1 l g N M a1) lk_AS_isLatin1_aae02 (ci := 39) (T := TSB) (N := 4) rfl (Nat.le_of_ble_eq_true rfl) q_1461 (fun s args ht => ht _ q_812) (by decide) rfl (Nat.le_of_ble_eq_true rfl) dJ0_init_db425_16 rfl (fun r3 _ => ?_)
  show GD _ _ _ _ _ [.int r3] M
  refine d_if (fun hX _ => g_if_eq 41 22 (hX _) dJ0_init_db425_19 (by decide) rfl) (fun _ => ?_) (fun _ => ?_)
  · refine d_st (fun hX _ => g_gsCompact 44 (hX _) q_383 dJ0_init_db425_41 rfl) rfl ?_
    refine d_if (fun hX _ => g_if_eq 79 47 (hX _) dJ0_init_db425_44 (by decide) rfl) (fun _ => ?_) (fun _ => ?_)
    · refine d_st (fun hX _ => g_lv [2, 1, 0] rfl) rfl ?_
      exact k_J0_init2_79 N M a0 r1 r2
    · refine d_st (fun hX _ => g_aload_n 48 3 (hX _) dJ0_init_db425_47 rfl rfl) rfl ?_
      refine d_g (fun hX _ => e_J0_1048 51 (hX _) dJ0_init_db425_48 rfl) rfl ?_
      refine d_if (fun hX _ => g_if_eq 79 54 (hX _) dJ0_init_db425_51 (by decide) rfl) (fun _ => ?_) (fun _ => ?_)
      · refine d_st (fun hX _ => g_lv [2, 1, 0] rfl) rfl ?_
        exact k_J0_init2_79 N M a0 r1 r2
      · exact d_none
  · refine d_st (fun hX _ => g_aload_n 23 2 (hX _) dJ0_init_db425_22 rfl rfl) rfl ?_
    refine d_st (fun hX _ => g_iconst 24 (hX _) 0 dJ0_init_db425_23 rfl kc_i_0) rfl ?_
    refine d_stN (fun hX hn _ _ => ui_J0_15 27 (hX _) hn dJ0_init_db425_24 rfl) rfl ?_
    refine d_klM (fun M7 hM7 => ?_)
    refine d_st (fun hX _ => g_aload_n 28 2 (hX _) dJ0_init_db425_27 rfl rfl) rfl ?_
    refine d_st (fun hX _ => g_aload_n 29 1 (hX _) dJ0_init_db425_28 rfl rfl) rfl ?_
    refine d_st (fun hX _ => g_iconst 30 (hX _) 0 dJ0_init_db425_29 rfl kc_i_0) rfl ?_
    refine d_st (fun hX _ => g_iload 32 0 (hX _) dJ0_init_db425_30 rfl rfl) rfl ?_
    refine d_callS 35 (k_AR_copyOfRange l g N M7 r1 0 r2) lk_AR_copyOfRange_39247 q_1462 (by decide) rfl (Nat.le_of_ble_eq_true rfl) dJ0_init_db425_32 rfl (fun r8 _ => ?_)
    show GD _ _ _ _ _ [.ref r8.1, .ref a0] r8.2
    refine d_stN (fun hX hn _ _ => ur_J0_9 38 (hX _) hn dJ0_init_db425_35 rfl) rfl ?_
    refine d_klM (fun M9 hM9 => ?_)
    refine d_st (fun hX _ => g_goto 97 (hX _) dJ0_init_db425_38 (by decide)) rfl ?_
    exact d_vret rfl rfl dJ0_init_db425_97
set_option maxRecDepth 100000 in
set_option maxHeartbeats 4000000 in
theorem k_J0_init1 (l : Launch) (g : kG) (N : Nat) (M : kMem) (a0 : Nat) (a1 : Nat) : kMetD l g yJ0_init_81219 cJ0_init_81219 2 none 6 [.ref a0, .ref a1] M (fun r : kMem => (none, r)) (F_J0_init1 N M a0 a1) := by
  refine k_ofD (lv := [(0, .ref a0), (1, .ref a1)]) RJ0 (by decide) rfl rfl (Nat.le_of_ble_eq_true rfl) ?_
  unfold F_J0_init1
  refine d_st (fun hX _ => g_aload_n 1 0 (hX _) dJ0_init_81219_0 rfl rfl) rfl ?_
  refine d_st (fun hX _ => g_aload_n 2 1 (hX _) dJ0_init_81219_1 rfl rfl) rfl ?_
  refine d_st (fun hX _ => g_null 3 (hX _) dJ0_init_81219_2 rfl) rfl ?_
  refine d_callI 6 (k_J0_init2 l g N M a0 a1 0) lk_J0_init_db425 q_1444 rfl (by decide) rfl (Nat.le_of_ble_eq_true rfl) dJ0_init_81219_3 rfl (fun r1 _ => ?_)
  show GD _ _ _ _ _ [] r1
  exact d_vret rfl rfl dJ0_init_81219_6
set_option maxRecDepth 100000 in
set_option maxHeartbeats 4000000 in
theorem k_SB_toString (l : Launch) (g : kG) (N : Nat) (M : kMem) (a0 : Nat) : kMetD l g ySB_toString_0e30d cSB_toString_0e30d 1 (some (.object "java/lang/String")) 7 [.ref a0] M (fun r : Nat × kMem => (some (.ref r.1), r.2)) (F_SB_toString N M a0) := by
  refine k_ofD (lv := [(0, .ref a0)]) RSB (by decide) rfl rfl (Nat.le_of_ble_eq_true rfl) ?_
  unfold F_SB_toString
  refine dn_J0 3 q_1439 dSB_toString_0e30d_0 rfl ?_
  refine d_klR (fun w1 hw1 => ?_)
  refine d_klM (fun M2 hM2 => ?_)
  refine d_st (fun hX _ => g_dup 4 (hX _) dSB_toString_0e30d_3 rfl rfl) rfl ?_
  refine d_st (fun hX _ => g_aload_n 5 0 (hX _) dSB_toString_0e30d_4 rfl rfl) rfl ?_
  refine d_callI 8 (k_J0_init1 l g N M2 w1 a0) lk_J0_init_81219 q_1441 rfl (by decide) rfl (Nat.le_of_ble_eq_true rfl) dSB_toString_0e30d_5 rfl (fun r3 _ => ?_)
  show GD _ _ _ _ _ [.ref w1] r3
  exact d_aret rfl (Or.inl ⟨_, rfl⟩) rfl dSB_toString_0e30d_8
