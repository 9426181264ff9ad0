/-! the words of the law's body -/
theorem wt_3 {w : Cond} (h : w ∈ tables_1_3) (g : goodWord w = true) : w ∈ WT := List.mem_filter.mpr ⟨List.mem_append_left _ (List.mem_append_right _ (List.mem_append_right _ (List.mem_append_right _ (List.mem_append_left _ h)))), g⟩
theorem wt_7 {w : Cond} (h : w ∈ tables_1_7) (g : goodWord w = true) : w ∈ WT := List.mem_filter.mpr ⟨List.mem_append_left _ (List.mem_append_right _ (List.mem_append_right _ (List.mem_append_right _ (List.mem_append_right _ (List.mem_append_right _ (List.mem_append_right _ (List.mem_append_right _ (List.mem_append_left _ h)))))))), g⟩
theorem wt_8 {w : Cond} (h : w ∈ tables_1_8) (g : goodWord w = true) : w ∈ WT := List.mem_filter.mpr ⟨List.mem_append_left _ (List.mem_append_right _ (List.mem_append_right _ (List.mem_append_right _ (List.mem_append_right _ (List.mem_append_right _ (List.mem_append_right _ (List.mem_append_right _ (List.mem_append_right _ (List.mem_append_left _ h))))))))), g⟩
theorem wc_begins : Cond.code yL_begins cL_begins 7 (some (.object "SeesawMarketLaw")) ∈ WT := wt_3 (List.mem_of_getElem? (i := 142) rfl) rfl
theorem wc_still : Cond.code yL_still cL_still 6 (some .boolean) ∈ WT := wt_7 (List.mem_of_getElem? (i := 127) rfl) rfl
theorem wc_act : Cond.code yL_act cL_act 11 (some .boolean) ∈ WT := wt_8 (List.mem_of_getElem? (i := 196) rfl) rfl
theorem kc_b_14 : (Int8.ofInt (14)).toInt32 = 14 := by decide
theorem lk_L_begins : kLs yL_begins cL_begins 7 (some (.object "SeesawMarketLaw")) 2 := ⟨wc_begins, kw 662 (by decide +kernel) rfl, kw 41 (by decide +kernel) rfl, ⟨by decide, by decide, by decide +kernel⟩, Nat.le_of_ble_eq_true rfl⟩
theorem lk_L_still : kLs yL_still cL_still 6 (some .boolean) 2 := ⟨wc_still, kw 1607 (by decide +kernel) rfl, kw 41 (by decide +kernel) rfl, ⟨by decide, by decide, by decide +kernel⟩, Nat.le_of_ble_eq_true rfl⟩
theorem lk_L_act : kLs yL_act cL_act 11 (some .boolean) 3 := ⟨wc_act, kw 1916 (by decide +kernel) rfl, kw 41 (by decide +kernel) rfl, ⟨by decide, by decide, by decide +kernel⟩, Nat.le_of_ble_eq_true rfl⟩
theorem wl_180 : Cond.methodLink RL 180 yL_begins ∈ WT := kw 661 (by decide +kernel) rfl
theorem wl_184 : Cond.methodLink RL 184 yL_still ∈ WT := kw 1606 (by decide +kernel) rfl
theorem wl_188 : Cond.methodLink RL 188 yL_act ∈ WT := kw 1915 (by decide +kernel) rfl
theorem wl_179 : Cond.methodLink RL 179 yX11_init ∈ WT := kw 91 (by decide +kernel) rfl
theorem wl_20 : Cond.classLink RL 20 RX11 ∈ WT := kw 89 (by decide +kernel) rfl
theorem wl_x : Cond.instantiable RX11 9 ∈ WT := kw 90 (by decide +kernel) rfl
theorem wl_y : Cond.initialized RX11 ∈ WT := kw 42 (by decide +kernel) rfl
theorem lk_X11_init : kLk yX11_init cX11_init 2 none 0 := ⟨kw 93 (by decide +kernel) rfl, kw 92 (by decide +kernel) rfl, kw 42 (by decide +kernel) rfl, ⟨by decide, by decide, by decide +kernel⟩, Nat.le_of_ble_eq_true rfl⟩
