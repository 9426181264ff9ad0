set_option maxHeartbeats 4000000 in
set_option maxRecDepth 100000 in
/-- THE LAW, from its entry -/
theorem whole_start {p : Program} {e : Env} {s : State} {m : MethodId} {below : List Frame} {meth : Method} {c : Code} (l : Launch) (hflags : l.flags = flags0) {b L : Nat} {xs : Nat → Int32} (hL : L ≤ 3072) (C0 : lw_At p s m meth c b L xs) : W p l e room_1 s m #[Value.ref b] below meth c s.heap [] 0 0 (lw_Z below #[Value.ref b] s) (entryFrame m ([Value.ref b] : List Value).toArray 9) := by
  obtain ⟨hx, hb, hr, hml, hown, hts, hX, hbl, hlocks, hgv⟩ := C0
  have hs : ∀ c ∈ wF, c.before #[Value.ref b] s = true := flat_of_before _ hgv
  obtain ⟨B, hB⟩ : ∃ B, s.heap.size = B + 1 := ⟨s.heap.size - 1, by omega⟩
  obtain ⟨aD, D, hK⟩ := w_K hts
  obtain ⟨aS, aV, hO, hS⟩ := w_Out hts hs hB
  have hT := w_Tab hts hK hS
  have hC : Cok (p, l, e, room_1, s, m, #[Value.ref b], below, meth, c, cL_law, 9, RL, (aD, D, B, aS, aV), 1000) := ⟨hx, hb, hml, hown, fun w hw => hts w (List.mem_filter.mp hw).1, hlocks, Nat.le_of_eq hB.symm, hO, hT, by decide, by decide⟩
  have hg := k_L_law_0 hC hflags (w_Nc hs) hX hbl hB hr 20001 (wz [] z0 zR zL)
  have hH : kHd aD D B (wz [] z0 zR zL) s.heap := fun k q h => by
    unfold kWs at h
    simp [wz] at h
  have hl := lv_entry ([Value.retAddr b].map (kT B)) (n := 9) (Nat.le_of_ble_eq_true rfl)
  rw [kT_args] at hl
  rw [lg_entry_eq]
  exact hg () (z_law (by decide) hL) s.heap [] _ hH va_S.rf hl
