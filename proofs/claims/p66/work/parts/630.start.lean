/-! what stands at the start, all of it -/
theorem w_Out {s : State} {args : Array Value} {B : Nat} (hts : ∀ w ∈ lw_tbl, w.before args s = true) (hs : ∀ c ∈ wF, c.before args s = true) (hB : s.heap.size = B + 1) : ∃ aS aV J : Nat → Nat, (kStr B aS aV s s.heap ∧ va_Z "java/lang/String" "COMPACT_STRINGS" "Z" (.int 1) (kZ B) s s.heap ∧ va_Zq "jdk/internal/util/Preconditions" "SIOOBE_FORMATTER" "Ljava/util/function/BiFunction;" (kZ B) s s.heap ∧ kJdk B J s s.heap) ∧ ∀ (i : Nat) (q : String × Nat × String), kStrs[i]? = some q → vk_R q.1 q.2.1 q.2.2 (aS i) s := by
  have hA : ∀ a : Nat, a < s.heap.size → ¬ kZ B a := fun a h h2 => by
    have : B + 1 ≤ a := h2
    omega
  have h0 : ∀ i : Nat, ∃ q : Nat × Nat, i < 23 → (wT i).eval args s none [] s = some (.ref q.1) ∧ va_O "java/lang/String" q.1 (kZ B) s s.heap ∧ va_OF "java/lang/String" "coder" "B" (.int 0) q.1 (kZ B) s s.heap ∧ va_OF "java/lang/String" "value" "[B" (.ref q.2) q.1 (kZ B) s s.heap ∧ va_T .byte q.2 (kSlen.getD i 0) (fun j => .int ((kSbyt.getD i []).getD j 0)) (kZ B) s s.heap := by
    intro i
    by_cases hi : i < 23
    · obtain ⟨q, hq⟩ := w_str (A := kZ B) hs hA i hi
      exact ⟨q, fun _ => hq⟩
    · exact ⟨(0, 0), fun h => absurd h hi⟩
  obtain ⟨ad, had⟩ := Classical.axiomOfChoice h0
  obtain ⟨J, hJ⟩ := w_Jdk hts hs hA
  refine ⟨fun i => (ad i).1, fun i => (ad i).2, J, ⟨fun i hi => ⟨(had i hi).2.1, (had i hi).2.2.1, (had i hi).2.2.2.1, (had i hi).2.2.2.2⟩, ?_, ?_, hJ⟩, fun i q hq => ?_⟩
  · exact va_Zof (hts _ (List.mem_of_getElem? (i := 384) (by decide +kernel))) (hts _ (List.mem_of_getElem? (i := 52) (by decide +kernel))) (va_eqt (hs _ (List.mem_of_getElem? (i := 4) (by decide +kernel)))) hA
  · exact va_Zqof (hts _ (List.mem_of_getElem? (i := 400) (by decide +kernel))) (hts _ (List.mem_of_getElem? (i := 54) (by decide +kernel))) (hs _ (List.mem_of_getElem? (i := 5) (by decide +kernel))) hA
  · have hi : i < 23 := by
      rw [← w_len.1]
      exact (List.getElem?_eq_some_iff.mp hq).1
    have h1 := w_sr i hi
    rw [hq] at h1
    have h2 := (had i hi).1
    unfold wT at h2
    rw [hq] at h2
    exact vk_R.of (hts _ (List.mem_of_getElem? h1.symm)) h2
def aDJ (aD J : Nat → Nat) : Nat → Nat := fun t => if t < 1900 then aD t else J t
theorem w_Tab {s : State} {args : Array Value} {aD J : Nat → Nat} {D : va_G} {aS : Nat → Nat} (hts : ∀ w ∈ lw_tbl, w.before args s = true) (hK : va_K D vwCl (kTys aD) s) (hS : ∀ (i : Nat) (q : String × Nat × String), kStrs[i]? = some q → vk_R q.1 q.2.1 q.2.2 (aS i) s) : kTab (aDJ aD J) D aS s := by
  refine ⟨hK, ⟨va_AO.of (hts _ (List.mem_of_getElem? (i := 197) (by decide +kernel))), va_AO.of (hts _ (List.mem_of_getElem? (i := 199) (by decide +kernel))), va_AO.of (hts _ (List.mem_of_getElem? (i := 358) (by decide +kernel))), va_AO.of (hts _ (List.mem_of_getElem? (i := 153) (by decide +kernel))), va_AO.of (hts _ (List.mem_of_getElem? (i := 1046) (by decide +kernel)))⟩, hS, fun q hq => ?_, w_Exc hts⟩
  obtain ⟨i, hi⟩ := List.mem_iff_getElem?.mp hq
  have h11 : i < 6 := by
    rw [← w_len.2]
    exact (List.getElem?_eq_some_iff.mp hi).1
  have h1 := w_n i h11
  rw [hi] at h1
  exact va_Nw.of rfl (hts _ (List.mem_of_getElem? h1.symm))
theorem w_JdkJ {B : Nat} {aD J : Nat → Nat} {s : State} (h : kJdk B J s s.heap) : kJdk B (aDJ aD J) s s.heap := by
  have e : (fun k => aDJ aD J (2000 + k)) = fun k => J (2000 + k) := funext fun k => if_neg (by omega)
  have e2 : (fun k => Value.ref (aDJ aD J (2000 + k))) = fun k => .ref (J (2000 + k)) := funext fun k => by rw [show aDJ aD J (2000 + k) = J (2000 + k) from if_neg (by omega)]
  unfold kJdk at h ⊢
  rw [e, e2, show aDJ aD J 1999 = J 1999 from if_neg (by omega), show aDJ aD J 1998 = J 1998 from if_neg (by omega), show aDJ aD J 1997 = J 1997 from if_neg (by omega), show aDJ aD J 1996 = J 1996 from if_neg (by omega)]
  exact h
set_option maxHeartbeats 4000000 in
set_option maxRecDepth 100000 in
/-- THE LAW, from its entry -/
theorem whole_start {p : Program} {e : Env} {s : State} {m : MethodId} {below : List Frame} {meth : Method} {c : Code} (l : Launch) (hflags : l.flags = flags0) {b L : Nat} {xs : Nat → Int32} (hL : L ≤ 260) (C0 : lw_At p s m meth c b L xs) : W p l e room_1 s m #[Value.ref b] below meth c s.heap [] 0 0 (lw_Z below #[Value.ref b] s) (entryFrame m ([Value.ref b] : List Value).toArray 7) := by
  obtain ⟨hx, hb, hr, hml, hown, hts, hX, hbl, hlocks, hgv⟩ := C0
  have hs : ∀ c ∈ wF, c.before #[Value.ref b] s = true := flat_of_before _ hgv
  obtain ⟨B, hB⟩ : ∃ B, s.heap.size = B + 1 := ⟨s.heap.size - 1, by omega⟩
  obtain ⟨aD, D, hK⟩ := w_K hts
  obtain ⟨aS, aV, J, ⟨o1, o2, o3, o4⟩, hS⟩ := w_Out hts hs hB
  have hT : kTab (aDJ aD J) D aS s := w_Tab hts hK hS
  have hO : kOut (aDJ aD J) B aS aV s s.heap := ⟨o1, o2, o3, w_JdkJ o4⟩
  have hC : Cok (p, l, e, room_1, s, m, #[Value.ref b], below, meth, c, cL_law, 7, RL, (aDJ aD J, D, B, aS, aV), 14) := ⟨hx, hb, hml, hown, x_all hts, hlocks, Nat.le_of_eq hB.symm, hO, hT, by decide, by decide⟩
  have hg := k_L_law_0 hC hX hbl hB hr 20001 (wz [] z0 zR zL)
  have hH : kHd (aDJ aD J) D B (wz [] z0 zR zL) s.heap := fun k q h => by
    unfold kWs at h
    simp [wz] at h
  have hl := lv_entry ([Value.retAddr b].map (kT B)) (n := 7) (Nat.le_of_ble_eq_true rfl)
  rw [kT_args] at hl
  rw [lg_entry_eq]
  exact hg () (z_law (by decide) (Nat.le_trans hL (by decide))) s.heap [] _ hH va_S.rf hl
