variable {Mb : SMem}
section
variable {I I' : kInts} {r r' : Nat → Int32} {nb nt m : Nat}
theorem setr_eq {k : Nat} {v : Int32} : setr r k v k = v := if_pos rfl
theorem setr_ne {k j : Nat} {v : Int32} (h : j ≠ k) : setr r k v j = r j := if_neg h
theorem up_eq {a j : Nat} {v : Int32} : up I a j v a j = v := if_pos ⟨rfl, rfl⟩
theorem up_ne {a j a' j' : Nat} {v : Int32} (h : a' ≠ a ∨ j' ≠ j) : up I a j v a' j' = I a' j' := if_neg (by omega)
theorem setr_same {k : Nat} {v : Int32} (h : r k = v) : setr r k v = r := by
  funext j
  by_cases e : j = k
  · subst e; rw [setr_eq, h]
  · rw [setr_ne e]
theorem up_same {a j : Nat} {v : Int32} (h : I a j = v) : up I a j v = I := by
  funext b k
  by_cases e : b = a ∧ k = j
  · obtain ⟨rfl, rfl⟩ := e; rw [up_eq, h]
  · rw [up_ne (by omega)]
theorem setr_comm {i j : Nat} {v w : Int32} (h : i ≠ j) : setr (setr r i v) j w = setr (setr r j w) i v := by
  funext k
  by_cases h1 : k = i
  · subst h1
    rw [setr_ne h, setr_eq, setr_eq]
  · rw [setr_ne (k := i) h1]
    by_cases h2 : k = j
    · subst h2
      rw [setr_eq, setr_eq]
    · rw [setr_ne h2, setr_ne h2, setr_ne h1]
theorem setr_setr {i : Nat} {v w : Int32} : setr (setr r i v) i w = setr r i w := by
  funext k
  unfold setr
  by_cases h1 : k = i <;> simp [h1]
theorem RIg.cg (h : RIg r nb nt) (e : ∀ k, k ∈ [0, 1, 2, 3, 4, 7, 8, 13] → r' k = r k) : RIg r' nb nt := by
  unfold RIg
  rw [e 0 (by decide), e 1 (by decide), e 2 (by decide), e 3 (by decide), e 4 (by decide), e 7 (by decide), e 8 (by decide), e 13 (by decide)]
  exact h
theorem RIb.cg (h : RIb r nb) (e : ∀ b, b < nb → ∀ w, w < 3 → r' (14 + 15 * b + w) = r (14 + 15 * b + w)) : RIb r' nb := by
  intro b hb
  rw [e b hb 0 (by decide), e b hb 1 (by decide), e b hb 2 (by decide)]
  exact h b hb
theorem RIt.cg (h : RIt r nt) (e : ∀ t, t < nt → r' (89 + 7 * t + 1) = r (89 + 7 * t + 1) ∧ r' (89 + 7 * t + 4) = r (89 + 7 * t + 4) ∧ r' (89 + 7 * t + 5) = r (89 + 7 * t + 5) ∧ (r (89 + 7 * t + 4) = 0 → r' (89 + 7 * t + 2) = r (89 + 7 * t + 2))) : RIt r' nt := by
  intro t ht
  obtain ⟨e1, e4, e5, e2⟩ := e t ht
  obtain ⟨h1, h2⟩ := h t ht
  rw [e1, e4, e5]
  refine ⟨h1, h2.imp id (fun z => ⟨z.1, z.2.1, ?_⟩)⟩
  rw [e2 z.1]
  exact z.2.2
theorem st.cg {t b q : Nat} (h : st r nb t b q) (e1 : r' (14 + 15 * b + 0) = r (14 + 15 * b + 0)) (e2 : r' (si b q) = r (si b q)) (e5 : r' (89 + 7 * t + 5) = r (89 + 7 * t + 5)) (e6 : r' (89 + 7 * t + 6) = r (89 + 7 * t + 6)) : st r' nb t b q := by
  unfold st
  rw [e1, e2, e5, e6]
  exact h
theorem RIs.cg (h : RIs r nb nt) (e1 : ∀ b, b < nb → r' (14 + 15 * b + 0) = r (14 + 15 * b + 0)) (e2 : ∀ b, b < nb → ∀ q, q < 13 → q ≠ 6 → r' (si b q) = r (si b q)) (e3 : ∀ t, t < nt → r' (89 + 7 * t + 5) = r (89 + 7 * t + 5) ∧ r' (89 + 7 * t + 6) = r (89 + 7 * t + 6)) : RIs r' nb nt := by
  refine ⟨fun t ht => ?_, fun b hb q hq h6 => ?_⟩
  · rw [(e3 t ht).1, (e3 t ht).2]
    exact (h.1 t ht).imp id (fun ⟨b, q, hs⟩ => ⟨b, q, hs.cg (e1 b hs.1) (e2 b hs.1 q hs.q13 hs.2.1) (e3 t ht).1 (e3 t ht).2⟩)
  · rw [e2 b hb q hq h6]
    exact (h.2 b hb q hq h6).imp id (fun ⟨t, ht, e, hs⟩ => ⟨t, ht, e, hs.cg (e1 b hs.1) (e2 b hs.1 q hs.q13 hs.2.1) (e3 t ht).1 (e3 t ht).2⟩)
theorem sumN_congr {f g : Nat → Nat} : ∀ {n : Nat}, (∀ i, i < n → g i = f i) → sumN g n = sumN f n
  | 0, _ => rfl
  | n + 1, h => by
    show sumN g n + g n = sumN f n + f n
    rw [sumN_congr (fun i hi => h i (Nat.lt_succ_of_lt hi)), h n (Nat.lt_succ_self n)]
theorem sumN_upd {f g : Nat → Nat} (i : Nat) : ∀ {n : Nat}, i < n → (∀ j, j < n → j ≠ i → g j = f j) → sumN g n + f i = sumN f n + g i
  | 0, h, _ => absurd h (Nat.not_lt_zero _)
  | n + 1, h, h2 => by
    show sumN g n + g n + f i = sumN f n + f n + g i
    by_cases e : i = n
    · subst e
      rw [sumN_congr (fun j hj => h2 j (Nat.lt_succ_of_lt hj) (Nat.ne_of_lt hj))]
      omega
    · have h3 := sumN_upd i (show i < n by omega) (fun j hj => h2 j (Nat.lt_succ_of_lt hj))
      have h4 := h2 n (Nat.lt_succ_self n) (fun q => e q.symm)
      omega
theorem sumN_le {f : Nat → Nat} (i : Nat) : ∀ {n : Nat}, i < n → f i ≤ sumN f n
  | 0, h => absurd h (Nat.not_lt_zero _)
  | n + 1, h => by
    show f i ≤ sumN f n + f n
    by_cases e : i = n
    · subst e; omega
    · have := sumN_le (f := f) i (show i < n by omega)
      omega
def tot (r : Nat → Int32) (nt : Nat) : Nat := kx (r 5) + sumN (pu r) nt
def cl (nt i : Nat) : Prop := i = 5 ∨ ∃ t, t < nt ∧ i = 89 + 7 * t + 2
theorem RIc.cg (h : RIc r nt) (e5 : r' 5 = r 5) (e : ∀ t, t < nt → r' (89 + 7 * t + 2) = r (89 + 7 * t + 2)) : RIc r' nt := by
  refine ⟨by rw [e5]; exact h.1, fun t ht => by rw [e t ht]; exact h.2.1 t ht, ?_⟩
  rw [e5, sumN_congr (f := pu r) (fun t ht => by unfold pu; rw [e t ht])]
  exact h.2.2
theorem RIc.nnn {i : Nat} (h : RIc r nt) (hi : cl nt i) : nn (r i) := by
  rcases hi with rfl | ⟨t, ht, rfl⟩
  · exact h.1
  · exact h.2.1 t ht
theorem cl_le {i : Nat} (hi : cl nt i) : kx (r i) ≤ tot r nt := by
  unfold tot
  rcases hi with rfl | ⟨t, ht, rfl⟩
  · omega
  · have := sumN_le (f := pu r) t ht
    unfold pu at this ⊢
    omega
theorem tot_set {i x v : Nat} (hi : cl nt i) (hx : r i = nI x) (h1 : x < 2147483648) (h2 : v < 2147483648) : tot (setr r i (nI v)) nt + x = tot r nt + v := by
  unfold tot
  rcases hi with rfl | ⟨t, ht, rfl⟩
  · rw [setr_eq, hx, kx_nI h1, kx_nI h2, sumN_congr (f := pu r) (g := pu (setr r 5 (nI v))) (fun t ht => by unfold pu; rw [setr_ne (by omega)])]
    omega
  · have e := sumN_upd (f := pu r) (g := pu (setr r (89 + 7 * t + 2) (nI v))) t ht (fun s hs hne => by unfold pu; rw [setr_ne (by omega)])
    have e1 : pu r t = x := by unfold pu; rw [hx, kx_nI h1]
    have e2 : pu (setr r (89 + 7 * t + 2) (nI v)) t = v := by unfold pu; rw [setr_eq, kx_nI h2]
    rw [setr_ne (show 5 ≠ 89 + 7 * t + 2 by omega)]
    omega
theorem nn_nI {x : Nat} (h : x < 2147483648) : nn (nI x) := by unfold nn; rw [kx_nI h]
theorem nn_lt {x : Int32} : kx x < 2147483648 := by
  unfold kx Int32.toNatClampNeg
  have := x.toInt_lt
  omega
theorem RIc.set {i x v : Nat} (h : RIc r nt) (hi : cl nt i) (hx : r i = nI x) (h1 : x < 2147483648) (h2 : v < 2147483648) (hb : tot r nt + v ≤ x + (100000 + 10000 * nt)) : RIc (setr r i (nI v)) nt := by
  have hk : ∀ j, cl nt j → nn (setr r i (nI v) j) := by
    intro j hj
    by_cases e : j = i
    · subst e; rw [setr_eq]; exact nn_nI h2
    · rw [setr_ne e]; exact h.nnn hj
  refine ⟨hk 5 (Or.inl rfl), fun t ht => hk _ (Or.inr ⟨t, ht, rfl⟩), ?_⟩
  have := tot_set hi hx h1 h2
  unfold tot at this hb
  omega
theorem Nu.cg (h : Nu I m) (e1 : ∀ b, b < 5 → I' (bd m b) 0 = I (bd m b) 0) (e2 : ∀ t, t < 24 → I' (tr m t) 0 = I (tr m t) 0) (e3 : ∀ t, t < 24 → I' (tr m t) 5 = I (tr m t) 5 ∨ I' (tr m t) 5 = 0 ∨ I' (tr m t) 5 = 1) : Nu I' m :=
  ⟨fun b hb => (e1 b hb).trans (h.1 b hb), fun t ht => (e2 t ht).trans (h.2.1 t ht), fun t ht => (e3 t ht).elim (fun z => by rw [z]; exact h.2.2 t ht) id⟩
theorem RMg.cg (h : RMg I m r) (e1 : ∀ j, j < 13 → I' m j = I m j) (e2 : ∀ k, k < 13 → r' k = r k) : RMg I' m r' := by
  unfold RMg
  rw [e1 0 (by decide), e1 1 (by decide), e1 2 (by decide), e1 3 (by decide), e1 4 (by decide), e1 5 (by decide), e1 6 (by decide), e1 7 (by decide), e1 8 (by decide), e1 9 (by decide), e1 10 (by decide), e1 11 (by decide), e1 12 (by decide), e2 0 (by decide), e2 1 (by decide), e2 2 (by decide), e2 3 (by decide), e2 4 (by decide), e2 5 (by decide), e2 6 (by decide), e2 7 (by decide), e2 8 (by decide), e2 9 (by decide), e2 10 (by decide), e2 11 (by decide), e2 12 (by decide)]
  exact h
theorem RMb.cg (h : RMb I m r nb) (e1 : ∀ b, b < nb → ∀ j, I' (bd m b) j = I (bd m b) j) (e2 : ∀ b, b < nb → ∀ j, I' (ow m b) j = I (ow m b) j) (e3 : ∀ k, 14 ≤ k → k < 89 → r' k = r k) (h5 : nb ≤ 5) : RMb I' m r' nb := by
  intro b hb
  rw [e1 b hb, e1 b hb, e1 b hb, e2 b hb, e3 (14 + 15 * b + 0) (by omega) (by omega), e3 (14 + 15 * b + 1) (by omega) (by omega), e3 (14 + 15 * b + 2) (by omega) (by omega)]
  obtain ⟨h1, h2, h3, h4, h6⟩ := h b hb
  refine ⟨h1, h2, h3, fun q hq hq6 => ?_, h6⟩
  have h7 := si_lt (show b < 5 by omega) hq
  rw [e2 b hb, e3 (si b q) (by unfold si; omega) h7]
  exact h4 q hq hq6
theorem RMt.cg (h : RMt I m r nt) (e1 : ∀ t, t < nt → ∀ j, I' (tr m t) j = I (tr m t) j) (e2 : ∀ t, t < nt → ∀ w, w < 7 → r' (89 + 7 * t + w) = r (89 + 7 * t + w)) : RMt I' m r' nt := by
  intro t ht
  rw [e1 t ht, e1 t ht, e1 t ht, e1 t ht, e1 t ht, e1 t ht, e2 t ht 1 (by decide), e2 t ht 2 (by decide), e2 t ht 3 (by decide), e2 t ht 4 (by decide), e2 t ht 5 (by decide), e2 t ht 6 (by decide)]
  exact h t ht
theorem RMn.cg (h : RMn I m r nt) (e1 : ∀ t, t < nt → ∀ j, 1000 ≤ j → I' (tr m t) j = I (tr m t) j) (e3 : ∀ t, t < nt → r' (89 + 7 * t + 0) = r (89 + 7 * t + 0)) : RMn I' m r' nt := by
  intro t ht
  rw [e3 t ht, jn_cg (e1 t ht)]
  exact h t ht
theorem RMe.cg (h : RMe I m r) (e1 : I' (ev m) 3 = I (ev m) 3) (e2 : ∀ k, k < 3 → ∀ j, I' (ek m k) j = I (ek m k) j) (e3 : ∀ k, k = 13 ∨ 257 ≤ k → r' k = r k) : RMe I' m r' := by
  unfold RMe
  rw [e1, e3 13 (Or.inl rfl)]
  refine ⟨h.1, fun e he h13 k hk => ?_⟩
  rw [e2 0 (by decide), e2 1 (by decide), e2 2 (by decide), e3 (257 + 3 * k) (Or.inr (by omega)), e3 (258 + 3 * k) (Or.inr (by omega)), e3 (259 + 3 * k) (Or.inr (by omega))]
  exact h.2 e he h13 k hk
theorem RM_t1 {t : Nat} (h : RM I m r nb nt) (h5 : nb ≤ 5) (h24 : nt ≤ 24) (ht : t < 24) (v : Int32) : RM (up I (tr m t) 2 v) m (setr r (89 + 7 * t + 1) v) nb nt := by
  have q1 : tr m t = m + 17 + t := rfl
  refine ⟨h.nu.cg (fun b hb => up_ne (Or.inr (by decide))) (fun s hs => up_ne (Or.inr (by decide))) (fun s hs => Or.inl (up_ne (Or.inr (by decide)))), h.g.cg (fun j hj => up_ne (Or.inl (by omega))) (fun k hk => setr_ne (by omega)), h.bb.cg (fun b hb j => up_ne (Or.inl (by unfold bd; omega))) (fun b hb j => up_ne (Or.inl (by unfold ow; omega))) (fun k h1 h2 => setr_ne (by omega)) h5, fun s hs => ?_, h.n.cg (fun s hs j hj => up_ne (Or.inr (by omega))) (fun s hs => setr_ne (by omega)), h.e.cg (up_ne (Or.inl (by unfold ev; omega))) (fun k hk j => up_ne (Or.inl (by unfold ek; omega))) (fun k hk => setr_ne (by omega))⟩
  have q2 : tr m s = m + 17 + s := rfl
  by_cases e : s = t
  · subst e
    exact ⟨by rw [up_eq, setr_eq], by rw [up_ne (Or.inr (by decide)), setr_ne (by omega)]; exact (h.tt s hs).2.1, by rw [up_ne (Or.inr (by decide)), setr_ne (by omega)]; exact (h.tt s hs).2.2.1, by rw [up_ne (Or.inr (by decide)), setr_ne (by omega)]; exact (h.tt s hs).2.2.2.1, by rw [up_ne (Or.inr (by decide)), setr_ne (by omega)]; exact (h.tt s hs).2.2.2.2.1, by rw [up_ne (Or.inr (by decide)), setr_ne (by omega)]; exact (h.tt s hs).2.2.2.2.2⟩
  · exact ⟨by rw [up_ne (Or.inl (by omega)), setr_ne (by omega)]; exact (h.tt s hs).1, by rw [up_ne (Or.inl (by omega)), setr_ne (by omega)]; exact (h.tt s hs).2.1, by rw [up_ne (Or.inl (by omega)), setr_ne (by omega)]; exact (h.tt s hs).2.2.1, by rw [up_ne (Or.inl (by omega)), setr_ne (by omega)]; exact (h.tt s hs).2.2.2.1, by rw [up_ne (Or.inl (by omega)), setr_ne (by omega)]; exact (h.tt s hs).2.2.2.2.1, by rw [up_ne (Or.inl (by omega)), setr_ne (by omega)]; exact (h.tt s hs).2.2.2.2.2⟩
theorem RM_t2 {t : Nat} (h : RM I m r nb nt) (h5 : nb ≤ 5) (h24 : nt ≤ 24) (ht : t < 24) (v : Int32) : RM (up I (tr m t) 3 v) m (setr r (89 + 7 * t + 2) v) nb nt := by
  have q1 : tr m t = m + 17 + t := rfl
  refine ⟨h.nu.cg (fun b hb => up_ne (Or.inr (by decide))) (fun s hs => up_ne (Or.inr (by decide))) (fun s hs => Or.inl (up_ne (Or.inr (by decide)))), h.g.cg (fun j hj => up_ne (Or.inl (by omega))) (fun k hk => setr_ne (by omega)), h.bb.cg (fun b hb j => up_ne (Or.inl (by unfold bd; omega))) (fun b hb j => up_ne (Or.inl (by unfold ow; omega))) (fun k h1 h2 => setr_ne (by omega)) h5, fun s hs => ?_, h.n.cg (fun s hs j hj => up_ne (Or.inr (by omega))) (fun s hs => setr_ne (by omega)), h.e.cg (up_ne (Or.inl (by unfold ev; omega))) (fun k hk j => up_ne (Or.inl (by unfold ek; omega))) (fun k hk => setr_ne (by omega))⟩
  have q2 : tr m s = m + 17 + s := rfl
  by_cases e : s = t
  · subst e
    exact ⟨by rw [up_ne (Or.inr (by decide)), setr_ne (by omega)]; exact (h.tt s hs).1, by rw [up_eq, setr_eq], by rw [up_ne (Or.inr (by decide)), setr_ne (by omega)]; exact (h.tt s hs).2.2.1, by rw [up_ne (Or.inr (by decide)), setr_ne (by omega)]; exact (h.tt s hs).2.2.2.1, by rw [up_ne (Or.inr (by decide)), setr_ne (by omega)]; exact (h.tt s hs).2.2.2.2.1, by rw [up_ne (Or.inr (by decide)), setr_ne (by omega)]; exact (h.tt s hs).2.2.2.2.2⟩
  · exact ⟨by rw [up_ne (Or.inl (by omega)), setr_ne (by omega)]; exact (h.tt s hs).1, by rw [up_ne (Or.inl (by omega)), setr_ne (by omega)]; exact (h.tt s hs).2.1, by rw [up_ne (Or.inl (by omega)), setr_ne (by omega)]; exact (h.tt s hs).2.2.1, by rw [up_ne (Or.inl (by omega)), setr_ne (by omega)]; exact (h.tt s hs).2.2.2.1, by rw [up_ne (Or.inl (by omega)), setr_ne (by omega)]; exact (h.tt s hs).2.2.2.2.1, by rw [up_ne (Or.inl (by omega)), setr_ne (by omega)]; exact (h.tt s hs).2.2.2.2.2⟩
theorem RM_t3 {t : Nat} (h : RM I m r nb nt) (h5 : nb ≤ 5) (h24 : nt ≤ 24) (ht : t < 24) (v : Int32) : RM (up I (tr m t) 4 v) m (setr r (89 + 7 * t + 3) v) nb nt := by
  have q1 : tr m t = m + 17 + t := rfl
  refine ⟨h.nu.cg (fun b hb => up_ne (Or.inr (by decide))) (fun s hs => up_ne (Or.inr (by decide))) (fun s hs => Or.inl (up_ne (Or.inr (by decide)))), h.g.cg (fun j hj => up_ne (Or.inl (by omega))) (fun k hk => setr_ne (by omega)), h.bb.cg (fun b hb j => up_ne (Or.inl (by unfold bd; omega))) (fun b hb j => up_ne (Or.inl (by unfold ow; omega))) (fun k h1 h2 => setr_ne (by omega)) h5, fun s hs => ?_, h.n.cg (fun s hs j hj => up_ne (Or.inr (by omega))) (fun s hs => setr_ne (by omega)), h.e.cg (up_ne (Or.inl (by unfold ev; omega))) (fun k hk j => up_ne (Or.inl (by unfold ek; omega))) (fun k hk => setr_ne (by omega))⟩
  have q2 : tr m s = m + 17 + s := rfl
  by_cases e : s = t
  · subst e
    exact ⟨by rw [up_ne (Or.inr (by decide)), setr_ne (by omega)]; exact (h.tt s hs).1, by rw [up_ne (Or.inr (by decide)), setr_ne (by omega)]; exact (h.tt s hs).2.1, by rw [up_eq, setr_eq], by rw [up_ne (Or.inr (by decide)), setr_ne (by omega)]; exact (h.tt s hs).2.2.2.1, by rw [up_ne (Or.inr (by decide)), setr_ne (by omega)]; exact (h.tt s hs).2.2.2.2.1, by rw [up_ne (Or.inr (by decide)), setr_ne (by omega)]; exact (h.tt s hs).2.2.2.2.2⟩
  · exact ⟨by rw [up_ne (Or.inl (by omega)), setr_ne (by omega)]; exact (h.tt s hs).1, by rw [up_ne (Or.inl (by omega)), setr_ne (by omega)]; exact (h.tt s hs).2.1, by rw [up_ne (Or.inl (by omega)), setr_ne (by omega)]; exact (h.tt s hs).2.2.1, by rw [up_ne (Or.inl (by omega)), setr_ne (by omega)]; exact (h.tt s hs).2.2.2.1, by rw [up_ne (Or.inl (by omega)), setr_ne (by omega)]; exact (h.tt s hs).2.2.2.2.1, by rw [up_ne (Or.inl (by omega)), setr_ne (by omega)]; exact (h.tt s hs).2.2.2.2.2⟩
theorem RM_t4 {t : Nat} (h : RM I m r nb nt) (h5 : nb ≤ 5) (h24 : nt ≤ 24) (ht : t < 24) (v : Int32) (hv : v = 0 ∨ v = 1) : RM (up I (tr m t) 5 v) m (setr r (89 + 7 * t + 4) v) nb nt := by
  have q1 : tr m t = m + 17 + t := rfl
  refine ⟨h.nu.cg (fun b hb => up_ne (Or.inr (by decide))) (fun s hs => up_ne (Or.inr (by decide))) (fun s hs => (by by_cases e : s = t; exact Or.inr (by rw [e, up_eq]; exact hv); exact Or.inl (up_ne (Or.inl (by unfold tr; omega))))), h.g.cg (fun j hj => up_ne (Or.inl (by omega))) (fun k hk => setr_ne (by omega)), h.bb.cg (fun b hb j => up_ne (Or.inl (by unfold bd; omega))) (fun b hb j => up_ne (Or.inl (by unfold ow; omega))) (fun k h1 h2 => setr_ne (by omega)) h5, fun s hs => ?_, h.n.cg (fun s hs j hj => up_ne (Or.inr (by omega))) (fun s hs => setr_ne (by omega)), h.e.cg (up_ne (Or.inl (by unfold ev; omega))) (fun k hk j => up_ne (Or.inl (by unfold ek; omega))) (fun k hk => setr_ne (by omega))⟩
  have q2 : tr m s = m + 17 + s := rfl
  by_cases e : s = t
  · subst e
    exact ⟨by rw [up_ne (Or.inr (by decide)), setr_ne (by omega)]; exact (h.tt s hs).1, by rw [up_ne (Or.inr (by decide)), setr_ne (by omega)]; exact (h.tt s hs).2.1, by rw [up_ne (Or.inr (by decide)), setr_ne (by omega)]; exact (h.tt s hs).2.2.1, by rw [up_eq, setr_eq], by rw [up_ne (Or.inr (by decide)), setr_ne (by omega)]; exact (h.tt s hs).2.2.2.2.1, by rw [up_ne (Or.inr (by decide)), setr_ne (by omega)]; exact (h.tt s hs).2.2.2.2.2⟩
  · exact ⟨by rw [up_ne (Or.inl (by omega)), setr_ne (by omega)]; exact (h.tt s hs).1, by rw [up_ne (Or.inl (by omega)), setr_ne (by omega)]; exact (h.tt s hs).2.1, by rw [up_ne (Or.inl (by omega)), setr_ne (by omega)]; exact (h.tt s hs).2.2.1, by rw [up_ne (Or.inl (by omega)), setr_ne (by omega)]; exact (h.tt s hs).2.2.2.1, by rw [up_ne (Or.inl (by omega)), setr_ne (by omega)]; exact (h.tt s hs).2.2.2.2.1, by rw [up_ne (Or.inl (by omega)), setr_ne (by omega)]; exact (h.tt s hs).2.2.2.2.2⟩
theorem RM_t5 {t : Nat} (h : RM I m r nb nt) (h5 : nb ≤ 5) (h24 : nt ≤ 24) (ht : t < 24) (v : Int32) : RM (up I (tr m t) 6 v) m (setr r (89 + 7 * t + 5) v) nb nt := by
  have q1 : tr m t = m + 17 + t := rfl
  refine ⟨h.nu.cg (fun b hb => up_ne (Or.inr (by decide))) (fun s hs => up_ne (Or.inr (by decide))) (fun s hs => Or.inl (up_ne (Or.inr (by decide)))), h.g.cg (fun j hj => up_ne (Or.inl (by omega))) (fun k hk => setr_ne (by omega)), h.bb.cg (fun b hb j => up_ne (Or.inl (by unfold bd; omega))) (fun b hb j => up_ne (Or.inl (by unfold ow; omega))) (fun k h1 h2 => setr_ne (by omega)) h5, fun s hs => ?_, h.n.cg (fun s hs j hj => up_ne (Or.inr (by omega))) (fun s hs => setr_ne (by omega)), h.e.cg (up_ne (Or.inl (by unfold ev; omega))) (fun k hk j => up_ne (Or.inl (by unfold ek; omega))) (fun k hk => setr_ne (by omega))⟩
  have q2 : tr m s = m + 17 + s := rfl
  by_cases e : s = t
  · subst e
    exact ⟨by rw [up_ne (Or.inr (by decide)), setr_ne (by omega)]; exact (h.tt s hs).1, by rw [up_ne (Or.inr (by decide)), setr_ne (by omega)]; exact (h.tt s hs).2.1, by rw [up_ne (Or.inr (by decide)), setr_ne (by omega)]; exact (h.tt s hs).2.2.1, by rw [up_ne (Or.inr (by decide)), setr_ne (by omega)]; exact (h.tt s hs).2.2.2.1, by rw [up_eq, setr_eq], by rw [up_ne (Or.inr (by decide)), setr_ne (by omega)]; exact (h.tt s hs).2.2.2.2.2⟩
  · exact ⟨by rw [up_ne (Or.inl (by omega)), setr_ne (by omega)]; exact (h.tt s hs).1, by rw [up_ne (Or.inl (by omega)), setr_ne (by omega)]; exact (h.tt s hs).2.1, by rw [up_ne (Or.inl (by omega)), setr_ne (by omega)]; exact (h.tt s hs).2.2.1, by rw [up_ne (Or.inl (by omega)), setr_ne (by omega)]; exact (h.tt s hs).2.2.2.1, by rw [up_ne (Or.inl (by omega)), setr_ne (by omega)]; exact (h.tt s hs).2.2.2.2.1, by rw [up_ne (Or.inl (by omega)), setr_ne (by omega)]; exact (h.tt s hs).2.2.2.2.2⟩
theorem RM_t6 {t : Nat} (h : RM I m r nb nt) (h5 : nb ≤ 5) (h24 : nt ≤ 24) (ht : t < 24) (v : Int32) : RM (up I (tr m t) 7 v) m (setr r (89 + 7 * t + 6) v) nb nt := by
  have q1 : tr m t = m + 17 + t := rfl
  refine ⟨h.nu.cg (fun b hb => up_ne (Or.inr (by decide))) (fun s hs => up_ne (Or.inr (by decide))) (fun s hs => Or.inl (up_ne (Or.inr (by decide)))), h.g.cg (fun j hj => up_ne (Or.inl (by omega))) (fun k hk => setr_ne (by omega)), h.bb.cg (fun b hb j => up_ne (Or.inl (by unfold bd; omega))) (fun b hb j => up_ne (Or.inl (by unfold ow; omega))) (fun k h1 h2 => setr_ne (by omega)) h5, fun s hs => ?_, h.n.cg (fun s hs j hj => up_ne (Or.inr (by omega))) (fun s hs => setr_ne (by omega)), h.e.cg (up_ne (Or.inl (by unfold ev; omega))) (fun k hk j => up_ne (Or.inl (by unfold ek; omega))) (fun k hk => setr_ne (by omega))⟩
  have q2 : tr m s = m + 17 + s := rfl
  by_cases e : s = t
  · subst e
    exact ⟨by rw [up_ne (Or.inr (by decide)), setr_ne (by omega)]; exact (h.tt s hs).1, by rw [up_ne (Or.inr (by decide)), setr_ne (by omega)]; exact (h.tt s hs).2.1, by rw [up_ne (Or.inr (by decide)), setr_ne (by omega)]; exact (h.tt s hs).2.2.1, by rw [up_ne (Or.inr (by decide)), setr_ne (by omega)]; exact (h.tt s hs).2.2.2.1, by rw [up_ne (Or.inr (by decide)), setr_ne (by omega)]; exact (h.tt s hs).2.2.2.2.1, by rw [up_eq, setr_eq]⟩
  · exact ⟨by rw [up_ne (Or.inl (by omega)), setr_ne (by omega)]; exact (h.tt s hs).1, by rw [up_ne (Or.inl (by omega)), setr_ne (by omega)]; exact (h.tt s hs).2.1, by rw [up_ne (Or.inl (by omega)), setr_ne (by omega)]; exact (h.tt s hs).2.2.1, by rw [up_ne (Or.inl (by omega)), setr_ne (by omega)]; exact (h.tt s hs).2.2.2.1, by rw [up_ne (Or.inl (by omega)), setr_ne (by omega)]; exact (h.tt s hs).2.2.2.2.1, by rw [up_ne (Or.inl (by omega)), setr_ne (by omega)]; exact (h.tt s hs).2.2.2.2.2⟩
theorem RM_g0 (h : RM I m r nb nt) (h5 : nb ≤ 5) (h24 : nt ≤ 24) (v : Int32) : RM (up I m 0 v) m (setr r 6 v) nb nt :=
  ⟨h.nu.cg (fun b hb => up_ne (Or.inl (by unfold bd; omega))) (fun s hs => up_ne (Or.inl (by unfold tr; omega))) (fun s hs => Or.inl (up_ne (Or.inl (by unfold tr; omega)))), ⟨by rw [up_eq, setr_eq], by rw [up_ne (Or.inr (by decide)), setr_ne (by decide)]; exact h.g.2.1, by rw [up_ne (Or.inr (by decide)), setr_ne (by decide)]; exact h.g.2.2.1, by rw [up_ne (Or.inr (by decide)), setr_ne (by decide)]; exact h.g.2.2.2.1, by rw [up_ne (Or.inr (by decide)), setr_ne (by decide)]; exact h.g.2.2.2.2.1, by rw [up_ne (Or.inr (by decide)), setr_ne (by decide)]; exact h.g.2.2.2.2.2.1, by rw [up_ne (Or.inr (by decide)), setr_ne (by decide)]; exact h.g.2.2.2.2.2.2.1, by rw [up_ne (Or.inr (by decide)), setr_ne (by decide)]; exact h.g.2.2.2.2.2.2.2.1, by rw [up_ne (Or.inr (by decide)), setr_ne (by decide)]; exact h.g.2.2.2.2.2.2.2.2.1, by rw [up_ne (Or.inr (by decide)), setr_ne (by decide)]; exact h.g.2.2.2.2.2.2.2.2.2.1, by rw [up_ne (Or.inr (by decide)), setr_ne (by decide)]; exact h.g.2.2.2.2.2.2.2.2.2.2.1, by rw [up_ne (Or.inr (by decide)), setr_ne (by decide)]; exact h.g.2.2.2.2.2.2.2.2.2.2.2.1, by rw [up_ne (Or.inr (by decide)), setr_ne (by decide)]; exact h.g.2.2.2.2.2.2.2.2.2.2.2.2⟩, h.bb.cg (fun b hb j => up_ne (Or.inl (by unfold bd; omega))) (fun b hb j => up_ne (Or.inl (by unfold ow; omega))) (fun k h1 h2 => setr_ne (by omega)) h5, h.tt.cg (fun s hs j => up_ne (Or.inl (by unfold tr; omega))) (fun s hs w hw => setr_ne (by omega)), h.n.cg (fun s hs j hj => up_ne (Or.inr (by omega))) (fun s hs => setr_ne (by omega)), h.e.cg (up_ne (Or.inl (by unfold ev; omega))) (fun k hk j => up_ne (Or.inl (by unfold ek; omega))) (fun k hk => setr_ne (by omega))⟩
theorem RM_g1 (h : RM I m r nb nt) (h5 : nb ≤ 5) (h24 : nt ≤ 24) (v : Int32) : RM (up I m 1 v) m (setr r 5 v) nb nt :=
  ⟨h.nu.cg (fun b hb => up_ne (Or.inl (by unfold bd; omega))) (fun s hs => up_ne (Or.inl (by unfold tr; omega))) (fun s hs => Or.inl (up_ne (Or.inl (by unfold tr; omega)))), ⟨by rw [up_ne (Or.inr (by decide)), setr_ne (by decide)]; exact h.g.1, by rw [up_eq, setr_eq], by rw [up_ne (Or.inr (by decide)), setr_ne (by decide)]; exact h.g.2.2.1, by rw [up_ne (Or.inr (by decide)), setr_ne (by decide)]; exact h.g.2.2.2.1, by rw [up_ne (Or.inr (by decide)), setr_ne (by decide)]; exact h.g.2.2.2.2.1, by rw [up_ne (Or.inr (by decide)), setr_ne (by decide)]; exact h.g.2.2.2.2.2.1, by rw [up_ne (Or.inr (by decide)), setr_ne (by decide)]; exact h.g.2.2.2.2.2.2.1, by rw [up_ne (Or.inr (by decide)), setr_ne (by decide)]; exact h.g.2.2.2.2.2.2.2.1, by rw [up_ne (Or.inr (by decide)), setr_ne (by decide)]; exact h.g.2.2.2.2.2.2.2.2.1, by rw [up_ne (Or.inr (by decide)), setr_ne (by decide)]; exact h.g.2.2.2.2.2.2.2.2.2.1, by rw [up_ne (Or.inr (by decide)), setr_ne (by decide)]; exact h.g.2.2.2.2.2.2.2.2.2.2.1, by rw [up_ne (Or.inr (by decide)), setr_ne (by decide)]; exact h.g.2.2.2.2.2.2.2.2.2.2.2.1, by rw [up_ne (Or.inr (by decide)), setr_ne (by decide)]; exact h.g.2.2.2.2.2.2.2.2.2.2.2.2⟩, h.bb.cg (fun b hb j => up_ne (Or.inl (by unfold bd; omega))) (fun b hb j => up_ne (Or.inl (by unfold ow; omega))) (fun k h1 h2 => setr_ne (by omega)) h5, h.tt.cg (fun s hs j => up_ne (Or.inl (by unfold tr; omega))) (fun s hs w hw => setr_ne (by omega)), h.n.cg (fun s hs j hj => up_ne (Or.inr (by omega))) (fun s hs => setr_ne (by omega)), h.e.cg (up_ne (Or.inl (by unfold ev; omega))) (fun k hk j => up_ne (Or.inl (by unfold ek; omega))) (fun k hk => setr_ne (by omega))⟩
theorem RM_g2 (h : RM I m r nb nt) (h5 : nb ≤ 5) (h24 : nt ≤ 24) (v : Int32) : RM (up I m 2 v) m (setr r 0 v) nb nt :=
  ⟨h.nu.cg (fun b hb => up_ne (Or.inl (by unfold bd; omega))) (fun s hs => up_ne (Or.inl (by unfold tr; omega))) (fun s hs => Or.inl (up_ne (Or.inl (by unfold tr; omega)))), ⟨by rw [up_ne (Or.inr (by decide)), setr_ne (by decide)]; exact h.g.1, by rw [up_ne (Or.inr (by decide)), setr_ne (by decide)]; exact h.g.2.1, by rw [up_eq, setr_eq], by rw [up_ne (Or.inr (by decide)), setr_ne (by decide)]; exact h.g.2.2.2.1, by rw [up_ne (Or.inr (by decide)), setr_ne (by decide)]; exact h.g.2.2.2.2.1, by rw [up_ne (Or.inr (by decide)), setr_ne (by decide)]; exact h.g.2.2.2.2.2.1, by rw [up_ne (Or.inr (by decide)), setr_ne (by decide)]; exact h.g.2.2.2.2.2.2.1, by rw [up_ne (Or.inr (by decide)), setr_ne (by decide)]; exact h.g.2.2.2.2.2.2.2.1, by rw [up_ne (Or.inr (by decide)), setr_ne (by decide)]; exact h.g.2.2.2.2.2.2.2.2.1, by rw [up_ne (Or.inr (by decide)), setr_ne (by decide)]; exact h.g.2.2.2.2.2.2.2.2.2.1, by rw [up_ne (Or.inr (by decide)), setr_ne (by decide)]; exact h.g.2.2.2.2.2.2.2.2.2.2.1, by rw [up_ne (Or.inr (by decide)), setr_ne (by decide)]; exact h.g.2.2.2.2.2.2.2.2.2.2.2.1, by rw [up_ne (Or.inr (by decide)), setr_ne (by decide)]; exact h.g.2.2.2.2.2.2.2.2.2.2.2.2⟩, h.bb.cg (fun b hb j => up_ne (Or.inl (by unfold bd; omega))) (fun b hb j => up_ne (Or.inl (by unfold ow; omega))) (fun k h1 h2 => setr_ne (by omega)) h5, h.tt.cg (fun s hs j => up_ne (Or.inl (by unfold tr; omega))) (fun s hs w hw => setr_ne (by omega)), h.n.cg (fun s hs j hj => up_ne (Or.inr (by omega))) (fun s hs => setr_ne (by omega)), h.e.cg (up_ne (Or.inl (by unfold ev; omega))) (fun k hk j => up_ne (Or.inl (by unfold ek; omega))) (fun k hk => setr_ne (by omega))⟩
theorem RM_g3 (h : RM I m r nb nt) (h5 : nb ≤ 5) (h24 : nt ≤ 24) (v : Int32) : RM (up I m 3 v) m (setr r 1 v) nb nt :=
  ⟨h.nu.cg (fun b hb => up_ne (Or.inl (by unfold bd; omega))) (fun s hs => up_ne (Or.inl (by unfold tr; omega))) (fun s hs => Or.inl (up_ne (Or.inl (by unfold tr; omega)))), ⟨by rw [up_ne (Or.inr (by decide)), setr_ne (by decide)]; exact h.g.1, by rw [up_ne (Or.inr (by decide)), setr_ne (by decide)]; exact h.g.2.1, by rw [up_ne (Or.inr (by decide)), setr_ne (by decide)]; exact h.g.2.2.1, by rw [up_eq, setr_eq], by rw [up_ne (Or.inr (by decide)), setr_ne (by decide)]; exact h.g.2.2.2.2.1, by rw [up_ne (Or.inr (by decide)), setr_ne (by decide)]; exact h.g.2.2.2.2.2.1, by rw [up_ne (Or.inr (by decide)), setr_ne (by decide)]; exact h.g.2.2.2.2.2.2.1, by rw [up_ne (Or.inr (by decide)), setr_ne (by decide)]; exact h.g.2.2.2.2.2.2.2.1, by rw [up_ne (Or.inr (by decide)), setr_ne (by decide)]; exact h.g.2.2.2.2.2.2.2.2.1, by rw [up_ne (Or.inr (by decide)), setr_ne (by decide)]; exact h.g.2.2.2.2.2.2.2.2.2.1, by rw [up_ne (Or.inr (by decide)), setr_ne (by decide)]; exact h.g.2.2.2.2.2.2.2.2.2.2.1, by rw [up_ne (Or.inr (by decide)), setr_ne (by decide)]; exact h.g.2.2.2.2.2.2.2.2.2.2.2.1, by rw [up_ne (Or.inr (by decide)), setr_ne (by decide)]; exact h.g.2.2.2.2.2.2.2.2.2.2.2.2⟩, h.bb.cg (fun b hb j => up_ne (Or.inl (by unfold bd; omega))) (fun b hb j => up_ne (Or.inl (by unfold ow; omega))) (fun k h1 h2 => setr_ne (by omega)) h5, h.tt.cg (fun s hs j => up_ne (Or.inl (by unfold tr; omega))) (fun s hs w hw => setr_ne (by omega)), h.n.cg (fun s hs j hj => up_ne (Or.inr (by omega))) (fun s hs => setr_ne (by omega)), h.e.cg (up_ne (Or.inl (by unfold ev; omega))) (fun k hk j => up_ne (Or.inl (by unfold ek; omega))) (fun k hk => setr_ne (by omega))⟩
theorem RM_g4 (h : RM I m r nb nt) (h5 : nb ≤ 5) (h24 : nt ≤ 24) (v : Int32) : RM (up I m 4 v) m (setr r 2 v) nb nt :=
  ⟨h.nu.cg (fun b hb => up_ne (Or.inl (by unfold bd; omega))) (fun s hs => up_ne (Or.inl (by unfold tr; omega))) (fun s hs => Or.inl (up_ne (Or.inl (by unfold tr; omega)))), ⟨by rw [up_ne (Or.inr (by decide)), setr_ne (by decide)]; exact h.g.1, by rw [up_ne (Or.inr (by decide)), setr_ne (by decide)]; exact h.g.2.1, by rw [up_ne (Or.inr (by decide)), setr_ne (by decide)]; exact h.g.2.2.1, by rw [up_ne (Or.inr (by decide)), setr_ne (by decide)]; exact h.g.2.2.2.1, by rw [up_eq, setr_eq], by rw [up_ne (Or.inr (by decide)), setr_ne (by decide)]; exact h.g.2.2.2.2.2.1, by rw [up_ne (Or.inr (by decide)), setr_ne (by decide)]; exact h.g.2.2.2.2.2.2.1, by rw [up_ne (Or.inr (by decide)), setr_ne (by decide)]; exact h.g.2.2.2.2.2.2.2.1, by rw [up_ne (Or.inr (by decide)), setr_ne (by decide)]; exact h.g.2.2.2.2.2.2.2.2.1, by rw [up_ne (Or.inr (by decide)), setr_ne (by decide)]; exact h.g.2.2.2.2.2.2.2.2.2.1, by rw [up_ne (Or.inr (by decide)), setr_ne (by decide)]; exact h.g.2.2.2.2.2.2.2.2.2.2.1, by rw [up_ne (Or.inr (by decide)), setr_ne (by decide)]; exact h.g.2.2.2.2.2.2.2.2.2.2.2.1, by rw [up_ne (Or.inr (by decide)), setr_ne (by decide)]; exact h.g.2.2.2.2.2.2.2.2.2.2.2.2⟩, h.bb.cg (fun b hb j => up_ne (Or.inl (by unfold bd; omega))) (fun b hb j => up_ne (Or.inl (by unfold ow; omega))) (fun k h1 h2 => setr_ne (by omega)) h5, h.tt.cg (fun s hs j => up_ne (Or.inl (by unfold tr; omega))) (fun s hs w hw => setr_ne (by omega)), h.n.cg (fun s hs j hj => up_ne (Or.inr (by omega))) (fun s hs => setr_ne (by omega)), h.e.cg (up_ne (Or.inl (by unfold ev; omega))) (fun k hk j => up_ne (Or.inl (by unfold ek; omega))) (fun k hk => setr_ne (by omega))⟩
theorem RM_g5 (h : RM I m r nb nt) (h5 : nb ≤ 5) (h24 : nt ≤ 24) (v : Int32) : RM (up I m 5 v) m (setr r 3 v) nb nt :=
  ⟨h.nu.cg (fun b hb => up_ne (Or.inl (by unfold bd; omega))) (fun s hs => up_ne (Or.inl (by unfold tr; omega))) (fun s hs => Or.inl (up_ne (Or.inl (by unfold tr; omega)))), ⟨by rw [up_ne (Or.inr (by decide)), setr_ne (by decide)]; exact h.g.1, by rw [up_ne (Or.inr (by decide)), setr_ne (by decide)]; exact h.g.2.1, by rw [up_ne (Or.inr (by decide)), setr_ne (by decide)]; exact h.g.2.2.1, by rw [up_ne (Or.inr (by decide)), setr_ne (by decide)]; exact h.g.2.2.2.1, by rw [up_ne (Or.inr (by decide)), setr_ne (by decide)]; exact h.g.2.2.2.2.1, by rw [up_eq, setr_eq], by rw [up_ne (Or.inr (by decide)), setr_ne (by decide)]; exact h.g.2.2.2.2.2.2.1, by rw [up_ne (Or.inr (by decide)), setr_ne (by decide)]; exact h.g.2.2.2.2.2.2.2.1, by rw [up_ne (Or.inr (by decide)), setr_ne (by decide)]; exact h.g.2.2.2.2.2.2.2.2.1, by rw [up_ne (Or.inr (by decide)), setr_ne (by decide)]; exact h.g.2.2.2.2.2.2.2.2.2.1, by rw [up_ne (Or.inr (by decide)), setr_ne (by decide)]; exact h.g.2.2.2.2.2.2.2.2.2.2.1, by rw [up_ne (Or.inr (by decide)), setr_ne (by decide)]; exact h.g.2.2.2.2.2.2.2.2.2.2.2.1, by rw [up_ne (Or.inr (by decide)), setr_ne (by decide)]; exact h.g.2.2.2.2.2.2.2.2.2.2.2.2⟩, h.bb.cg (fun b hb j => up_ne (Or.inl (by unfold bd; omega))) (fun b hb j => up_ne (Or.inl (by unfold ow; omega))) (fun k h1 h2 => setr_ne (by omega)) h5, h.tt.cg (fun s hs j => up_ne (Or.inl (by unfold tr; omega))) (fun s hs w hw => setr_ne (by omega)), h.n.cg (fun s hs j hj => up_ne (Or.inr (by omega))) (fun s hs => setr_ne (by omega)), h.e.cg (up_ne (Or.inl (by unfold ev; omega))) (fun k hk j => up_ne (Or.inl (by unfold ek; omega))) (fun k hk => setr_ne (by omega))⟩
theorem RM_g6 (h : RM I m r nb nt) (h5 : nb ≤ 5) (h24 : nt ≤ 24) (v : Int32) : RM (up I m 6 v) m (setr r 4 v) nb nt :=
  ⟨h.nu.cg (fun b hb => up_ne (Or.inl (by unfold bd; omega))) (fun s hs => up_ne (Or.inl (by unfold tr; omega))) (fun s hs => Or.inl (up_ne (Or.inl (by unfold tr; omega)))), ⟨by rw [up_ne (Or.inr (by decide)), setr_ne (by decide)]; exact h.g.1, by rw [up_ne (Or.inr (by decide)), setr_ne (by decide)]; exact h.g.2.1, by rw [up_ne (Or.inr (by decide)), setr_ne (by decide)]; exact h.g.2.2.1, by rw [up_ne (Or.inr (by decide)), setr_ne (by decide)]; exact h.g.2.2.2.1, by rw [up_ne (Or.inr (by decide)), setr_ne (by decide)]; exact h.g.2.2.2.2.1, by rw [up_ne (Or.inr (by decide)), setr_ne (by decide)]; exact h.g.2.2.2.2.2.1, by rw [up_eq, setr_eq], by rw [up_ne (Or.inr (by decide)), setr_ne (by decide)]; exact h.g.2.2.2.2.2.2.2.1, by rw [up_ne (Or.inr (by decide)), setr_ne (by decide)]; exact h.g.2.2.2.2.2.2.2.2.1, by rw [up_ne (Or.inr (by decide)), setr_ne (by decide)]; exact h.g.2.2.2.2.2.2.2.2.2.1, by rw [up_ne (Or.inr (by decide)), setr_ne (by decide)]; exact h.g.2.2.2.2.2.2.2.2.2.2.1, by rw [up_ne (Or.inr (by decide)), setr_ne (by decide)]; exact h.g.2.2.2.2.2.2.2.2.2.2.2.1, by rw [up_ne (Or.inr (by decide)), setr_ne (by decide)]; exact h.g.2.2.2.2.2.2.2.2.2.2.2.2⟩, h.bb.cg (fun b hb j => up_ne (Or.inl (by unfold bd; omega))) (fun b hb j => up_ne (Or.inl (by unfold ow; omega))) (fun k h1 h2 => setr_ne (by omega)) h5, h.tt.cg (fun s hs j => up_ne (Or.inl (by unfold tr; omega))) (fun s hs w hw => setr_ne (by omega)), h.n.cg (fun s hs j hj => up_ne (Or.inr (by omega))) (fun s hs => setr_ne (by omega)), h.e.cg (up_ne (Or.inl (by unfold ev; omega))) (fun k hk j => up_ne (Or.inl (by unfold ek; omega))) (fun k hk => setr_ne (by omega))⟩
theorem RM_g7 (h : RM I m r nb nt) (h5 : nb ≤ 5) (h24 : nt ≤ 24) (v : Int32) : RM (up I m 7 v) m (setr r 9 v) nb nt :=
  ⟨h.nu.cg (fun b hb => up_ne (Or.inl (by unfold bd; omega))) (fun s hs => up_ne (Or.inl (by unfold tr; omega))) (fun s hs => Or.inl (up_ne (Or.inl (by unfold tr; omega)))), ⟨by rw [up_ne (Or.inr (by decide)), setr_ne (by decide)]; exact h.g.1, by rw [up_ne (Or.inr (by decide)), setr_ne (by decide)]; exact h.g.2.1, by rw [up_ne (Or.inr (by decide)), setr_ne (by decide)]; exact h.g.2.2.1, by rw [up_ne (Or.inr (by decide)), setr_ne (by decide)]; exact h.g.2.2.2.1, by rw [up_ne (Or.inr (by decide)), setr_ne (by decide)]; exact h.g.2.2.2.2.1, by rw [up_ne (Or.inr (by decide)), setr_ne (by decide)]; exact h.g.2.2.2.2.2.1, by rw [up_ne (Or.inr (by decide)), setr_ne (by decide)]; exact h.g.2.2.2.2.2.2.1, by rw [up_eq, setr_eq], by rw [up_ne (Or.inr (by decide)), setr_ne (by decide)]; exact h.g.2.2.2.2.2.2.2.2.1, by rw [up_ne (Or.inr (by decide)), setr_ne (by decide)]; exact h.g.2.2.2.2.2.2.2.2.2.1, by rw [up_ne (Or.inr (by decide)), setr_ne (by decide)]; exact h.g.2.2.2.2.2.2.2.2.2.2.1, by rw [up_ne (Or.inr (by decide)), setr_ne (by decide)]; exact h.g.2.2.2.2.2.2.2.2.2.2.2.1, by rw [up_ne (Or.inr (by decide)), setr_ne (by decide)]; exact h.g.2.2.2.2.2.2.2.2.2.2.2.2⟩, h.bb.cg (fun b hb j => up_ne (Or.inl (by unfold bd; omega))) (fun b hb j => up_ne (Or.inl (by unfold ow; omega))) (fun k h1 h2 => setr_ne (by omega)) h5, h.tt.cg (fun s hs j => up_ne (Or.inl (by unfold tr; omega))) (fun s hs w hw => setr_ne (by omega)), h.n.cg (fun s hs j hj => up_ne (Or.inr (by omega))) (fun s hs => setr_ne (by omega)), h.e.cg (up_ne (Or.inl (by unfold ev; omega))) (fun k hk j => up_ne (Or.inl (by unfold ek; omega))) (fun k hk => setr_ne (by omega))⟩
theorem RM_g8 (h : RM I m r nb nt) (h5 : nb ≤ 5) (h24 : nt ≤ 24) (v : Int32) : RM (up I m 8 v) m (setr r 10 v) nb nt :=
  ⟨h.nu.cg (fun b hb => up_ne (Or.inl (by unfold bd; omega))) (fun s hs => up_ne (Or.inl (by unfold tr; omega))) (fun s hs => Or.inl (up_ne (Or.inl (by unfold tr; omega)))), ⟨by rw [up_ne (Or.inr (by decide)), setr_ne (by decide)]; exact h.g.1, by rw [up_ne (Or.inr (by decide)), setr_ne (by decide)]; exact h.g.2.1, by rw [up_ne (Or.inr (by decide)), setr_ne (by decide)]; exact h.g.2.2.1, by rw [up_ne (Or.inr (by decide)), setr_ne (by decide)]; exact h.g.2.2.2.1, by rw [up_ne (Or.inr (by decide)), setr_ne (by decide)]; exact h.g.2.2.2.2.1, by rw [up_ne (Or.inr (by decide)), setr_ne (by decide)]; exact h.g.2.2.2.2.2.1, by rw [up_ne (Or.inr (by decide)), setr_ne (by decide)]; exact h.g.2.2.2.2.2.2.1, by rw [up_ne (Or.inr (by decide)), setr_ne (by decide)]; exact h.g.2.2.2.2.2.2.2.1, by rw [up_eq, setr_eq], by rw [up_ne (Or.inr (by decide)), setr_ne (by decide)]; exact h.g.2.2.2.2.2.2.2.2.2.1, by rw [up_ne (Or.inr (by decide)), setr_ne (by decide)]; exact h.g.2.2.2.2.2.2.2.2.2.2.1, by rw [up_ne (Or.inr (by decide)), setr_ne (by decide)]; exact h.g.2.2.2.2.2.2.2.2.2.2.2.1, by rw [up_ne (Or.inr (by decide)), setr_ne (by decide)]; exact h.g.2.2.2.2.2.2.2.2.2.2.2.2⟩, h.bb.cg (fun b hb j => up_ne (Or.inl (by unfold bd; omega))) (fun b hb j => up_ne (Or.inl (by unfold ow; omega))) (fun k h1 h2 => setr_ne (by omega)) h5, h.tt.cg (fun s hs j => up_ne (Or.inl (by unfold tr; omega))) (fun s hs w hw => setr_ne (by omega)), h.n.cg (fun s hs j hj => up_ne (Or.inr (by omega))) (fun s hs => setr_ne (by omega)), h.e.cg (up_ne (Or.inl (by unfold ev; omega))) (fun k hk j => up_ne (Or.inl (by unfold ek; omega))) (fun k hk => setr_ne (by omega))⟩
theorem RM_g9 (h : RM I m r nb nt) (h5 : nb ≤ 5) (h24 : nt ≤ 24) (v : Int32) : RM (up I m 9 v) m (setr r 11 v) nb nt :=
  ⟨h.nu.cg (fun b hb => up_ne (Or.inl (by unfold bd; omega))) (fun s hs => up_ne (Or.inl (by unfold tr; omega))) (fun s hs => Or.inl (up_ne (Or.inl (by unfold tr; omega)))), ⟨by rw [up_ne (Or.inr (by decide)), setr_ne (by decide)]; exact h.g.1, by rw [up_ne (Or.inr (by decide)), setr_ne (by decide)]; exact h.g.2.1, by rw [up_ne (Or.inr (by decide)), setr_ne (by decide)]; exact h.g.2.2.1, by rw [up_ne (Or.inr (by decide)), setr_ne (by decide)]; exact h.g.2.2.2.1, by rw [up_ne (Or.inr (by decide)), setr_ne (by decide)]; exact h.g.2.2.2.2.1, by rw [up_ne (Or.inr (by decide)), setr_ne (by decide)]; exact h.g.2.2.2.2.2.1, by rw [up_ne (Or.inr (by decide)), setr_ne (by decide)]; exact h.g.2.2.2.2.2.2.1, by rw [up_ne (Or.inr (by decide)), setr_ne (by decide)]; exact h.g.2.2.2.2.2.2.2.1, by rw [up_ne (Or.inr (by decide)), setr_ne (by decide)]; exact h.g.2.2.2.2.2.2.2.2.1, by rw [up_eq, setr_eq], by rw [up_ne (Or.inr (by decide)), setr_ne (by decide)]; exact h.g.2.2.2.2.2.2.2.2.2.2.1, by rw [up_ne (Or.inr (by decide)), setr_ne (by decide)]; exact h.g.2.2.2.2.2.2.2.2.2.2.2.1, by rw [up_ne (Or.inr (by decide)), setr_ne (by decide)]; exact h.g.2.2.2.2.2.2.2.2.2.2.2.2⟩, h.bb.cg (fun b hb j => up_ne (Or.inl (by unfold bd; omega))) (fun b hb j => up_ne (Or.inl (by unfold ow; omega))) (fun k h1 h2 => setr_ne (by omega)) h5, h.tt.cg (fun s hs j => up_ne (Or.inl (by unfold tr; omega))) (fun s hs w hw => setr_ne (by omega)), h.n.cg (fun s hs j hj => up_ne (Or.inr (by omega))) (fun s hs => setr_ne (by omega)), h.e.cg (up_ne (Or.inl (by unfold ev; omega))) (fun k hk j => up_ne (Or.inl (by unfold ek; omega))) (fun k hk => setr_ne (by omega))⟩
theorem RM_g10 (h : RM I m r nb nt) (h5 : nb ≤ 5) (h24 : nt ≤ 24) (v : Int32) : RM (up I m 10 v) m (setr r 12 v) nb nt :=
  ⟨h.nu.cg (fun b hb => up_ne (Or.inl (by unfold bd; omega))) (fun s hs => up_ne (Or.inl (by unfold tr; omega))) (fun s hs => Or.inl (up_ne (Or.inl (by unfold tr; omega)))), ⟨by rw [up_ne (Or.inr (by decide)), setr_ne (by decide)]; exact h.g.1, by rw [up_ne (Or.inr (by decide)), setr_ne (by decide)]; exact h.g.2.1, by rw [up_ne (Or.inr (by decide)), setr_ne (by decide)]; exact h.g.2.2.1, by rw [up_ne (Or.inr (by decide)), setr_ne (by decide)]; exact h.g.2.2.2.1, by rw [up_ne (Or.inr (by decide)), setr_ne (by decide)]; exact h.g.2.2.2.2.1, by rw [up_ne (Or.inr (by decide)), setr_ne (by decide)]; exact h.g.2.2.2.2.2.1, by rw [up_ne (Or.inr (by decide)), setr_ne (by decide)]; exact h.g.2.2.2.2.2.2.1, by rw [up_ne (Or.inr (by decide)), setr_ne (by decide)]; exact h.g.2.2.2.2.2.2.2.1, by rw [up_ne (Or.inr (by decide)), setr_ne (by decide)]; exact h.g.2.2.2.2.2.2.2.2.1, by rw [up_ne (Or.inr (by decide)), setr_ne (by decide)]; exact h.g.2.2.2.2.2.2.2.2.2.1, by rw [up_eq, setr_eq], by rw [up_ne (Or.inr (by decide)), setr_ne (by decide)]; exact h.g.2.2.2.2.2.2.2.2.2.2.2.1, by rw [up_ne (Or.inr (by decide)), setr_ne (by decide)]; exact h.g.2.2.2.2.2.2.2.2.2.2.2.2⟩, h.bb.cg (fun b hb j => up_ne (Or.inl (by unfold bd; omega))) (fun b hb j => up_ne (Or.inl (by unfold ow; omega))) (fun k h1 h2 => setr_ne (by omega)) h5, h.tt.cg (fun s hs j => up_ne (Or.inl (by unfold tr; omega))) (fun s hs w hw => setr_ne (by omega)), h.n.cg (fun s hs j hj => up_ne (Or.inr (by omega))) (fun s hs => setr_ne (by omega)), h.e.cg (up_ne (Or.inl (by unfold ev; omega))) (fun k hk j => up_ne (Or.inl (by unfold ek; omega))) (fun k hk => setr_ne (by omega))⟩
theorem RM_g11 (h : RM I m r nb nt) (h5 : nb ≤ 5) (h24 : nt ≤ 24) (v : Int32) : RM (up I m 11 v) m (setr r 7 v) nb nt :=
  ⟨h.nu.cg (fun b hb => up_ne (Or.inl (by unfold bd; omega))) (fun s hs => up_ne (Or.inl (by unfold tr; omega))) (fun s hs => Or.inl (up_ne (Or.inl (by unfold tr; omega)))), ⟨by rw [up_ne (Or.inr (by decide)), setr_ne (by decide)]; exact h.g.1, by rw [up_ne (Or.inr (by decide)), setr_ne (by decide)]; exact h.g.2.1, by rw [up_ne (Or.inr (by decide)), setr_ne (by decide)]; exact h.g.2.2.1, by rw [up_ne (Or.inr (by decide)), setr_ne (by decide)]; exact h.g.2.2.2.1, by rw [up_ne (Or.inr (by decide)), setr_ne (by decide)]; exact h.g.2.2.2.2.1, by rw [up_ne (Or.inr (by decide)), setr_ne (by decide)]; exact h.g.2.2.2.2.2.1, by rw [up_ne (Or.inr (by decide)), setr_ne (by decide)]; exact h.g.2.2.2.2.2.2.1, by rw [up_ne (Or.inr (by decide)), setr_ne (by decide)]; exact h.g.2.2.2.2.2.2.2.1, by rw [up_ne (Or.inr (by decide)), setr_ne (by decide)]; exact h.g.2.2.2.2.2.2.2.2.1, by rw [up_ne (Or.inr (by decide)), setr_ne (by decide)]; exact h.g.2.2.2.2.2.2.2.2.2.1, by rw [up_ne (Or.inr (by decide)), setr_ne (by decide)]; exact h.g.2.2.2.2.2.2.2.2.2.2.1, by rw [up_eq, setr_eq], by rw [up_ne (Or.inr (by decide)), setr_ne (by decide)]; exact h.g.2.2.2.2.2.2.2.2.2.2.2.2⟩, h.bb.cg (fun b hb j => up_ne (Or.inl (by unfold bd; omega))) (fun b hb j => up_ne (Or.inl (by unfold ow; omega))) (fun k h1 h2 => setr_ne (by omega)) h5, h.tt.cg (fun s hs j => up_ne (Or.inl (by unfold tr; omega))) (fun s hs w hw => setr_ne (by omega)), h.n.cg (fun s hs j hj => up_ne (Or.inr (by omega))) (fun s hs => setr_ne (by omega)), h.e.cg (up_ne (Or.inl (by unfold ev; omega))) (fun k hk j => up_ne (Or.inl (by unfold ek; omega))) (fun k hk => setr_ne (by omega))⟩
theorem RM_g12 (h : RM I m r nb nt) (h5 : nb ≤ 5) (h24 : nt ≤ 24) (v : Int32) : RM (up I m 12 v) m (setr r 8 v) nb nt :=
  ⟨h.nu.cg (fun b hb => up_ne (Or.inl (by unfold bd; omega))) (fun s hs => up_ne (Or.inl (by unfold tr; omega))) (fun s hs => Or.inl (up_ne (Or.inl (by unfold tr; omega)))), ⟨by rw [up_ne (Or.inr (by decide)), setr_ne (by decide)]; exact h.g.1, by rw [up_ne (Or.inr (by decide)), setr_ne (by decide)]; exact h.g.2.1, by rw [up_ne (Or.inr (by decide)), setr_ne (by decide)]; exact h.g.2.2.1, by rw [up_ne (Or.inr (by decide)), setr_ne (by decide)]; exact h.g.2.2.2.1, by rw [up_ne (Or.inr (by decide)), setr_ne (by decide)]; exact h.g.2.2.2.2.1, by rw [up_ne (Or.inr (by decide)), setr_ne (by decide)]; exact h.g.2.2.2.2.2.1, by rw [up_ne (Or.inr (by decide)), setr_ne (by decide)]; exact h.g.2.2.2.2.2.2.1, by rw [up_ne (Or.inr (by decide)), setr_ne (by decide)]; exact h.g.2.2.2.2.2.2.2.1, by rw [up_ne (Or.inr (by decide)), setr_ne (by decide)]; exact h.g.2.2.2.2.2.2.2.2.1, by rw [up_ne (Or.inr (by decide)), setr_ne (by decide)]; exact h.g.2.2.2.2.2.2.2.2.2.1, by rw [up_ne (Or.inr (by decide)), setr_ne (by decide)]; exact h.g.2.2.2.2.2.2.2.2.2.2.1, by rw [up_ne (Or.inr (by decide)), setr_ne (by decide)]; exact h.g.2.2.2.2.2.2.2.2.2.2.2.1, by rw [up_eq, setr_eq]⟩, h.bb.cg (fun b hb j => up_ne (Or.inl (by unfold bd; omega))) (fun b hb j => up_ne (Or.inl (by unfold ow; omega))) (fun k h1 h2 => setr_ne (by omega)) h5, h.tt.cg (fun s hs j => up_ne (Or.inl (by unfold tr; omega))) (fun s hs w hw => setr_ne (by omega)), h.n.cg (fun s hs j hj => up_ne (Or.inr (by omega))) (fun s hs => setr_ne (by omega)), h.e.cg (up_ne (Or.inl (by unfold ev; omega))) (fun k hk j => up_ne (Or.inl (by unfold ek; omega))) (fun k hk => setr_ne (by omega))⟩
theorem RM_o {b q : Nat} (h : RM I m r nb nt) (h5 : nb ≤ 5) (h24 : nt ≤ 24) (hb : b < 5) (hq : q < 13) (h6 : q ≠ 6) {v w : Int32} (hw : w = v - 1) : RM (up I (ow m b) q w) m (setr r (si b q) v) nb nt := by
  have q1 : ow m b = m + 8 + 2 * b := rfl
  have q3 := si_lt hb hq
  have q4 : 17 ≤ si b q := by unfold si; omega
  refine ⟨h.nu.cg (fun c hc => up_ne (Or.inl (by unfold bd; omega))) (fun s hs => up_ne (Or.inl (by unfold tr; omega))) (fun s hs => Or.inl (up_ne (Or.inl (by unfold tr; omega)))), h.g.cg (fun j hj => up_ne (Or.inl (by omega))) (fun k hk => setr_ne (by omega)), fun c hc => ?_, h.tt.cg (fun s hs j => up_ne (Or.inl (by unfold tr; omega))) (fun s hs w hw => setr_ne (by omega)), h.n.cg (fun s hs j hj => up_ne (Or.inr (by omega))) (fun s hs => setr_ne (by omega)), h.e.cg (up_ne (Or.inl (by unfold ev; omega))) (fun k hk j => up_ne (Or.inl (by unfold ek; omega))) (fun k hk => setr_ne (by omega))⟩
  obtain ⟨h1, h2, h3, h4, h7⟩ := h.bb c hc
  have q5 : ow m c = m + 8 + 2 * c := rfl
  have q6 : si b q = 17 + 15 * b + (if q < 6 then q else q - 1) := rfl
  have q7 : ∀ w, w < 3 → 14 + 15 * c + w ≠ si b q := by intro w hw; rw [q6]; split <;> omega
  refine ⟨?_, ?_, ?_, fun p hp hp6 => ?_, ?_⟩
  · rw [up_ne (Or.inl (by unfold bd; omega)), setr_ne (q7 0 (by decide))]; exact h1
  · rw [up_ne (Or.inl (by unfold bd; omega)), setr_ne (q7 1 (by decide))]; exact h2
  · rw [up_ne (Or.inl (by unfold bd; omega)), setr_ne (q7 2 (by decide))]; exact h3
  · by_cases e : c = b ∧ p = q
    · obtain ⟨rfl, rfl⟩ := e
      rw [up_eq, setr_eq, hw]
    · rw [up_ne (by omega), setr_ne (fun z => e ((si_inj hp hp6 hq h6).mp z))]
      exact h4 p hp hp6
  · rw [up_ne (by omega)]; exact h7
def FR (m : Nat) (I I' : kInts) : Prop := ∀ a j, a < m ∨ m + 41 ≤ a → I' a j = I a j
theorem FR.rfl' : FR m I I := fun _ _ _ => rfl
theorem FR.up {a j : Nat} {v : Int32} (h : FR m I I') (h1 : m ≤ a) (h2 : a < m + 41) : FR m I (up I' a j v) := fun b k hb => (up_ne (Or.inl (by omega))).trans (h b k hb)
theorem FR.trans {I2 : kInts} (h : FR m I I') (h2 : FR m I' I2) : FR m I I2 := fun b k hb => (h2 b k hb).trans (h b k hb)
end
