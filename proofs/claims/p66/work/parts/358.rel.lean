variable {Mb : SMem}
def rw' (I : kInts) (a p : Nat) : Nat → Int32 := fun k => I a (p + k)
def RelM (I : kInts) (m a p : Nat) : Prop := ∃ nb nt, RI (rw' I a p) nb nt ∧ RM I m (rw' I a p) nb nt
def hs (k : Nat) : Nat := 128 + 41 * (k % 8)
def RelT (I : kInts) : Prop := ∃ n T, okT n T ∧ CT I n T ∧ I 540 10 = nI n ∧ ∀ k, k < n → I 547 k = nI (T k)
def RelE (I : kInts) : Prop := I 6 6 = I 540 18 ∧ I 6 7 = I 540 19
def RelH (I : kInts) : Prop := ∃ nx u, nx < 8 ∧ u ≤ 8 ∧ I 126 1 = nI nx ∧ I 126 2 = nI u ∧ I 540 5 = nI u ∧ ∀ k, k < u → RelM I (hs (nx + 8 - u + k)) 543 (293 * k)
def RelS (I : kInts) : Prop := ∀ i, i < 2 → I 457 i = 0 ∧ I 545 i = 0 ∨ (I 457 i = 1 ∧ I 545 i = 1) ∧ RelM I (458 + 41 * i) 544 (293 * i)
def RelO (I : kInts) : Prop := ∃ k, k ≤ 200 ∧ I 4 1 = nI k ∧ I 540 29 = nI k ∧ ∀ j, j < k → I 5 j = I 551 j
def RelN (_ : kInts) : Prop := True
def Rel (I : kInts) : Prop := RelT I ∧ RelE I ∧ RelM I 44 541 0 ∧ (∀ m, m ∈ mks → Nu I m) ∧ RelH I ∧ RelS I ∧ RelO I ∧ RelN I
section
variable {N : Nat} {I I' : kInts} {L : kLngs} {r s : Nat → Int32} {nb nt m : Nat}
theorem RM.eqr (h : RM I m r nb nt) (h5 : nb ≤ 5) (h24 : nt ≤ 24) (e : ∀ k, k < 293 → s k = r k) : RM I m s nb nt := by
  refine ⟨h.nu, h.g.cg (fun j hj => rfl) (fun k hk => e k (by omega)), h.bb.cg (fun b hb j => rfl) (fun b hb j => rfl) (fun k h1 h2 => e k (by omega)) h5, h.tt.cg (fun t ht j => rfl) (fun t ht w hw => e _ (by omega)), h.n.cg (fun t ht j _ => rfl) (fun t ht => e _ (by omega)), ?_⟩
  obtain ⟨h1, h2⟩ := h.e
  refine ⟨h1.trans (e 13 (by decide)).symm, fun x hx h13 k hk => ?_⟩
  rw [e 13 (by decide)] at h13
  rw [e _ (by omega), e _ (by omega), e _ (by omega)]
  exact h2 x hx h13 k hk
theorem RI.eqr (h : RI r nb nt) (e : ∀ k, k < 293 → s k = r k) : RI s nb nt := by
  have h5 := h.nb5
  have h24 := h.nt24
  refine ⟨h.g.cg (fun k hk => e k ?_), h.b.cg (fun b hb w hw => e _ (by omega)), h.t.cg (fun t ht => ⟨e _ (by omega), e _ (by omega), e _ (by omega), fun _ => e _ (by omega)⟩), h.s.cg (fun b hb => e _ (by omega)) (fun b hb q hq h6 => e _ (by have := si_lt (show b < 5 by omega) hq; omega)) (fun t ht => ⟨e _ (by omega), e _ (by omega)⟩), h.c.cg (e 5 (by decide)) (fun t ht => e _ (by omega))⟩
  simp only [List.mem_cons, List.not_mem_nil, or_false] at hk
  omega
theorem RelM.kp {a p : Nat} (h : RelM I m a p) (e1 : ∀ x j, m ≤ x → x < m + 41 → I' x j = I x j) (e2 : ∀ k, k < 293 → I' a (p + k) = I a (p + k)) : RelM I' m a p := by
  obtain ⟨nb, nt, h1, h2⟩ := h
  exact ⟨nb, nt, h1.eqr e2, (h2.cI h1.nb5 h1.nt24 e1).eqr h1.nb5 h1.nt24 e2⟩
theorem hs_mem (k : Nat) : hs k ∈ mks := by
  unfold hs
  have : k % 8 < 8 := Nat.mod_lt _ (by decide)
  generalize k % 8 = j at this
  revert this
  revert j
  decide
theorem hs_le (k : Nat) : 128 ≤ hs k ∧ hs k + 41 ≤ 456 := by
  unfold hs
  have : k % 8 < 8 := Nat.mod_lt _ (by decide)
  omega
theorem sl_mem {i : Nat} (h : i < 2) : 458 + 41 * i ∈ mks := by
  revert h
  revert i
  decide
theorem Nu.kp (h : Nu I m) (e : ∀ x j, m ≤ x → x < m + 41 → I' x j = I x j) : Nu I' m := h.cg (fun b hb => e _ _ (by unfold bd; omega) (by unfold bd; omega)) (fun t ht => e _ _ (by unfold tr; omega) (by unfold tr; omega)) (fun t ht => Or.inl (e _ _ (by unfold tr; omega) (by unfold tr; omega)))
theorem rw_0 : rw' I 541 0 = I 541 := funext fun k => by unfold rw'; rw [Nat.zero_add]
theorem RelT.kp (h : RelT I) (e : ∀ x j, x = 2 ∨ x = 3 ∨ x = 547 ∨ x = 540 ∧ j = 10 → I' x j = I x j) : RelT I' := by
  obtain ⟨n, T, h1, ⟨h2, h3⟩, h4, h5⟩ := h
  exact ⟨n, T, h1, ⟨(e _ _ (by omega)).trans h2, fun k hk => (e _ _ (by omega)).trans (h3 k hk)⟩, (e _ _ (by omega)).trans h4, fun k hk => (e _ _ (by omega)).trans (h5 k hk)⟩
theorem RelH.kp (h : RelH I) (e : ∀ x j, 126 ≤ x ∧ x < 456 ∨ x = 543 ∨ x = 540 ∧ j = 5 → I' x j = I x j) : RelH I' := by
  obtain ⟨nx, u, h1, h2, h3, h4, h5, h6⟩ := h
  refine ⟨nx, u, h1, h2, (e _ _ (by omega)).trans h3, (e _ _ (by omega)).trans h4, (e _ _ (by omega)).trans h5, fun k hk => (h6 k hk).kp (fun x j h1 h2 => e _ _ ?_) (fun k hk => e _ _ (by omega))⟩
  have := hs_le (nx + 8 - u + k)
  omega
theorem RelS.kp (h : RelS I) (e : ∀ x j, 457 ≤ x ∧ x < 540 ∨ x = 544 ∨ x = 545 → I' x j = I x j) : RelS I' := by
  intro i hi
  refine (h i hi).imp (fun ⟨h1, h2⟩ => ⟨(e _ _ (by omega)).trans h1, (e _ _ (by omega)).trans h2⟩) (fun ⟨⟨h1, h2⟩, h3⟩ => ⟨⟨(e _ _ (by omega)).trans h1, (e _ _ (by omega)).trans h2⟩, h3.kp (fun x j h1 h2 => e _ _ (by omega)) (fun k hk => e _ _ (by omega))⟩)
theorem RelO.kp (h : RelO I) (e : ∀ x j, x = 4 ∨ x = 5 ∨ x = 551 ∨ x = 540 ∧ j = 29 → I' x j = I x j) : RelO I' := by
  obtain ⟨k, h1, h2, h3, h4⟩ := h
  exact ⟨k, h1, (e _ _ (by omega)).trans h2, (e _ _ (by omega)).trans h3, fun j hj => by rw [e 5 j (by omega), e 551 j (by omega)]; exact h4 j hj⟩
theorem RelN.kp (_ : RelN I) (_ : ∀ x j, 10 ≤ x ∧ x < 44 → I' x j = I x j) : RelN I' := trivial
end
