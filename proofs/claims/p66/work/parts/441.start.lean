section
variable {N : Nat} {M M' M1 M2 : kMem} {a s i j k k2 l n x y g nb nt w t H : Nat} {A A' : kA} {r r' : Nat → Int32} {cs cs' : List Nat} {ts : List kTk} {f : Nat → Nat} {v3 : Nat}
theorem BS.hI (h : BS M A w cs r nb nt g) : kt M (aH A) 30 = true ∧ kI M (aH A) 2 = r 0 ∧ kI M (aH A) 3 = r 1 ∧ kI M (aH A) 4 = r 2 ∧ kI M (aH A) 5 = r 3 ∧ kI M (aH A) 6 = r 4 ∧ kI M (aH A) 7 = r 5 := by
  obtain ⟨⟨g1, g2, g3⟩, g4, g5, g6, g7, g8, g9, -⟩ := h.2.2.2.1
  exact ⟨g1, g4, g5, g6, g7, g8, g9⟩
theorem BS.of (h1 : SMp M) (h2 : CP M.2.1) (h3 : Gg M g) (h5 : BW M A r nb nt) (hs : SBx M' w cs) (f : Sf M M' k) : BS M' A w cs r nb nt g := by
  have e : ∀ a j, a ≤ 539 → kI M' a j = kI M a j ∧ kR M' a j = kR M a j := fun a j ha => f.2 a j (by
    by_cases z : a = 0
    · exact Or.inl z
    · exact Or.inr ⟨_, h1.kt1 (by omega) ha, cellAt_20 a ha (by omega), by have := cellAt_lo a ha (by omega); omega⟩)
  exact ⟨⟨h1.kp f.ex (fun a j ha => (e a j ha).2), h2.kp (fun a j ha => (e a j ha).1)⟩, h3.kp f.ex, hs, h5.kp f.ex (fun a j s z y => f.2 a j (Or.inr ⟨s, z, by unfold Tz at y; omega, by unfold Tz at y; omega⟩))⟩
theorem l_init (h : kt M x 30 = true) : ∃ M', F_L_init N M x = some M' ∧ (kR M' x 0 = M.1.length + 1 ∧ kR M' x 1 = M.1.length + 2) ∧ (∀ f, Lx M' (M.1.length + 1) 0 f 0) ∧ (∀ f, Lx M' (M.1.length + 2) 0 f 0) ∧ M'.1 = M.1 ++ [(33, 3), (33, 3)] ∧ (∀ y j, y ≤ M.1.length → y ≠ x → kR M' y j = kR M y j) ∧ ∀ y j, y ≤ M.1.length → kI M' y j = kI M y j := by
  have hx0 := kt_le h
  have hn : (!(x == 0)) = true := by simp; omega
  have hn2 : (!(M.1.length + 1 == 0)) = true := by simp
  have k1 : kt (kNew M 33 3) (M.1.length + 1) 33 = true := kt_newW
  obtain ⟨M3, a1, a2, a3, a4⟩ := al_init (N := N) (a := 0) (f := fun _ => 0) k1 (by rw [z_IN, if_pos rfl])
  have c3 : M3.1 = M.1 ++ [(33, 3)] := a3
  have l3 : M3.1.length = M.1.length + 1 := by rw [c3]; simp
  have kx3 : kt M3 x 30 = true := kt_pre c3 h
  have k2 : kt (kNew (ksR M3 x 0 (M.1.length + 1)) 33 3) (M.1.length + 2) 33 = true := by
    have := kt_newW (M := ksR M3 x 0 (M.1.length + 1)) (t := 33) (n := 3)
    rw [show (ksR M3 x 0 (M.1.length + 1)).1.length + 1 = M.1.length + 2 by show M3.1.length + 1 = _; omega] at this
    exact this
  have l4 : (ksR M3 x 0 (M.1.length + 1)).1.length + 1 = M.1.length + 2 := by show M3.1.length + 1 = _; omega
  obtain ⟨M7, b1, b2, b3, b4⟩ := al_init (N := N) (a := 0) (f := fun _ => 0) k2 (by rw [z_IN, if_pos l4.symm])
  have c7 : M7.1 = M.1 ++ [(33, 3), (33, 3)] := by
    rw [b3]
    show M3.1 ++ _ = _
    rw [c3, List.append_assoc]
    rfl
  have kx7 : kt M7 x 30 = true := kt_pre c7 h
  have kx4 : kt (ksR M3 x 0 (M.1.length + 1)) x 30 = true := kx3
  refine ⟨ksR M7 x 1 (M.1.length + 2), ?_, ⟨?_, ?_⟩, fun f => ?_, fun f => ?_, c7, fun y j hy hy2 => ?_, fun y j hy => ?_⟩
  · unfold F_L_init
    rw [hn, kg_t, kl_v, kl_v, hn2, kg_t, a1, Option.bind_some, kx3, kg_t, kl_v, kl_v, kl_v, l4, show (!(M.1.length + 2 == 0)) = true by simp, kg_t, b1, Option.bind_some, kx7, kg_t, kl_v]
  · rw [z_RR, if_neg (fun z => absurd z.2 (by decide)), (b4 x 0 (by omega)).2, z_RN, if_neg (by omega), z_RR, if_pos ⟨rfl, rfl⟩]
  · rw [z_RR, if_pos ⟨rfl, rfl⟩]
  · have q := a2.kp (M' := ksR M7 x 1 (M.1.length + 2)) ⟨[(33, 3)], by show M7.1 = _; rw [c7, c3, List.append_assoc]; rfl⟩ (fun j => ⟨by rw [z_IR, (b4 _ j (by omega)).1, z_IN, if_neg (by omega), z_IR], by rw [z_RR, if_neg (fun z => by omega), (b4 _ j (by omega)).2, z_RN, if_neg (by omega), z_RR, if_neg (fun z => by omega)]⟩) (fun z => absurd z (by omega))
    exact q.fg (fun k hk => absurd hk (by omega))
  · have q := b2.kp (M' := ksR M7 x 1 (M.1.length + 2)) ⟨[], by show M7.1 = _; simp⟩ (fun j => ⟨rfl, by rw [z_RR, if_neg (fun z => by omega)]⟩) (fun z => absurd z (by omega))
    exact q.fg (fun k hk => absurd hk (by omega))
  · rw [z_RR, if_neg (fun z => hy2 z.1), (b4 y j (by omega)).2, z_RN, if_neg (by omega), z_RR, if_neg (fun z => hy2 z.1), (a4 y j (by omega)).2, z_RN, if_neg (by omega)]
  · rw [z_IR, (b4 y j (by omega)).1, z_IN, if_neg (by omega), z_IR, (a4 y j (by omega)).1, z_IN, if_neg (by omega)]
/-- a number is drawn and set into the market's cell -/
theorem lw_set (hg : Gg M g) (hH : kt M H 30 = true) {m : Nat} (h0 : 0 < m) (hm : m < 2147483648) (j : Nat) : ∃ k v, k < m ∧ F_L_draw N M g (nI m) = some (nI k, ksI M g 0 v) ∧ kt (ksI M g 0 v) H 30 = true ∧ ∀ u, Gg (ksI (ksI M g 0 v) H j u) g ∧ kt (ksI (ksI M g 0 v) H j u) H 30 = true ∧ (ksI (ksI M g 0 v) H j u).1 = M.1 ∧ (∀ y i, kR (ksI (ksI M g 0 v) H j u) y i = kR M y i) ∧ (∀ y i, y ≠ g → y ≠ H → kI (ksI (ksI M g 0 v) H j u) y i = kI M y i) ∧ ∀ i, kI (ksI (ksI M g 0 v) H j u) H i = if i = j then u else kI M H i := by
  obtain ⟨k, v, q, d⟩ := lw_draw (N := N) hg h0 hm
  have hne : H ≠ g := kt_ne hH hg.1 (by decide)
  refine ⟨k, v, q, d, hH, fun u => ⟨hg.kp ⟨[], by show M.1 = _; simp⟩, hH, rfl, fun _ _ => rfl, fun y i h1 h2 => ?_, fun i => ?_⟩⟩
  · rw [z_II, if_neg (fun z => h2 z.1), z_II, if_neg (fun z => h1 z.1)]
  · rw [z_II]
    by_cases e : i = j
    · rw [if_pos ⟨rfl, e⟩, if_pos e]
    · rw [if_neg (fun z => e z.2), if_neg e, z_II, if_neg (fun z => hne z.1)]
/-- boards are made -/
def PS (N : Nat) (M : kMem) (A : kA) (w : Nat) (ts : List kTk) (r : Nat → Int32) (nb g v3 : Nat) : Prop := BS M A w (txL ts) r nb 0 g ∧ (RW r nb 0 ∧ ZS r nb) ∧ Rd0 N ts r nb ∧ TXo ts ∧ (txL ts).length ≤ 31 + 14 * nb ∧ r 3 = nI v3 ∧ v3 < 99
end
