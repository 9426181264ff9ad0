/-! where the law stands while it makes a market -/
def CP (I : kInts) : Prop := (∀ m, m ∈ mks → Nu I m) ∧ (∃ nx, nx < 8 ∧ I 126 1 = nI nx) ∧ ∃ n, n ≤ 800 ∧ I 2 1 = nI n
def BS (M : kMem) (A : kA) (w : Nat) (cs : List Nat) (r : Nat → Int32) (nb nt g : Nat) : Prop := (SMp M ∧ CP M.2.1) ∧ Gg M g ∧ SBx M w cs ∧ BW M A r nb nt
section
variable {N : Nat} {M M' M1 M2 : kMem} {a s i j k k2 l n x y g nb nt w : Nat} {A A' : kA} {r : Nat → Int32} {cs cs' : List Nat} {x1 x2 x3 x4 : Int32}
theorem cellAt_20 : ∀ a, a ≤ 539 → 1 ≤ a → (cellAt a).1 ≠ 20 := by decide +kernel
theorem CP.kp {I I' : kInts} (h : CP I) (e : ∀ a j, a ≤ 539 → I' a j = I a j) : CP I' := by
  obtain ⟨h1, ⟨nx, h2, h3⟩, n, h4, h5⟩ := h
  refine ⟨fun m hm => (h1 m hm).kp (fun x j y1 y2 => e x j ?_), ⟨nx, h2, (e _ _ (by decide)).trans h3⟩, n, h4, (e _ _ (by decide)).trans h5⟩
  have := mks_sep hm
  omega
theorem SMp.kp (h : SMp M) (hc : ∃ l, M'.1 = M.1 ++ l) (e : ∀ a j, a ≤ 539 → kR M' a j = kR M a j) : SMp M' := by
  obtain ⟨l, hl⟩ := hc
  refine ⟨fun a h1 h2 => ?_, fun a j h2 => ?_⟩
  · rw [kcell_pre hl h1 (kt_le (h.kt1 h1 h2)).2]
    exact h.1 a h1 h2
  · rw [e a j h2]
    exact h.2 a j h2
theorem SBx.kp (h : SBx M w cs) (hc : ∃ l, M'.1 = M.1 ++ l) (e : ∀ a j s, kt M a s = true → (s = 20 ∨ s = 39) → kI M' a j = kI M a j ∧ kR M' a j = kR M a j) : SBx M' w cs := by
  obtain ⟨⟨h1, h2, h3⟩, ⟨h4, h5, h6⟩, h7, h8⟩ := h
  have ew : kR M' w 0 = kR M w 0 := (e w 0 39 h1 (Or.inr rfl)).2
  have eb : ∀ i, kI M' (kR M w 0) i = kI M (kR M w 0) i := fun i => (e _ i 20 h4 (Or.inl rfl)).1
  unfold SBx
  rw [ew, kn_pre hc h4]
  refine ⟨⟨kt_p hc h1, (e w 1 39 h1 (Or.inr rfl)).1.trans h2, (e w 3 39 h1 (Or.inr rfl)).1.trans h3⟩, ⟨kt_p hc h4, h5, h6⟩, fun i hi => (eb i).trans (h7 i hi), fun i hi => ?_⟩
  rw [eb]
  exact h8 i hi
theorem Gg.kp (h : Gg M g) (hc : ∃ l, M'.1 = M.1 ++ l) : Gg M' g := ⟨kt_p hc h.1, (kn_pre hc h.1).trans h.2.1, h.2.2⟩
theorem Sf.cc (h : Sf M M' k) : Cc M M' k := h.1
theorem Sf.ex (h : Sf M M' k) : ∃ l, M'.1 = M.1 ++ l := ⟨_, h.1.choose_spec.1⟩
theorem BS.sf (h : BS M A w cs r nb nt g) (hs : SBx M' w cs') (f : Sf M M' k) : BS M' A w cs' r nb nt g := by
  obtain ⟨⟨h1, h2⟩, h3, h4, h5⟩ := h
  have e : ∀ a j, a ≤ 539 → kI M' a j = kI M a j ∧ kR M' a j = kR M a j := fun a j ha => f.2 a j (by
    by_cases z : a = 0
    · exact Or.inl z
    · exact Or.inr ⟨_, h1.kt1 (by omega) ha, cellAt_20 a ha (by omega), by have := cellAt_lo a ha (by omega); omega⟩)
  exact ⟨⟨h1.kp f.ex (fun a j ha => (e a j ha).2), h2.kp (fun a j ha => (e a j ha).1)⟩, h3.kp f.ex, hs, h5.kp f.ex (fun a j s z y => f.2 a j (Or.inr ⟨s, z, by unfold Tz at y; omega, by unfold Tz at y; omega⟩))⟩
/-- cells of before stay -/
def Nf (g : Nat) (M M' : kMem) (k : Nat) : Prop := Cc M M' k ∧ ∀ a j, a ≤ M.1.length → a ≠ g → kI M' a j = kI M a j ∧ kR M' a j = kR M a j
theorem Cc.ex (h : Cc M M' k) : ∃ l, M'.1 = M.1 ++ l := ⟨_, h.choose_spec.1⟩
theorem Cc.len (h : Cc M M' k) : M.1.length ≤ M'.1.length := by
  obtain ⟨l, h1, -⟩ := h
  rw [h1, List.length_append]
  omega
theorem Nf.trans (h : Nf g M M1 k) (h2 : Nf g M1 M2 k2) : Nf g M M2 (k + k2) := ⟨h.1.trans h2.1, fun a j h3 h4 => by
  have q1 := h.2 a j h3 h4
  have q2 := h2.2 a j (by have := h.1.len; omega) h4
  exact ⟨q2.1.trans q1.1, q2.2.trans q1.2⟩⟩
theorem Nf.new {c sz : Nat} : Nf g M (kNew M c sz) (sz + 1) := ⟨⟨[(c, sz)], rfl, by simp⟩, fun a j h3 _ => ⟨by rw [z_IN, if_neg (by omega)], by rw [z_RN, if_neg (by omega)]⟩⟩
theorem Nf.draw {v : Int32} : Nf g M (ksI M g 0 v) 0 := ⟨⟨[], by show M.1 = M.1 ++ []; simp, by simp⟩, fun a j _ h4 => ⟨by rw [z_II, if_neg (fun z => h4 z.1)], rfl⟩⟩
theorem BS.nf (h : BS M A w cs r nb nt g) (f : Nf g M M' k) : BS M' A w cs r nb nt g := by
  obtain ⟨⟨h1, h2⟩, h3, h4, h5⟩ := h
  have hg := h3.2.2
  have hl := h1.len
  have hx := f.1.ex
  have e : ∀ a j, a ≤ 539 → kI M' a j = kI M a j ∧ kR M' a j = kR M a j := fun a j ha => f.2 a j (by omega) (by omega)
  have e2 : ∀ a j s, kt M a s = true → s ≠ 13 → kI M' a j = kI M a j ∧ kR M' a j = kR M a j := fun a j s z y => f.2 a j (kt_le z).2 (kt_ne z h3.1 y)
  exact ⟨⟨h1.kp hx (fun a j ha => (e a j ha).2), h2.kp (fun a j ha => (e a j ha).1)⟩, h3.kp hx, h4.kp hx (fun a j s z y => e2 a j s z (by omega)), h5.kp hx (fun a j s z y => e2 a j s z (by unfold Tz at y; omega))⟩
theorem BS.S (h : BS M A w cs r nb nt g) {s : Nat} (hs : s < 23) (hs0 : s ≠ 0) (hl : cs.length + (pcs s).length ≤ 340) : ∃ M', F_SB_appendS N M w s = some (w, M') ∧ BS M' A w (cs ++ pcs s) r nb nt g ∧ Cc M M' 701 := by
  obtain ⟨M', u1, u2, u3⟩ := sb_S (N := N) h.2.2.1 hs hs0 hl
  exact ⟨M', u1, h.sf u2 u3, u3.cc⟩
theorem BS.C (h : BS M A w cs r nb nt g) {c : Nat} (hc : c < 128) (hl : cs.length + 1 ≤ 340) : ∃ M', F_SB_appendC N M w (nI c) = some (w, M') ∧ BS M' A w (cs ++ [c]) r nb nt g ∧ Cc M M' 701 := by
  obtain ⟨M', u1, u2, u3⟩ := sb_C (N := N) h.2.2.1 hl hc
  exact ⟨M', u1, h.sf u2 u3, u3.cc⟩
theorem BS.I (h : BS M A w cs r nb nt g) {v : Nat} (hv : v < 1000) (hl : cs.length + (dgs v).length ≤ 340) (hN : 100 < N) : ∃ M', F_SB_appendI N M w (nI v) = some (w, M') ∧ BS M' A w (cs ++ dgs v) r nb nt g ∧ Cc M M' 701 := by
  obtain ⟨M', u1, u2, u3⟩ := sb_I h.2.2.1 hv hl hN
  exact ⟨M', u1, h.sf u2 u3, u3.cc⟩
theorem BS.wk (h : BS M A w cs r nb nt g) : kt M w 39 = true := h.2.2.1.1.1
theorem lb_init (h : kt M x 31 = true) : ∃ M', F_LB_init N M x x1 x2 x3 x4 = some M' ∧ (kI M' x 0 = x1 ∧ kI M' x 1 = x2 ∧ kI M' x 2 = x3 ∧ kI M' x 3 = x4 ∧ kR M' x 4 = M.1.length + 1) ∧ Ey M' (M.1.length + 1) ∧ M'.1 = M.1 ++ [(34, 9)] ∧ ∀ y j, y ≤ M.1.length → y ≠ x → kI M' y j = kI M y j ∧ kR M' y j = kR M y j := by
  have hx0 := kt_le h
  have hn : (!(x == 0)) = true := by simp; omega
  have hn2 : (!(M.1.length + 1 == 0)) = true := by simp
  have k1 : kt (kNew M 34 9) (M.1.length + 1) 34 = true := kt_newW
  obtain ⟨M1, a1, a2, a3, a4⟩ := tm_init (N := N) k1 (by rw [z_RN, if_pos rfl]) (by rw [z_RN, if_pos rfl])
  have c1 : M1.1 = M.1 ++ [(34, 9)] := a3
  have k2 : kt M1 x 31 = true := kt_pre c1 h
  refine ⟨ksI (ksI (ksI (ksI (ksR M1 x 4 (M.1.length + 1)) x 0 x1) x 1 x2) x 2 x3) x 3 x4, ?_, ⟨?_, ?_, ?_, ?_, ?_⟩, ⟨a2.1, ?_, ?_, ?_⟩, c1, fun y j hy hy2 => ⟨?_, ?_⟩⟩
  · unfold F_LB_init
    rw [hn, kg_t, kl_v, kl_v, hn2, kg_t, a1, Option.bind_some]
    simp only [z_tI, z_tR, k2, kg_t, kl_v]
  · simp [z_II]
  · simp [z_II]
  · simp [z_II]
  · simp [z_II]
  · simp [z_RI, z_RR]
  · simp only [z_RI]; rw [z_RR, if_neg (fun z => by omega)]; exact a2.2.1
  · simp only [z_RI]; rw [z_RR, if_neg (fun z => by omega)]; exact a2.2.2.1
  · simp only [z_RI]; rw [z_RR, if_neg (fun z => by omega)]; exact a2.2.2.2
  · rw [z_II, if_neg (fun z => hy2 z.1), z_II, if_neg (fun z => hy2 z.1), z_II, if_neg (fun z => hy2 z.1), z_II, if_neg (fun z => hy2 z.1), z_IR, (a4 y j (by omega)).1, z_IN, if_neg (by omega)]
  · simp only [z_RI]
    rw [z_RR, if_neg (fun z => hy2 z.1), (a4 y j (by omega)).2, z_RN, if_neg (by omega)]
theorem lt_init (h : kt M x 32 = true) : ∃ M', F_LT_init N M x x1 x2 x3 x4 = some M' ∧ (kI M' x 0 = x1 ∧ kI M' x 1 = x2 ∧ kI M' x 2 = x3 ∧ kI M' x 3 = x4 ∧ kI M' x 5 = 1 ∧ kI M' x 4 = kI M x 4 ∧ kR M' x 6 = kR M x 6) ∧ M'.1 = M.1 ∧ ∀ y j, y ≠ x → kI M' y j = kI M y j ∧ kR M' y j = kR M y j := by
  have hx0 := kt_le h
  have hn : (!(x == 0)) = true := by simp; omega
  refine ⟨ksI (ksI (ksI (ksI (ksI M x 5 1) x 0 x1) x 1 x2) x 2 x3) x 3 x4, ?_, ⟨?_, ?_, ?_, ?_, ?_, ?_, rfl⟩, rfl, fun y j hy2 => ⟨?_, rfl⟩⟩
  · unfold F_LT_init
    rw [hn, kg_t, h, show (true && ((1 : Int32) == 0 || (1 : Int32) == 1)) = true by decide, kg_t, kl_v]
    simp only [z_tI, h, kg_t, kl_v]
  · simp [z_II]
  · simp [z_II]
  · simp [z_II]
  · simp [z_II]
  · simp [z_II]
  · simp [z_II]
  · rw [z_II, if_neg (fun z => hy2 z.1), z_II, if_neg (fun z => hy2 z.1), z_II, if_neg (fun z => hy2 z.1), z_II, if_neg (fun z => hy2 z.1), z_II, if_neg (fun z => hy2 z.1)]
end
