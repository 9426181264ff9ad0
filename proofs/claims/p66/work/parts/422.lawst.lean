/-! where the law stands between two acts: the class's cells and the law's hold one row -/
def SC (M : kMem) (r : Nat → Int32) (nb nt : Nat) : Prop := SMp M ∧ CI M.2.1 r nb nt
def Gg (M : kMem) (g : Nat) : Prop := kt M g 13 = true ∧ kn M g = 1 ∧ 539 < g
def ST (M : kMem) (A : kA) (E : Nat → Nat → Nat) (r : Nat → Int32) (nb nt g : Nat) : Prop := SC M r nb nt ∧ LW M A E r nb nt ∧ Gg M g
def Cc (M M' : kMem) (k : Nat) : Prop := ∃ l, M'.1 = M.1 ++ l ∧ (l.map (fun c => c.2 + 1)).sum ≤ k
section
variable {N : Nat} {M M' M1 M2 : kMem} {a i j k k2 nb nt b s t q g : Nat} {A : kA} {E : Nat → Nat → Nat} {r r' : Nat → Int32} {I I' : kInts}
theorem Cc.rf' : Cc M M 0 := ⟨[], by simp, by simp⟩
theorem Cc.le (h : Cc M M' k) (hk : k ≤ k2) : Cc M M' k2 := by
  obtain ⟨l, h1, h2⟩ := h
  exact ⟨l, h1, by omega⟩
theorem Cc.trans (h : Cc M M1 k) (h2 : Cc M1 M2 k2) : Cc M M2 (k + k2) := by
  obtain ⟨l, hl, hs⟩ := h
  obtain ⟨l2, hl2, hs2⟩ := h2
  exact ⟨l ++ l2, by rw [hl2, hl, List.append_assoc], by rw [List.map_append, List.sum_append]; omega⟩
theorem Cc.of (h : M'.1 = M.1) : Cc M M' 0 := ⟨[], by rw [h]; simp, by simp⟩
theorem Op.cc (h : Op M M' k) : Cc M M' k := h.1
theorem Gr.cc (h : Gr M M' k) : Cc M M' k := h.1
theorem cellAt_lo : ∀ a, a ≤ 539 → 1 ≤ a → (cellAt a).1 < 30 := by decide +kernel
theorem SMp.kt1 (h : SMp M) (h1 : 1 ≤ a) (h2 : a ≤ 539) : kt M a (cellAt a).1 = true := by
  unfold kt
  rw [h.1 a h1 h2]
  simp
theorem SMp.hi (h : SMp M) (ha : kt M a s = true) (hs : 30 ≤ s) : 539 < a := by
  refine Decidable.byContradiction fun z => ?_
  have h1 := (kt_le ha).1
  have h2 := h.kt1 h1 (by omega)
  have h3 := cellAt_lo a (by omega) h1
  exact kt_ne ha h2 (by omega) rfl
theorem SMp.len (h : SMp M) : 539 ≤ M.1.length := (kt_le (h.kt1 (a := 539) (by decide) (by decide))).2
theorem SMp.op (h : SMp M) (o : Op M M' k) : SMp M' := by
  obtain ⟨⟨l, hl, -⟩, ho⟩ := o
  refine ⟨fun a h1 h2 => ?_, fun a j h2 => ?_⟩
  · rw [kcell_pre hl h1 (kt_le (h.kt1 h1 h2)).2]
    exact h.1 a h1 h2
  · rw [(ho a j _).2]
    · exact h.2 a j h2
    · by_cases z : a = 0
      · exact Or.inl z
      · exact Or.inr ⟨_, h.kt1 (by omega) h2, Or.inl (cellAt_lo a h2 (by omega))⟩
theorem CI.cg (h : CI I r nb nt) (e : ∀ a j, a ≤ 539 → I' a j = I a j) : CI I' r nb nt := by
  obtain ⟨h1, hM, hNu, ⟨nx, u, h8, hu, e1, e2⟩, n, hn, en⟩ := h
  refine ⟨h1, hM.cI h1.1.nb5 h1.1.nt24 (fun a j y1 y2 => e a j (by omega)), fun m hm => (hNu m hm).kp (fun x j y1 y2 => e x j ?_), ⟨nx, u, h8, hu, (e _ _ (by decide)).trans e1, (e _ _ (by decide)).trans e2⟩, n, hn, (e _ _ (by decide)).trans en⟩
  simp only [mks, List.mem_cons, List.not_mem_nil, or_false] at hm
  omega
theorem SC.op (h : SC M r nb nt) (o : Op M M' k) : SC M' r nb nt := by
  refine ⟨h.1.op o, h.2.cg (fun a j ha => ?_)⟩
  show kI M' a j = kI M a j
  refine (o.2 a j ?_).1
  by_cases z : a = 0
  · exact Or.inl z
  · exact Or.inr ⟨_, h.1.kt1 (by omega) ha, Or.inl (cellAt_lo a ha (by omega))⟩
theorem Gg.op (h : Gg M g) (o : Op M M' k) : Gg M' g := by
  obtain ⟨h1, h2, h3⟩ := h
  have hg := kt_le h1
  refine ⟨o.tg h1, ?_, h3⟩
  obtain ⟨⟨l, hl, -⟩, -⟩ := o
  unfold kn at h2 ⊢
  rw [kcell_pre hl hg.1 hg.2]
  exact h2
theorem ST.gr (h : ST M A E r nb nt g) (o : Gr M M' k) : ST M' A E r nb nt g := ⟨h.1.op o.op, h.2.1.gr o, h.2.2.op o.op⟩
/-- behind a call of the class -/
theorem LW.cls (h : LW M A E r nb nt) (hS : SMp M) {L : kLngs} (e : ∀ a j, 539 < a → I' a j = M.2.1 a j) : LW (M.1, I', M.2.2.1, L) A E r nb nt := by
  refine h.keep ⟨[], by simp⟩ (fun a j s z y => e a j (hS.hi z (by omega))) (fun _ _ _ _ _ => rfl) (fun tm _ hv => hv)
theorem ST.call (h : ST M A E r nb nt g) {L : kLngs} (hc : CI I' r' nb nt) (e : ∀ a j, 539 < a → I' a j = M.2.1 a j) (hl : LW M A E r' nb nt) : ST (M.1, I', M.2.2.1, L) A E r' nb nt g := ⟨⟨h.1.1, hc⟩, hl.cls h.1.1 e, h.2.2⟩
theorem ksm {β : Type} {fin : β → Option Value × kMem} {M : kMem} {r : β} (h : (fin r).2.1 = M.1) : kSm fin M (some r) = some r := by
  unfold kSm
  rw [Option.bind_some, h]
  simp [kg]
/-! a draw -/
theorem i32_of (x : Int32) : x = nI x.toBitVec.toNat := by
  apply Int32.toBitVec_inj.mp
  show x.toBitVec = BitVec.ofNat 32 x.toBitVec.toNat
  simp
theorem nI_rem {y m : Nat} (hy : y < 2147483648) (h0 : 0 < m) (hm : m < 2147483648) : nI y - nI y / nI m * nI m = nI (y % m) := by
  rw [pk_div hy h0 hm, pk_mul, pk_sub (Nat.div_mul_le_self y m)]
  congr 1
  have := Nat.div_add_mod y m
  rw [Nat.mul_comm] at this
  omega
theorem lw_draw (hg : Gg M g) {m : Nat} (h0 : 0 < m) (hm : m < 2147483648) : ∃ k v, k < m ∧ F_L_draw N M g (nI m) = some (nI k, ksI M g 0 v) := by
  have kin0 : kin M g 13 0 = true := kin_nI (i := 0) hg.1 hg.2.1 (by decide) (by decide)
  unfold F_L_draw
  rw [kin0, kg_t, kg_t, kl_v, kx_0]
  generalize kI M g 0 * 1664525 + 1013904223 = v
  rw [show kin (ksI M g 0 v) g 13 0 = true from kin0, kg_t, show kI (ksI M g 0 v) g 0 = v from if_pos ⟨rfl, rfl⟩]
  have hz : (nI m == 0) = false := by
    have := nI_ne0 h0 hm
    simpa using this
  rw [hz]
  show ∃ k v', k < m ∧ kg true _ = _
  rw [kg_t]
  have hu := pk_ushr v 8 8 (by decide)
  have hY := i32_of ((v.toUInt32 >>> ((8 : Int32).toUInt32 &&& Int32.toUInt32 31)).toInt32)
  rw [hu] at hY
  have hlt : v.toBitVec.toNat / 2 ^ 8 < 2147483648 := by
    have := v.toBitVec.isLt
    omega
  rw [hY, nI_rem hlt h0 hm]
  exact ⟨_, v, Nat.mod_lt _ h0, rfl⟩
theorem ST.draw (h : ST M A E r nb nt g) (v : Int32) : ST (ksI M g 0 v) A E r nb nt g := by
  have hne : ∀ a s, kt M a s = true → s ≠ 13 → a ≠ g := fun a s z y => kt_ne z h.2.2.1 y
  refine ⟨⟨h.1.1, h.1.2.cg (fun a j ha => ?_)⟩, h.2.1.keep ⟨[], by show M.1 = M.1 ++ []; simp⟩ (fun a j s z y => ?_) (fun _ _ _ _ _ => rfl) (fun tm _ hv => hv), h.2.2⟩
  · have := h.2.2.2.2
    exact if_neg (fun z => by omega)
  · rw [z_II, if_neg (fun y2 => hne a s z (by omega) y2.1)]
end
