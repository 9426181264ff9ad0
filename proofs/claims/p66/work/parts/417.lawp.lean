/-! a day of the law's market -/
section
variable {N : Nat} {M M' M1 M2 : kMem} {a s i j k k2 nb nt b t q : Nat} {A : kA} {E : Nat → Nat → Nat} {e' : Nat → Nat} {r r' : Nat → Int32}
theorem lw_pays (h : LW M A E r nb nt) (h24 : nt ≤ 24) (h5 : nb ≤ 5) (ht : t < nt) (c : Int32) : ∃ M', F_L_pays N M (aH A) (aT A t) c = some M' ∧ LW M' A E (mvR r (89 + 7 * t + 2) 5 c) nb nt ∧ Op M M' 0 := by
  have tk := h.tk ht
  have hk := h.hk
  obtain ⟨⟨-, -, -, t4, -, -, -⟩, -⟩ := h.t t ht
  have g9 := h.g.2.2.2.2.2.2.1
  have e1 : kI (ksI M (aT A t) 2 (r (89 + 7 * t + 2) - kmin c (r (89 + 7 * t + 2)))) (aH A) 7 = r 5 := by
    rw [z_II, if_neg (fun z => kt_ne hk tk (by decide) z.1)]
    exact g9
  unfold F_L_pays
  simp only [tk, hk, z_tI, kg_t, kl_v, t4, e1]
  refine ⟨_, rfl, ?_, ?_⟩
  · rw [mvR_p5 (by omega)]
    exact (h.setT h24 h5 ht (Or.inr (Or.inl ⟨rfl, rfl⟩)) _).setH h5 (Or.inr (Or.inl ⟨rfl, rfl⟩)) _
  · exact ((Op.sI (j := 2) tk (by decide)).trans (Op.sI (M := ksI M (aT A t) 2 (r (89 + 7 * t + 2) - kmin c (r (89 + 7 * t + 2)))) (j := 7) hk (by decide))).le (by omega)
theorem lw_earns (h : LW M A E r nb nt) (hR : RI r nb nt) (ht : t < nt) (hs : ¬ r (89 + 7 * t + 5) = -1) (hN : 100 < N) : ∃ M', F_L_earns N M (aH A) (aT A t) = some M' ∧ LW M' A E (eaS r nt t) nb nt ∧ Op M M' 7 := by
  have h5 := hR.nb5
  have h24 := hR.nt24
  obtain ⟨b, q, hst⟩ := hR.seat ht hs
  obtain ⟨k1, M1, u1, g1⟩ := lw_oh h hR ht hst hN
  have h1 := h.gr g1
  have tk := h1.tk ht
  have hk := h1.hk
  obtain ⟨⟨-, -, -, t4, -, -, -⟩, -⟩ := h1.t t ht
  have g9 := h1.g.2.2.2.2.2.2.1
  unfold F_L_earns F_L_earns_42 eaS
  rw [h.hk, kg_t, h.tk ht, kg_t, kg_t, k1, kg_t, u1, Option.bind_some, kl_v, h.g.2.1, if_neg hs]
  have e1 : ∀ v, kI (ksI M1 (aT A t) 2 v) (aH A) 7 = r 5 := fun v => by
    rw [z_II, if_neg (fun z => kt_ne hk tk (by decide) z.1)]
    exact g9
  have op : ∀ v w, Op M (ksI (ksI M1 (aT A t) 2 v) (aH A) 7 w) 7 := fun v w => (g1.op.trans ((Op.sI (j := 2) tk (by decide)).trans (Op.sI (M := ksI M1 (aT A t) 2 v) (j := 7) hk (by decide)))).le (by omega)
  have lw : ∀ v w, LW (ksI (ksI M1 (aT A t) 2 v) (aH A) 7 w) A E (setr (setr r (89 + 7 * t + 2) v) 5 w) nb nt := fun v w => (h1.setT h24 h5 ht (Or.inr (Or.inl ⟨rfl, rfl⟩)) v).setH h5 (Or.inr (Or.inl ⟨rfl, rfl⟩)) w
  by_cases c : 0 < r 0 + oh r nt t
  · rw [if_pos c, if_pos c]
    simp only [tk, hk, z_tI, kg_t, kl_v, t4, e1, g9]
    refine ⟨_, rfl, ?_, op _ _⟩
    rw [mvR_5p (by omega), setr_comm (by omega)]
    exact lw _ _
  · rw [if_neg c, if_neg c]
    simp only [tk, hk, z_tI, kg_t, kl_v, t4, e1, g9]
    refine ⟨_, rfl, ?_, op _ _⟩
    rw [mvR_p5 (by omega)]
    have a1 : ∀ x y : Int32, x + -y = x - y := fun x y => by grind
    have a2 : ∀ x y : Int32, x - -y = x + y := fun x y => by grind
    rw [a1, a2]
    exact lw _ _
theorem al_get {l a n : Nat} {f : Nat → Nat} (h : Ll M l a f n) (hn : n ≤ 10) {x : Nat} (hx : x < n) : F_AL_get N M l (nI x) = some (f x) := by
  obtain ⟨l1, l2, l3, l4, l5, l6, l7⟩ := h
  have ha := (kt_le l4).1
  unfold F_AL_get F_OJ_chk F_J3_check F_AL_ed
  have c1 : ¬ nI x < 0 := fun z => by
    have := (nI_ltI (a := x) (b := 0) (by omega) (by decide)).mp z
    omega
  have c2 : nI x < nI n := (nI_ltI (by omega) (by omega)).mpr hx
  rw [l1, kg_t, l3, if_neg c1, if_pos c2, Option.bind_some, Option.bind_some, kg_t, kg_t, l2, if_neg (by omega)]
  rw [kin_nI l4 l6 (by omega) (by decide), kg_t, kx_nI (by omega), l7 x hx, Option.bind_some]
theorem al_size {l a n : Nat} {f : Nat → Nat} (h : Ll M l a f n) : F_AL_size N M l = some (nI n) := by
  unfold F_AL_size
  rw [h.1, kg_t, h.2.2.1]
theorem kor (x t : Nat) (h : kt M x t = true) : (x == 0 || kt M x t) = true := by rw [h, Bool.or_true]
end
