variable {Mb : SMem}
def apR (r : Nat → Int32) (nt : Nat) (c w p a : Int32) : Nat → Int32 := setr (setr (setr (setr (setr (setr (setr (setr r 8 (nI (nt + 1))) (89 + 7 * nt + 0) c) (89 + 7 * nt + 1) w) (89 + 7 * nt + 2) p) (89 + 7 * nt + 3) a) (89 + 7 * nt + 4) 1) (89 + 7 * nt + 5) (-1)) (89 + 7 * nt + 6) 0
def jnR (r : Nat → Int32) (nt : Nat) (c w p a : Int32) : Nat → Int32 := setr (apR r nt c w p a) 9 (r 9 + p)
section
variable {N : Nat} {I : kInts} {L : kLngs} {r f : Nat → Int32} {nb nt m : Nat} {cc w p ag : Int32}
theorem apR_ne {k : Nat} (h8 : k ≠ 8) (h : k < 89 + 7 * nt ∨ 89 + 7 * nt + 6 < k) : apR r nt cc w p ag k = r k := by
  unfold apR
  rw [setr_ne (by omega), setr_ne (by omega), setr_ne (by omega), setr_ne (by omega), setr_ne (by omega), setr_ne (by omega), setr_ne (by omega), setr_ne (by omega)]
theorem apR_8 : apR r nt cc w p ag 8 = nI (nt + 1) := by
  unfold apR
  rw [setr_ne (by omega), setr_ne (by omega), setr_ne (by omega), setr_ne (by omega), setr_ne (by omega), setr_ne (by omega), setr_ne (by omega), setr_eq]
theorem apR_t : apR r nt cc w p ag (89 + 7 * nt + 0) = cc ∧ apR r nt cc w p ag (89 + 7 * nt + 1) = w ∧ apR r nt cc w p ag (89 + 7 * nt + 2) = p ∧ apR r nt cc w p ag (89 + 7 * nt + 3) = ag ∧ apR r nt cc w p ag (89 + 7 * nt + 4) = 1 ∧ apR r nt cc w p ag (89 + 7 * nt + 5) = -1 ∧ apR r nt cc w p ag (89 + 7 * nt + 6) = 0 := by
  unfold apR
  refine ⟨?_, ?_, ?_, ?_, ?_, ?_, ?_⟩
  · rw [setr_ne (by omega), setr_ne (by omega), setr_ne (by omega), setr_ne (by omega), setr_ne (by omega), setr_ne (by omega), setr_eq]
  · rw [setr_ne (by omega), setr_ne (by omega), setr_ne (by omega), setr_ne (by omega), setr_ne (by omega), setr_eq]
  · rw [setr_ne (by omega), setr_ne (by omega), setr_ne (by omega), setr_ne (by omega), setr_eq]
  · rw [setr_ne (by omega), setr_ne (by omega), setr_ne (by omega), setr_eq]
  · rw [setr_ne (by omega), setr_ne (by omega), setr_eq]
  · rw [setr_ne (by omega), setr_eq]
  · rw [setr_eq]
theorem jnR_ne {k : Nat} (h8 : k ≠ 8) (h9 : k ≠ 9) (h : k < 89 + 7 * nt ∨ 89 + 7 * nt + 6 < k) : jnR r nt cc w p ag k = r k := (setr_ne h9).trans (apR_ne h8 h)
theorem jnR_8 : jnR r nt cc w p ag 8 = nI (nt + 1) := (setr_ne (by decide)).trans apR_8
theorem jnR_9 : jnR r nt cc w p ag 9 = r 9 + p := setr_eq
theorem jnR_t : jnR r nt cc w p ag (89 + 7 * nt + 0) = cc ∧ jnR r nt cc w p ag (89 + 7 * nt + 1) = w ∧ jnR r nt cc w p ag (89 + 7 * nt + 2) = p ∧ jnR r nt cc w p ag (89 + 7 * nt + 3) = ag ∧ jnR r nt cc w p ag (89 + 7 * nt + 4) = 1 ∧ jnR r nt cc w p ag (89 + 7 * nt + 5) = -1 ∧ jnR r nt cc w p ag (89 + 7 * nt + 6) = 0 := by
  obtain ⟨h0, h1, h2, h3, h4, h5, h6⟩ := apR_t (r := r) (nt := nt) (cc := cc) (w := w) (p := p) (ag := ag)
  exact ⟨(setr_ne (by omega)).trans h0, (setr_ne (by omega)).trans h1, (setr_ne (by omega)).trans h2, (setr_ne (by omega)).trans h3, (setr_ne (by omega)).trans h4, (setr_ne (by omega)).trans h5, (setr_ne (by omega)).trans h6⟩
theorem RI_jn (h : RI r nb nt) (hn : nt < 24) {wn pn : Nat} (hw : 1 ≤ wn ∧ wn ≤ 99) (hp : pn ≤ 10000) (hh : tot r nt ≤ 100000 + 10000 * nt) : RI (jnR r nt cc (nI wn) (nI pn) ag) nb (nt + 1) := by
  have h5 := h.nb5
  obtain ⟨j0, j1, j2, j3, j4, j5, j6⟩ := jnR_t (r := r) (nt := nt) (cc := cc) (w := nI wn) (p := nI pn) (ag := ag)
  refine ⟨?_, h.b.cg (fun b hb w hw => jnR_ne (by omega) (by omega) (by omega)), fun t ht => ?_, ⟨fun t ht => ?_, fun b hb q hq h6 => ?_⟩, ?_, fun t ht => ?_, ?_⟩
  · obtain ⟨⟨g1, g2, g3, g4⟩, g5, g6, g7, g8, g9, g10⟩ := h.g
    unfold RIg
    rw [jnR_8, jnR_ne (k := 7) (by omega) (by omega) (by omega), jnR_ne (k := 0) (by omega) (by omega) (by omega), jnR_ne (k := 1) (by omega) (by omega) (by omega), jnR_ne (k := 2) (by omega) (by omega) (by omega), jnR_ne (k := 3) (by omega) (by omega) (by omega), jnR_ne (k := 4) (by omega) (by omega) (by omega), jnR_ne (k := 13) (by omega) (by omega) (by omega)]
    exact ⟨⟨g1, rfl, g3, hn⟩, g5, g6, g7, g8, g9, g10⟩
  · by_cases e : t = nt
    · subst e
      rw [j1, j4]
      exact ⟨⟨wn, hw, rfl⟩, Or.inl rfl⟩
    · rw [jnR_ne (k := 89 + 7 * t + 1) (by omega) (by omega) (by omega), jnR_ne (k := 89 + 7 * t + 4) (by omega) (by omega) (by omega), jnR_ne (k := 89 + 7 * t + 5) (by omega) (by omega) (by omega), jnR_ne (k := 89 + 7 * t + 2) (by omega) (by omega) (by omega)]
      exact h.t t (by omega)
  · by_cases e : t = nt
    · subst e
      exact Or.inl ⟨j5, j6⟩
    · rw [jnR_ne (k := 89 + 7 * t + 5) (by omega) (by omega) (by omega), jnR_ne (k := 89 + 7 * t + 6) (by omega) (by omega) (by omega)]
      refine (h.s.1 t (by omega)).imp id (fun ⟨b, q, hs⟩ => ⟨b, q, ?_⟩)
      have x1 := hs.1
      have x2 := hs.q13
      have x3 := si_lt (show b < 5 by omega) x2
      have x4 := @si_ge b q
      exact hs.cg (jnR_ne (by omega) (by omega) (by omega)) (jnR_ne (by omega) (by omega) (by omega)) (jnR_ne (by omega) (by omega) (by omega)) (jnR_ne (by omega) (by omega) (by omega))
  · have x3 := si_lt (show b < 5 by omega) hq
    have x4 := @si_ge b q
    rw [jnR_ne (k := si b q) (by omega) (by omega) (by omega)]
    refine (h.s.2 b hb q hq h6).imp id (fun ⟨t, ht, e, hs⟩ => ⟨t, by omega, e, ?_⟩)
    exact hs.cg (jnR_ne (by omega) (by omega) (by omega)) (jnR_ne (by omega) (by omega) (by omega)) (jnR_ne (by omega) (by omega) (by omega)) (jnR_ne (by omega) (by omega) (by omega))
  · rw [jnR_ne (k := 5) (by omega) (by omega) (by omega)]
    exact h.c.1
  · by_cases e : t = nt
    · subst e
      rw [j2]
      exact nn_nI (by omega)
    · rw [jnR_ne (by omega) (by omega) (by omega)]
      exact h.c.2.1 t (by omega)
  · rw [jnR_ne (k := 5) (by omega) (by omega) (by omega)]
    show kx (r 5) + (sumN (pu (jnR r nt cc (nI wn) (nI pn) ag)) nt + pu (jnR r nt cc (nI wn) (nI pn) ag) nt) ≤ _
    rw [sumN_congr (f := pu r) (fun t ht => by unfold pu; rw [jnR_ne (by omega) (by omega) (by omega)])]
    have : pu (jnR r nt cc (nI wn) (nI pn) ag) nt = pn := by unfold pu; rw [j2, kx_nI (by omega)]
    rw [this]
    unfold tot at hh
    omega
theorem tot_jn {pn : Nat} (hp : pn < 2147483648) : tot (jnR r nt cc w (nI pn) ag) (nt + 1) = tot r nt + pn := by
  obtain ⟨j0, j1, j2, j3, j4, j5, j6⟩ := jnR_t (r := r) (nt := nt) (cc := cc) (w := w) (p := nI pn) (ag := ag)
  unfold tot
  rw [jnR_ne (k := 5) (by omega) (by omega) (by omega)]
  show kx (r 5) + (sumN (pu (jnR r nt cc w (nI pn) ag)) nt + pu (jnR r nt cc w (nI pn) ag) nt) = _
  rw [sumN_congr (f := pu r) (fun t ht => by unfold pu; rw [jnR_ne (by omega) (by omega) (by omega)])]
  have : pu (jnR r nt cc w (nI pn) ag) nt = pn := by unfold pu; rw [j2, kx_nI hp]
  rw [this]
  omega
theorem cx_admit (hm : m ∈ mks) {v : Int64} (hi : RM I m r nb nt) (h5 : nb ≤ 5) (hn : nt < 24) (h8 : r 8 = nI nt) (hq : nmV v cc) : ∃ I', F_X4_admit N (wm Mb I L) m v w p ag = some (nI nt, wm Mb I' L) ∧ RM I' m (jnR r nt cc w p ag) nb (nt + 1) ∧ FR m I I' := by
  have q1 : tr m nt = m + 17 + nt := rfl
  have htc : I m 12 = nI nt := hi.tc.trans h8
  have ea : nI nt + 1 = nI (nt + 1) := by rw [nI_succ]
  have hlim : nt < 24 := hn
  let I0 := upJ (up I m 12 (nI (nt + 1))) (tr m nt) 1 v
  let I1 := up (up (up (up (up (up I0 (tr m nt) 2 w) (tr m nt) 3 p) (tr m nt) 4 ag) (tr m nt) 5 1) (tr m nt) 6 (-1)) (tr m nt) 7 0
  have x1 : ∀ x j, x ≠ m → x ≠ tr m nt → I1 x j = I x j := by
    intro x j y1 y4
    show up (up (up (up (up (up I0 (tr m nt) 2 w) (tr m nt) 3 p) (tr m nt) 4 ag) (tr m nt) 5 1) (tr m nt) 6 (-1)) (tr m nt) 7 0 x j = _
    rw [up_ne (Or.inl y4), up_ne (Or.inl y4), up_ne (Or.inl y4), up_ne (Or.inl y4), up_ne (Or.inl y4), up_ne (Or.inl y4)]
    exact (upJ_ne (Or.inl y4)).trans (up_ne (Or.inl y1))
  have x2 : ∀ j, I1 m j = up I m 12 (nI (nt + 1)) m j := by
    intro j
    show up (up (up (up (up (up I0 (tr m nt) 2 w) (tr m nt) 3 p) (tr m nt) 4 ag) (tr m nt) 5 1) (tr m nt) 6 (-1)) (tr m nt) 7 0 m j = _
    rw [up_ne (Or.inl (by omega)), up_ne (Or.inl (by omega)), up_ne (Or.inl (by omega)), up_ne (Or.inl (by omega)), up_ne (Or.inl (by omega)), up_ne (Or.inl (by omega))]
    exact upJ_ne (Or.inl (by omega))
  have x3 : jn I1 (tr m nt) 1 = v := by
    show jn (up (up (up (up (up (up I0 (tr m nt) 2 w) (tr m nt) 3 p) (tr m nt) 4 ag) (tr m nt) 5 1) (tr m nt) 6 (-1)) (tr m nt) 7 0) (tr m nt) 1 = _
    rw [jn_up (Or.inr (by decide)), jn_up (Or.inr (by decide)), jn_up (Or.inr (by decide)), jn_up (Or.inr (by decide)), jn_up (Or.inr (by decide)), jn_up (Or.inr (by decide))]
    exact jn_eq
  have x5 : I1 (tr m nt) 0 = I (tr m nt) 0 := by
    show up (up (up (up (up (up I0 (tr m nt) 2 w) (tr m nt) 3 p) (tr m nt) 4 ag) (tr m nt) 5 1) (tr m nt) 6 (-1)) (tr m nt) 7 0 (tr m nt) 0 = _
    rw [up_ne (Or.inr (by decide)), up_ne (Or.inr (by decide)), up_ne (Or.inr (by decide)), up_ne (Or.inr (by decide)), up_ne (Or.inr (by decide)), up_ne (Or.inr (by decide))]
    exact (upJ_ne (Or.inr (by decide))).trans (up_ne (Or.inl (by omega)))
  have x6 : I1 (tr m nt) 2 = w ∧ I1 (tr m nt) 3 = p ∧ I1 (tr m nt) 4 = ag ∧ I1 (tr m nt) 5 = 1 ∧ I1 (tr m nt) 6 = -1 ∧ I1 (tr m nt) 7 = 0 := by
    refine ⟨?_, ?_, ?_, ?_, ?_, up_eq⟩
    · exact (up_ne (Or.inr (by decide))).trans ((up_ne (Or.inr (by decide))).trans ((up_ne (Or.inr (by decide))).trans ((up_ne (Or.inr (by decide))).trans ((up_ne (Or.inr (by decide))).trans up_eq))))
    · exact (up_ne (Or.inr (by decide))).trans ((up_ne (Or.inr (by decide))).trans ((up_ne (Or.inr (by decide))).trans ((up_ne (Or.inr (by decide))).trans up_eq)))
    · exact (up_ne (Or.inr (by decide))).trans ((up_ne (Or.inr (by decide))).trans ((up_ne (Or.inr (by decide))).trans up_eq))
    · exact (up_ne (Or.inr (by decide))).trans ((up_ne (Or.inr (by decide))).trans up_eq)
    · exact (up_ne (Or.inr (by decide))).trans up_eq
  have x7 : I1 m 7 = I m 7 := (x2 7).trans (up_ne (Or.inr (by decide)))
  obtain ⟨j0, j1, j2, j3, j4, j5, j6⟩ := jnR_t (r := r) (nt := nt) (cc := cc) (w := w) (p := p) (ag := ag)
  refine ⟨up I1 m 7 (I m 7 + p), ?_, ?_, ?_⟩
  · unfold F_X4_admit
    simp (disch := omega) only [wm_kR, wm_kt, wm_kn, wm_kin, wm_kL, wm_kI, wm_ksI, wm_ksL, wm_kJ, wm_ksJ, kg_t, kl_v, Option.bind_some, mm_k hm, mm_bs hm, mm_bn hm, mm_ts hm, mm_tn hm, mm_e hm, mm_ek hm, mm_ts hm, mm_tn hm, ofNnI, htc, nI_ltP, hlim, if_true, kin_t hm hn, kx_nI, tt_r hm hn, tt_k hm hn, ea]
    have z1 : up I1 m 7 (I m 7 + p) (tr m nt) 0 = nI nt := (up_ne (Or.inl (by omega))).trans (x5.trans (hi.nu.2.1 nt hn))
    have z7 : up (up (up (up (up (up I0 (tr m nt) 2 w) (tr m nt) 3 p) (tr m nt) 4 ag) (tr m nt) 5 1) (tr m nt) 6 (-1)) (tr m nt) 7 0 m 7 = I m 7 := x7
    have z8 : up (up (up (up (up (up (up I0 (tr m nt) 2 w) (tr m nt) 3 p) (tr m nt) 4 ag) (tr m nt) 5 1) (tr m nt) 6 (-1)) (tr m nt) 7 0) m 7 (I m 7 + p) (tr m nt) 0 = nI nt := z1
    rw [show (true && ((1 : Int32) == 0 || (1 : Int32) == 1)) = true from rfl, kg_t, z7, z8]
  · have g := hi.g
    refine ⟨hi.nu.cg (fun c hc => ?_) (fun t ht => ?_) (fun t ht => ?_), ?_, hi.bb.cg (fun c hc j => ?_) (fun c hc j => ?_) (fun k h1 h2 => jnR_ne (by omega) (by omega) (by omega)) h5, fun t ht => ?_, fun t ht => ?_, hi.e.cg ?_ (fun k hk j => ?_) (fun k hk => jnR_ne (by omega) (by omega) (by omega))⟩
    · have : bd m c = m + 7 + 2 * c := rfl
      exact (up_ne (Or.inl (by omega))).trans (x1 _ _ (by omega) (by omega))
    · have : tr m t = m + 17 + t := rfl
      rw [up_ne (Or.inl (by omega))]
      by_cases e : t = nt
      · rw [e]; exact x5
      · exact x1 _ _ (by omega) (by omega)
    · have : tr m t = m + 17 + t := rfl
      rw [up_ne (Or.inl (by omega))]
      by_cases e : t = nt
      · rw [e]; exact Or.inr (Or.inr x6.2.2.2.1)
      · exact Or.inl (x1 _ _ (by omega) (by omega))
    · have e : ∀ j, j ≠ 7 → j ≠ 12 → up I1 m 7 (I m 7 + p) m j = I m j := fun j h1 h2 => (up_ne (Or.inr h1)).trans ((x2 j).trans (up_ne (Or.inr h2)))
      unfold RMg
      obtain ⟨g0, g1, g2, g3, g4, g5, g6, g7, g8, g9, g10, g11, g12⟩ := g
      rw [e 0 (by decide) (by decide), e 1 (by decide) (by decide), e 2 (by decide) (by decide), e 3 (by decide) (by decide), e 4 (by decide) (by decide), e 5 (by decide) (by decide), e 6 (by decide) (by decide), e 8 (by decide) (by decide), e 9 (by decide) (by decide), e 10 (by decide) (by decide), e 11 (by decide) (by decide), jnR_8, jnR_9, jnR_ne (k := 6) (by omega) (by omega) (by omega), jnR_ne (k := 5) (by omega) (by omega) (by omega), jnR_ne (k := 0) (by omega) (by omega) (by omega), jnR_ne (k := 1) (by omega) (by omega) (by omega), jnR_ne (k := 2) (by omega) (by omega) (by omega), jnR_ne (k := 3) (by omega) (by omega) (by omega), jnR_ne (k := 4) (by omega) (by omega) (by omega), jnR_ne (k := 10) (by omega) (by omega) (by omega), jnR_ne (k := 11) (by omega) (by omega) (by omega), jnR_ne (k := 12) (by omega) (by omega) (by omega), jnR_ne (k := 7) (by omega) (by omega) (by omega)]
      exact ⟨g0, g1, g2, g3, g4, g5, g6, by rw [up_eq, g7], g8, g9, g10, g11, (up_ne (Or.inr (by decide))).trans ((x2 12).trans up_eq)⟩
    · have : bd m c = m + 7 + 2 * c := rfl
      exact (up_ne (Or.inl (by omega))).trans (x1 _ _ (by omega) (by omega))
    · have : ow m c = m + 8 + 2 * c := rfl
      exact (up_ne (Or.inl (by omega))).trans (x1 _ _ (by omega) (by omega))
    · have ett : tr m t = m + 17 + t := rfl
      have z : ∀ j, up I1 m 7 (I m 7 + p) (tr m t) j = I1 (tr m t) j := fun j => up_ne (Or.inl (by omega))
      rw [z, z, z, z, z, z]
      by_cases e : t = nt
      · subst e
        rw [j1, j2, j3, j4, j5, j6]
        exact x6
      · have z2 : ∀ j, I1 (tr m t) j = I (tr m t) j := fun j => x1 _ _ (by omega) (by omega)
        rw [z2, z2, z2, z2, z2, z2, jnR_ne (by omega) (by omega) (by omega), jnR_ne (by omega) (by omega) (by omega), jnR_ne (by omega) (by omega) (by omega), jnR_ne (by omega) (by omega) (by omega), jnR_ne (by omega) (by omega) (by omega), jnR_ne (by omega) (by omega) (by omega)]
        exact hi.tt t (by omega)
    · have ett : tr m t = m + 17 + t := rfl
      by_cases e : t = nt
      · subst e
        rw [j0, jn_up (Or.inl (by omega)), x3]
        exact hq
      · rw [jnR_ne (by omega) (by omega) (by omega), jn_up (Or.inl (by omega)), jn_cg (I := I) (a := tr m t) (fun j _ => x1 _ _ (by omega) (by omega))]
        exact hi.n t (by omega)
    · have : ev m = m + 3 := rfl
      exact (up_ne (Or.inl (by omega))).trans (x1 _ _ (by omega) (by omega))
    · have : ek m k = m + 4 + k := rfl
      exact (up_ne (Or.inl (by omega))).trans (x1 _ _ (by omega) (by omega))
  · intro x j hx
    exact (up_ne (Or.inl (by omega))).trans (x1 _ _ (by omega) (by omega))
end
