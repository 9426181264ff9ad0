section
variable {N : Nat} {M M' : kMem} {tm a s t n i j : Nat} {e e' L R P : Nat → Nat} {S S' : Nat → Prop} {rt : Nat} {lo hi : Nat → Nat}
/-- what a new entry does -/
def AE (tm : Nat) (e : Nat → Nat) (S : Nat → Prop) (x v : Nat) (M M' : kMem) : Prop :=
  M'.1 = M.1 ++ [(35, 6)] ∧ TT M' tm (fs e x (M.1.length + 1)) (fun q => S q ∨ q = x) ∧ (kI M' (M.1.length + 1) 0 = pz x ∧ kR M' (M.1.length + 1) 0 ≠ 0 ∧ kR M' (M.1.length + 1) 1 = v) ∧
  (∀ a j, a ≤ M.1.length → a ≠ tm → (∀ q, S q → a ≠ e q) → kI M' a j = kI M a j ∧ kR M' a j = kR M a j) ∧ (∀ j, j ≠ 3 → kR M' tm j = kR M tm j) ∧ ∀ q, S q → kI M' (e q) 0 = kI M (e q) 0 ∧ kR M' (e q) 0 = kR M (e q) 0 ∧ kR M' (e q) 1 = kR M (e q) 1
def teM (M : kMem) (x v p : Nat) : kMem := ksR (ksR (ksK (ksI (kNew M 35 6) (M.1.length + 1) 5 1) (M.1.length + 1) 0 (pz x)) (M.1.length + 1) 1 v) (M.1.length + 1) 4 p
theorem te_init {x v p : Nat} : F_TE_init N (kNew M 35 6) (M.1.length + 1) (pz x) v p = some (teM M x v p) := by
  unfold F_TE_init
  have h1 : kt (kNew M 35 6) (M.1.length + 1) 35 = true := kt_newW
  have h2 : (M.1.length + 1 == 0) = false := by simp
  rw [h2]
  show kg (!false) _ = _
  rw [show (!false) = true from rfl, kg_t, h1]
  show kg true _ = _
  rw [kg_t, kl_v]
  rw [show kt (ksI (kNew M 35 6) (M.1.length + 1) 5 1) (M.1.length + 1) 35 = true from h1, kg_t, kl_v]
  rw [show kt (ksK (ksI (kNew M 35 6) (M.1.length + 1) 5 1) (M.1.length + 1) 0 (pz x)) (M.1.length + 1) 35 = true from h1, kg_t, kl_v]
  rw [show kt (ksR (ksK (ksI (kNew M 35 6) (M.1.length + 1) 5 1) (M.1.length + 1) 0 (pz x)) (M.1.length + 1) 1 v) (M.1.length + 1) 35 = true from h1, kg_t, kl_v]
  rfl
theorem te_1 {x v p : Nat} : (teM M x v p).1 = M.1 ++ [(35, 6)] := rfl
theorem te_o {x v p : Nat} (h : a ≠ M.1.length + 1) : kI (teM M x v p) a j = kI M a j ∧ kR (teM M x v p) a j = kR M a j := by
  unfold teM ksK
  rw [z_IR, z_IR, z_IR, z_II, if_neg (fun z => h z.1), z_II, if_neg (fun z => h z.1), z_IN, if_neg h, z_RR, if_neg (fun z => h z.1), z_RR, if_neg (fun z => h z.1), z_RR, if_neg (fun z => h z.1), z_RI, z_RI, z_RN, if_neg h]
  exact ⟨rfl, rfl⟩
theorem te_w {x v p : Nat} : kI (teM M x v p) (M.1.length + 1) 0 = pz x ∧ kI (teM M x v p) (M.1.length + 1) 5 = 1 ∧ kR (teM M x v p) (M.1.length + 1) 0 = 1 ∧ kR (teM M x v p) (M.1.length + 1) 1 = v ∧ kR (teM M x v p) (M.1.length + 1) 2 = 0 ∧ kR (teM M x v p) (M.1.length + 1) 3 = 0 ∧ kR (teM M x v p) (M.1.length + 1) 4 = p := by
  unfold teM ksK
  refine ⟨?_, ?_, ?_, ?_, ?_, ?_, ?_⟩
  · rw [z_IR, z_IR, z_IR, z_II, if_pos ⟨rfl, rfl⟩]
  · rw [z_IR, z_IR, z_IR, z_II, if_neg (by omega), z_II, if_pos ⟨rfl, rfl⟩]
  · rw [z_RR, if_neg (by omega), z_RR, if_neg (by omega), z_RR, if_pos ⟨rfl, rfl⟩]
  · rw [z_RR, if_neg (by omega), z_RR, if_pos ⟨rfl, rfl⟩]
  · rw [z_RR, if_neg (by omega), z_RR, if_neg (by omega), z_RR, if_neg (by omega), z_RI, z_RI, z_RN, if_pos rfl]
  · rw [z_RR, if_neg (by omega), z_RR, if_neg (by omega), z_RR, if_neg (by omega), z_RI, z_RI, z_RN, if_pos rfl]
  · rw [z_RR, if_pos ⟨rfl, rfl⟩]
theorem m_add32 (h : MT M tm e S L R P rt) (hp : PT S L R P rt lo hi) (hN : 100 < N) {x v p c : Nat} (hx : ¬ S x) (x13 : x < 13) (sp : S p) (hc : c = 2 ∨ c = 3) {L' R' P' lo' hi' : Nat → Nat} (p2 : PT (fun q => S q ∨ q = x) L' R' P' rt lo' hi')
    (eL : ∀ q, S q → L' q = if q = p ∧ c = 2 then x else L q) (eR : ∀ q, S q → R' q = if q = p ∧ c = 3 then x else R q) (eP : ∀ q, S q → P' q = P q) (xL : L' x = 13 ∧ R' x = 13 ∧ P' x = p) :
    ∃ M', F_TM_addEntry_32 N (ksR (teM M x v (e p)) (e p) c (M.1.length + 1)) tm (M.1.length + 1) = some M' ∧ AE tm e S x v M M' := by
  generalize hw : M.1.length + 1 = w
  have hT : (teM M x v (e p)).1 = M.1 ++ [(35, 6)] := rfl
  have hew : ∀ q, S q → e q ≠ w := fun q hq => by have := (kt_le (h.k hq)).2; omega
  have htw : tm ≠ w := by have := (kt_le h.2.2.2.1).2; omega
  have kw : kt (ksR (teM M x v (e p)) (e p) c w) w 35 = true := by rw [← hw]; exact kt_newW
  generalize hM1 : ksI (ksR (teM M x v (e p)) (e p) c w) w 5 0 = M1
  have c1 : M1.1 = M.1 ++ [(35, 6)] := by rw [← hM1]; rfl
  have o1 : ∀ a j, a ≠ w → kI M1 a j = kI M a j := by
    intro a j ha
    rw [← hM1, z_II, if_neg (fun z => ha z.1), z_IR]
    exact (te_o (by rw [hw]; exact ha)).1
  have r1 : ∀ a j, a ≠ w → kR M1 a j = if a = e p ∧ j = c then w else kR M a j := by
    intro a j ha
    rw [← hM1, z_RI, z_RR]
    rw [(te_o (a := a) (j := j) (by rw [hw]; exact ha)).2]
  have w1 := te_w (M := M) (x := x) (v := v) (p := e p)
  rw [hw] at w1
  have wp : ¬ w = e p := fun z => hew p sp z.symm
  have r1w : ∀ j, kR M1 w j = kR (teM M x v (e p)) w j := by
    intro j
    rw [← hM1, z_RI, z_RR, if_neg (fun z => wp z.1)]
  have hx13 : (13 : Nat) ≠ x := by omega
  have f0 : ∀ q, q ≠ x → fs e x w q = e q := fun q hq => if_neg hq
  have fx : fs e x w x = w := if_pos rfl
  have sx : ∀ q, S q → q ≠ x := fun q hq z => hx (z ▸ hq)
  have m1 : MT M1 tm (fs e x w) (fun q => S q ∨ q = x) L' R' P' rt := by
    have lk : ∀ z, (z = 13 ∨ S z) → fs e x w z = e z := fun z hz => f0 z (hz.elim (fun y => by omega) (sx z))
    refine ⟨(f0 13 hx13).trans h.1, fun q hq => ?_, fun q q' hq hq' z => ?_, kt_pre c1 h.2.2.2.1, ?_⟩
    · rcases hq with hq | hq
      · have nw := hew q hq
        rw [f0 q (sx q hq)]
        refine ⟨h.nz hq, kt_pre c1 (h.k hq), ?_, ?_, ?_, ?_⟩
        · rw [o1 _ _ nw]; exact h.co hq
        · rw [r1 _ _ nw, eL q hq, h.l hq]
          by_cases z : q = p ∧ c = 2
          · rw [if_pos ⟨by rw [z.1], z.2.symm⟩, if_pos z, fx]
          · rw [if_neg (fun y => z ⟨h.2.2.1 _ _ hq sp y.1, y.2.symm⟩), if_neg z, lk _ ((hp.2.1 q hq).imp id (fun y => y.1))]
        · rw [r1 _ _ nw, eR q hq, h.r hq]
          by_cases z : q = p ∧ c = 3
          · rw [if_pos ⟨by rw [z.1], z.2.symm⟩, if_pos z, fx]
          · rw [if_neg (fun y => z ⟨h.2.2.1 _ _ hq sp y.1, y.2.symm⟩), if_neg z, lk _ ((hp.2.2.1 q hq).imp id (fun y => y.1))]
        · rw [r1 _ _ nw, eP q hq, h.p hq, if_neg (by omega), lk _ ((hp.2.2.2.1 q hq).imp (fun y => y.1) (fun y => y.1))]
      · subst hq
        rw [fx, xL.1, xL.2.1, xL.2.2, f0 13 hx13, h.1, f0 p (sx p sp), r1w, r1w, r1w]
        refine ⟨by omega, ?_, ?_, w1.2.2.2.2.1, w1.2.2.2.2.2.1, w1.2.2.2.2.2.2⟩
        · rw [← hM1]; exact kw
        · rw [← hM1, z_II, if_pos ⟨rfl, rfl⟩]; exact Or.inl rfl
    · rcases hq with hq | hq <;> rcases hq' with hq' | hq'
      · rw [f0 q (sx q hq), f0 q' (sx q' hq')] at z
        exact h.2.2.1 q q' hq hq' z
      · subst hq'
        rw [f0 q (sx q hq), fx] at z
        exact absurd z (hew q hq)
      · subst hq
        rw [f0 q' (sx q' hq'), fx] at z
        exact absurd z.symm (hew q' hq')
      · rw [hq, hq']
    · rw [r1 _ _ htw, if_neg (fun z => h.tn sp z.1.symm), h.2.2.2.2, lk _ (hp.2.2.2.2.imp (fun y => y.1) (fun y => y.1))]
  unfold F_TM_addEntry_32 F_TM_fixAfterInsertion
  have kt0 : kt (ksR (teM M x v (e p)) (e p) c w) tm 34 = true := kt_pre hT h.2.2.2.1
  rw [kt0, kg_t, kw]
  have q2 := p2.rng (q := x) (Or.inr rfl)
  obtain ⟨M2, u1, u2, u3⟩ := fixI (N := N) (tm := tm) (e := fs e x w) (S := fun q => S q ∨ q = x) N M1 x L' R' P' rt lo' hi' m1 p2 (Or.inr rfl) (by omega)
  rw [fx] at u1
  have c2 : M2.1 = M1.1 := u3.1
  have kt2 : kt M2 tm 34 = true := by rw [kt_cg c2]; exact kt_pre c1 h.2.2.2.1
  show ∃ M', ((kg true <| kl (ksI (ksR (teM M x v (e p)) (e p) c w) w 5 0) fun M1 => F_TM_fixAfterInsertion_5 N N M1 tm w).bind _) = some M' ∧ _
  rw [kg_t, kl_v, hM1, u1, Option.bind_some, kt2, kg_t, kg_t, kl_v, show kt (ksI M2 tm 4 (kI M2 tm 4 + 1)) tm 34 = true from kt2, kg_t, kg_t, kl_v]
  have e2 : ∀ q, S q → ∀ j, j ≤ 1 → kR M2 (e q) j = kR M (e q) j := by
    intro q hq j hj
    have y := u3.2.2.2.1 q (Or.inl hq) j hj
    rw [f0 q (sx q hq)] at y
    rw [y, r1 _ _ (hew q hq), if_neg (by rcases hc with z | z <;> omega)]
  have i2 : ∀ q, S q → kI M2 (e q) 0 = kI M (e q) 0 := by
    intro q hq
    have y := u3.2.2.2.2.2 q (Or.inl hq) 0 (by decide)
    rw [f0 q (sx q hq)] at y
    rw [y, o1 _ _ (hew q hq)]
  have nent : ∀ a, a ≤ M.1.length → (∀ q, S q → a ≠ e q) → ∀ q, (S q ∨ q = x) → a ≠ fs e x w q := by
    intro a ha h2 q hq
    rcases hq with hq | hq
    · rw [f0 q (sx q hq)]; exact h2 q hq
    · rw [hq, fx]; omega
  have ntm : ∀ q, (S q ∨ q = x) → fs e x w q ≠ tm := by
    intro q hq
    rcases hq with hq | hq
    · rw [f0 q (sx q hq)]; exact h.tn hq
    · rw [hq, fx]; exact htw.symm
  refine ⟨_, rfl, c2.trans c1, ?_, ⟨?_, ?_, ?_⟩, fun a j ha hat hq => ⟨?_, ?_⟩, fun j hj => ?_, fun q hq => ⟨?_, ?_, ?_⟩⟩
  · rw [hw]
    exact u2.mem (fun a s z => z) (fun q hq => by rw [z_II, if_neg (fun z => ntm q hq z.1), z_II, if_neg (fun z => ntm q hq z.1)]) (fun q hq j _ _ => rfl) rfl
  · rw [hw, z_II, if_neg (fun z => htw z.1.symm), z_II, if_neg (fun z => htw z.1.symm)]
    have y := u3.2.2.2.2.2 x (Or.inr rfl) 0 (by decide)
    rw [fx] at y
    rw [y, ← hM1, z_II, if_neg (by omega), z_IR]
    exact w1.1
  · rw [hw, z_RI, z_RI]
    have y := u3.2.2.2.1 x (Or.inr rfl) 0 (by decide)
    rw [fx] at y
    rw [y, r1w, w1.2.2.1]
    decide
  · rw [hw, z_RI, z_RI]
    have y := u3.2.2.2.1 x (Or.inr rfl) 1 (by decide)
    rw [fx] at y
    rw [y, r1w]
    exact w1.2.2.2.1
  · rw [z_II, if_neg (fun z => hat z.1), z_II, if_neg (fun z => hat z.1), u3.2.2.2.2.1 a j (nent a ha hq), o1 _ _ (by omega)]
  · rw [z_RI, z_RI, u3.2.2.1 a j (nent a ha hq) (Or.inl hat), r1 _ _ (by omega), if_neg (fun z => hq p sp z.1)]
  · rw [z_RI, z_RI, u3.2.2.1 tm j (nent tm (kt_le h.2.2.2.1).2 (fun q hq => (h.tn hq).symm)) (Or.inr hj), r1 _ _ htw, if_neg (fun z => h.tn sp z.1.symm)]
  · rw [z_II, if_neg (fun z => h.tn hq z.1), z_II, if_neg (fun z => h.tn hq z.1)]
    exact i2 q hq
  · exact e2 q hq 0 (by omega)
  · exact e2 q hq 1 (by omega)
theorem m_addL (h : MT M tm e S L R P rt) (hp : PT S L R P rt lo hi) (hN : 100 < N) {x v p : Nat} (hx : ¬ S x) (x13 : x < 13) (sp : S p) (hl : L p = 13) (h1 : lo p ≤ x) (h2 : x < p) : ∃ M', F_TM_addEntry N M tm (pz x) v (e p) 1 = some M' ∧ AE tm e S x v M M' := by
  have p1 := hp.rng sp
  have w0 : (M.1.length + 1 == 0) = false := by simp
  unfold F_TM_addEntry
  rw [kl_v, kl_v, w0]
  rw [show (!false) = true from rfl, kg_t, te_init, Option.bind_some, if_neg (by decide)]
  rw [show kt (teM M x v (e p)) (e p) 35 = true from kt_pre te_1 (h.k sp), kg_t, kl_v]
  have sx : ∀ q, S q → q ≠ x := fun q hq z => hx (z ▸ hq)
  refine m_add32 h hp hN hx x13 sp (Or.inl rfl) (hp.addL hx sp hl h1 h2) (fun q hq => ?_) (fun q hq => ?_) (fun q hq => ?_) ⟨?_, ?_, ?_⟩
  · unfold fs
    rw [if_neg (sx q hq)]
    by_cases z : q = p
    · rw [if_pos z, if_pos ⟨z, rfl⟩]
    · rw [if_neg z, if_neg (fun y => z y.1)]
  · unfold fs
    rw [if_neg (sx q hq), if_neg (by omega)]
  · unfold fs
    rw [if_neg (sx q hq)]
  · exact if_pos rfl
  · exact if_pos rfl
  · exact if_pos rfl
theorem m_addR (h : MT M tm e S L R P rt) (hp : PT S L R P rt lo hi) (hN : 100 < N) {x v p : Nat} (hx : ¬ S x) (x13 : x < 13) (sp : S p) (hl : R p = 13) (h1 : p < x) (h2 : x < hi p) : ∃ M', F_TM_addEntry N M tm (pz x) v (e p) 0 = some M' ∧ AE tm e S x v M M' := by
  have p1 := hp.rng sp
  have w0 : (M.1.length + 1 == 0) = false := by simp
  unfold F_TM_addEntry
  rw [kl_v, kl_v, w0]
  rw [show (!false) = true from rfl, kg_t, te_init, Option.bind_some, if_pos rfl]
  rw [show kt (teM M x v (e p)) (e p) 35 = true from kt_pre te_1 (h.k sp), kg_t, kl_v]
  have sx : ∀ q, S q → q ≠ x := fun q hq z => hx (z ▸ hq)
  refine m_add32 h hp hN hx x13 sp (Or.inr rfl) (hp.addR hx sp hl h1 h2) (fun q hq => ?_) (fun q hq => ?_) (fun q hq => ?_) ⟨?_, ?_, ?_⟩
  · unfold fs
    rw [if_neg (sx q hq), if_neg (by omega)]
  · unfold fs
    rw [if_neg (sx q hq)]
    by_cases z : q = p
    · rw [if_pos z, if_pos ⟨z, rfl⟩]
    · rw [if_neg z, if_neg (fun y => z y.1)]
  · unfold fs
    rw [if_neg (sx q hq)]
  · exact if_pos rfl
  · exact if_pos rfl
  · exact if_pos rfl
theorem m_put123 (h : MT M tm e S L R P rt) (hp : PT S L R P rt lo hi) (hk : KY M e S id) (hN : 100 < N) {x v : Nat} (hx : ¬ S x) (x13 : x < 13) : ∀ (n q : Nat), S q → lo q ≤ x → x < hi q → hi q - lo q < n → ∃ M', F_TM_put__123 N n M tm (pz x) v 1 (e q) (pz x) = some (0, M') ∧ AE tm e S x v M M'
  | 0, _, _, _, _, h1 => absurd h1 (Nat.not_lt_zero _)
  | n + 1, q, hq, g1, g2, hn => by
    have q1 := hp.rng hq
    have k1 : kI M (e q) 0 = pz q ∧ kR M (e q) 0 ≠ 0 := hk q hq
    have ce := cmp_eq (N := N) (M := M) x13 (show q < 13 by omega)
    have hz : (kR M (e q) 0 == 0) = false := by simpa using k1.2
    have nqx : q ≠ x := fun z => hx (z ▸ hq)
    unfold F_TM_put__123
    simp only [h.k hq, hz, k1.1, pz_k x13, ce, kg_t, kl_v, Option.bind_some, h.l hq, h.r hq, Bool.not_false, Bool.and_self]
    unfold F_TM_put__196
    by_cases c1 : x < q
    · simp only [c1, if_true]
      rw [if_pos (by decide)]
      by_cases l : L q = 13
      · rw [l, h.1, if_pos rfl, if_pos (by decide), h.2.2.2.1, kg_t]
        obtain ⟨M', u1, u2⟩ := m_addL (N := N) (v := v) h hp hN hx x13 hq l g1 c1
        rw [u1]
        exact ⟨M', rfl, u2⟩
      · obtain ⟨s1, s2, s3, s4⟩ := hp.lt hq l
        rw [if_neg (h.nz s1)]
        exact m_put123 h hp hk hN hx x13 n _ s1 (by omega) (by omega) (by omega)
    · simp only [c1, show ¬ x = q from fun z => nqx z.symm, if_false]
      rw [if_neg (by decide), if_pos (by decide)]
      by_cases l : R q = 13
      · rw [l, h.1, if_pos rfl, if_neg (by decide), h.2.2.2.1, kg_t]
        obtain ⟨M', u1, u2⟩ := m_addR (N := N) (v := v) h hp hN hx x13 hq l (by omega) g2
        rw [u1]
        exact ⟨M', rfl, u2⟩
      · obtain ⟨s1, s2, s3, s4⟩ := hp.rgt hq l
        rw [if_neg (h.nz s1)]
        exact m_put123 h hp hk hN hx x13 n _ s1 (by omega) (by omega) (by omega)
theorem m_put0 (h : MT M tm e S L R P rt) (hno : ∀ q, ¬ S q) (hr : rt = 13) (hc : kR M tm 2 = 0) {x v : Nat} (x13 : x < 13) : ∃ M', F_TM_addEntryToEmptyMap N M tm (pz x) v = some M' ∧ AE tm e S x v M M' := by
  have w0 : (M.1.length + 1 == 0) = false := by simp
  unfold F_TM_addEntryToEmptyMap F_TM_compare
  have ce := cmp_eq (N := N) (M := M) x13 x13
  simp only [h.2.2.2.1, kg_t, hc, if_true, pz_k x13, ce, Option.bind_some, kl_v, w0, Bool.not_false]
  have hT : (teM M x v 0).1 = M.1 ++ [(35, 6)] := rfl
  have kt0 : kt (teM M x v 0) tm 34 = true := kt_pre hT h.2.2.2.1
  rw [te_init, Option.bind_some, kt0]
  simp only [kg_t, z_tR, z_tI, kt0]
  have tl := (kt_le h.2.2.2.1).2
  have f0 : ∀ q, q ≠ x → fs e x (M.1.length + 1) q = e q := fun q hq => if_neg hq
  have fx : fs e x (M.1.length + 1) x = M.1.length + 1 := if_pos rfl
  have w1 := te_w (M := M) (x := x) (v := v) (p := 0)
  have ntw : M.1.length + 1 ≠ tm := by omega
  refine ⟨_, rfl, rfl, ⟨fun _ => 13, fun _ => 13, fun _ => 13, x, fun _ => 0, fun _ => 13, ⟨(f0 13 (by omega)).trans h.1, fun q hq => ?_, fun q q' hq hq' _ => ?_, kt0, ?_⟩, ?_⟩, ⟨?_, ?_, ?_⟩, fun a j ha hat _ => ⟨?_, ?_⟩, fun j hj => ?_, fun q hq => absurd hq (hno q)⟩
  · have hq2 : q = x := hq.resolve_left (hno q)
    subst hq2
    show fs e q (M.1.length + 1) q ≠ 0 ∧ kt _ (fs e q (M.1.length + 1) q) 35 = true ∧ (kI _ (fs e q (M.1.length + 1) q) 5 = 0 ∨ kI _ (fs e q (M.1.length + 1) q) 5 = 1) ∧ kR _ (fs e q (M.1.length + 1) q) 2 = fs e q (M.1.length + 1) 13 ∧ kR _ (fs e q (M.1.length + 1) q) 3 = fs e q (M.1.length + 1) 13 ∧ kR _ (fs e q (M.1.length + 1) q) 4 = fs e q (M.1.length + 1) 13
    rw [fx, f0 13 (by omega), h.1]
    refine ⟨by omega, kt_newW, ?_, ?_, ?_, ?_⟩
    · rw [z_II, if_neg (fun z => ntw z.1), z_II, if_neg (fun z => ntw z.1), z_IR, w1.2.1]; exact Or.inr rfl
    · rw [z_RI, z_RI, z_RR, if_neg (fun z => ntw z.1)]; exact w1.2.2.2.2.1
    · rw [z_RI, z_RI, z_RR, if_neg (fun z => ntw z.1)]; exact w1.2.2.2.2.2.1
    · rw [z_RI, z_RI, z_RR, if_neg (fun z => ntw z.1)]; exact w1.2.2.2.2.2.2
  · rw [hq.resolve_left (hno q), hq'.resolve_left (hno q')]
  · rw [z_RI, z_RI, z_RR, if_pos ⟨rfl, rfl⟩, fx]
  · have e1 : (fun q => S q ∨ q = x) = fun q => q = x := funext fun q => propext ⟨fun z => z.resolve_left (hno q), Or.inr⟩
    rw [e1]
    exact PT.one x13
  · rw [z_II, if_neg (fun z => ntw z.1), z_II, if_neg (fun z => ntw z.1), z_IR]; exact w1.1
  · rw [z_RI, z_RI, z_RR, if_neg (fun z => ntw z.1), w1.2.2.1]; decide
  · rw [z_RI, z_RI, z_RR, if_neg (fun z => ntw z.1)]; exact w1.2.2.2.1
  · rw [z_II, if_neg (fun z => hat z.1), z_II, if_neg (fun z => hat z.1), z_IR]; exact (te_o (by omega)).1
  · rw [z_RI, z_RI, z_RR, if_neg (fun z => hat z.1)]; exact (te_o (by omega)).2
  · rw [z_RI, z_RI, z_RR, if_neg (fun z => hj z.2)]; exact (te_o ntw.symm).2
theorem tm_put (h : TM M tm e) (hN : 100 < N) {x v : Nat} (x13 : x < 13) (ex : e x = 0) : ∃ M', F_TM_put N M tm (pz x) v = some (0, M') ∧ TM M' tm (fs e x (M.1.length + 1)) ∧ M'.1 = M.1 ++ [(35, 6)] ∧ FM tm e M M' ∧ kR M' (M.1.length + 1) 1 = v ∧ ∀ q, e q ≠ 0 → kR M' (e q) 1 = kR M (e q) 1 := by
  have h0 := h
  obtain ⟨h1, h2, h3, L, R, P, rt, lo, hi, hm, hp⟩ := h
  have hx : ¬ NZ e x := fun z => z ex
  have hA : ∃ M', F_TM_put N M tm (pz x) v = some (0, M') ∧ AE tm e (NZ e) x v M M' := by
    unfold F_TM_put F_TM_put_ F_OJ_rnn
    simp only [hm.2.2.2.1, kg_t, kl_v, hm.2.2.2.2, h1, if_true, Option.bind_some, pz_k x13]
    rcases hp.2.2.2.2 with ⟨z, z2⟩ | ⟨z, z2⟩
    · rw [z, hm.1, if_pos rfl]
      obtain ⟨M', u1, u2⟩ := m_put0 (N := N) (v := v) hm z2 z h1 x13
      rw [u1]
      exact ⟨M', rfl, u2⟩
    · obtain ⟨r1, r2, r3, r4⟩ := hp.root z
      rw [if_neg (hm.nz z)]
      obtain ⟨M', u1, u2⟩ := m_put123 (N := N) (v := v) hm hp h3 hN hx x13 N rt z (by omega) (by omega) (by omega)
      rw [u1]
      exact ⟨M', rfl, u2⟩
  obtain ⟨M', u1, a1, a2, a3, a4, a5, a6⟩ := hA
  have hk : ∀ a s, kt M a s = true → kt M' a s = true := fun a s z => kt_pre a1 z
  have f0 : ∀ q, q ≠ x → fs e x (M.1.length + 1) q = e q := fun q hq => if_neg hq
  have fx : fs e x (M.1.length + 1) x = M.1.length + 1 := if_pos rfl
  refine ⟨M', u1, ⟨(a5 2 (by decide)).trans h1, h2.fm hk (a5 1 (by decide)) (fun a z => ?_), fun q hq => ?_, a2.cg (fun q => ⟨fun hq => ?_, fun hq => ?_⟩) (fun _ _ => rfl) ((f0 13 (by omega)).trans hm.1)⟩, a1, ⟨fun a j ha hat hq => a4 a j ha hat hq, a5⟩, a3.2.2, fun q hq => (a6 q hq).2.2⟩
  · exact (a4 a 0 (kt_le z).2 (kt_ne z h0.k (by decide)) (fun q hq => kt_ne z (h0.ke hq) (by decide))).2
  · by_cases w : q = x
    · subst w
      rw [fx]
      exact ⟨a3.1, a3.2.1⟩
    · have hq' : fs e x (M.1.length + 1) q ≠ 0 := hq
      rw [f0 q w] at hq' ⊢
      obtain ⟨b1, b2, -⟩ := a6 q hq'
      rw [b1, b2]
      exact h3 q hq'
  · by_cases w : q = x
    · exact Or.inr w
    · have hq' : fs e x (M.1.length + 1) q ≠ 0 := hq
      rw [f0 q w] at hq'
      exact Or.inl hq'
  · show fs e x (M.1.length + 1) q ≠ 0
    rcases hq with w | w
    · have : q ≠ x := fun z => by rw [z] at w; exact w ex
      rw [f0 q this]; exact w
    · rw [w, fx]; omega
end
