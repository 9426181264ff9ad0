/-! TreeMap.deleteEntry in memory -/
section
variable {N : Nat} {M : kMem} {tm : Nat} {e L R P : Nat → Nat} {S S' : Nat → Prop} {rt : Nat} {lo hi : Nat → Nat}
def FT' (tm : Nat) (e : Nat → Nat) (S : Nat → Prop) (M M' : kMem) : Prop := FT tm e S M M'
theorem FT.mono (h : MT M tm e S L R P rt) {M1 M2 : kMem} (hs : ∀ q, S' q → S q) (f : FT tm e S' M1 M2) : FT tm e S M1 M2 := by
  obtain ⟨f1, f2, f3, f4, f5, f6⟩ := f
  refine ⟨f1, f2, fun x j hx hj => f3 x j (fun q hq => hx q (hs q hq)) hj, fun q hq j hj => ?_, fun x j hx => f5 x j (fun q hq => hx q (hs q hq)), fun q hq j hj => ?_⟩
  · by_cases z : S' q
    · exact f4 q z j hj
    · exact f3 _ _ (fun p hp w => z (by rw [h.inj hq (hs p hp)] at w; rw [w]; exact hp)) (Or.inl (h.tn hq))
  · by_cases z : S' q
    · exact f6 q z j hj
    · exact f5 _ _ (fun p hp w => z (by rw [h.inj hq (hs p hp)] at w; rw [w]; exact hp))
theorem MT.sub (h : MT M tm e S L R P rt) {S' : Nat → Prop} (hs : ∀ q, S' q → S q) {L' R' P' : Nat → Nat} {rt' : Nat} {M' : kMem} (h1 : M'.1 = M.1) (hi5 : ∀ x j, kI M' x j = kI M x j) (hl : ∀ q, S' q → kR M' (e q) 2 = e (L' q)) (hr : ∀ q, S' q → kR M' (e q) 3 = e (R' q)) (hpp : ∀ q, S' q → kR M' (e q) 4 = e (P' q)) (ht : kR M' tm 3 = e rt') : MT M' tm e S' L' R' P' rt' := by
  refine ⟨h.1, fun q hq => ⟨h.nz (hs q hq), ?_, ?_, hl q hq, hr q hq, hpp q hq⟩, fun q p hq hp => h.2.2.1 q p (hs q hq) (hs p hp), ?_, ht⟩
  · rw [kt_cg h1]; exact h.k (hs q hq)
  · rw [hi5]; exact h.co (hs q hq)
  · rw [kt_cg h1]; exact h.2.2.2.1
theorem m192 (h : MT M tm e S L R P rt) (hp : PT S L R P rt lo hi) {y d : Nat} (sy : S y) (hl : L y = 13) (hr : R y = 13) (sd : S d) (hd : d ≠ y) : ∃ M', F_TM_deleteEntry_192 N M (e y) = some M' ∧ TT M' tm e (fun k => S k ∧ k ≠ y) ∧ FT tm e S M M' := by
  have y1 := hp.rng sy
  have d1 := hp.rng sd
  unfold F_TM_deleteEntry_192
  rw [h.k sy, kg_t, h.p sy]
  rcases hp.par sy with ⟨z1, z2, z3, z4⟩ | ⟨sp, hch⟩
  · exfalso
    by_cases w : d < y
    · exact hp.lful sy sd (by omega) w hl
    · exact hp.rful sy sd (by omega) (by omega) hr
  · have p13 := hp.n13 sp
    have npy : (e (P y) = e y) = False := by
      rw [h.inj sp sy]
      refine eq_false (fun z => ?_)
      have := hp.pout sy
      omega
    rw [if_neg (h.nz sp), kg_t, h.k sp, kg_t, h.l sp, h.r sp]
    have pd := hp.delF sy hl hr sp
    have ky : kt M (e y) 35 = true := h.k sy
    have kp : kt M (e (P y)) 35 = true := h.k sp
    by_cases hc : e y = e (L (P y))
    · have hlp : L (P y) = y := by
        rcases hp.2.1 _ sp with z | z
        · rw [z, h.1] at hc; exact absurd hc (h.nz sy)
        · rw [h.inj sy z.1] at hc; exact hc.symm
      rw [if_pos hc]
      refine ⟨ksR (ksR M (e (P y)) 2 0) (e y) 4 0, ?_, ⟨_, _, _, _, _, _, ?_, pd⟩, h.ft rfl rfl rfl (fun x j hx hj => ?_) (fun q hq j hj => ?_)⟩
      · simp only [kg_t, kl_v, z_tR, ky, kp]
      · refine h.sub (fun q hq => hq.1) rfl (fun _ _ => rfl) (fun q hq => ?_) (fun q hq => ?_) (fun q hq => ?_) ?_
        · simp only [z_RR, h.inj hq.1 sp, h.inj hq.1 sy, Nat.reduceEqDiff, and_false, if_false, and_true, h.l hq.1]
          by_cases z : q = P y
          · rw [if_pos z, if_pos ⟨z, hlp⟩, h.1]
          · rw [if_neg z, if_neg (fun w => z w.1)]
        · simp only [z_RR, Nat.reduceEqDiff, and_false, if_false, h.r hq.1]
          rw [if_neg (fun w => w.2 hlp)]
        · simp only [z_RR, h.inj hq.1 sy, Nat.reduceEqDiff, and_false, if_false, and_true, h.p hq.1]
          rw [if_neg hq.2]
        · simp only [z_RR, Nat.reduceEqDiff, and_false, if_false, h.2.2.2.2]
      · rw [z_RR, if_neg (fun z => hx _ sy z.1), z_RR, if_neg (fun z => hx _ sp z.1)]
      · rw [z_RR, if_neg (by omega), z_RR, if_neg (by omega)]
    · have hrp : R (P y) = y := by
        rcases hch with z | z
        · rw [z] at hc; exact absurd rfl hc
        · exact z
      have hlp : L (P y) ≠ y := fun z => hc (by rw [z])
      rw [if_neg hc, kg_t, kg_t, hrp, if_pos rfl]
      refine ⟨ksR (ksR M (e (P y)) 3 0) (e y) 4 0, ?_, ⟨_, _, _, _, _, _, ?_, pd⟩, h.ft rfl rfl rfl (fun x j hx hj => ?_) (fun q hq j hj => ?_)⟩
      · simp only [kg_t, kl_v, z_tR, ky, kp]
      · refine h.sub (fun q hq => hq.1) rfl (fun _ _ => rfl) (fun q hq => ?_) (fun q hq => ?_) (fun q hq => ?_) ?_
        · simp only [z_RR, Nat.reduceEqDiff, and_false, if_false, h.l hq.1]
          rw [if_neg (fun w => hlp w.2)]
        · simp only [z_RR, h.inj hq.1 sp, h.inj hq.1 sy, Nat.reduceEqDiff, and_false, if_false, and_true, h.r hq.1]
          by_cases z : q = P y
          · rw [if_pos z, if_pos ⟨z, hlp⟩, h.1]
          · rw [if_neg z, if_neg (fun w => z w.1)]
        · simp only [z_RR, h.inj hq.1 sy, Nat.reduceEqDiff, and_false, if_false, and_true, h.p hq.1]
          rw [if_neg hq.2]
        · have tp : (tm = e (P y)) = False := eq_false (h.tn sp).symm
          simp only [z_RR, Nat.reduceEqDiff, and_false, if_false, tp, false_and, h.2.2.2.2]
      · rw [z_RR, if_neg (fun z => hx _ sy z.1), z_RR, if_neg (fun z => hx _ sp z.1)]
      · rw [z_RR, if_neg (by omega), z_RR, if_neg (by omega)]
theorem m75_0 (h : MT M tm e S L R P rt) (hp : PT S L R P rt lo hi) (hN : 100 < N) {y : Nat} (sy : S y) (hl : L y = 13) (hr : R y = 13) : ∃ M', F_TM_deleteEntry_75 N M tm (e y) 0 = some M' ∧ TT M' tm e (fun k => S k ∧ k ≠ y) ∧ FT tm e S M M' := by
  have y1 := hp.rng sy
  unfold F_TM_deleteEntry_75
  rw [if_pos rfl, h.k sy, kg_t, h.p sy]
  rcases hp.par sy with ⟨z1, z2, z3, z4⟩ | ⟨sp, hch⟩
  · rw [z1, h.1, if_pos rfl, h.2.2.2.1, kg_t, kl_v]
    have hno : ∀ k, S k → k = y := by
      intro k hk
      have k1 := hp.rng hk
      by_cases w : k < y
      · exact absurd hl (hp.lful sy hk (by omega) w)
      · by_cases w2 : y < k
        · exact absurd hr (hp.rful sy hk w2 (by omega))
        · omega
    refine ⟨_, rfl, ⟨L, R, P, 13, lo, hi, ?_, ?_⟩, h.ft rfl rfl rfl (fun x j hx hj => ?_) (fun q hq j hj => ?_)⟩
    · refine h.sub (fun q hq => hq.1) rfl (fun _ _ => rfl) (fun q hq => absurd (hno q hq.1) hq.2) (fun q hq => absurd (hno q hq.1) hq.2) (fun q hq => absurd (hno q hq.1) hq.2) ?_
      rw [z_RR, if_pos ⟨rfl, rfl⟩, h.1]
    · exact ⟨fun q hq => absurd (hno q hq.1) hq.2, fun q hq => absurd (hno q hq.1) hq.2, fun q hq => absurd (hno q hq.1) hq.2, fun q hq => absurd (hno q hq.1) hq.2, Or.inl ⟨rfl, fun q hq => hq.2 (hno q hq.1)⟩⟩
    · rw [z_RR, if_neg (fun z => hj.elim (fun w => w z.1) (fun w => w z.2))]
    · rw [z_RR, if_neg (fun z => h.tn hq z.1)]
  · have npy : P y ≠ y := by have := hp.pout sy; omega
    rw [if_neg (h.nz sp), kg_t]
    by_cases hc : kI M (e y) 5 = 1
    · rw [if_pos hc, h.2.2.2.1, kg_t]
      obtain ⟨M1, L1, R1, P1, rt1, lo1, hi1, u1, u2, u3, u4, u5⟩ := fixD (N := N) (tm := tm) (e := e) (S := S) N M y L R P rt lo hi h hp sy (by omega)
      unfold F_TM_fixAfterDeletion
      rw [u1, Option.bind_some]
      obtain ⟨e1, e2⟩ := u5 y y1.1 y1.2.1
      obtain ⟨M2, v1, v2, v3⟩ := m192 (N := N) u2 u3 sy (e1.trans hl) (e2.trans hr) sp npy
      exact ⟨M2, v1, v2, u4.trans v3⟩
    · rw [if_neg hc]
      exact m192 h hp sy hl hr sp npy
theorem m133 (h : MT M tm e S L R P rt) (hN : 100 < N) {Mx : kMem} {y c : Nat} (sy : S y) {L' R' P' lo' hi' : Nat → Nat} {rt' : Nat} (f : FT tm e S M Mx) (hx : MT Mx tm e (fun k => S k ∧ k ≠ y) L' R' P' rt') (hp : PT (fun k => S k ∧ k ≠ y) L' R' P' rt' lo' hi') (sc : S c) (hc : c ≠ y) (ky : kt Mx (e y) 35 = true) : ∃ M', F_TM_deleteEntry_133 N Mx tm (e y) (e c) = some M' ∧ TT M' tm e (fun k => S k ∧ k ≠ y) ∧ FT tm e S M M' := by
  unfold F_TM_deleteEntry_133
  simp only [z_tR, ky, kg_t, kl_v, hx.2.2.2.1]
  have tn := h.tn sy
  have f1 : FT tm e S Mx (ksR (ksR (ksR Mx (e y) 4 0) (e y) 3 0) (e y) 2 0) := by
    refine ⟨rfl, rfl, fun x j hx hj => ?_, fun q hq j hj => ?_, fun _ _ _ => rfl, fun _ _ _ _ => rfl⟩
    · rw [z_RR, if_neg (fun z => hx _ sy z.1), z_RR, if_neg (fun z => hx _ sy z.1), z_RR, if_neg (fun z => hx _ sy z.1)]
    · rw [z_RR, if_neg (by omega), z_RR, if_neg (by omega), z_RR, if_neg (by omega)]
  have m1 : MT (ksR (ksR (ksR Mx (e y) 4 0) (e y) 3 0) (e y) 2 0) tm e (fun k => S k ∧ k ≠ y) L' R' P' rt' := by
    have w : ∀ q, (S q ∧ q ≠ y) → ∀ j, kR (ksR (ksR (ksR Mx (e y) 4 0) (e y) 3 0) (e y) 2 0) (e q) j = kR Mx (e q) j := by
      intro q hq j
      have : (e q = e y) = False := by rw [h.inj hq.1 sy]; exact eq_false hq.2
      simp only [z_RR, this, false_and, if_false]
    refine hx.sub (fun q hq => hq) rfl (fun _ _ => rfl) (fun q hq => (w q hq 2).trans (hx.l hq)) (fun q hq => (w q hq 3).trans (hx.r hq)) (fun q hq => (w q hq 4).trans (hx.p hq)) ?_
    have tf : (tm = e y) = False := eq_false tn.symm
    simp only [z_RR, tf, false_and, if_false, hx.2.2.2.2]
  by_cases h5 : kI (ksR (ksR (ksR Mx (e y) 4 0) (e y) 3 0) (e y) 2 0) (e y) 5 = 1
  · rw [if_pos h5]
    have c1 := hp.rng (q := c) ⟨sc, hc⟩
    obtain ⟨M1, L1, R1, P1, rt1, lo1, hi1, u1, u2, u3, u4, u5⟩ := fixD (N := N) (tm := tm) (e := e) N _ c L' R' P' rt' lo' hi' m1 hp ⟨sc, hc⟩ (by omega)
    unfold F_TM_fixAfterDeletion
    rw [u1]
    exact ⟨M1, rfl, ⟨_, _, _, _, _, _, u2, u3⟩, (f.trans f1).trans (FT.mono h (fun q hq => hq.1) u4)⟩
  · rw [if_neg h5]
    exact ⟨_, rfl, ⟨_, _, _, _, _, _, m1, hp⟩, f.trans f1⟩
theorem m75_1 (h : MT M tm e S L R P rt) (hp : PT S L R P rt lo hi) (hN : 100 < N) {y c : Nat} (sy : S y) (hc13 : c ≠ 13) (hc : L y = c ∧ R y = 13 ∨ L y = 13 ∧ R y = c) : ∃ M', F_TM_deleteEntry_75 N M tm (e y) (e c) = some M' ∧ TT M' tm e (fun k => S k ∧ k ≠ y) ∧ FT tm e S M M' := by
  have y1 := hp.rng sy
  have y13 := hp.n13 sy
  have sc : S c ∧ P c = y := by
    rcases hc with ⟨z, -⟩ | ⟨-, z⟩
    · have w := hp.lt sy (by rw [z]; exact hc13)
      rw [z] at w
      exact ⟨w.1, w.2.1⟩
    · have w := hp.rgt sy (by rw [z]; exact hc13)
      rw [z] at w
      exact ⟨w.1, w.2.1⟩
  have ncy : c ≠ y := by
    rcases hc with ⟨z, -⟩ | ⟨-, z⟩
    · have w := hp.lt sy (by rw [z]; exact hc13)
      have := hp.rng w.1
      rw [z] at w this
      omega
    · have w := hp.rgt sy (by rw [z]; exact hc13)
      have := hp.rng w.1
      rw [z] at w this
      omega
  have npy : P y ≠ y := by have := hp.pout sy; omega
  have npc : P y ≠ c := by
    intro z
    rcases hp.par sy with w | ⟨sp, -⟩
    · exact hc13 (z.symm.trans w.1)
    · have u1 := hp.pout sy
      have u2 := hp.up (q := c) sc.1 (by rw [sc.2]; exact sy) (by
        rw [sc.2]
        rcases hc with ⟨v, -⟩ | ⟨-, v⟩
        · exact Or.inl v
        · exact Or.inr v)
      have u3 := hp.rng sc.1
      rw [sc.2] at u2
      omega
  have dfun : ∃ lo' hi', PT (fun k => S k ∧ k ≠ y) (fun k => if k = P y ∧ L (P y) = y then c else L k) (fun k => if k = P y ∧ L (P y) ≠ y then c else R k) (fs P c (P y)) (if P y = 13 then c else rt) lo' hi' := by
    rcases hc with ⟨z1, z2⟩ | ⟨z1, z2⟩
    · have w := hp.delL sy (by rw [z1]; exact hc13) z2
      rw [z1] at w
      exact ⟨_, _, w⟩
    · have w := hp.delR sy z1 (by rw [z2]; exact hc13)
      rw [z2] at w
      exact ⟨_, _, w⟩
  obtain ⟨lo', hi', pd⟩ := dfun
  have ky := h.k sy
  have kc := h.k sc.1
  have hyc : (e y = e c) = False := by rw [h.inj sy sc.1]; exact eq_false ncy.symm
  have tc : (tm = e c) = False := eq_false (h.tn sc.1).symm
  unfold F_TM_deleteEntry_75
  rw [if_neg (h.nz sc.1), ky, kg_t, kc, kg_t, kl_v]
  simp only [z_tR, ky, kg_t]
  have e4 : kR (ksR M (e c) 4 (kR M (e y) 4)) (e y) 4 = e (P y) := by rw [z_RR, if_neg (fun z => by rw [z.1] at hyc; simp at hyc), h.p sy]
  rw [e4, h.p sy]
  rcases hp.par sy with ⟨z1, z2, z3, z4⟩ | ⟨sp, hch⟩
  · rw [z1, h.1, if_pos rfl, h.2.2.2.1, kg_t, kl_v]
    rw [z1, if_pos rfl] at pd
    refine m133 h hN sy (h.ft rfl rfl rfl (fun x j hx hj => ?_) (fun q hq j hj => ?_)) (L' := fun k => if k = 13 ∧ L 13 = y then c else L k) (R' := fun k => if k = 13 ∧ L 13 ≠ y then c else R k) (P' := fs P c 13) (rt' := c) (h.sub (fun q hq => hq.1) rfl (fun _ _ => rfl) (fun q hq => ?_) (fun q hq => ?_) (fun q hq => ?_) ?_) pd sc.1 ncy ky
    · rw [z_RR, if_neg (fun z => hj.elim (fun w => w z.1) (fun w => w z.2)), z_RR, if_neg (fun z => hx _ sc.1 z.1)]
    · rw [z_RR, if_neg (fun z => h.tn hq z.1), z_RR, if_neg (by omega)]
    · have q13 := hp.n13 hq.1
      have tq := h.tn hq.1
      simp only [z_RR, Nat.reduceEqDiff, and_false, if_false, h.l hq.1]
      rw [if_neg (fun w => q13 w.1)]
    · have q13 := hp.n13 hq.1
      have tq : (e q = tm) = False := eq_false (h.tn hq.1)
      simp only [z_RR, Nat.reduceEqDiff, and_false, if_false, tq, false_and, h.r hq.1]
      rw [if_neg (fun w => q13 w.1)]
    · simp only [z_RR, Nat.reduceEqDiff, and_false, if_false, h.inj hq.1 sc.1, and_true, h.p hq.1]
      unfold fs
      by_cases w : q = c
      · rw [if_pos w, if_pos w, h.1]
      · rw [if_neg w, if_neg w]
    · rw [z_RR, if_pos ⟨rfl, rfl⟩]
  · have p13 := hp.n13 sp
    have kp := h.k sp
    have hpc : (e (P y) = e c) = False := by rw [h.inj sp sc.1]; exact eq_false npc
    have ne24 : ¬ (2 = 4) := by decide
    have e2 : kR (ksR M (e c) 4 (e (P y))) (e (P y)) 2 = e (L (P y)) := by rw [z_RR, if_neg (fun z => by omega), h.l sp]
    rw [if_neg (h.nz sp), kp, kg_t, e2]
    rw [if_neg p13] at pd
    have tp : (tm = e (P y)) = False := eq_false (h.tn sp).symm
    by_cases hA : e y = e (L (P y))
    · have hlp : L (P y) = y := by
        rcases hp.2.1 _ sp with z | z
        · rw [z, h.1] at hA; exact absurd hA (h.nz sy)
        · rw [h.inj sy z.1] at hA; exact hA.symm
      rw [if_pos hA, kg_t, kl_v]
      refine m133 h hN sy (h.ft rfl rfl rfl (fun x j hx hj => ?_) (fun q hq j hj => ?_)) (h.sub (fun q hq => hq.1) rfl (fun _ _ => rfl) (fun q hq => ?_) (fun q hq => ?_) (fun q hq => ?_) ?_) pd sc.1 ncy ky
      · rw [z_RR, if_neg (fun z => hx _ sp z.1), z_RR, if_neg (fun z => hx _ sc.1 z.1)]
      · rw [z_RR, if_neg (by omega), z_RR, if_neg (by omega)]
      · simp only [z_RR, h.inj hq.1 sp, Nat.reduceEqDiff, and_false, if_false, and_true, h.l hq.1]
        by_cases z : q = P y
        · rw [if_pos z, if_pos ⟨z, hlp⟩]
        · rw [if_neg z, if_neg (fun w => z w.1)]
      · simp only [z_RR, Nat.reduceEqDiff, and_false, if_false, h.r hq.1]
        rw [if_neg (fun w => w.2 hlp)]
      · simp only [z_RR, Nat.reduceEqDiff, and_false, if_false, h.inj hq.1 sc.1, and_true, h.p hq.1]
        unfold fs
        by_cases w : q = c
        · rw [if_pos w, if_pos w]
        · rw [if_neg w, if_neg w]
      · simp only [z_RR, Nat.reduceEqDiff, and_false, if_false, h.2.2.2.2]
    · have hlp : L (P y) ≠ y := fun z => hA (by rw [z])
      rw [if_neg hA, kg_t, kl_v]
      refine m133 h hN sy (h.ft rfl rfl rfl (fun x j hx hj => ?_) (fun q hq j hj => ?_)) (h.sub (fun q hq => hq.1) rfl (fun _ _ => rfl) (fun q hq => ?_) (fun q hq => ?_) (fun q hq => ?_) ?_) pd sc.1 ncy ky
      · rw [z_RR, if_neg (fun z => hx _ sp z.1), z_RR, if_neg (fun z => hx _ sc.1 z.1)]
      · rw [z_RR, if_neg (by omega), z_RR, if_neg (by omega)]
      · simp only [z_RR, Nat.reduceEqDiff, and_false, if_false, h.l hq.1]
        rw [if_neg (fun w => hlp w.2)]
      · simp only [z_RR, h.inj hq.1 sp, Nat.reduceEqDiff, and_false, if_false, and_true, h.r hq.1]
        by_cases z : q = P y
        · rw [if_pos z, if_pos ⟨z, hlp⟩]
        · rw [if_neg z, if_neg (fun w => z w.1)]
      · simp only [z_RR, Nat.reduceEqDiff, and_false, if_false, h.inj hq.1 sc.1, and_true, h.p hq.1]
        unfold fs
        by_cases w : q = c
        · rw [if_pos w, if_pos w]
        · rw [if_neg w, if_neg w]
      · simp only [z_RR, Nat.reduceEqDiff, and_false, if_false, tp, false_and, h.2.2.2.2]
theorem m57 (h : MT M tm e S L R P rt) (hp : PT S L R P rt lo hi) (hN : 100 < N) {y : Nat} (sy : S y) (hc : L y = 13 ∨ R y = 13) : ∃ M', F_TM_deleteEntry_57 N M tm (e y) = some M' ∧ TT M' tm e (fun k => S k ∧ k ≠ y) ∧ FT tm e S M M' := by
  unfold F_TM_deleteEntry_57
  rw [h.k sy, kg_t, kg_t, kg_t, h.l sy, h.r sy]
  by_cases hl : L y = 13
  · rw [hl, h.1, if_pos rfl]
    by_cases hr : R y = 13
    · rw [hr, h.1]
      exact m75_0 h hp hN sy hl hr
    · exact m75_1 h hp hN sy hr (Or.inr ⟨hl, rfl⟩)
  · have sl := (hp.lt sy hl).1
    rw [if_neg (h.nz sl)]
    exact m75_1 h hp hN sy hl (Or.inl ⟨rfl, hc.resolve_left hl⟩)
end
