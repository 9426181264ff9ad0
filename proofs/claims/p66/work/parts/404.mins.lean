/-! insertion: the tree is mended -/
section
variable {N : Nat} {M : kMem} {tm : Nat} {e L R P : Nat → Nat} {S : Nat → Prop} {rt : Nat} {lo hi : Nat → Nat}
theorem MT.st (h : MT M tm e S L R P rt) {M' : kMem} {L' R' P' : Nat → Nat} {rt' : Nat} (_ : MT M' tm e S L' R' P' rt') : True := trivial
def TT (M : kMem) (tm : Nat) (e : Nat → Nat) (S : Nat → Prop) : Prop := ∃ L R P rt lo hi, MT M tm e S L R P rt ∧ PT S L R P rt lo hi
theorem PT.up (h : PT S L R P rt lo hi) {q : Nat} (hq : S q) (sp : S (P q)) (hch : L (P q) = q ∨ R (P q) = q) : hi q - lo q < hi (P q) - lo (P q) ∧ lo (P q) ≤ lo q ∧ hi q ≤ hi (P q) := by
  have q1 := h.rng hq
  have p1 := h.rng sp
  have n13 := h.n13 hq
  rcases hch with z | z
  · have w := h.lt sp (by rw [z]; exact n13)
    rw [z] at w
    omega
  · have w := h.rgt sp (by rw [z]; exact n13)
    rw [z] at w
    omega
theorem ta_par (h : MT M tm e S L R P rt) {q : Nat} (hq : S q) : F_TM_parentOf N M (e q) = some (e (P q)) := by
  unfold F_TM_parentOf
  rw [if_neg (h.nz hq), h.k hq, h.p hq]
  rfl
theorem ta_par0 : F_TM_parentOf N M 0 = some 0 := if_pos rfl
theorem ta_lef (h : MT M tm e S L R P rt) {q : Nat} (hq : S q) : F_TM_leftOf N M (e q) = some (e (L q)) := by
  unfold F_TM_leftOf
  rw [if_neg (h.nz hq), h.k hq, h.l hq]
  rfl
theorem ta_lef0 : F_TM_leftOf N M 0 = some 0 := if_pos rfl
theorem ta_rig (h : MT M tm e S L R P rt) {q : Nat} (hq : S q) : F_TM_rightOf N M (e q) = some (e (R q)) := by
  unfold F_TM_rightOf
  rw [if_neg (h.nz hq), h.k hq, h.r hq]
  rfl
theorem ta_rig0 : F_TM_rightOf N M 0 = some 0 := if_pos rfl
theorem ta_col (h : MT M tm e S L R P rt) {q : Nat} (hq : S q) : F_TM_colorOf N M (e q) = some (kI M (e q) 5) := by
  unfold F_TM_colorOf
  rw [if_neg (h.nz hq), h.k hq]
  rcases h.co hq with z | z <;> rw [z] <;> rfl
theorem ta_col0 : F_TM_colorOf N M 0 = some 1 := if_pos rfl
theorem ta_set (h : MT M tm e S L R P rt) {q : Nat} (hq : S q) {w : Int32} (hw : w = 0 ∨ w = 1) : F_TM_setColor N M (e q) w = some (ksI M (e q) 5 w) := by
  unfold F_TM_setColor
  rw [if_neg (h.nz hq), h.k hq]
  rcases hw with rfl | rfl <;> rfl
theorem ta_set0 {w : Int32} : F_TM_setColor N M 0 w = some M := if_pos rfl
theorem ta_rl0 : F_TM_rotateLeft N M tm 0 = some M := if_pos rfl
theorem ta_rr0 : F_TM_rotateRight N M tm 0 = some M := if_pos rfl
theorem fi_end (h : MT M tm e S L R P rt) (hp : PT S L R P rt lo hi) {x y n : Nat} (hx : S x) (hy : P x = y) (sy : S y) (hc : kI M (e y) 5 = 1) (hn : 1 ≤ n) : ∃ M', F_TM_fixAfterInsertion_5 N n M tm (e x) = some M' ∧ MT M' tm e S L R P rt ∧ FT tm e S M M' := by
  obtain ⟨k, rfl⟩ : ∃ k, n = k + 1 := ⟨n - 1, by omega⟩
  obtain ⟨r1, -⟩ := hp.root hx
  refine ⟨ksI M (e rt) 5 1, ?_, h.col r1 (Or.inr rfl)⟩
  have h1 : ¬ (1 : Int32) = 0 := by decide
  unfold F_TM_fixAfterInsertion_5
  simp only [if_neg (h.nz hx), h.2.2.2.1, h.2.2.2.2, h.k hx, h.k r1, h.p hx, hy, h.k sy, hc, if_neg h1, kg_t, kl_v]
  split <;> rfl
theorem t118 (h : MT M tm e S L R P rt) (hp : PT S L R P rt lo hi) {x y : Nat} (hx : S x) (hy : P x = y) (sy : S y) (hl : L y = x) (hg : P y = 13 ∨ P y ≠ 13 ∧ L (P y) = y) (k : kMem → Nat → Nat → Option kMem) : ∃ M' L' R' P' rt' lo' hi', F_TM_fixAfterInsertion_118 N k M tm (e x) = k M' tm (e x) ∧ MT M' tm e S L' R' P' rt' ∧ PT S L' R' P' rt' lo' hi' ∧ FT tm e S M M' ∧ P' x = y ∧ kI M' (e y) 5 = 1 := by
  have x1 := hp.rng hx
  have y1 := hp.rng sy
  have xy := hp.lt sy (by rw [hl]; exact hp.n13 hx)
  rw [hl] at xy
  have hxy : x ≠ y := by omega
  obtain ⟨m1, f1⟩ := h.col sy (w := 1) (Or.inr rfl)
  unfold F_TM_fixAfterInsertion_118
  rw [ta_par h hx, Option.bind_some, hy, ta_set h sy (Or.inr rfl), Option.bind_some, ta_par m1 hx, Option.bind_some, hy, ta_par m1 sy, Option.bind_some]
  rcases hg with hg | ⟨hg0, hg⟩
  · rw [hg, h.1, ta_set0, Option.bind_some, ta_par m1 hx, Option.bind_some, hy, ta_par m1 sy, Option.bind_some, hg, h.1, @ta_rr0 N _ tm, m1.2.2.2.1, kg_t, Option.bind_some]
    exact ⟨_, L, R, P, rt, lo, hi, rfl, m1, hp, f1, hy, by rw [z_II, if_pos ⟨rfl, rfl⟩]⟩
  · have sg : S (P y) := (hp.par sy).elim (fun z => absurd z.1 hg0) (fun z => z.1)
    have g1 := hp.rng sg
    have yg := hp.lt sg (by rw [hg]; exact hp.n13 sy)
    rw [hg] at yg
    obtain ⟨m2, f2⟩ := m1.col sg (w := 0) (Or.inl rfl)
    rw [ta_set m1 sg (Or.inl rfl), Option.bind_some, ta_par m2 hx, Option.bind_some, hy, ta_par m2 sy, Option.bind_some, m2.2.2.2.1, kg_t]
    obtain ⟨M3, r1, r2, r3, r4⟩ := mrotr (N := N) m2 hp sg hg (hp.n13 sy)
    rw [r1, Option.bind_some]
    refine ⟨M3, _, _, _, _, _, _, rfl, r2, hp.rotr sg hg (hp.n13 sy), (f1.trans f2).trans r3, ?_, ?_⟩
    · have ry := hp.2.2.1 y sy
      have n13 := hp.n13 hx
      have hxr : x ≠ R y := by
        rcases ry with z | ⟨z, -, z2, z3⟩
        · rw [z]; exact n13
        · have := hp.rng z
          omega
      unfold rlP
      rw [if_neg (by omega), if_neg (by omega), if_neg hxr, hy]
    · unfold kI
      rw [r4]
      show kI (ksI (ksI M (e y) 5 1) (e (P y)) 5 0) (e y) 5 = 1
      rw [z_II, if_neg (fun z => by rw [h.inj sy sg] at z; omega), z_II, if_pos ⟨rfl, rfl⟩]
theorem t225 (h : MT M tm e S L R P rt) (hp : PT S L R P rt lo hi) {x y : Nat} (hx : S x) (hy : P x = y) (sy : S y) (hl : R y = x) (hg : P y = 13 ∨ P y ≠ 13 ∧ R (P y) = y) (k : kMem → Nat → Nat → Option kMem) : ∃ M' L' R' P' rt' lo' hi', F_TM_fixAfterInsertion_225 N k M tm (e x) = k M' tm (e x) ∧ MT M' tm e S L' R' P' rt' ∧ PT S L' R' P' rt' lo' hi' ∧ FT tm e S M M' ∧ P' x = y ∧ kI M' (e y) 5 = 1 := by
  have x1 := hp.rng hx
  have y1 := hp.rng sy
  have xy := hp.rgt sy (by rw [hl]; exact hp.n13 hx)
  rw [hl] at xy
  have hxy : x ≠ y := by omega
  obtain ⟨m1, f1⟩ := h.col sy (w := 1) (Or.inr rfl)
  unfold F_TM_fixAfterInsertion_225
  rw [ta_par h hx, Option.bind_some, hy, ta_set h sy (Or.inr rfl), Option.bind_some, ta_par m1 hx, Option.bind_some, hy, ta_par m1 sy, Option.bind_some]
  rcases hg with hg | ⟨hg0, hg⟩
  · rw [hg, h.1, ta_set0, Option.bind_some, ta_par m1 hx, Option.bind_some, hy, ta_par m1 sy, Option.bind_some, hg, h.1, @ta_rl0 N _ tm, m1.2.2.2.1, kg_t, Option.bind_some]
    exact ⟨_, L, R, P, rt, lo, hi, rfl, m1, hp, f1, hy, by rw [z_II, if_pos ⟨rfl, rfl⟩]⟩
  · have sg : S (P y) := (hp.par sy).elim (fun z => absurd z.1 hg0) (fun z => z.1)
    have g1 := hp.rng sg
    have yg := hp.rgt sg (by rw [hg]; exact hp.n13 sy)
    rw [hg] at yg
    obtain ⟨m2, f2⟩ := m1.col sg (w := 0) (Or.inl rfl)
    rw [ta_set m1 sg (Or.inl rfl), Option.bind_some, ta_par m2 hx, Option.bind_some, hy, ta_par m2 sy, Option.bind_some, m2.2.2.2.1, kg_t]
    obtain ⟨M3, r1, r2, r3, r4⟩ := mrotl (N := N) m2 hp sg hg (hp.n13 sy)
    rw [r1, Option.bind_some]
    refine ⟨M3, _, _, _, _, _, _, rfl, r2, hp.rotl sg hg (hp.n13 sy), (f1.trans f2).trans r3, ?_, ?_⟩
    · have ry := hp.2.1 y sy
      have n13 := hp.n13 hx
      have hxr : x ≠ L y := by
        rcases ry with z | ⟨z, -, z2, z3⟩
        · rw [z]; exact n13
        · have := hp.rng z
          omega
      unfold rlP
      rw [if_neg (by omega), if_neg (by omega), if_neg hxr, hy]
    · unfold kI
      rw [r4]
      show kI (ksI (ksI M (e y) 5 1) (e (P y)) 5 0) (e y) 5 = 1
      rw [z_II, if_neg (fun z => by rw [h.inj sy sg] at z; omega), z_II, if_pos ⟨rfl, rfl⟩]
theorem fiL (h : MT M tm e S L R P rt) (hp : PT S L R P rt lo hi) {q n : Nat} (hq : S q) (sp : S (P q)) (hch : L (P q) = q ∨ R (P q) = q) (hg : P (P q) = 13 ∨ P (P q) ≠ 13 ∧ L (P (P q)) = P q) (hn : 1 ≤ n) : ∃ M', (if e q = e (R (P q)) then (kg true <| (F_TM_rotateLeft N M tm (e (P q))).bind fun r48 => F_TM_fixAfterInsertion_118 N (fun M a0 a1 => F_TM_fixAfterInsertion_5 N n M a0 a1) r48 tm (e (P q))) else F_TM_fixAfterInsertion_118 N (fun M a0 a1 => F_TM_fixAfterInsertion_5 N n M a0 a1) M tm (e q)) = some M' ∧ TT M' tm e S ∧ FT tm e S M M' := by
  have q1 := hp.rng hq
  have p1 := hp.rng sp
  have hlr := hp.2.1 _ sp
  have hrr := hp.2.2.1 _ sp
  by_cases hc : e q = e (R (P q))
  · have hr : R (P q) = q := by
      rcases hp.2.2.1 _ sp with z | z
      · rw [z, h.1] at hc; exact absurd hc (h.nz hq)
      · rw [h.inj hq z.1] at hc; exact hc.symm
    rw [if_pos hc, kg_t]
    obtain ⟨M1, r1, r2, r3, -⟩ := mrotl (N := N) h hp sp hr (hp.n13 hq)
    have p2 := hp.rotl sp hr (hp.n13 hq)
    rw [r1, Option.bind_some]
    have e1 : rlP P (P q) q (L q) (P (P q)) (P q) = q := by unfold rlP; rw [if_pos rfl]
    have e2 : rlL L (P q) q (P (P q)) q = P q := by unfold rlL; rw [if_pos rfl]
    have hpq : q ≠ P q := by have w := hp.rgt sp (by rw [hr]; exact hp.n13 hq); rw [hr] at w; omega
    have e3 : rlP P (P q) q (L q) (P (P q)) q = P (P q) := by unfold rlP; rw [if_neg hpq, if_pos rfl]
    have e4 : rlP P (P q) q (L q) (P (P q)) q = 13 ∨ rlP P (P q) q (L q) (P (P q)) q ≠ 13 ∧ rlL L (P q) q (P (P q)) (rlP P (P q) q (L q) (P (P q)) q) = q := by
      rw [e3]
      refine hg.imp id (fun z => ⟨z.1, ?_⟩)
      have sg : S (P (P q)) := (hp.par sp).elim (fun y => absurd y.1 z.1) (fun y => y.1)
      have g1 := hp.lt sg (by rw [z.2]; exact hp.n13 sp)
      rw [z.2] at g1
      have g2 := hp.rng sg
      have := hp.rgt sp (by rw [hr]; exact hp.n13 hq)
      rw [hr] at this
      unfold rlL
      rw [if_neg (by omega), if_pos ⟨rfl, z.2⟩]
    obtain ⟨M2, L2, R2, P2, rt2, lo2, hi2, t1, t2, t3, t4, t5, t6⟩ := t118 (N := N) r2 p2 sp e1 hq e2 e4 (fun M a0 a1 => F_TM_fixAfterInsertion_5 N n M a0 a1)
    rw [t1]
    obtain ⟨M3, u1, u2, u3⟩ := fi_end (N := N) t2 t3 sp t5 hq t6 hn
    exact ⟨M3, u1, ⟨_, _, _, _, _, _, u2, t3⟩, (r3.trans t4).trans u3⟩
  · have hl : L (P q) = q := by
      rcases hch with z | z
      · exact z
      · exact absurd (by rw [z]) hc
    rw [if_neg hc]
    obtain ⟨M2, L2, R2, P2, rt2, lo2, hi2, t1, t2, t3, t4, t5, t6⟩ := t118 (N := N) h hp hq rfl sp hl hg (fun M a0 a1 => F_TM_fixAfterInsertion_5 N n M a0 a1)
    rw [t1]
    obtain ⟨M3, u1, u2, u3⟩ := fi_end (N := N) t2 t3 hq t5 sp t6 hn
    exact ⟨M3, u1, ⟨_, _, _, _, _, _, u2, t3⟩, t4.trans u3⟩
theorem fiR (h : MT M tm e S L R P rt) (hp : PT S L R P rt lo hi) {q n : Nat} (hq : S q) (sp : S (P q)) (hch : R (P q) = q ∨ L (P q) = q) (hg : P (P q) = 13 ∨ P (P q) ≠ 13 ∧ R (P (P q)) = P q) (hn : 1 ≤ n) : ∃ M', (if e q = e (L (P q)) then (kg true <| (F_TM_rotateRight N M tm (e (P q))).bind fun r48 => F_TM_fixAfterInsertion_225 N (fun M a0 a1 => F_TM_fixAfterInsertion_5 N n M a0 a1) r48 tm (e (P q))) else F_TM_fixAfterInsertion_225 N (fun M a0 a1 => F_TM_fixAfterInsertion_5 N n M a0 a1) M tm (e q)) = some M' ∧ TT M' tm e S ∧ FT tm e S M M' := by
  have q1 := hp.rng hq
  have p1 := hp.rng sp
  have hlr := hp.2.2.1 _ sp
  have hrr := hp.2.1 _ sp
  by_cases hc : e q = e (L (P q))
  · have hr : L (P q) = q := by
      rcases hp.2.1 _ sp with z | z
      · rw [z, h.1] at hc; exact absurd hc (h.nz hq)
      · rw [h.inj hq z.1] at hc; exact hc.symm
    rw [if_pos hc, kg_t]
    obtain ⟨M1, r1, r2, r3, -⟩ := mrotr (N := N) h hp sp hr (hp.n13 hq)
    have p2 := hp.rotr sp hr (hp.n13 hq)
    rw [r1, Option.bind_some]
    have e1 : rlP P (P q) q (R q) (P (P q)) (P q) = q := by unfold rlP; rw [if_pos rfl]
    have e2 : rrR R (P q) q (P (P q)) q = P q := by unfold rrR; rw [if_pos rfl]
    have hpq : q ≠ P q := by have w := hp.lt sp (by rw [hr]; exact hp.n13 hq); rw [hr] at w; omega
    have e3 : rlP P (P q) q (R q) (P (P q)) q = P (P q) := by unfold rlP; rw [if_neg hpq, if_pos rfl]
    have e4 : rlP P (P q) q (R q) (P (P q)) q = 13 ∨ rlP P (P q) q (R q) (P (P q)) q ≠ 13 ∧ rrR R (P q) q (P (P q)) (rlP P (P q) q (R q) (P (P q)) q) = q := by
      rw [e3]
      refine hg.imp id (fun z => ⟨z.1, ?_⟩)
      have sg : S (P (P q)) := (hp.par sp).elim (fun y => absurd y.1 z.1) (fun y => y.1)
      have g1 := hp.rgt sg (by rw [z.2]; exact hp.n13 sp)
      rw [z.2] at g1
      have g2 := hp.rng sg
      have := hp.lt sp (by rw [hr]; exact hp.n13 hq)
      rw [hr] at this
      unfold rrR
      rw [if_neg (by omega), if_pos ⟨rfl, z.2⟩]
    obtain ⟨M2, L2, R2, P2, rt2, lo2, hi2, t1, t2, t3, t4, t5, t6⟩ := t225 (N := N) r2 p2 sp e1 hq e2 e4 (fun M a0 a1 => F_TM_fixAfterInsertion_5 N n M a0 a1)
    rw [t1]
    obtain ⟨M3, u1, u2, u3⟩ := fi_end (N := N) t2 t3 sp t5 hq t6 hn
    exact ⟨M3, u1, ⟨_, _, _, _, _, _, u2, t3⟩, (r3.trans t4).trans u3⟩
  · have hl : R (P q) = q := by
      rcases hch with z | z
      · exact z
      · exact absurd (by rw [z]) hc
    rw [if_neg hc]
    obtain ⟨M2, L2, R2, P2, rt2, lo2, hi2, t1, t2, t3, t4, t5, t6⟩ := t225 (N := N) h hp hq rfl sp hl hg (fun M a0 a1 => F_TM_fixAfterInsertion_5 N n M a0 a1)
    rw [t1]
    obtain ⟨M3, u1, u2, u3⟩ := fi_end (N := N) t2 t3 hq t5 sp t6 hn
    exact ⟨M3, u1, ⟨_, _, _, _, _, _, u2, t3⟩, t4.trans u3⟩
theorem fi_0 (h : MT M tm e S L R P rt) (r1 : S rt) {n : Nat} (hn : 1 ≤ n) : ∃ M', F_TM_fixAfterInsertion_5 N n M tm 0 = some M' ∧ MT M' tm e S L R P rt ∧ FT tm e S M M' := by
  obtain ⟨k, rfl⟩ : ∃ k, n = k + 1 := ⟨n - 1, by omega⟩
  refine ⟨ksI M (e rt) 5 1, ?_, h.col r1 (Or.inr rfl)⟩
  unfold F_TM_fixAfterInsertion_5
  simp only [if_true, h.2.2.2.1, h.2.2.2.2, h.k r1, kg_t, kl_v]
  rfl
theorem fixI : ∀ (n : Nat) (M : kMem) (q : Nat) (L R P : Nat → Nat) (rt : Nat) (lo hi : Nat → Nat), MT M tm e S L R P rt → PT S L R P rt lo hi → S q → 13 - (hi q - lo q) + 2 ≤ n → ∃ M', F_TM_fixAfterInsertion_5 N n M tm (e q) = some M' ∧ TT M' tm e S ∧ FT tm e S M M' := by
  intro n
  induction n with
  | zero => intro M q L R P rt lo hi _ _ _ hn; omega
  | succ n ih =>
    intro M q L R P rt lo hi h hp hq hn
    have q1 := hp.rng hq
    unfold F_TM_fixAfterInsertion_5
    rw [if_neg (h.nz hq), h.2.2.2.1, kg_t, h.2.2.2.2]
    by_cases hr : e q = e rt
    · rw [if_pos hr]
      have r1 : S rt := (hp.root hq).1
      rw [h.k r1, kg_t]
      exact ⟨_, rfl, ⟨L, R, P, rt, lo, hi, (h.col r1 (w := 1) (Or.inr rfl)).1, hp⟩, (h.col r1 (Or.inr rfl)).2⟩
    · rw [if_neg hr, h.k hq, kg_t, h.p hq]
      rcases hp.par hq with z | ⟨sp, hch⟩
      · rw [z.2.1] at hr; exact absurd rfl hr
      · rw [h.k sp, kg_t]
        have p1 := hp.rng sp
        have hlr := hp.2.1 _ sp
        have hrr := hp.2.2.1 _ sp
        have mq := (hp.up hq sp hch).1
        by_cases hc : kI M (e (P q)) 5 = 0
        · rw [if_pos hc]
          simp only [ta_par h hq, ta_par h sp, Option.bind_some]
          have h10 : ¬ (1 : Int32) = 0 := by decide
          rcases hp.par sp with ⟨z1, -⟩ | ⟨sg, hch2⟩
          · rw [z1, h.1]
            simp only [ta_lef0, ta_rig0, ta_col0, ta_rig h sp, ta_lef h sp, Option.bind_some, if_neg (h.nz sp), if_neg h10]
            exact fiR (n := n) h hp hq sp hch.symm (Or.inl z1) (by omega)
          · have g1 := hp.rng sg
            have n13 := hp.n13 sp
            have g2 := hp.2.1 _ sg
            have g3 := hp.2.2.1 _ sg
            have mg := (hp.up sp sg hch2).1
            simp only [ta_lef h sg, ta_rig h sg, ta_rig h sp, ta_lef h sp, Option.bind_some]
            by_cases hA : e (P q) = e (L (P (P q)))
            · have hlg : L (P (P q)) = P q := by
                rcases g2 with z | z
                · rw [z, h.1] at hA; exact absurd hA (h.nz sp)
                · rw [h.inj sp z.1] at hA; exact hA.symm
              rw [if_pos hA]
              by_cases hu : R (P (P q)) = 13
              · rw [hu, h.1]
                simp only [ta_col0, Option.bind_some, if_neg h10]
                exact fiL (n := n) h hp hq sp hch (Or.inr ⟨hp.n13 sg, hlg⟩) (by omega)
              · have su := (g3.resolve_left hu).1
                simp only [ta_col h su, Option.bind_some]
                by_cases hcu : kI M (e (R (P (P q)))) 5 = 0
                · rw [if_pos hcu]
                  obtain ⟨m1, f1⟩ := h.col sp (w := 1) (Or.inr rfl)
                  obtain ⟨m2, f2⟩ := m1.col su (w := 1) (Or.inr rfl)
                  obtain ⟨m3, f3⟩ := m2.col sg (w := 0) (Or.inl rfl)
                  rw [ta_set h sp (Or.inr rfl), Option.bind_some, ta_set m1 su (Or.inr rfl), Option.bind_some, ta_par m2 hq, Option.bind_some, ta_par m2 sp, Option.bind_some, ta_set m2 sg (Or.inl rfl), Option.bind_some, ta_par m3 hq, Option.bind_some, ta_par m3 sp, Option.bind_some]
                  obtain ⟨M4, u1, u2, u3⟩ := ih _ (P (P q)) L R P rt lo hi m3 hp sg (by omega)
                  exact ⟨M4, u1, u2, ((f1.trans f2).trans f3).trans u3⟩
                · rw [if_neg hcu]
                  exact fiL (n := n) h hp hq sp hch (Or.inr ⟨hp.n13 sg, hlg⟩) (by omega)
            · rw [if_neg hA]
              have hrg : R (P (P q)) = P q := by
                rcases hch2 with z | z
                · rw [z] at hA; exact absurd rfl hA
                · exact z
              by_cases hu : L (P (P q)) = 13
              · rw [hu, h.1]
                simp only [ta_col0, Option.bind_some, if_neg h10]
                exact fiR (n := n) h hp hq sp hch.symm (Or.inr ⟨hp.n13 sg, hrg⟩) (by omega)
              · have su := (g2.resolve_left hu).1
                simp only [ta_col h su, Option.bind_some]
                by_cases hcu : kI M (e (L (P (P q)))) 5 = 0
                · rw [if_pos hcu]
                  obtain ⟨m1, f1⟩ := h.col sp (w := 1) (Or.inr rfl)
                  obtain ⟨m2, f2⟩ := m1.col su (w := 1) (Or.inr rfl)
                  obtain ⟨m3, f3⟩ := m2.col sg (w := 0) (Or.inl rfl)
                  rw [ta_set h sp (Or.inr rfl), Option.bind_some, ta_set m1 su (Or.inr rfl), Option.bind_some, ta_par m2 hq, Option.bind_some, ta_par m2 sp, Option.bind_some, ta_set m2 sg (Or.inl rfl), Option.bind_some, ta_par m3 hq, Option.bind_some, ta_par m3 sp, Option.bind_some]
                  obtain ⟨M4, u1, u2, u3⟩ := ih _ (P (P q)) L R P rt lo hi m3 hp sg (by omega)
                  exact ⟨M4, u1, u2, ((f1.trans f2).trans f3).trans u3⟩
                · rw [if_neg hcu]
                  exact fiR (n := n) h hp hq sp hch.symm (Or.inr ⟨hp.n13 sg, hrg⟩) (by omega)
        · rw [if_neg hc]
          have r1 : S rt := (hp.root hq).1
          rw [h.k r1, kg_t]
          exact ⟨_, rfl, ⟨L, R, P, rt, lo, hi, (h.col r1 (w := 1) (Or.inr rfl)).1, hp⟩, (h.col r1 (Or.inr rfl)).2⟩
end
