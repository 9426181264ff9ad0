/-! finding in a TreeMap's tree: get, the first, the last, the next -/
def srch (L R : Nat → Nat) : Nat → Nat → Nat → Nat
  | 0, _, _ => 13
  | n + 1, x, q => if q = 13 then 13 else if x < q then srch L R n x (L q) else if q < x then srch L R n x (R q) else q
section
variable {S : Nat → Prop} {L R P lo hi : Nat → Nat} {rt : Nat}
theorem PT.lt (h : PT S L R P rt lo hi) {q : Nat} (hq : S q) (hl : L q ≠ 13) : S (L q) ∧ P (L q) = q ∧ lo (L q) = lo q ∧ hi (L q) = q := (h.2.1 q hq).resolve_left hl
theorem PT.rgt (h : PT S L R P rt lo hi) {q : Nat} (hq : S q) (hl : R q ≠ 13) : S (R q) ∧ P (R q) = q ∧ lo (R q) = q + 1 ∧ hi (R q) = hi q := (h.2.2.1 q hq).resolve_left hl
theorem PT.par (h : PT S L R P rt lo hi) {q : Nat} (hq : S q) : P q = 13 ∧ rt = q ∧ lo q = 0 ∧ hi q = 13 ∨ S (P q) ∧ (L (P q) = q ∨ R (P q) = q) := h.2.2.2.1 q hq
theorem PT.root (h : PT S L R P rt lo hi) {q : Nat} (hq : S q) : S rt ∧ P rt = 13 ∧ lo rt = 0 ∧ hi rt = 13 := by
  rcases h.2.2.2.2 with z | ⟨z1, z2⟩
  · exact absurd hq (z.2 q)
  · rcases h.par z1 with ⟨y1, y2, y3, y4⟩ | ⟨y1, y2⟩
    · exact ⟨z1, z2, y3, y4⟩
    · exact absurd z2 (h.n13 y1)
theorem srch_fuel (h : PT S L R P rt lo hi) {x : Nat} : ∀ (n m q : Nat), S q → lo q ≤ x → x < hi q → hi q - lo q < n → hi q - lo q < m → srch L R n x q = srch L R m x q
  | 0, _, _, _, _, _, h1, _ => absurd h1 (Nat.not_lt_zero _)
  | _ + 1, 0, _, _, _, _, _, h1 => absurd h1 (Nat.not_lt_zero _)
  | n + 1, m + 1, q, hq, h1, h2, h3, h4 => by
    have q1 := h.rng hq
    have e13 : ∀ k, srch L R k x 13 = 13 := fun k => by cases k <;> simp [srch]
    unfold srch
    rw [if_neg (h.n13 hq), if_neg (h.n13 hq)]
    by_cases c1 : x < q
    · rw [if_pos c1, if_pos c1]
      by_cases l : L q = 13
      · rw [l, e13, e13]
      · obtain ⟨s1, -, s2, s3⟩ := h.lt hq l
        exact srch_fuel h n m _ s1 (by omega) (by omega) (by omega) (by omega)
    · rw [if_neg c1, if_neg c1]
      by_cases c2 : q < x
      · rw [if_pos c2, if_pos c2]
        by_cases l : R q = 13
        · rw [l, e13, e13]
        · obtain ⟨s1, -, s2, s3⟩ := h.rgt hq l
          exact srch_fuel h n m _ s1 (by omega) (by omega) (by omega) (by omega)
      · rw [if_neg c2, if_neg c2]
theorem srch_up (h : PT S L R P rt lo hi) : ∀ (k q x : Nat), 13 - (hi q - lo q) ≤ k → S q → lo q ≤ x → x < hi q → srch L R 20 x rt = srch L R 20 x q := by
  intro k
  induction k with
  | zero =>
    intro q x hk hq h1 h2
    have q1 := h.rng hq
    rcases h.par hq with ⟨y1, y2, y3, y4⟩ | ⟨y1, y2⟩
    · rw [y2]
    · exfalso
      have p1 := h.rng y1
      rcases y2 with y2 | y2
      · have := h.lt y1 (by rw [y2]; exact h.n13 hq)
        rw [y2] at this
        omega
      · have := h.rgt y1 (by rw [y2]; exact h.n13 hq)
        rw [y2] at this
        omega
  | succ k ih =>
    intro q x hk hq h1 h2
    have q1 := h.rng hq
    rcases h.par hq with ⟨y1, y2, y3, y4⟩ | ⟨y1, y2⟩
    · rw [y2]
    · have p1 := h.rng y1
      have n13 := h.n13 y1
      rcases y2 with y2 | y2
      · have z := h.lt y1 (by rw [y2]; exact h.n13 hq)
        rw [y2] at z
        rw [ih (P q) x (by omega) y1 (by omega) (by omega)]
        rw [show srch L R 20 x (P q) = srch L R 19 x (L (P q)) by
          show (if P q = 13 then 13 else if x < P q then srch L R 19 x (L (P q)) else if P q < x then srch L R 19 x (R (P q)) else P q) = _
          rw [if_neg n13, if_pos (by omega)]]
        rw [y2]
        exact srch_fuel h _ _ _ hq h1 h2 (by omega) (by omega)
      · have z := h.rgt y1 (by rw [y2]; exact h.n13 hq)
        rw [y2] at z
        rw [ih (P q) x (by omega) y1 (by omega) (by omega)]
        rw [show srch L R 20 x (P q) = srch L R 19 x (R (P q)) by
          show (if P q = 13 then 13 else if x < P q then srch L R 19 x (L (P q)) else if P q < x then srch L R 19 x (R (P q)) else P q) = _
          rw [if_neg n13, if_neg (by omega), if_pos (by omega)]]
        rw [y2]
        exact srch_fuel h _ _ _ hq h1 h2 (by omega) (by omega)
theorem srch_at (h : PT S L R P rt lo hi) {q x : Nat} (hq : S q) (hx : S x) (h1 : lo q ≤ x) (h2 : x < hi q) : srch L R 20 x q = x := by
  rw [← srch_up h 13 q x (by omega) hq h1 h2]
  have x1 := h.rng hx
  rw [srch_up h 13 x x (by omega) hx x1.1 x1.2.1]
  show (if x = 13 then 13 else if x < x then _ else if x < x then _ else x) = x
  rw [if_neg (h.n13 hx), if_neg (by omega), if_neg (by omega)]
theorem srch_in (h : PT S L R P rt lo hi) : ∀ (n q x : Nat), (q = 13 ∨ S q) → srch L R n x q = 13 ∨ srch L R n x q = x ∧ S x
  | 0, _, _, _ => Or.inl rfl
  | n + 1, q, x, hq => by
    unfold srch
    rcases hq with hq | hq
    · rw [if_pos hq]; exact Or.inl rfl
    · rw [if_neg (h.n13 hq)]
      split
      · exact srch_in h n _ x ((h.2.1 q hq).imp id (fun z => z.1))
      · split
        · exact srch_in h n _ x ((h.2.2.1 q hq).imp id (fun z => z.1))
        · have : q = x := by omega
          subst this
          exact Or.inr ⟨rfl, hq⟩
theorem PT.lful (h : PT S L R P rt lo hi) {q x : Nat} (hq : S q) (hx : S x) (h1 : lo q ≤ x) (h2 : x < q) : L q ≠ 13 := by
  intro l
  have q1 := h.rng hq
  have e := srch_at h hq hx h1 (by omega)
  rw [show srch L R 20 x q = srch L R 19 x (L q) by
    show (if q = 13 then 13 else if x < q then srch L R 19 x (L q) else if q < x then srch L R 19 x (R q) else q) = _
    rw [if_neg (h.n13 hq), if_pos (by omega)], l] at e
  exact h.n13 hx e.symm
theorem PT.rful (h : PT S L R P rt lo hi) {q x : Nat} (hq : S q) (hx : S x) (h1 : q < x) (h2 : x < hi q) : R q ≠ 13 := by
  intro l
  have q1 := h.rng hq
  have e := srch_at h hq hx (by omega) h2
  rw [show srch L R 20 x q = srch L R 19 x (R q) by
    show (if q = 13 then 13 else if x < q then srch L R 19 x (L q) else if q < x then srch L R 19 x (R q) else q) = _
    rw [if_neg (h.n13 hq), if_neg (by omega), if_pos (by omega)], l] at e
  exact h.n13 hx e.symm
end
section
variable {N : Nat} {M : kMem} {tm : Nat} {e L R P : Nat → Nat} {S : Nat → Prop} {rt : Nat} {lo hi : Nat → Nat}
def KY (M : kMem) (e : Nat → Nat) (S : Nat → Prop) (κ : Nat → Nat) : Prop := ∀ q, S q → kI M (e q) 0 = pz (κ q) ∧ kR M (e q) 0 ≠ 0
theorem pz_k {q : Nat} (h : q < 13) : kBk (pz q) = true := by
  revert h; revert q; decide
theorem cmp_eq {M : kMem} {p q : Nat} (hp : p < 13) (hq : q < 13) : F_IN_cmpTo N M (pz p) (pz q) = some (if p < q then -1 else if p = q then 0 else 1) := by
  unfold F_IN_cmpTo F_IN_cmpT F_IN_compare
  rw [pz_k hp, pz_k hq]
  simp only [kg_t, Option.bind_some, pz_lt (show p < 100 by omega) (show q < 100 by omega), pz_eq (show p < 100 by omega) (show q < 100 by omega)]
  by_cases c1 : p < q
  · simp only [c1, if_true, Option.bind_some]
  · by_cases c2 : p = q
    · simp only [c1, c2, if_true, if_false, Option.bind_some]
      simp
    · simp only [c1, c2, if_false, Option.bind_some]
theorem get28 (h : MT M tm e S L R P rt) (hp : PT S L R P rt lo hi) (hk : KY M e S id) {x : Nat} (hx : x < 13) : ∀ (n q : Nat), 1 ≤ n → (q = 13 ∨ S q ∧ hi q - lo q < n) → F_TM_getEntry_28 N M n (pz x) (e q) = some (e (srch L R n x q))
  | 0, _, h1, _ => absurd h1 (by omega)
  | n + 1, q, _, hq => by
    unfold F_TM_getEntry_28 srch
    rcases hq with hq | ⟨hq, hn⟩
    · rw [hq, if_pos h.1, if_pos rfl, h.1]
    · have q1 := hp.rng hq
      have k1 : kI M (e q) 0 = pz q ∧ kR M (e q) 0 ≠ 0 := hk q hq
      have ce := cmp_eq (N := N) (M := M) hx (show q < 13 by omega)
      have hz : (kR M (e q) 0 == 0) = false := by simpa using k1.2
      rw [if_neg (h.nz hq), if_neg (hp.n13 hq)]
      simp only [h.k hq, hz, k1.1, pz_k hx, ce, kg_t, kl_v, Option.bind_some, h.l hq, h.r hq, Bool.not_false, Bool.and_self]
      by_cases c1 : x < q
      · simp only [c1, if_true]
        rw [if_pos (by decide)]
        refine get28 h hp hk hx n (L q) (by omega) ((hp.2.1 q hq).imp id (fun z => ⟨z.1, by omega⟩))
      · by_cases c2 : x = q
        · subst c2
          simp only [c1, if_true, if_false]
          rw [if_neg (by decide), if_neg (by decide)]
        · simp only [c1, c2, if_false, show q < x by omega, if_true]
          rw [if_neg (by decide), if_pos (by decide)]
          refine get28 h hp hk hx n (R q) (by omega) ((hp.2.2.1 q hq).imp id (fun z => ⟨z.1, by omega⟩))
theorem mget (h : MT M tm e S L R P rt) (hp : PT S L R P rt lo hi) (hk : KY M e S id) (hc : kR M tm 2 = 0) {x : Nat} (hx : x < 13) (hN : 100 < N) (hS : ¬ S x → e x = 0) : F_TM_getEntry N M tm (pz x) = some (e x) := by
  unfold F_TM_getEntry F_OJ_rnn
  simp only [h.2.2.2.1, hc, kg_t, kl_v, if_true, Option.bind_some, pz_k hx, h.2.2.2.2]
  rcases hp.2.2.2.2 with ⟨z, z2⟩ | ⟨z, z2⟩
  · rw [get28 h hp hk hx N rt (by omega) (Or.inl z), z]
    rw [show srch L R N x 13 = 13 by cases N <;> simp [srch], h.1, hS (z2 x)]
  · have r1 := hp.rng z
    rw [get28 h hp hk hx N rt (by omega) (Or.inr ⟨z, by omega⟩)]
    obtain ⟨r2, r3, r4, r5⟩ := hp.root z
    by_cases hs : S x
    · rw [srch_fuel hp N 20 rt z (by omega) (by omega) (by omega) (by omega), srch_at hp z hs (by omega) (by omega)]
    · rcases srch_in hp N rt x (Or.inr z) with w | ⟨-, w⟩
      · rw [w, h.1, hS hs]
      · exact absurd w hs
theorem mfst9 (h : MT M tm e S L R P rt) (hp : PT S L R P rt lo hi) {l0 : Nat} : ∀ (n q : Nat), S q → lo q = l0 → hi q - lo q < n → ∃ s, F_TM_getFirstEntry_9 N M n (e q) = some (e s) ∧ S s ∧ l0 ≤ s ∧ (∀ k, S k → l0 ≤ k → s ≤ k)
  | 0, _, _, _, h1 => absurd h1 (Nat.not_lt_zero _)
  | n + 1, q, hq, hl, hn => by
    have q1 := hp.rng hq
    unfold F_TM_getFirstEntry_9
    simp only [h.k hq, kg_t, kl_v, h.l hq]
    by_cases l : L q = 13
    · rw [l, h.1, if_pos rfl]
      refine ⟨q, rfl, hq, by omega, fun k hk hk2 => ?_⟩
      by_cases z : k < q
      · exact absurd l (hp.lful hq hk (by omega) z)
      · omega
    · obtain ⟨s1, s2, s3, s4⟩ := hp.lt hq l
      rw [if_neg (h.nz s1)]
      exact mfst9 h hp n _ s1 (by omega) (by omega)
theorem mfst (h : MT M tm e S L R P rt) (hp : PT S L R P rt lo hi) (hN : 100 < N) {q : Nat} (hq : S q) : ∃ s, F_TM_getFirstEntry N M tm = some (e s) ∧ S s ∧ ∀ k, S k → s ≤ k := by
  obtain ⟨r1, r2, r3, r4⟩ := hp.root hq
  obtain ⟨s, s1, s2, -, s3⟩ := mfst9 (N := N) h hp N rt r1 r3 (by omega)
  refine ⟨s, ?_, s2, fun k hk => s3 k hk (Nat.zero_le _)⟩
  unfold F_TM_getFirstEntry
  simp only [h.2.2.2.1, kg_t, kl_v, h.2.2.2.2, if_neg (h.nz r1)]
  exact s1
theorem mfst0 (h : MT M tm e S L R P rt) (hr : rt = 13) : F_TM_getFirstEntry N M tm = some 0 := by
  unfold F_TM_getFirstEntry
  simp only [h.2.2.2.1, kg_t, kl_v, h.2.2.2.2, hr, h.1, if_true]
theorem mlst9 (h : MT M tm e S L R P rt) (hp : PT S L R P rt lo hi) : ∀ (n q : Nat), S q → hi q = 13 → hi q - lo q < n → ∃ s, F_TM_getLastEntry_9 N M n (e q) = some (e s) ∧ S s ∧ (∀ k, S k → k ≤ s)
  | 0, _, _, _, h1 => absurd h1 (Nat.not_lt_zero _)
  | n + 1, q, hq, hl, hn => by
    have q1 := hp.rng hq
    unfold F_TM_getLastEntry_9
    simp only [h.k hq, kg_t, kl_v, h.r hq]
    by_cases l : R q = 13
    · rw [l, h.1, if_pos rfl]
      refine ⟨q, rfl, hq, fun k hk => ?_⟩
      by_cases z : q < k
      · have := hp.rng hk
        exact absurd l (hp.rful hq hk z (by omega))
      · omega
    · obtain ⟨s1, s2, s3, s4⟩ := hp.rgt hq l
      rw [if_neg (h.nz s1)]
      exact mlst9 h hp n _ s1 (by omega) (by omega)
theorem mlst (h : MT M tm e S L R P rt) (hp : PT S L R P rt lo hi) (hN : 100 < N) {q : Nat} (hq : S q) : ∃ s, F_TM_getLastEntry N M tm = some (e s) ∧ S s ∧ ∀ k, S k → k ≤ s := by
  obtain ⟨r1, r2, r3, r4⟩ := hp.root hq
  obtain ⟨s, s1, s2, s3⟩ := mlst9 (N := N) h hp N rt r1 r4 (by omega)
  refine ⟨s, ?_, s2, s3⟩
  unfold F_TM_getLastEntry
  simp only [h.2.2.2.1, kg_t, kl_v, h.2.2.2.2, if_neg (h.nz r1)]
  exact s1
theorem msuc18 (h : MT M tm e S L R P rt) (hp : PT S L R P rt lo hi) {l0 : Nat} : ∀ (n q : Nat), S q → lo q = l0 → hi q - lo q < n → ∃ s, F_TM_successor_18 N M n (e q) = some (e s) ∧ S s ∧ l0 ≤ s ∧ L s = 13 ∧ s < hi q ∧ (∀ k, S k → l0 ≤ k → s ≤ k)
  | 0, _, _, _, h1 => absurd h1 (Nat.not_lt_zero _)
  | n + 1, q, hq, hl, hn => by
    have q1 := hp.rng hq
    unfold F_TM_successor_18
    simp only [h.k hq, kg_t, kl_v, h.l hq]
    by_cases l : L q = 13
    · rw [l, h.1, if_pos rfl]
      refine ⟨q, rfl, hq, by omega, l, by omega, fun k hk hk2 => ?_⟩
      by_cases z : k < q
      · exact absurd l (hp.lful hq hk (by omega) z)
      · omega
    · obtain ⟨s1, s2, s3, s4⟩ := hp.lt hq l
      rw [if_neg (h.nz s1)]
      obtain ⟨s, t1, t2, t3, t4, t5, t6⟩ := msuc18 h hp n _ s1 (s3.trans hl) (by omega)
      exact ⟨s, t1, t2, t3, t4, by omega, t6⟩
theorem msuc42 (h : MT M tm e S L R P rt) (hp : PT S L R P rt lo hi) {q : Nat} : ∀ (n c : Nat), S c → q < hi c → (∀ k, S k → q < k → k < hi c → False) → 13 - (hi c - lo c) < n → ∃ s, F_TM_successor_42 N M n (e (P c)) (e c) = some (e s) ∧ (s = 13 ∧ (∀ k, S k → k ≤ q) ∨ S s ∧ q < s ∧ ∀ k, S k → q < k → s ≤ k)
  | 0, _, _, _, _, h1 => absurd h1 (Nat.not_lt_zero _)
  | n + 1, c, hc, hqc, hno, hn => by
    have c1 := hp.rng hc
    unfold F_TM_successor_42
    rcases hp.par hc with ⟨y1, y2, y3, y4⟩ | ⟨y1, y2⟩
    · rw [y1, h.1, if_pos rfl]
      refine ⟨13, by rw [h.1], Or.inl ⟨rfl, fun k hk => ?_⟩⟩
      by_cases z : q < k
      · have := hp.rng hk
        exact (hno k hk z (by omega)).elim
      · omega
    · have p1 := hp.rng y1
      rw [if_neg (h.nz y1)]
      simp only [h.k y1, kg_t, kl_v, h.r y1, h.p y1]
      by_cases y : R (P c) = c
      · have z := hp.rgt y1 (by rw [y]; exact hp.n13 hc)
        rw [y] at z
        rw [y, if_pos rfl]
        exact msuc42 h hp n _ y1 (by omega) (fun k k1 k2 k3 => hno k k1 k2 (by omega)) (by omega)
      · have y3 := y2.resolve_right y
        have z := hp.lt y1 (by rw [y3]; exact hp.n13 hc)
        rw [y3] at z
        have e1 : ¬ e c = e (R (P c)) := by
          rcases hp.2.2.1 _ y1 with w | w
          · rw [w, h.1]; exact h.nz hc
          · rw [h.inj hc w.1]; exact fun z => y z.symm
        rw [if_neg e1]
        refine ⟨P c, rfl, Or.inr ⟨y1, by omega, fun k hk hk2 => ?_⟩⟩
        by_cases w : k < P c
        · exact (hno k hk hk2 (by omega)).elim
        · omega
theorem msuc (h : MT M tm e S L R P rt) (hp : PT S L R P rt lo hi) (hN : 100 < N) {q : Nat} (hq : S q) : ∃ s, F_TM_successor N M (e q) = some (e s) ∧ (s = 13 ∧ (∀ k, S k → k ≤ q) ∨ S s ∧ q < s ∧ ∀ k, S k → q < k → s ≤ k) := by
  have q1 := hp.rng hq
  unfold F_TM_successor
  rw [if_neg (h.nz hq)]
  simp only [h.k hq, kg_t, kl_v, h.r hq, h.p hq]
  by_cases l : R q = 13
  · rw [l, h.1, if_pos rfl]
    exact msuc42 h hp N q hq (by omega) (fun k k1 k2 k3 => hp.rful hq k1 k2 k3 l) (by omega)
  · obtain ⟨s1, s2, s3, s4⟩ := hp.rgt hq l
    rw [if_neg (h.nz s1)]
    have r1 := hp.rng s1
    obtain ⟨s, t1, t2, t3, -, -, t4⟩ := msuc18 (N := N) h hp N _ s1 s3 (by omega)
    exact ⟨s, t1, Or.inr ⟨t2, by omega, fun k k1 k2 => t4 k k1 (by omega)⟩⟩
theorem msucR (h : MT M tm e S L R P rt) (hp : PT S L R P rt lo hi) (hN : 100 < N) {q : Nat} (hq : S q) (l : R q ≠ 13) : ∃ s, F_TM_successor N M (e q) = some (e s) ∧ S s ∧ q < s ∧ L s = 13 ∧ ∀ k, S k → q < k → s ≤ k := by
  have q1 := hp.rng hq
  unfold F_TM_successor
  rw [if_neg (h.nz hq)]
  simp only [h.k hq, kg_t, kl_v, h.r hq, h.p hq]
  obtain ⟨s1, s2, s3, s4⟩ := hp.rgt hq l
  rw [if_neg (h.nz s1)]
  have r1 := hp.rng s1
  obtain ⟨s, t1, t2, t3, t5, t6, t4⟩ := msuc18 (N := N) h hp N _ s1 s3 (by omega)
  exact ⟨s, t1, t2, by omega, t5, fun k k1 k2 => t4 k k1 (by omega)⟩
end
