/-! the trees of a TreeMap: places in their order (13: none), links between them; lo and hi: the places that a subtree may hold -/
def fs (f : Nat → Nat) (k v : Nat) : Nat → Nat := fun x => if x = k then v else f x
def PT (S : Nat → Prop) (L R P : Nat → Nat) (rt : Nat) (lo hi : Nat → Nat) : Prop :=
  (∀ q, S q → lo q ≤ q ∧ q < hi q ∧ hi q ≤ 13) ∧
  (∀ q, S q → L q = 13 ∨ S (L q) ∧ P (L q) = q ∧ lo (L q) = lo q ∧ hi (L q) = q) ∧
  (∀ q, S q → R q = 13 ∨ S (R q) ∧ P (R q) = q ∧ lo (R q) = q + 1 ∧ hi (R q) = hi q) ∧
  (∀ q, S q → P q = 13 ∧ rt = q ∧ lo q = 0 ∧ hi q = 13 ∨ S (P q) ∧ (L (P q) = q ∨ R (P q) = q)) ∧
  (rt = 13 ∧ (∀ q, ¬ S q) ∨ S rt ∧ P rt = 13)
def rlL (L : Nat → Nat) (a b d : Nat) : Nat → Nat := fun x => if x = b then a else if x = d ∧ L d = a then b else L x
def rlR (L R : Nat → Nat) (a b c d : Nat) : Nat → Nat := fun x => if x = a then c else if x = d ∧ L d ≠ a then b else R x
def rlP (P : Nat → Nat) (a b c d : Nat) : Nat → Nat := fun x => if x = a then b else if x = b then d else if x = c then a else P x
def rrL (L R : Nat → Nat) (a b c d : Nat) : Nat → Nat := fun x => if x = a then c else if x = d ∧ R d ≠ a then b else L x
def rrR (R : Nat → Nat) (a b d : Nat) : Nat → Nat := fun x => if x = b then a else if x = d ∧ R d = a then b else R x
section
variable {S : Nat → Prop} {L R P lo hi : Nat → Nat} {rt a b : Nat}
theorem PT.rng (h : PT S L R P rt lo hi) {q : Nat} (hq : S q) : lo q ≤ q ∧ q < hi q ∧ hi q ≤ 13 := h.1 q hq
theorem PT.n13 (h : PT S L R P rt lo hi) {q : Nat} (hq : S q) : q ≠ 13 := by have := h.rng hq; omega
theorem PT.rotl (h : PT S L R P rt lo hi) (ha : S a) (hb : R a = b) (h13 : b ≠ 13) : PT S (rlL L a b (P a)) (rlR L R a b (L b) (P a)) (rlP P a b (L b) (P a)) (if P a = 13 then b else rt) (fs lo b (lo a)) (fs hi a b) := by
  obtain ⟨h1, h2, h3, h4, h5⟩ := h
  have a1 := h1 a ha
  have a2 := h2 a ha
  have a3 := (h3 a ha).resolve_left (by omega)
  have a4 := h4 a ha
  rw [hb] at a3
  obtain ⟨sb, pb, lb, ub⟩ := a3
  have b1 := h1 b sb
  have b2 := h2 b sb
  have b3 := h3 b sb
  have b4 := h4 b sb
  have c1 := h1 (L b)
  have c2 := h2 (L b)
  have c3 := h3 (L b)
  have c4 := h4 (L b)
  have d1 := h1 (P a)
  have d2 := h2 (P a)
  have d3 := h3 (P a)
  have d4 := h4 (P a)
  refine ⟨fun q hq => ?_, fun q hq => ?_, fun q hq => ?_, fun q hq => ?_, ?_⟩
  · have q1 := h1 q hq
    clear h1 h2 h3 h4 h5
    unfold fs
    grind
  · have q1 := h1 q hq
    have q2 := h2 q hq
    have l1 := h1 (L q)
    clear h1 h2 h3 h4 h5
    unfold rlL rlP fs
    grind
  · have q1 := h1 q hq
    have q3 := h3 q hq
    have l1 := h1 (R q)
    clear h1 h2 h3 h4 h5
    unfold rlR rlP fs
    grind
  · have q1 := h1 q hq
    have q2 := h2 q hq
    have q3 := h3 q hq
    have q4 := h4 q hq
    have l2 := h2 (P q)
    have l3 := h3 (P q)
    clear h1 h2 h3 h4 h5
    unfold rlL rlR rlP fs
    grind
  · clear h1 h2 h3 h4
    have h6 : (∀ q, ¬ S q) → False := fun z => z a ha
    rcases h5 with ⟨h7, h8⟩ | h7
    · exact absurd h8 (fun z => h6 z)
    · clear h6
      unfold rlP
      grind
theorem PT.rotr (h : PT S L R P rt lo hi) (ha : S a) (hb : L a = b) (h13 : b ≠ 13) : PT S (rrL L R a b (R b) (P a)) (rrR R a b (P a)) (rlP P a b (R b) (P a)) (if P a = 13 then b else rt) (fs lo a (b + 1)) (fs hi b (hi a)) := by
  obtain ⟨h1, h2, h3, h4, h5⟩ := h
  have a1 := h1 a ha
  have a2 := h3 a ha
  have a3 := (h2 a ha).resolve_left (by omega)
  have a4 := h4 a ha
  rw [hb] at a3
  obtain ⟨sb, pb, lb, ub⟩ := a3
  have b1 := h1 b sb
  have b2 := h2 b sb
  have b3 := h3 b sb
  have b4 := h4 b sb
  have c1 := h1 (R b)
  have c2 := h2 (R b)
  have c3 := h3 (R b)
  have c4 := h4 (R b)
  have d1 := h1 (P a)
  have d2 := h2 (P a)
  have d3 := h3 (P a)
  have d4 := h4 (P a)
  refine ⟨fun q hq => ?_, fun q hq => ?_, fun q hq => ?_, fun q hq => ?_, ?_⟩
  · have q1 := h1 q hq
    clear h1 h2 h3 h4 h5
    unfold fs
    grind
  · have q1 := h1 q hq
    have q2 := h2 q hq
    have l1 := h1 (L q)
    clear h1 h2 h3 h4 h5
    unfold rrL rlP fs
    grind
  · have q1 := h1 q hq
    have q3 := h3 q hq
    have l1 := h1 (R q)
    clear h1 h2 h3 h4 h5
    unfold rrR rlP fs
    grind
  · have q1 := h1 q hq
    have q2 := h2 q hq
    have q3 := h3 q hq
    have q4 := h4 q hq
    have l2 := h2 (P q)
    have l3 := h3 (P q)
    clear h1 h2 h3 h4 h5
    unfold rrL rrR rlP fs
    grind
  · clear h1 h2 h3 h4
    have h6 : (∀ q, ¬ S q) → False := fun z => z a ha
    rcases h5 with ⟨h7, h8⟩ | h7
    · exact absurd h8 (fun z => h6 z)
    · clear h6
      unfold rlP
      grind
end
