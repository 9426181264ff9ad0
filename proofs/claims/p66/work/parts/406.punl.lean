/-! a place more, a place less, a place by another name -/
section
variable {S : Nat → Prop} {L R P lo hi : Nat → Nat} {rt : Nat}
theorem PT.one {x : Nat} (hx : x < 13) : PT (fun q => q = x) (fun _ => 13) (fun _ => 13) (fun _ => 13) x (fun _ => 0) (fun _ => 13) := by
  refine ⟨fun q hq => ?_, fun q hq => Or.inl rfl, fun q hq => Or.inl rfl, fun q hq => Or.inl ⟨rfl, hq.symm, rfl, rfl⟩, Or.inr ⟨rfl, rfl⟩⟩
  have e : q = x := hq
  show 0 ≤ q ∧ q < 13 ∧ 13 ≤ 13
  omega
theorem PT.addL (h : PT S L R P rt lo hi) {x p : Nat} (hx : ¬ S x) (sp : S p) (hl : L p = 13) (h1 : lo p ≤ x) (h2 : x < p) : PT (fun q => S q ∨ q = x) (fs (fs L p x) x 13) (fs R x 13) (fs P x p) rt (fs lo x (lo p)) (fs hi x p) := by
  obtain ⟨g1, g2, g3, g4, g5⟩ := h
  have p1 := g1 p sp
  have p3 := g3 p sp
  have p4 := g4 p sp
  refine ⟨fun q hq => ?_, fun q hq => ?_, fun q hq => ?_, fun q hq => ?_, ?_⟩
  · have q1 := g1 q
    clear g1 g2 g3 g4 g5
    unfold fs
    grind
  · have q1 := g1 q
    have q2 := g2 q
    have l1 := g1 (L q)
    clear g1 g2 g3 g4 g5
    unfold fs
    grind
  · have q1 := g1 q
    have q2 := g3 q
    have l1 := g1 (R q)
    clear g1 g2 g3 g4 g5
    unfold fs
    grind
  · have q1 := g1 q
    have q2 := g4 q
    have l2 := g1 (P q)
    clear g1 g2 g3 g4 g5
    unfold fs
    grind
  · rcases g5 with z | z
    · exact absurd sp (z.2 p)
    · clear g1 g2 g3 g4
      unfold fs
      grind
theorem PT.addR (h : PT S L R P rt lo hi) {x p : Nat} (hx : ¬ S x) (sp : S p) (hl : R p = 13) (h1 : p < x) (h2 : x < hi p) : PT (fun q => S q ∨ q = x) (fs L x 13) (fs (fs R p x) x 13) (fs P x p) rt (fs lo x (p + 1)) (fs hi x (hi p)) := by
  obtain ⟨g1, g2, g3, g4, g5⟩ := h
  have p1 := g1 p sp
  have p3 := g2 p sp
  have p4 := g4 p sp
  refine ⟨fun q hq => ?_, fun q hq => ?_, fun q hq => ?_, fun q hq => ?_, ?_⟩
  · have q1 := g1 q
    clear g1 g2 g3 g4 g5
    unfold fs
    grind
  · have q1 := g1 q
    have q2 := g2 q
    have l1 := g1 (L q)
    clear g1 g2 g3 g4 g5
    unfold fs
    grind
  · have q1 := g1 q
    have q2 := g3 q
    have l1 := g1 (R q)
    clear g1 g2 g3 g4 g5
    unfold fs
    grind
  · have q1 := g1 q
    have q2 := g4 q
    have l2 := g1 (P q)
    clear g1 g2 g3 g4 g5
    unfold fs
    grind
  · rcases g5 with z | z
    · exact absurd sp (z.2 p)
    · clear g1 g2 g3 g4
      unfold fs
      grind
theorem PT.delF (h : PT S L R P rt lo hi) {y : Nat} (sy : S y) (hl : L y = 13) (hr : R y = 13) (sd : S (P y)) : PT (fun k => S k ∧ k ≠ y) (fun k => if k = P y ∧ L (P y) = y then 13 else L k) (fun k => if k = P y ∧ L (P y) ≠ y then 13 else R k) P rt lo hi := by
  have rt5 := h.root sy
  obtain ⟨g1, g2, g3, g4, g5⟩ := h
  have y1 := g1 y sy
  have y4 := g4 y sy
  have d1 := g1 _ sd
  have d2 := g2 _ sd
  have d3 := g3 _ sd
  refine ⟨fun q hq => ?_, fun q hq => ?_, fun q hq => ?_, fun q hq => ?_, ?_⟩
  · exact g1 q hq.1
  · have q2 := g2 q hq.1
    clear g1 g2 g3 g4 g5
    grind
  · have q3 := g3 q hq.1
    clear g1 g2 g3 g4 g5
    grind
  · have q1 := g1 q hq.1
    have q4 := g4 q hq.1
    have l2 := g2 (P q)
    have l3 := g3 (P q)
    clear g1 g2 g3 g4 g5
    grind
  · clear g1 g2 g3 g4
    have : ¬ (∀ q, ¬ S q) := fun z => z y sy
    grind
theorem PT.delL (h : PT S L R P rt lo hi) {y : Nat} (sy : S y) (hl : L y ≠ 13) (hr : R y = 13) : PT (fun k => S k ∧ k ≠ y) (fun k => if k = P y ∧ L (P y) = y then L y else L k) (fun k => if k = P y ∧ L (P y) ≠ y then L y else R k) (fs P (L y) (P y)) (if P y = 13 then L y else rt) lo (fun k => if hi k = y then hi y else hi k) := by
  have rt5 := h.root sy
  obtain ⟨g1, g2, g3, g4, g5⟩ := h
  have y1 := g1 y sy
  have y2 := (g2 y sy).resolve_left hl
  have y4 := g4 y sy
  have d1 := g1 (P y)
  have d2 := g2 (P y)
  have d3 := g3 (P y)
  have c1 := g1 _ y2.1
  refine ⟨fun q hq => ?_, fun q hq => ?_, fun q hq => ?_, fun q hq => ?_, ?_⟩
  · have q1 := g1 q hq.1
    clear g1 g2 g3 g4 g5
    grind
  · have q1 := g1 q hq.1
    have q2 := g2 q hq.1
    clear g1 g2 g3 g4 g5
    unfold fs
    grind
  · have q1 := g1 q hq.1
    have q3 := g3 q hq.1
    clear g1 g2 g3 g4 g5
    unfold fs
    grind
  · have q1 := g1 q hq.1
    have q4 := g4 q hq.1
    have q2 := g2 (P q)
    have q3 := g3 (P q)
    clear g1 g2 g3 g4 g5
    unfold fs
    grind (splits := 25)
  · clear g1 g2 g3 g4 g5
    unfold fs
    grind
theorem PT.delR (h : PT S L R P rt lo hi) {y : Nat} (sy : S y) (hl : L y = 13) (hr : R y ≠ 13) : PT (fun k => S k ∧ k ≠ y) (fun k => if k = P y ∧ L (P y) = y then R y else L k) (fun k => if k = P y ∧ L (P y) ≠ y then R y else R k) (fs P (R y) (P y)) (if P y = 13 then R y else rt) (fun k => if lo k = y + 1 then lo y else lo k) hi := by
  have rt5 := h.root sy
  obtain ⟨g1, g2, g3, g4, g5⟩ := h
  have y1 := g1 y sy
  have y2 := (g3 y sy).resolve_left hr
  have y4 := g4 y sy
  have d1 := g1 (P y)
  have d2 := g2 (P y)
  have d3 := g3 (P y)
  have c1 := g1 _ y2.1
  refine ⟨fun q hq => ?_, fun q hq => ?_, fun q hq => ?_, fun q hq => ?_, ?_⟩
  · have q1 := g1 q hq.1
    clear g1 g2 g3 g4 g5
    grind
  · have q1 := g1 q hq.1
    have q2 := g2 q hq.1
    clear g1 g2 g3 g4 g5
    unfold fs
    grind
  · have q1 := g1 q hq.1
    have q3 := g3 q hq.1
    clear g1 g2 g3 g4 g5
    unfold fs
    grind
  · have q1 := g1 q hq.1
    have q4 := g4 q hq.1
    have q2 := g2 (P q)
    have q3 := g3 (P q)
    clear g1 g2 g3 g4 g5
    unfold fs
    grind (splits := 25)
  · clear g1 g2 g3 g4 g5
    unfold fs
    grind
theorem PT.hiS (h : PT S L R P rt lo hi) : ∀ (n q : Nat), 13 - (hi q - lo q) ≤ n → S q → hi q = 13 ∨ S (hi q)
  | n, q, hn, hq => by
    have q1 := h.rng hq
    rcases h.par hq with z | ⟨sp, hch⟩
    · exact Or.inl z.2.2.2
    · have u := h.up hq sp hch
      have p1 := h.rng sp
      have n13 := h.n13 hq
      cases n with
      | zero => omega
      | succ n =>
        have ih := h.hiS n (P q) (by omega) sp
        rcases hch with z | z
        · have w := h.lt sp (by rw [z]; exact n13)
          rw [z] at w
          rw [w.2.2.2]
          exact Or.inr sp
        · have w := h.rgt sp (by rw [z]; exact n13)
          rw [z] at w
          rw [w.2.2.2]
          exact ih
def ρn (q y x : Nat) : Nat := if x = q then y else x
theorem PT.ren (h : PT S L R P rt lo hi) {q y : Nat} (sq : S q) (hqy : q < y) (hy : y < 13) (hno : ∀ k, S k → q < k → y < k) : PT (fun k => k = y ∨ S k ∧ k ≠ q) (fun k => ρn q y (L (ρn y q k))) (fun k => ρn q y (R (ρn y q k))) (fun k => ρn q y (P (ρn y q k))) (ρn q y rt) (fun k => if lo (ρn y q k) = q + 1 then y + 1 else lo (ρn y q k)) (fun k => if hi (ρn y q k) = q then y else hi (ρn y q k)) := by
  have hhi := h.hiS 13 q (by omega) sq
  have q1 := h.rng sq
  have hq2 : y < hi q := by
    rcases hhi with z | z
    · omega
    · exact hno _ z q1.2.1
  have ny : ¬ S y := fun z => by have := hno y z hqy; omega
  have rt5 := h.root sq
  obtain ⟨g1, g2, g3, g4, g5⟩ := h
  have key : ∀ k, (k = y ∨ S k ∧ k ≠ q) → S (ρn y q k) ∧ ρn q y (ρn y q k) = k := by
    intro k hk
    unfold ρn
    grind
  have ho : ∀ z, S z → (ρn q y z = y ∨ S (ρn q y z) ∧ ρn q y z ≠ q) ∧ ρn y q (ρn q y z) = z := by
    intro z hz
    unfold ρn
    grind
  refine ⟨fun k hk => ?_, fun k hk => ?_, fun k hk => ?_, fun k hk => ?_, ?_⟩
  · obtain ⟨s0, s1⟩ := key k hk
    have k1 := g1 _ s0
    have k2 := hno _ s0
    have e1 : ρn y q k = if k = y then q else k := rfl
    show (if lo (ρn y q k) = q + 1 then y + 1 else lo (ρn y q k)) ≤ k ∧ k < (if hi (ρn y q k) = q then y else hi (ρn y q k)) ∧ (if hi (ρn y q k) = q then y else hi (ρn y q k)) ≤ 13
    clear g1 g2 g3 g4 g5 key ho
    generalize ρn y q k = z at *
    grind
  · obtain ⟨s0, s1⟩ := key k hk
    have k2 := g2 _ s0
    show ρn q y (L (ρn y q k)) = 13 ∨ _
    rcases k2 with z | ⟨z1, z2, z3, z4⟩
    · left
      rw [z]
      unfold ρn
      rw [if_neg (by omega)]
    · right
      obtain ⟨o1, o2⟩ := ho _ z1
      refine ⟨o1, ?_, ?_, ?_⟩
      · show ρn q y (P (ρn y q (ρn q y (L (ρn y q k))))) = k
        rw [o2, z2, s1]
      · show (if lo (ρn y q (ρn q y (L (ρn y q k)))) = q + 1 then _ else _) = _
        rw [o2, z3]
      · show (if hi (ρn y q (ρn q y (L (ρn y q k)))) = q then _ else hi (ρn y q (ρn q y (L (ρn y q k))))) = k
        rw [o2, z4]
        exact s1
  · obtain ⟨s0, s1⟩ := key k hk
    have k2 := g3 _ s0
    show ρn q y (R (ρn y q k)) = 13 ∨ _
    rcases k2 with z | ⟨z1, z2, z3, z4⟩
    · left
      rw [z]
      unfold ρn
      rw [if_neg (by omega)]
    · right
      obtain ⟨o1, o2⟩ := ho _ z1
      refine ⟨o1, ?_, ?_, ?_⟩
      · show ρn q y (P (ρn y q (ρn q y (R (ρn y q k))))) = k
        rw [o2, z2, s1]
      · show (if lo (ρn y q (ρn q y (R (ρn y q k)))) = q + 1 then y + 1 else lo (ρn y q (ρn q y (R (ρn y q k))))) = k + 1
        rw [o2, z3, ← s1]
        rw [s1]
        have e1 : ρn q y (ρn y q k) = if ρn y q k = q then y else ρn y q k := rfl
        rw [s1] at e1
        clear g1 g2 g3 g4 g5 key ho
        generalize ρn y q k = z at *
        grind
      · show (if hi (ρn y q (ρn q y (R (ρn y q k)))) = q then _ else _) = _
        rw [o2, z4]
  · obtain ⟨s0, s1⟩ := key k hk
    have k2 := g4 _ s0
    show ρn q y (P (ρn y q k)) = 13 ∧ _ ∨ _
    rcases k2 with ⟨z1, z2, z3, z4⟩ | ⟨z1, z2⟩
    · left
      refine ⟨?_, ?_, ?_, ?_⟩
      · rw [z1]
        unfold ρn
        rw [if_neg (by omega)]
      · rw [z2, s1]
      · show (if lo (ρn y q k) = q + 1 then _ else lo (ρn y q k)) = 0
        rw [z3, if_neg (by omega)]
      · show (if hi (ρn y q k) = q then _ else hi (ρn y q k)) = 13
        rw [z4, if_neg (by omega)]
    · right
      obtain ⟨o1, o2⟩ := ho _ z1
      refine ⟨o1, ?_⟩
      show ρn q y (L (ρn y q (ρn q y (P (ρn y q k))))) = k ∨ ρn q y (R (ρn y q (ρn q y (P (ρn y q k))))) = k
      rw [o2]
      exact z2.imp (fun w => by rw [w, s1]) (fun w => by rw [w, s1])
  · right
    obtain ⟨o1, o2⟩ := ho _ rt5.1
    refine ⟨o1, ?_⟩
    show ρn q y (P (ρn y q (ρn q y rt))) = 13
    rw [o2, rt5.2.1]
    unfold ρn
    rw [if_neg (by omega)]
end
