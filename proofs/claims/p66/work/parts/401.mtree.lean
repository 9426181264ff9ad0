/-! a TreeMap's cells: the entry at each place, its links; what a change of links and colours leaves as it was -/
def MT (M : kMem) (tm : Nat) (e : Nat → Nat) (S : Nat → Prop) (L R P : Nat → Nat) (rt : Nat) : Prop :=
  e 13 = 0 ∧ (∀ q, S q → e q ≠ 0 ∧ kt M (e q) 35 = true ∧ (kI M (e q) 5 = 0 ∨ kI M (e q) 5 = 1) ∧ kR M (e q) 2 = e (L q) ∧ kR M (e q) 3 = e (R q) ∧ kR M (e q) 4 = e (P q)) ∧
  (∀ q q', S q → S q' → e q = e q' → q = q') ∧ kt M tm 34 = true ∧ kR M tm 3 = e rt
def FT (tm : Nat) (e : Nat → Nat) (S : Nat → Prop) (M M' : kMem) : Prop :=
  M'.1 = M.1 ∧ M'.2.2.2 = M.2.2.2 ∧ (∀ x j, (∀ q, S q → x ≠ e q) → (x ≠ tm ∨ j ≠ 3) → kR M' x j = kR M x j) ∧ (∀ q, S q → ∀ j, j ≤ 1 → kR M' (e q) j = kR M (e q) j) ∧
  (∀ x j, (∀ q, S q → x ≠ e q) → kI M' x j = kI M x j) ∧ (∀ q, S q → ∀ j, j ≠ 5 → kI M' (e q) j = kI M (e q) j)
section
variable {N : Nat} {M M1 M2 : kMem} {tm a b c d x j i : Nat} {v : Nat} {w : Int32} {e L R P : Nat → Nat} {S : Nat → Prop} {rt : Nat} {lo hi : Nat → Nat}
theorem z_RR : kR (ksR M a j v) x i = if x = a ∧ i = j then v else kR M x i := rfl
theorem z_RI : kR (ksI M a j w) x i = kR M x i := rfl
theorem z_II : kI (ksI M a j w) x i = if x = a ∧ i = j then w else kI M x i := rfl
theorem z_IR : kI (ksR M a j v) x i = kI M x i := rfl
theorem z_tR : kt (ksR M a j v) x i = kt M x i := rfl
theorem z_tI : kt (ksI M a j w) x i = kt M x i := rfl
theorem z_nR : kn (ksR M a j v) x = kn M x := rfl
theorem z_nI : kn (ksI M a j w) x = kn M x := rfl
theorem kt_cg {M M' : kMem} (h : M'.1 = M.1) (x t : Nat) : kt M' x t = kt M x t := by unfold kt kcell; rw [h]
theorem kn_cg {M M' : kMem} (h : M'.1 = M.1) (x : Nat) : kn M' x = kn M x := by unfold kn kcell; rw [h]
theorem kt_ne {x y s t : Nat} (h : kt M x s = true) (h2 : kt M y t = true) (hne : s ≠ t) : x ≠ y := by
  intro e
  subst e
  unfold kt at h h2
  rw [beq_iff_eq] at h h2
  rw [h] at h2
  exact hne (Option.some.inj h2)
theorem FT.rf' : FT tm e S M M := ⟨rfl, rfl, fun _ _ _ _ => rfl, fun _ _ _ _ => rfl, fun _ _ _ => rfl, fun _ _ _ _ => rfl⟩
theorem FT.trans (h : FT tm e S M M1) (h2 : FT tm e S M1 M2) : FT tm e S M M2 :=
  ⟨h2.1.trans h.1, h2.2.1.trans h.2.1, fun x j h3 h4 => (h2.2.2.1 x j h3 h4).trans (h.2.2.1 x j h3 h4), fun q hq j hj => (h2.2.2.2.1 q hq j hj).trans (h.2.2.2.1 q hq j hj), fun x j h3 => (h2.2.2.2.2.1 x j h3).trans (h.2.2.2.2.1 x j h3), fun q hq j hj => (h2.2.2.2.2.2 q hq j hj).trans (h.2.2.2.2.2 q hq j hj)⟩
theorem MT.tn (h : MT M tm e S L R P rt) {q : Nat} (hq : S q) : e q ≠ tm := kt_ne (h.2.1 q hq).2.1 h.2.2.2.1 (by decide)
theorem MT.inj (h : MT M tm e S L R P rt) {q p : Nat} (hq : S q) (hp : S p) : (e q = e p) = (q = p) := propext ⟨h.2.2.1 q p hq hp, fun z => by rw [z]⟩
theorem MT.nz (h : MT M tm e S L R P rt) {q : Nat} (hq : S q) : e q ≠ 0 := (h.2.1 q hq).1
theorem MT.k (h : MT M tm e S L R P rt) {q : Nat} (hq : S q) : kt M (e q) 35 = true := (h.2.1 q hq).2.1
theorem MT.l (h : MT M tm e S L R P rt) {q : Nat} (hq : S q) : kR M (e q) 2 = e (L q) := (h.2.1 q hq).2.2.2.1
theorem MT.r (h : MT M tm e S L R P rt) {q : Nat} (hq : S q) : kR M (e q) 3 = e (R q) := (h.2.1 q hq).2.2.2.2.1
theorem MT.p (h : MT M tm e S L R P rt) {q : Nat} (hq : S q) : kR M (e q) 4 = e (P q) := (h.2.1 q hq).2.2.2.2.2
theorem MT.co (h : MT M tm e S L R P rt) {q : Nat} (hq : S q) : kI M (e q) 5 = 0 ∨ kI M (e q) 5 = 1 := (h.2.1 q hq).2.2.1
theorem MT.col (h : MT M tm e S L R P rt) {q : Nat} (hq : S q) (hw : w = 0 ∨ w = 1) : MT (ksI M (e q) 5 w) tm e S L R P rt ∧ FT tm e S M (ksI M (e q) 5 w) := by
  obtain ⟨h1, h2, h3, h4, h5⟩ := h
  refine ⟨⟨h1, fun p hp => ?_, h3, h4, h5⟩, rfl, rfl, fun _ _ _ _ => rfl, fun _ _ _ _ => rfl, fun x j hx => ?_, fun p hp j hj => ?_⟩
  · obtain ⟨g1, g2, g3, g4⟩ := h2 p hp
    refine ⟨g1, g2, ?_, g4⟩
    rw [z_II]
    split
    · exact hw
    · exact g3
  · rw [z_II, if_neg (fun z => hx q hq z.1)]
  · rw [z_II, if_neg (fun z => hj z.2)]
theorem MT.ft (h : MT M tm e S L R P rt) {M' : kMem} (h1 : M'.1 = M.1) (h2 : M'.2.2.2 = M.2.2.2) (h3 : M'.2.1 = M.2.1) (h4 : ∀ x j, (∀ q, S q → x ≠ e q) → (x ≠ tm ∨ j ≠ 3) → kR M' x j = kR M x j) (h5 : ∀ q, S q → ∀ j, j ≤ 1 → kR M' (e q) j = kR M (e q) j) : FT tm e S M M' :=
  ⟨h1, h2, h4, h5, fun x j _ => by unfold kI; rw [h3], fun q _ j _ => by unfold kI; rw [h3]⟩
end
