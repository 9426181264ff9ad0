/-! the law's own market over a row: its cells. A: market, lists of boards and traders, their rows, boards, traders, maps; E: the entry of each board's place -/
abbrev kA : Type := (Nat × Nat × Nat × Nat × Nat) × (Nat → Nat) × (Nat → Nat) × (Nat → Nat)
def aH (A : kA) : Nat := A.1.1
def aHB (A : kA) : Nat := A.1.2.1
def aHT (A : kA) : Nat := A.1.2.2.1
def aEB (A : kA) : Nat := A.1.2.2.2.1
def aET (A : kA) : Nat := A.1.2.2.2.2
def aB (A : kA) (b : Nat) : Nat := A.2.1 b
def aT (A : kA) (t : Nat) : Nat := A.2.2.1 t
def aM (A : kA) (b : Nat) : Nat := A.2.2.2 b
def Lg (M : kMem) (A : kA) (r : Nat → Int32) : Prop := (kt M (aH A) 30 = true ∧ kR M (aH A) 0 = aHB A ∧ kR M (aH A) 1 = aHT A) ∧ kI M (aH A) 2 = r 0 ∧ kI M (aH A) 3 = r 1 ∧ kI M (aH A) 4 = r 2 ∧ kI M (aH A) 5 = r 3 ∧ kI M (aH A) 6 = r 4 ∧ kI M (aH A) 7 = r 5 ∧ kI M (aH A) 8 = r 6 ∧ kI M (aH A) 9 = r 10 ∧ kI M (aH A) 10 = r 11 ∧ kI M (aH A) 11 = r 12
def Ll (M : kMem) (l a : Nat) (f : Nat → Nat) (n : Nat) : Prop := kt M l 33 = true ∧ kR M l 1 = a ∧ kI M l 2 = nI n ∧ kt M a 21 = true ∧ n ≤ kn M a ∧ kn M a = 10 ∧ ∀ k, k < n → kR M a k = f k
def Lb (M : kMem) (A : kA) (E : Nat → Nat → Nat) (r : Nat → Int32) (nb : Nat) : Prop := ∀ b, b < nb → (kt M (aB A b) 31 = true ∧ kI M (aB A b) 0 = nI b ∧ kI M (aB A b) 1 = r (14 + 15 * b + 0) ∧ kI M (aB A b) 2 = r (14 + 15 * b + 1) ∧ kI M (aB A b) 3 = r (14 + 15 * b + 2) ∧ kR M (aB A b) 4 = aM A b) ∧ TM M (aM A b) (E b)
def Lt (M : kMem) (A : kA) (r : Nat → Int32) (nt : Nat) : Prop := ∀ t, t < nt → (kt M (aT A t) 32 = true ∧ kI M (aT A t) 0 = nI t ∧ kI M (aT A t) 1 = r (89 + 7 * t + 1) ∧ kI M (aT A t) 2 = r (89 + 7 * t + 2) ∧ kI M (aT A t) 3 = r (89 + 7 * t + 3) ∧ kI M (aT A t) 5 = r (89 + 7 * t + 4) ∧ kI M (aT A t) 4 = r (89 + 7 * t + 6)) ∧ (r (89 + 7 * t + 5) = -1 → kR M (aT A t) 6 = 0) ∧ ∀ b, b < 5 → r (89 + 7 * t + 5) = nI b → kR M (aT A t) 6 = aB A b
def Lc (M : kMem) (A : kA) (E : Nat → Nat → Nat) (r : Nat → Int32) (nb nt : Nat) : Prop := ∀ b, b < nb → E b 6 = 0 ∧ ∀ q, q < 13 → q ≠ 6 → (r (si b q) = 0 → E b q = 0) ∧ ∀ t, t < nt → r (si b q) = nI (t + 1) → E b q ≠ 0 ∧ kR M (E b q) 1 = aT A t
def Li (A : kA) (E : Nat → Nat → Nat) (nb : Nat) : Prop := (∀ b b', b < nb → b' < nb → aM A b = aM A b' → b = b') ∧ ∀ b b' q q', b < nb → b' < nb → E b q ≠ 0 → E b q = E b' q' → b = b' ∧ q = q'
def LW (M : kMem) (A : kA) (E : Nat → Nat → Nat) (r : Nat → Int32) (nb nt : Nat) : Prop := Lg M A r ∧ (Ll M (aHB A) (aEB A) (aB A) nb ∧ Ll M (aHT A) (aET A) (aT A) nt) ∧ Lb M A E r nb ∧ Lt M A r nt ∧ Lc M A E r nb nt ∧ Li A E nb
/-- what a step of the law leaves: the cells that are no market's of its own, and what is there already -/
def Op (M M' : kMem) (k : Nat) : Prop := (∃ l, M'.1 = M.1 ++ l ∧ (l.map (fun c => c.2 + 1)).sum ≤ k) ∧ ∀ a j, (a = 0 ∨ ∃ s, kt M a s = true ∧ (s < 30 ∨ 39 ≤ s)) → kI M' a j = kI M a j ∧ kR M' a j = kR M a j
section
variable {N : Nat} {M M' M1 M2 : kMem} {a s i j k k2 nb nt : Nat} {A : kA} {E : Nat → Nat → Nat} {r r' : Nat → Int32}
theorem LW.g (h : LW M A E r nb nt) : Lg M A r := h.1
theorem LW.lb (h : LW M A E r nb nt) : Ll M (aHB A) (aEB A) (aB A) nb := h.2.1.1
theorem LW.lt (h : LW M A E r nb nt) : Ll M (aHT A) (aET A) (aT A) nt := h.2.1.2
theorem LW.b (h : LW M A E r nb nt) : Lb M A E r nb := h.2.2.1
theorem LW.t (h : LW M A E r nb nt) : Lt M A r nt := h.2.2.2.1
theorem LW.c (h : LW M A E r nb nt) : Lc M A E r nb nt := h.2.2.2.2.1
theorem LW.ij (h : LW M A E r nb nt) : Li A E nb := h.2.2.2.2.2
theorem LW.hk (h : LW M A E r nb nt) : kt M (aH A) 30 = true := h.1.1.1
theorem LW.bk (h : LW M A E r nb nt) {b : Nat} (hb : b < nb) : kt M (aB A b) 31 = true := (h.b b hb).1.1
theorem LW.tk (h : LW M A E r nb nt) {t : Nat} (ht : t < nt) : kt M (aT A t) 32 = true := (h.t t ht).1.1
theorem LW.tm (h : LW M A E r nb nt) {b : Nat} (hb : b < nb) : TM M (aM A b) (E b) := (h.b b hb).2
theorem LW.tinj (h : LW M A E r nb nt) (h24 : nt ≤ 24) {t u : Nat} (ht : t < nt) (hu : u < nt) (e : aT A t = aT A u) : t = u := by
  have h1 := (h.t t ht).1.2.1
  have h2 := (h.t u hu).1.2.1
  rw [e, h2] at h1
  exact ((nI_eq (by omega) (by omega)).mp h1).symm
theorem LW.binj (h : LW M A E r nb nt) (h5 : nb ≤ 5) {t u : Nat} (ht : t < nb) (hu : u < nb) (e : aB A t = aB A u) : t = u := by
  have h1 := (h.b t ht).1.2.1
  have h2 := (h.b u hu).1.2.1
  rw [e, h2] at h1
  exact ((nI_eq (by omega) (by omega)).mp h1).symm
theorem Op.rf' : Op M M 0 := ⟨⟨[], by simp, by simp⟩, fun _ _ _ => ⟨rfl, rfl⟩⟩
theorem Op.le (h : Op M M' k) (hk : k ≤ k2) : Op M M' k2 := by
  obtain ⟨⟨l, hl, hs⟩, h2⟩ := h
  exact ⟨⟨l, hl, by omega⟩, h2⟩
theorem Op.trans (h : Op M M1 k) (h2 : Op M1 M2 k2) : Op M M2 (k + k2) := by
  obtain ⟨⟨l, hl, hs⟩, h3⟩ := h
  obtain ⟨⟨l2, hl2, hs2⟩, g3⟩ := h2
  refine ⟨⟨l ++ l2, by rw [hl2, hl, List.append_assoc], by rw [List.map_append, List.sum_append]; omega⟩, fun a j ha => ?_⟩
  obtain ⟨e1, e2⟩ := h3 a j ha
  obtain ⟨e3, e4⟩ := g3 a j (ha.imp id (fun ⟨s, z1, z2⟩ => ⟨s, kt_pre hl z1, z2⟩))
  exact ⟨e3.trans e1, e4.trans e2⟩
theorem Op.tg (h : Op M M' k) (ha : kt M a s = true) : kt M' a s = true := by
  obtain ⟨⟨l, hl, -⟩, -⟩ := h
  exact kt_pre hl ha
theorem Gr.op (h : Gr M M' k) : Op M M' k := by
  refine ⟨h.1, fun a j ha => ?_⟩
  have hle : a ≤ M.1.length := by
    rcases ha with z | ⟨s, z, -⟩
    · omega
    · exact (kt_le z).2
  refine ⟨h.2.1 a j hle, ?_⟩
  rcases h.2.2.1 a j hle with y | y
  · exfalso
    rcases ha with z | ⟨s, z1, z2⟩
    · subst z
      exact absurd (kt_le y.1).1 (by omega)
    · by_cases w : s = 34
      · omega
      · exact kt_ne z1 y.1 w rfl
  · exact y
theorem Op.sI {v : Int32} (ha : kt M a s = true) (hs : 30 ≤ s ∧ s < 39) : Op M (ksI M a j v) 0 := by
  refine ⟨⟨[], by show M.1 = M.1 ++ []; simp, by simp⟩, fun x i hx => ⟨?_, rfl⟩⟩
  rw [z_II, if_neg]
  rintro ⟨z, -⟩
  subst z
  rcases hx with y | ⟨u, y1, y2⟩
  · have := (kt_le ha).1; omega
  · by_cases w : u = s
    · omega
    · exact kt_ne y1 ha w rfl
theorem Op.sR {v : Nat} (ha : kt M a s = true) (hs : 30 ≤ s ∧ s < 39) : Op M (ksR M a j v) 0 := by
  refine ⟨⟨[], by show M.1 = M.1 ++ []; simp, by simp⟩, fun x i hx => ⟨rfl, ?_⟩⟩
  rw [z_RR, if_neg]
  rintro ⟨z, -⟩
  subst z
  rcases hx with y | ⟨u, y1, y2⟩
  · have := (kt_le ha).1; omega
  · by_cases w : u = s
    · omega
    · exact kt_ne y1 ha w rfl
theorem TM.mem (h : TM M a (E i)) (hk : ∀ x s, kt M x s = true → kt M' x s = true) (hI : ∀ q, E i q ≠ 0 → kI M' (E i q) 0 = kI M (E i q) 0 ∧ kI M' (E i q) 5 = kI M (E i q) 5) (hR : ∀ q, E i q ≠ 0 → ∀ j, kR M' (E i q) j = kR M (E i q) j) (ht : ∀ j, kR M' a j = kR M a j) (h36 : ∀ x, kt M x 36 = true → kR M' x 0 = kR M x 0) : TM M' a (E i) := by
  refine ⟨(ht 2).trans h.1, h.2.1.fm hk (ht 1) h36, fun q hq => ?_, h.2.2.2.mem hk (fun q hq => (hI q hq).2) (fun q hq j _ _ => hR q hq j) (ht 3)⟩
  rw [(hI q hq).1, hR q hq 0]
  exact h.2.2.1 q hq
/-- a step after which the market's own cells hold what they held -/
theorem LW.keep (h : LW M A E r nb nt) (hc : ∃ l, M'.1 = M.1 ++ l) (hI : ∀ a j s, kt M a s = true → (30 ≤ s ∧ s ≤ 33 ∨ s = 35) → kI M' a j = kI M a j) (hR : ∀ a j s, kt M a s = true → (30 ≤ s ∧ s ≤ 33 ∨ s = 35 ∨ s = 21 ∨ s = 36 ∨ s = 34 ∧ j ≠ 1) → kR M' a j = kR M a j) (hV : ∀ tm, kt M tm 34 = true → VC M tm → VC M' tm) : LW M' A E r nb nt := by
  obtain ⟨l, hc⟩ := hc
  have hk : ∀ x s, kt M x s = true → kt M' x s = true := fun x s z => kt_pre hc z
  have hn : ∀ x s, kt M x s = true → kn M' x = kn M x := fun x s z => by
    have := kt_le z
    unfold kn
    rw [kcell_pre hc this.1 this.2]
  obtain ⟨⟨g1, g2, g3⟩, g4, g5, g6, g7, g8, g9, g10, g11, g12, g13⟩ := h.g
  have hH : ∀ j, kI M' (aH A) j = kI M (aH A) j := fun j => hI _ j 30 g1 (by omega)
  refine ⟨⟨⟨hk _ _ g1, (hR _ _ 30 g1 (by omega)).trans g2, (hR _ _ 30 g1 (by omega)).trans g3⟩, (hH _).trans g4, (hH _).trans g5, (hH _).trans g6, (hH _).trans g7, (hH _).trans g8, (hH _).trans g9, (hH _).trans g10, (hH _).trans g11, (hH _).trans g12, (hH _).trans g13⟩, ⟨?_, ?_⟩, fun b hb => ?_, fun t ht => ?_, fun b hb => ?_, h.ij⟩
  · obtain ⟨l1, l2, l3, l4, l5, l6, l7⟩ := h.lb
    exact ⟨hk _ _ l1, (hR _ _ 33 l1 (by omega)).trans l2, (hI _ _ 33 l1 (by omega)).trans l3, hk _ _ l4, by rw [hn _ _ l4]; exact l5, by rw [hn _ _ l4]; exact l6, fun k hk2 => (hR _ _ 21 l4 (by omega)).trans (l7 k hk2)⟩
  · obtain ⟨l1, l2, l3, l4, l5, l6, l7⟩ := h.lt
    exact ⟨hk _ _ l1, (hR _ _ 33 l1 (by omega)).trans l2, (hI _ _ 33 l1 (by omega)).trans l3, hk _ _ l4, by rw [hn _ _ l4]; exact l5, by rw [hn _ _ l4]; exact l6, fun k hk2 => (hR _ _ 21 l4 (by omega)).trans (l7 k hk2)⟩
  · obtain ⟨⟨b1, b2, b3, b4, b5, b6⟩, b7⟩ := h.b b hb
    have hB : ∀ j, kI M' (aB A b) j = kI M (aB A b) j := fun j => hI _ j 31 b1 (by omega)
    refine ⟨⟨hk _ _ b1, (hB _).trans b2, (hB _).trans b3, (hB _).trans b4, (hB _).trans b5, (hR _ _ 31 b1 (by omega)).trans b6⟩, ?_⟩
    refine ⟨(hR _ 2 34 b7.k (by omega)).trans b7.1, hV _ b7.k b7.2.1, fun q hq => ?_, b7.2.2.2.mem hk (fun q hq => hI _ _ 35 (b7.ke hq) (by omega)) (fun q hq j _ _ => hR _ _ 35 (b7.ke hq) (by omega)) (hR _ 3 34 b7.k (by omega))⟩
    rw [hI _ _ 35 (b7.ke hq) (by omega), hR _ _ 35 (b7.ke hq) (by omega)]
    exact b7.2.2.1 q hq
  · obtain ⟨⟨t1, t2, t3, t4, t5, t6, t7⟩, t8, t9⟩ := h.t t ht
    have hT : ∀ j, kI M' (aT A t) j = kI M (aT A t) j := fun j => hI _ j 32 t1 (by omega)
    exact ⟨⟨hk _ _ t1, (hT _).trans t2, (hT _).trans t3, (hT _).trans t4, (hT _).trans t5, (hT _).trans t6, (hT _).trans t7⟩, fun z => (hR _ _ 32 t1 (by omega)).trans (t8 z), fun b hb z => (hR _ _ 32 t1 (by omega)).trans (t9 b hb z)⟩
  · obtain ⟨c1, c2⟩ := h.c b hb
    refine ⟨c1, fun q hq h6 => ⟨(c2 q hq h6).1, fun t ht z => ?_⟩⟩
    obtain ⟨d1, d2⟩ := (c2 q hq h6).2 t ht z
    exact ⟨d1, (hR _ _ 35 ((h.tm hb).ke d1) (by omega)).trans d2⟩
theorem LW.gr (h : LW M A E r nb nt) (g : Gr M M' k) : LW M' A E r nb nt := by
  refine h.keep ?_ (fun a j s z _ => g.gi z j) (fun a j s z y => g.gr z (by omega)) g.2.2.2
  obtain ⟨⟨l, hl, -⟩, -⟩ := g
  exact ⟨l, hl⟩
theorem LW.cg (h : LW M A E r nb nt) (e1 : ∀ k, k ∈ [0, 1, 2, 3, 4, 5, 6, 10, 11, 12] → r' k = r k) (e2 : ∀ b, b < nb → ∀ w, w < 3 → r' (14 + 15 * b + w) = r (14 + 15 * b + w)) (e3 : ∀ b, b < nb → ∀ q, q < 13 → q ≠ 6 → r' (si b q) = r (si b q)) (e4 : ∀ t, t < nt → ∀ w, 1 ≤ w → w < 7 → r' (89 + 7 * t + w) = r (89 + 7 * t + w)) : LW M A E r' nb nt := by
  obtain ⟨⟨g0, g4, g5, g6, g7, g8, g9, g10, g11, g12, g13⟩, hl, hb, ht, hc, hi⟩ := h
  refine ⟨⟨g0, ?_, ?_, ?_, ?_, ?_, ?_, ?_, ?_, ?_, ?_⟩, hl, fun b hb2 => ?_, fun t ht2 => ?_, fun b hb2 => ?_, hi⟩
  · rw [e1 0 (by decide)]; exact g4
  · rw [e1 1 (by decide)]; exact g5
  · rw [e1 2 (by decide)]; exact g6
  · rw [e1 3 (by decide)]; exact g7
  · rw [e1 4 (by decide)]; exact g8
  · rw [e1 5 (by decide)]; exact g9
  · rw [e1 6 (by decide)]; exact g10
  · rw [e1 10 (by decide)]; exact g11
  · rw [e1 11 (by decide)]; exact g12
  · rw [e1 12 (by decide)]; exact g13
  · have h0 := e2 b hb2 0 (by decide)
    have h1 := e2 b hb2 1 (by decide)
    have h2 := e2 b hb2 2 (by decide)
    rw [h0, h1, h2]
    exact hb b hb2
  · rw [e4 t ht2 1 (by omega) (by omega), e4 t ht2 2 (by omega) (by omega), e4 t ht2 3 (by omega) (by omega), e4 t ht2 4 (by omega) (by omega), e4 t ht2 5 (by omega) (by omega), e4 t ht2 6 (by omega) (by omega)]
    exact ht t ht2
  · refine ⟨(hc b hb2).1, fun q hq h6 => ?_⟩
    rw [e3 b hb2 q hq h6]
    exact (hc b hb2).2 q hq h6
end
