/-! a TreeMap whose keys are places 0..12 (as -6..6): what put, remove, get do to it; e: the entry's cell at each place, 0: none -/
def VC (M : kMem) (tm : Nat) : Prop := kR M tm 1 = 0 ∨ kt M (kR M tm 1) 36 = true ∧ kR M (kR M tm 1) 0 = tm
abbrev NZ (e : Nat → Nat) : Nat → Prop := fun q => e q ≠ 0
def TM (M : kMem) (tm : Nat) (e : Nat → Nat) : Prop := kR M tm 2 = 0 ∧ VC M tm ∧ KY M e (NZ e) id ∧ TT M tm e (NZ e)
/-- what stays: all but the map's own cell and its entries -/
def FM (tm : Nat) (e : Nat → Nat) (M M' : kMem) : Prop := (∀ a j, a ≤ M.1.length → a ≠ tm → (∀ q, e q ≠ 0 → a ≠ e q) → kI M' a j = kI M a j ∧ kR M' a j = kR M a j) ∧ ∀ j, j ≠ 3 → kR M' tm j = kR M tm j
section
variable {N : Nat} {M M' : kMem} {tm a s t n i j : Nat} {e e' L R P : Nat → Nat} {S S' : Nat → Prop} {rt : Nat} {lo hi : Nat → Nat}
theorem z_RN : kR (kNew M t n) a j = if a = M.1.length + 1 then 0 else kR M a j := rfl
theorem z_IN : kI (kNew M t n) a j = if a = M.1.length + 1 then 0 else kI M a j := rfl
theorem kt_le (h : kt M a s = true) : 1 ≤ a ∧ a ≤ M.1.length := by
  unfold kt at h
  rw [beq_iff_eq] at h
  cases a with
  | zero => cases h
  | succ k =>
    refine ⟨by omega, ?_⟩
    have h2 : ((M.1[k]?).map Prod.fst) = some s := h
    cases hk : M.1[k]? with
    | none => rw [hk] at h2; cases h2
    | some x =>
      have := (List.getElem?_eq_some_iff.mp hk).1
      omega
theorem kcell_pre {l : List (Nat × Nat)} (hM : M'.1 = M.1 ++ l) (h1 : 1 ≤ a) (h2 : a ≤ M.1.length) : kcell M' a = kcell M a := by
  cases a with
  | zero => omega
  | succ k =>
    show M'.1[k]? = M.1[k]?
    rw [hM, List.getElem?_append_left (by omega)]
theorem kt_pre {l : List (Nat × Nat)} (hM : M'.1 = M.1 ++ l) (h : kt M a s = true) : kt M' a s = true := by
  have := kt_le h
  unfold kt at h ⊢
  rw [kcell_pre hM this.1 this.2]
  exact h
theorem kt_preF {l : List (Nat × Nat)} (hM : M'.1 = M.1 ++ l) (h2 : a ≤ M.1.length) : kt M' a s = kt M a s := by
  cases a with
  | zero => rfl
  | succ k =>
    unfold kt
    rw [kcell_pre hM (by omega) h2]
theorem kt_newW : kt (kNew M t n) (M.1.length + 1) t = true := by
  unfold kt kcell kNew
  simp
theorem kt_newO (h : kt M a s = true) : kt (kNew M t n) a s = true := kt_pre (l := [(t, n)]) rfl h
theorem TT.cg (h : TT M tm e S) (hs : ∀ q, S' q ↔ S q) (he : ∀ q, S q → e' q = e q) (h13 : e' 13 = 0) : TT M tm e' S' := by
  obtain ⟨L, R, P, rt, lo, hi, hm, hp⟩ := h
  have hS : S' = S := funext fun q => propext (hs q)
  subst hS
  have ee : ∀ q, (q = 13 ∨ S' q) → e' q = e q := fun q hq => hq.elim (fun z => by rw [z, h13, hm.1]) (he q)
  refine ⟨L, R, P, rt, lo, hi, ⟨h13, fun q hq => ?_, fun q p hq hpp z => hm.2.2.1 q p hq hpp (by rw [← he q hq, ← he p hpp]; exact z), hm.2.2.2.1, ?_⟩, hp⟩
  · obtain ⟨g1, g2, g3, g4, g5, g6⟩ := hm.2.1 q hq
    rw [he q hq]
    refine ⟨g1, g2, g3, ?_, ?_, ?_⟩
    · rw [g4, ee _ ((hp.2.1 q hq).imp id (fun z => z.1))]
    · rw [g5, ee _ ((hp.2.2.1 q hq).imp id (fun z => z.1))]
    · rw [g6, ee _ ((hp.2.2.2.1 q hq).imp (fun z => z.1) (fun z => z.1))]
  · rw [hm.2.2.2.2, ee _ (hp.2.2.2.2.imp (fun z => z.1) (fun z => z.1))]
theorem TT.mem (h : TT M tm e S) (h1 : ∀ a s, kt M a s = true → kt M' a s = true) (hI : ∀ q, S q → kI M' (e q) 5 = kI M (e q) 5) (hR : ∀ q, S q → ∀ j, 2 ≤ j → j ≤ 4 → kR M' (e q) j = kR M (e q) j) (ht : kR M' tm 3 = kR M tm 3) : TT M' tm e S := by
  obtain ⟨L, R, P, rt, lo, hi, hm, hp⟩ := h
  refine ⟨L, R, P, rt, lo, hi, ⟨hm.1, fun q hq => ?_, hm.2.2.1, h1 _ _ hm.2.2.2.1, ht.trans hm.2.2.2.2⟩, hp⟩
  obtain ⟨g1, g2, g3, g4, g5, g6⟩ := hm.2.1 q hq
  refine ⟨g1, h1 _ _ g2, ?_, ?_, ?_, ?_⟩
  · rw [hI q hq]; exact g3
  · rw [hR q hq 2 (by omega) (by omega)]; exact g4
  · rw [hR q hq 3 (by omega) (by omega)]; exact g5
  · rw [hR q hq 4 (by omega) (by omega)]; exact g6
theorem TT.ren (h : TT M tm e S) {q y : Nat} (sq : S q) (hqy : q < y) (hy : y < 13) (hno : ∀ k, S k → q < k → y < k) : TT M tm (fun k => if k = y then e q else if k = q then 0 else e k) (fun k => k = y ∨ S k ∧ k ≠ q) := by
  obtain ⟨L, R, P, rt, lo, hi, hm, hp⟩ := h
  have ny : ¬ S y := fun z => by have := hno y z hqy; omega
  have q1 := hp.rng sq
  have ee : ∀ z, (z = 13 ∨ S z) → (if ρn q y z = y then e q else if ρn q y z = q then 0 else e (ρn q y z)) = e z := by
    intro z hz
    have zy : z ≠ y := fun w => hz.elim (fun v => by omega) (fun v => ny (w ▸ v))
    unfold ρn
    by_cases w : z = q
    · rw [if_pos w, if_pos rfl, w]
    · rw [if_neg w, if_neg zy, if_neg w]
  have ek : ∀ k, (k = y ∨ S k ∧ k ≠ q) → S (ρn y q k) ∧ (if k = y then e q else if k = q then 0 else e k) = e (ρn y q k) := by
    intro k hk
    unfold ρn
    by_cases w : k = y
    · rw [if_pos w, if_pos w]
      exact ⟨sq, rfl⟩
    · have hk2 := hk.resolve_left w
      rw [if_neg w, if_neg w, if_neg hk2.2]
      exact ⟨hk2.1, rfl⟩
  refine ⟨_, _, _, _, _, _, ⟨?_, fun k hk => ?_, fun k p hk hpp z => ?_, hm.2.2.2.1, ?_⟩, hp.ren sq hqy hy hno⟩
  · show (if (13 : Nat) = y then e q else if (13 : Nat) = q then 0 else e 13) = 0
    rw [if_neg (by omega), if_neg (by omega)]
    exact hm.1
  · obtain ⟨s0, e0⟩ := ek k hk
    obtain ⟨g1, g2, g3, g4, g5, g6⟩ := hm.2.1 _ s0
    show (if k = y then e q else if k = q then 0 else e k) ≠ 0 ∧ _
    simp only [e0]
    refine ⟨g1, g2, g3, ?_, ?_, ?_⟩
    · rw [g4, ee _ ((hp.2.1 _ s0).imp id (fun z => z.1))]
    · rw [g5, ee _ ((hp.2.2.1 _ s0).imp id (fun z => z.1))]
    · rw [g6, ee _ ((hp.2.2.2.1 _ s0).imp (fun z => z.1) (fun z => z.1))]
  · obtain ⟨s0, e0⟩ := ek k hk
    obtain ⟨s1, e1⟩ := ek p hpp
    have z2 : (if k = y then e q else if k = q then 0 else e k) = (if p = y then e q else if p = q then 0 else e p) := z
    rw [e0, e1] at z2
    have z3 := hm.2.2.1 _ _ s0 s1 z2
    unfold ρn at z3
    have hk' : k = y ∨ k ≠ y ∧ k ≠ q := by omega
    grind
  · exact hm.2.2.2.2.trans (ee _ (hp.2.2.2.2.imp (fun z => z.1) (fun z => z.1))).symm
theorem TM.lt13 (h : TM M tm e) {q : Nat} (hq : e q ≠ 0) : q < 13 := by
  obtain ⟨-, -, -, L, R, P, rt, lo, hi, hm, hp⟩ := h
  have := hp.rng (q := q) hq
  omega
theorem TM.k (h : TM M tm e) : kt M tm 34 = true := by
  obtain ⟨-, -, -, L, R, P, rt, lo, hi, hm, hp⟩ := h
  exact hm.2.2.2.1
theorem TM.ke (h : TM M tm e) {q : Nat} (hq : e q ≠ 0) : kt M (e q) 35 = true := by
  obtain ⟨-, -, -, L, R, P, rt, lo, hi, hm, hp⟩ := h
  exact hm.k hq
theorem TM.e13 (h : TM M tm e) : e 13 = 0 := by
  obtain ⟨-, -, -, L, R, P, rt, lo, hi, hm, hp⟩ := h
  exact hm.1
theorem TM.inj (h : TM M tm e) {q p : Nat} (hq : e q ≠ 0) (hz : e q = e p) : q = p := by
  obtain ⟨-, -, -, L, R, P, rt, lo, hi, hm, hp⟩ := h
  exact hm.2.2.1 q p hq (by show e p ≠ 0; rw [← hz]; exact hq) hz
theorem tm_get (h : TM M tm e) (hN : 100 < N) {x : Nat} (hx : x < 13) : F_TM_getEntry N M tm (pz x) = some (e x) := by
  obtain ⟨h1, -, h3, L, R, P, rt, lo, hi, hm, hp⟩ := h
  exact mget hm hp h3 h1 hx hN (fun z => Decidable.byContradiction z)
theorem tm_has (h : TM M tm e) (hN : 100 < N) {x : Nat} (hx : x < 13) : F_TM_containsKey N M tm (pz x) = some (if e x = 0 then 0 else 1) := by
  unfold F_TM_containsKey
  rw [h.k, kg_t, tm_get h hN hx, Option.bind_some]
  by_cases z : e x = 0
  · rw [if_pos z, if_pos z]
  · rw [if_neg z, if_neg z]
theorem tm_val (h : TM M tm e) (hN : 100 < N) {x : Nat} (hx : x < 13) : F_TM_get N M tm (pz x) = some (if e x = 0 then 0 else kR M (e x) 1) := by
  unfold F_TM_get
  rw [h.k, kg_t, tm_get h hN hx, Option.bind_some]
  by_cases z : e x = 0
  · rw [if_pos z, if_pos z]
  · rw [if_neg z, if_neg z, h.ke z, kg_t]
end
