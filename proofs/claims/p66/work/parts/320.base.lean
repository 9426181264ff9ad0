abbrev kInts : Type := Nat → Nat → Int32
abbrev kLngs : Type := Nat → Nat → Int64
def wm (M : kMem) (I : kInts) (L : kLngs) : kMem := (M.1, I, M.2.2.1, L)
def up (I : kInts) (a j : Nat) (v : Int32) : kInts := fun a' j' => if a' = a ∧ j' = j then v else I a' j'
def upL (L : kLngs) (a j : Nat) (v : Int64) : kLngs := fun a' j' => if a' = a ∧ j' = j then v else L a' j'
def cpy (I : kInts) (a0 sp a1 dp n : Nat) : kInts := fun a j => if a = a1 ∧ dp ≤ j ∧ j < dp + n then I a0 (sp + (j - dp)) else I a j
theorem wm_self (M : kMem) : wm M M.2.1 M.2.2.2 = M := rfl
theorem wm_kI (M : kMem) (I : kInts) (L : kLngs) (a j : Nat) : kI (wm M I L) a j = I a j := rfl
theorem wm_kL (M : kMem) (I : kInts) (L : kLngs) (a j : Nat) : kL (wm M I L) a j = L a j := rfl
theorem wm_kR (M : kMem) (I : kInts) (L : kLngs) (a j : Nat) : kR (wm M I L) a j = kR M a j := rfl
theorem wm_kt (M : kMem) (I : kInts) (L : kLngs) (a t : Nat) : kt (wm M I L) a t = kt M a t := rfl
theorem wm_kn (M : kMem) (I : kInts) (L : kLngs) (a : Nat) : kn (wm M I L) a = kn M a := rfl
theorem wm_kin (M : kMem) (I : kInts) (L : kLngs) (a t : Nat) (i : Int32) : kin (wm M I L) a t i = kin M a t i := rfl
theorem wm_ksI (M : kMem) (I : kInts) (L : kLngs) (a j : Nat) (v : Int32) : ksI (wm M I L) a j v = wm M (up I a j v) L := rfl
theorem wm_ksL (M : kMem) (I : kInts) (L : kLngs) (a j : Nat) (v : Int64) : ksL (wm M I L) a j v = wm M I (upL L a j v) := rfl
def jn (I : kInts) (a j : Nat) : Int64 := kj (I a (1000 + 2 * j)) (I a (1001 + 2 * j))
def upJ (I : kInts) (a j : Nat) (v : Int64) : kInts := up (up I a (1000 + 2 * j) (kjH v)) a (1001 + 2 * j) (kjL v)
theorem wm_kJ (M : kMem) (I : kInts) (L : kLngs) (a j : Nat) : kJ (wm M I L) a j = jn I a j := rfl
theorem wm_ksJ (M : kMem) (I : kInts) (L : kLngs) (a j : Nat) (v : Int64) : ksJ (wm M I L) a j v = wm M (upJ I a j v) L := rfl
theorem jn_eq {I : kInts} {a j : Nat} {v : Int64} : jn (upJ I a j v) a j = v := by
  unfold jn
  rw [show upJ I a j v a (1001 + 2 * j) = kjL v from if_pos ⟨rfl, rfl⟩]
  rw [show upJ I a j v a (1000 + 2 * j) = kjH v from (if_neg (fun z => by omega)).trans (if_pos ⟨rfl, rfl⟩)]
  exact kj_of v
theorem upJ_ne {I : kInts} {a j a' i : Nat} {v : Int64} (h : a' ≠ a ∨ i < 1000) : upJ I a j v a' i = I a' i :=
  (if_neg (fun z => by rcases h with h | h <;> omega)).trans (if_neg (fun z => by rcases h with h | h <;> omega))
theorem jn_cg {I I' : kInts} {a a' j : Nat} (h : ∀ i, 1000 ≤ i → I' a' i = I a i) : jn I' a' j = jn I a j := by
  unfold jn
  rw [h _ (by omega), h _ (by omega)]
theorem jn_up {I : kInts} {a i a' j : Nat} {v : Int32} (h : a' ≠ a ∨ i < 1000) : jn (up I a i v) a' j = jn I a' j :=
  jn_cg (fun k hk => if_neg (fun z => by rcases h with h | h <;> omega))
theorem jn_ne {I : kInts} {a j a' i : Nat} {v : Int64} (h : a' ≠ a ∨ i ≠ j) : jn (upJ I a j v) a' i = jn I a' i := by
  unfold jn
  rw [show upJ I a j v a' (1001 + 2 * i) = I a' (1001 + 2 * i) from (if_neg (fun z => by rcases h with h | h <;> omega)).trans (if_neg (fun z => by rcases h with h | h <;> omega))]
  rw [show upJ I a j v a' (1000 + 2 * i) = I a' (1000 + 2 * i) from (if_neg (fun z => by rcases h with h | h <;> omega)).trans (if_neg (fun z => by rcases h with h | h <;> omega))]
theorem wm_kcpOk (M : kMem) (I : kInts) (L : kLngs) (a0 : Nat) (sp : Int32) (a1 : Nat) (dp n : Int32) : kcpOk (wm M I L) a0 sp a1 dp n = kcpOk M a0 sp a1 dp n := rfl
theorem wm_kcp (M : kMem) (I : kInts) (L : kLngs) (a0 : Nat) (sp : Int32) (a1 : Nat) (dp n : Int32) : kcp (wm M I L) a0 sp a1 dp n = wm M (cpy I a0 (kx sp) a1 (kx dp) (kx n)) L := rfl
theorem kg_t {α : Type} (o : Option α) : kg true o = o := rfl
theorem kg_of {α : Type} {b : Bool} (o : Option α) (h : b = true) : kg b o = o := by rw [h]; rfl
theorem kl_v {α β : Type} (v : α) (f : α → Option β) : kl v f = f v := rfl
theorem kbx_l {α β : Type} (v : α) (M : kMem) (f : α → kMem → Option ((β ⊕ Nat) × kMem)) : kbx (some (.inl v, M)) f = f v M := rfl
theorem kbx_r {α β : Type} (x : Nat) (M : kMem) (f : α → kMem → Option ((β ⊕ Nat) × kMem)) : kbx (some (.inr x, M)) f = some (.inr x, M) := rfl
theorem up_at (I : kInts) (a j : Nat) (v : Int32) (a' j' : Nat) : up I a j v a' j' = if a' = a ∧ j' = j then v else I a' j' := rfl
theorem upL_at (I : kLngs) (a j : Nat) (v : Int64) (a' j' : Nat) : upL I a j v a' j' = if a' = a ∧ j' = j then v else I a' j' := rfl
def pz (q : Nat) : Int32 := nI q - 6
theorem pz_all : ∀ q, q < 13 → (pz q).toInt = (q : Int) - 6 := by decide
theorem pz_p6 {q : Nat} : pz q + 6 = nI q := by unfold pz; simp
theorem kx_nI {a : Nat} (ha : a < 2147483648) : kx (nI a) = a := nI_clamp ha
theorem nI_0le {a : Nat} (ha : a < 2147483648) : 0 ≤ nI a := nI_pos' ha
theorem nI_ne1 {a : Nat} (ha : a < 2147483648) : nI a ≠ -1 := fun h => by
  have h1 := congrArg Int32.toInt h
  rw [nI_toInt ha] at h1
  have h2 : (-1 : Int32).toInt = -1 := by decide
  omega
theorem kin_nI {M : kMem} {a t n i : Nat} (h : kt M a t = true) (hn : kn M a = n) (hi : i < n) (h9 : n < 2147483648) : kin M a t (nI i) = true := by
  unfold kin
  have h1 : (nI i).toNatClampNeg = i := kx_nI (by omega)
  have h2 := nI_0le (a := i) (by omega)
  rw [h, hn, h1]
  simp [h2, hi]
theorem test_g1 (x : Int32) (h : 0 ≤ x) (h2 : x ≤ 6) : x + 1 ≤ 7 := by grind
theorem test_g2 (x y : Int32) : (x - y) + y * 2 = x + y := by grind
theorem test_g3 (x y : Int32) (h : x < y) : x ≠ y := by grind
theorem test_g4 (a b c d : Int32) (h : d = a - b - c) : d = a - (c + b) := by grind
theorem test_g5 (x y : Int32) (h : ¬ x < y) (h2 : ¬ y < x) : x = y := by grind
theorem test_g6 (a b : Int32) (h : kabs (a - b) = 4) : kabs (a - b) = 4 := by grind
theorem test_g7 (a b : Nat) (h : a < 24) : nI a + 1 - 1 = nI a := by grind
theorem test_g8 (a b : Nat) (h : a < 24) : Int32.ofNat 24 = 24 := by rfl
theorem test_g9 (a b : Nat) (h : a < 24) : nI 24 = 24 := by rfl
theorem test_g10 (a b c w : Int32) (h : a + b = c) : a * w + b * w = c * w := by grind
theorem test_g11 (a b c w : Int32) (h : a + b = c) : a * w + b * w = c * w := by rw [← h, Int32.add_mul]
theorem kx_0 : kx 0 = 0 := by decide
