def kSn : Nat := 23
def kSlen : List Nat := [51, 79, 58, 6, 5, 6, 4, 4, 5, 7, 6, 7, 5, 6, 7, 28, 33, 14, 13, 12, 28, 24, 28]
def kSbyt : List (List Int32) := [[109, 97, 114, 107, 101, 116, 32, 51, 32, 52, 32, 50, 32, 52, 48, 32, 53, 32, 50, 48, 48, 59, 32, 98, 111, 97, 114, 100, 32, 51, 32, 49, 48, 32, 54, 48, 59, 32, 98, 111, 97, 114, 100, 32, 50, 32, 53, 32, 51, 48, 59], [116, 114, 97, 100, 101, 114, 32, 97, 110, 110, 32, 49, 48, 32, 51, 48, 32, 48, 59, 32, 116, 114, 97, 100, 101, 114, 32, 98, 111, 98, 32, 54, 32, 50, 53, 32, 49, 50, 59, 32, 116, 114, 97, 100, 101, 114, 32, 99, 97, 116, 32, 56, 32, 49, 50, 32, 51, 56, 59, 32, 116, 114, 97, 100, 101, 114, 32, 100, 97, 110, 32, 49, 53, 32, 52, 48, 32, 53, 59], [115, 101, 97, 116, 32, 97, 110, 110, 32, 48, 32, 108, 101, 102, 116, 32, 50, 59, 32, 115, 101, 97, 116, 32, 98, 111, 98, 32, 48, 32, 114, 105, 103, 104, 116, 32, 51, 59, 32, 115, 101, 97, 116, 32, 99, 97, 116, 32, 49, 32, 114, 105, 103, 104, 116, 32, 49, 59], [109, 97, 114, 107, 101, 116], [98, 111, 97, 114, 100], [116, 114, 97, 100, 101, 114], [115, 101, 97, 116], [108, 101, 102, 116], [114, 105, 103, 104, 116], [109, 97, 114, 107, 101, 116, 32], [98, 111, 97, 114, 100, 32], [116, 114, 97, 100, 101, 114, 32], [115, 101, 97, 116, 32], [32, 108, 101, 102, 116, 32], [32, 114, 105, 103, 104, 116, 32], [97, 32, 110, 117, 109, 98, 101, 114, 32, 105, 115, 32, 111, 117, 116, 32, 111, 102, 32, 105, 116, 115, 32, 114, 97, 110, 103, 101], [116, 104, 101, 32, 116, 101, 120, 116, 32, 98, 117, 102, 102, 101, 114, 32, 119, 111, 117, 108, 100, 32, 98, 101, 32, 116, 111, 111, 32, 108, 111, 110, 103], [110, 111, 32, 115, 117, 99, 104, 32, 116, 114, 97, 100, 101, 114], [110, 111, 32, 115, 117, 99, 104, 32, 98, 111, 97, 114, 100], [110, 111, 32, 115, 117, 99, 104, 32, 115, 101, 97, 116], [116, 104, 101, 114, 101, 32, 105, 115, 32, 97, 32, 114, 101, 97, 115, 111, 110, 32, 97, 103, 97, 105, 110, 115, 116, 32, 105, 116], [98, 111, 116, 104, 32, 97, 114, 101, 32, 116, 104, 101, 32, 115, 97, 109, 101, 32, 116, 114, 97, 100, 101, 114], [116, 104, 101, 32, 108, 97, 115, 116, 32, 100, 97, 121, 32, 119, 111, 117, 108, 100, 32, 98, 101, 32, 112, 97, 115, 115, 101, 100]]
/-- the memory: (tag, length) of each cell in the order of their making; ints (and booleans), references (0: null), longs -/
abbrev kMem : Type := List (Nat × Nat) × (Nat → Nat → Int32) × (Nat → Nat → Nat) × (Nat → Nat → Int64)
def kI (M : kMem) (a j : Nat) : Int32 := M.2.1 a j
def kR (M : kMem) (a j : Nat) : Nat := M.2.2.1 a j
def kL (M : kMem) (a j : Nat) : Int64 := M.2.2.2 a j
def ksI (M : kMem) (a j : Nat) (v : Int32) : kMem := (M.1, fun a' j' => if a' = a ∧ j' = j then v else M.2.1 a' j', M.2.2)
/-- a long that the memory keeps as two ints, behind an object's own -/
def kj (h l : Int32) : Int64 := Int64.ofBitVec (h.toBitVec ++ l.toBitVec)
def kjH (v : Int64) : Int32 := Int32.ofBitVec (v.toBitVec.extractLsb' 32 32)
def kjL (v : Int64) : Int32 := Int32.ofBitVec (v.toBitVec.extractLsb' 0 32)
def kJ (M : kMem) (a j : Nat) : Int64 := kj (M.2.1 a (1000 + 2 * j)) (M.2.1 a (1001 + 2 * j))
def ksJ (M : kMem) (a j : Nat) (v : Int64) : kMem := ksI (ksI M a (1000 + 2 * j) (kjH v)) a (1001 + 2 * j) (kjL v)
theorem kj_of (v : Int64) : kj (kjH v) (kjL v) = v := by
  unfold kj kjH kjL
  apply Int64.toBitVec_inj.mp
  show (v.toBitVec.extractLsb' 32 32 ++ v.toBitVec.extractLsb' 0 32) = v.toBitVec
  apply BitVec.eq_of_getLsbD_eq
  intro i hi
  rw [BitVec.getLsbD_append]
  by_cases h : i < 32
  · simp [h]
  · simp [h, show i - 32 < 32 by omega, show 32 + (i - 32) = i by omega]
def ksR (M : kMem) (a j : Nat) (v : Nat) : kMem := (M.1, M.2.1, fun a' j' => if a' = a ∧ j' = j then v else M.2.2.1 a' j', M.2.2.2)
def ksL (M : kMem) (a j : Nat) (v : Int64) : kMem := (M.1, M.2.1, M.2.2.1, fun a' j' => if a' = a ∧ j' = j then v else M.2.2.2 a' j')
/-- a new cell: all zero -/
def kNew (M : kMem) (t n : Nat) : kMem := (M.1 ++ [(t, n)], fun a j => if a = M.1.length + 1 then 0 else M.2.1 a j, fun a j => if a = M.1.length + 1 then 0 else M.2.2.1 a j, fun a j => if a = M.1.length + 1 then 0 else M.2.2.2 a j)
def kcell (M : kMem) (a : Nat) : Option (Nat × Nat) := match a with
  | 0 => none
  | k + 1 => M.1[k]?
def kt (M : kMem) (a t : Nat) : Bool := (kcell M a).map Prod.fst == some t
def kn (M : kMem) (a : Nat) : Nat := ((kcell M a).map Prod.snd).getD 0
def kin (M : kMem) (a t : Nat) (i : Int32) : Bool := kt M a t && (decide (0 ≤ i) && decide (i.toNatClampNeg < kn M a))
/-- the int that an index stands for -/
def kx (i : Int32) : Nat := i.toNatClampNeg
def kg {α : Type} (b : Bool) (o : Option α) : Option α := match b with
  | true => o
  | false => none
theorem kg_some {α : Type} {b : Bool} {o : Option α} {x : α} (h : kg b o = some x) : b = true ∧ o = some x := by
  cases b
  · exact absurd h (by simp [kg])
  · exact ⟨rfl, h⟩
/-- a name for a value -/
def kl {α β : Type} (v : α) (f : α → Option β) : Option β := f v
def kabs (x : Int32) : Int32 := if 0 ≤ x then x else 0 - x
def kmax (x y : Int32) : Int32 := if x < y then y else x
def kmin (x y : Int32) : Int32 := if y < x then y else x
/-- arraycopy between arrays of ints -/
def kcpOk (M : kMem) (a0 : Nat) (sp : Int32) (a1 : Nat) (dp n : Int32) : Bool := kt M a0 13 && (kt M a1 13 && (decide (0 ≤ sp) && (decide (0 ≤ dp) && (decide (0 ≤ n) && (decide (sp.toNatClampNeg + n.toNatClampNeg ≤ kn M a0) && decide (dp.toNatClampNeg + n.toNatClampNeg ≤ kn M a1))))))
def kcp (M : kMem) (a0 : Nat) (sp : Int32) (a1 : Nat) (dp n : Int32) : kMem := (M.1, fun a j => if a = a1 ∧ dp.toNatClampNeg ≤ j ∧ j < dp.toNatClampNeg + n.toNatClampNeg then M.2.1 a0 (sp.toNatClampNeg + (j - dp.toNatClampNeg)) else M.2.1 a j, M.2.2)
/-- go on behind a call that may have thrown -/
def kbx {α β : Type} (o : Option ((α ⊕ Nat) × kMem)) (f : α → kMem → Option ((β ⊕ Nat) × kMem)) : Option ((β ⊕ Nat) × kMem) := match o with
  | none => none
  | some (.inl v, M) => f v M
  | some (.inr x, M) => some (.inr x, M)
theorem kbx_some {α β : Type} {o : Option ((α ⊕ Nat) × kMem)} {f : α → kMem → Option ((β ⊕ Nat) × kMem)} {b : (β ⊕ Nat) × kMem} (h : kbx o f = some b) : (∃ v M, o = some (.inl v, M) ∧ f v M = some b) ∨ ∃ x M, o = some (.inr x, M) ∧ b = (.inr x, M) := by
  cases o with
  | none => cases h
  | some r =>
    obtain ⟨v | x, M⟩ := r
    · exact Or.inl ⟨v, M, rfl, h⟩
    · exact Or.inr ⟨x, M, rfl, (Option.some.inj h).symm⟩
def ksAt (i : Nat) (j : Int32) : Bool := decide (i < kSn) && (decide (0 ≤ j) && decide (j.toNatClampNeg < kSlen.getD i 0))
def F_J0_coder (i : Nat) : Option Int32 := kg (decide (i < kSn)) (some 0)
def F_J0_isLatin1 (i : Nat) : Option Int32 := kg (decide (i < kSn)) (some 1)
def F_J0_length (i : Nat) : Option Int32 := kg (decide (i < kSn)) (some (Int32.ofNat (kSlen.getD i 0) >>> (0 &&& 31)))
def F_J3_check (i n : Int32) : Option Int32 := if i < 0 then none else if i < n then some i else none
def ksCh (i : Nat) (j : Int32) : Int32 := ((((kSbyt.getD i []).getD j.toNatClampNeg 0) &&& 255).toUInt32 % 65536).toInt32
def F_J1_charAt (i : Nat) (j : Int32) : Option Int32 := kg (decide (i < kSn)) ((F_J3_check j (Int32.ofNat (kSlen.getD i 0))).bind fun _ => kg (ksAt i j) (if h : narrow .char (.int (ksCh i j)) = .int (ksCh i j) then some (ksCh i j) else none))
def F_J0_charAt (i : Nat) (j : Int32) : Option Int32 := kg (decide (i < kSn)) (F_J1_charAt i j)
/-- a small Integer, by its number: the place in the cache; a field that holds one (its number and a mark), a list's row of elements that is still the static empty one -/
def kBi (x : Int32) : Nat := (x + 128).toNatClampNeg
def kBk (x : Int32) : Bool := decide (-128 ≤ x) && decide (x ≤ 127)
def ksK (M : kMem) (a j : Nat) (x : Int32) : kMem := ksR (ksI M a j x) a j 1
def ksE (M : kMem) (a j : Nat) : kMem := ksI (ksR M a j 0) a j 1
def kFitB (M : kMem) (a : Nat) (sp n : Int32) : Bool := (List.range (kx n)).all (fun i => fits .byte (.int (kI M a (kx sp + i))))
def kcpB (M : kMem) (a0 : Nat) (sp : Int32) (a1 : Nat) (dp n : Int32) : Bool := kt M a0 20 && (kt M a1 20 && (decide (0 ≤ sp) && (decide (0 ≤ dp) && (decide (0 ≤ n) && (decide (sp.toNatClampNeg + n.toNatClampNeg ≤ kn M a0) && (decide (dp.toNatClampNeg + n.toNatClampNeg ≤ kn M a1) && kFitB M a0 sp n))))))
/-- bytes of a constant text, copied -/
def kcpT (M : kMem) (i : Nat) (sp : Int32) (a1 : Nat) (dp n : Int32) : kMem := (M.1, fun a j => if a = a1 ∧ dp.toNatClampNeg ≤ j ∧ j < dp.toNatClampNeg + n.toNatClampNeg then (kSbyt.getD i []).getD (sp.toNatClampNeg + (j - dp.toNatClampNeg)) 0 else M.2.1 a j, M.2.2)
def kcpTOk (M : kMem) (i : Nat) (sp : Int32) (a1 : Nat) (dp n : Int32) : Bool := decide (i < kSn) && (kt M a1 20 && (decide (0 ≤ sp) && (decide (0 ≤ dp) && (decide (0 ≤ n) && (decide (sp.toNatClampNeg + n.toNatClampNeg ≤ kSlen.getD i 0) && decide (dp.toNatClampNeg + n.toNatClampNeg ≤ kn M a1))))))
def kFitA (M : kMem) (a : Nat) : Bool := (List.range (kn M a)).all (fun i => fits .byte (.int (kI M a i)))
/-- a copy of a row of bytes -/
def kClB (M : kMem) (a : Nat) : kMem := (M.1 ++ [(20, kn M a)], fun x j => if x = M.1.length + 1 then M.2.1 a j else M.2.1 x j, fun x j => if x = M.1.length + 1 then 0 else M.2.2.1 x j, fun x j => if x = M.1.length + 1 then 0 else M.2.2.2 x j)
/-- a class's method behind which the cells are the same -/
def kSm {β : Type} (fin : β → Option Value × kMem) (M : kMem) (o : Option β) : Option β := o.bind fun r => kg (decide ((fin r).2.1 = M.1)) (some r)
