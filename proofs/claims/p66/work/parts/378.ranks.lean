variable {Mb : SMem}
def rkf (r : Nat → Int32) (t j : Nat) : Int32 := if r (89 + 7 * j + 4) = 0 then 0 else if r (89 + 7 * t + 2) < r (89 + 7 * j + 2) ∨ r (89 + 7 * j + 2) = r (89 + 7 * t + 2) ∧ j < t then 1 else 0
def rkA (r : Nat → Int32) (t : Nat) : Nat → Nat → Int32 → Int32
  | 0, _, x => x
  | k + 1, i, x => rkA r t k (i + 1) (x + rkf r t i)
def fdA (r : Nat → Int32) (nt : Nat) (x : Int32) : Nat → Nat → Int32
  | 0, _ => -1
  | k + 1, i => if r (89 + 7 * i + 4) = 0 then fdA r nt x k (i + 1) else if rkA r i nt 0 0 = x then nI i else fdA r nt x k (i + 1)
section
variable {N : Nat} {I : kInts} {L : kLngs} {r s f : Nat → Int32} {nb nt m : Nat}
theorem add0 (x : Int32) : x + 0 = x := by grind
end
