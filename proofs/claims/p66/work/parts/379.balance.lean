variable {Mb : SMem}
def bsA (r : Nat → Int32) (b : Nat) (T w : Int32) : Nat → Nat → Int32 → Int32
  | 0, _, x => x
  | k + 1, q, x => if q = 6 ∨ ¬ r (si b q) = 0 then bsA r b T w k (q + 1) x else if x = 0 then bsA r b T w k (q + 1) (pz q) else if kabs (T + pz q * w) < kabs (T + x * w) then bsA r b T w k (q + 1) (pz q) else bsA r b T w k (q + 1) x
