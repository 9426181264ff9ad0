variable {Mb : SMem}
def wL (l : Nat) : Nat := if l = 0 then 441 else if l = 1 then 21 else 1
def AF (N n : Nat) (T : Nat → Nat) (nb : Nat) (J : kInts) (L : kLngs) (j d : Nat) (e : ((Nat → Int32) × Nat) × Nat × Bool) : Prop := (e.2.2 = true → OV J L n T e.2.1 e.1.1) ∧ (e.2.2 = false → P2 J L n T j d e.2.1 e.1.1 ∧ RI e.1.1 nb e.1.2 ∧ e.2.1 < 40)
