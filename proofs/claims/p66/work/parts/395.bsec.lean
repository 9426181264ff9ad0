variable {Mb : SMem}
def QF (I I' : kInts) : Prop := ∀ a x, ¬ (a = 540 ∧ (12 ≤ x ∧ x ≤ 17 ∨ 22 ≤ x ∧ x ≤ 25)) → a ≠ 541 → a ≠ 546 → a ≠ 549 → a ≠ 550 → I' a x = I a x
def P2 (J : kInts) (L : kLngs) (n : Nat) (T : Nat → Nat) (j d dn : Nat) (r : Nat → Int32) : Prop := RS J L n T (.inl j) ∧ (¬ J 540 21 = 0 ∧ J 540 22 = 0) ∧ (J 540 24 = nI d ∧ J 540 25 = nI dn) ∧ J 541 = r
def OV (J : kInts) (L : kLngs) (n : Nat) (T : Nat → Nat) (dn : Nat) (r : Nat → Int32) : Prop := (∃ j, RS J L n T (.inl j)) ∧ ¬ J 540 22 = 0 ∧ J 540 25 = nI dn ∧ J 541 = r
section
variable {N : Nat} {I I' J : kInts} {L L' : kLngs} {n c i j k d q nb nt dn : Nat} {T : Nat → Nat} {r : Nat → Int32} {p : (Nat → Int32) × Nat}
theorem QF.rf' : QF I I := fun _ _ _ _ _ _ _ => rfl
theorem QF.trans {I1 I2 : kInts} (h : QF I I1) (h2 : QF I1 I2) : QF I I2 := fun a x y1 y2 y3 y4 y5 => (h2 a x y1 y2 y3 y4 y5).trans (h a x y1 y2 y3 y4 y5)
theorem SG_qf (h : SG I I') : QF I I' := fun a x y1 _ _ _ _ => h a x (by omega)
theorem sk_sk {x : Nat} : sk n T (sk n T x) = sk n T x := runs_stop (fun z => runs_end (k := 0) z)
end
