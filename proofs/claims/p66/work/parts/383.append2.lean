variable {Mb : SMem}
section
variable {N : Nat} {I : kInts} {L : kLngs} {n : Nat} {T : Nat → Nat} {p : Nat × (Nat → Nat)}
def ad5 (p : Nat × (Nat → Nat)) (a b c d e : Int32) : Nat × (Nat → Nat) := ad4 (ad4 (ad4 (ad4 (ad4 p a) b) c) d) e
def ct5 (a b c d e : Int32) : Nat := ct a + ct b + ct c + ct d + ct e
theorem cx_add5 {a b c d e : Int32} (h : CT I p.1 p.2) (hn : p.1 + ct5 a b c d e ≤ 800) (hN : 100 < N) : ∃ I1 I2 I3 I4 I5, (F_X8_addBytesOf N (wm Mb I L) 2 a = some (wm Mb I1 L) ∧ F_X8_addBytesOf N (wm Mb I1 L) 2 b = some (wm Mb I2 L) ∧ F_X8_addBytesOf N (wm Mb I2 L) 2 c = some (wm Mb I3 L) ∧ F_X8_addBytesOf N (wm Mb I3 L) 2 d = some (wm Mb I4 L) ∧ F_X8_addBytesOf N (wm Mb I4 L) 2 e = some (wm Mb I5 L)) ∧ CT I5 (ad5 p a b c d e).1 (ad5 p a b c d e).2 ∧ CFt I I5 := by
  unfold ct5 at hn
  obtain ⟨I1, a1, a2, a3⟩ := cx_adds (Mb := Mb) (N := N) (L := L) (x := a) h (by omega) hN
  obtain ⟨I2, b1, b2, b3⟩ := cx_adds (Mb := Mb) (N := N) (L := L) (x := b) a2 (by rw [ad4_n]; omega) hN
  obtain ⟨I3, c1, c2, c3⟩ := cx_adds (Mb := Mb) (N := N) (L := L) (x := c) b2 (by rw [ad4_n, ad4_n]; omega) hN
  obtain ⟨I4, d1, d2, d3⟩ := cx_adds (Mb := Mb) (N := N) (L := L) (x := d) c2 (by rw [ad4_n, ad4_n, ad4_n]; omega) hN
  obtain ⟨I5, e1, e2, e3⟩ := cx_adds (Mb := Mb) (N := N) (L := L) (x := e) d2 (by rw [ad4_n, ad4_n, ad4_n, ad4_n]; omega) hN
  exact ⟨I1, I2, I3, I4, I5, ⟨a1, b1, c1, d1, e1⟩, e2, (((a3.trans b3).trans c3).trans d3).trans e3⟩
end
