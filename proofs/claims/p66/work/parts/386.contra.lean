variable {Mb : SMem}
def wOn (r : Nat → Int32) (b q : Nat) : Int32 := if r (si b q) = 0 then 0 else r (89 + 7 * kx (r (si b q) - 1) + 1)
def tdI (r : Nat → Int32) (b : Nat) : Nat → Nat → Int32 → Int32
  | 0, _, x => x
  | k + 1, p, x => tdI r b k (p + 1) (x + (wOn r b (6 + p) - wOn r b (6 - p)))
def tdO (r : Nat → Int32) (b : Nat) : Nat → Nat → Int32 → Int32
  | 0, _, x => x
  | k + 1, i, x => tdO r b k (i + 1) (tdI r b (k + 1) i x)
section
variable {N : Nat} {I : kInts} {L : kLngs} {r s f : Nat → Int32} {nb nt m : Nat}
theorem avP_sh (k : Nat) : ∀ (i : Nat) (x y : Int32), avP r k i (x + y) = avP r k i x + y := by
  induction k with
  | zero => intro i x y; rfl
  | succ k ih =>
    intro i x y
    show avP r k (i + 1) (x + y + r (89 + 7 * i + 2)) = avP r k (i + 1) (x + r (89 + 7 * i + 2)) + y
    rw [← ih]
    congr 1
    grind
theorem own_cases (hR : RI r nb nt) {b q : Nat} (hb : b < nb) (hq : q < 13) (h6 : q ≠ 6) : r (si b q) = 0 ∨ ∃ t, t < nt ∧ r (si b q) = nI (t + 1) ∧ r (si b q) - 1 = nI t ∧ st r nb t b q := by
  refine (hR.s.2 b hb q hq h6).imp id (fun ⟨t, ht, e, hs⟩ => ⟨t, ht, e, ?_, hs⟩)
  rw [e]
  show nI (t + 1) - nI 1 = nI t
  rw [pk_sub (by omega)]
  rfl
theorem cx_wOn (hm : m ∈ mks) (hR : RI r nb nt) (hM : RM I m r nb nt) {b q : Nat} (hb : b < nb) (hq : q < 13) (h6 : q ≠ 6) : F_X4_weightOn N (wm Mb I L) m (bd m b) (pz q) = some (wOn r b q) := by
  have h5 := hR.nb5
  have h24 := hR.nt24
  have ho := cx_own (Mb := Mb) (N := N) (I := I) (L := L) hm (show b < 5 by omega) hq
  rw [(hM.bb b hb).2.2.2.1 q hq h6] at ho
  unfold F_X4_weightOn wOn
  rcases own_cases hR hb hq h6 with c | ⟨t, ht, e1, e2, e3⟩
  · rw [c, show (0 : Int32) - 1 = -1 from rfl] at ho
    simp only [wm_kR, wm_kt, wm_kn, wm_kin, wm_kL, wm_kI, wm_ksI, wm_ksL, wm_kJ, wm_ksJ, kg_t, kl_v, Option.bind_some, mm_k hm, bb_k hm (show b < 5 by omega), ho, cx_tn_out hm hR hM (x := -1) (Or.inl (by decide)), if_true, c]
  · rw [e2] at ho
    have hn0 : ¬ nI (t + 1) = 0 := nI_ne0 (by omega) (by omega)
    simp only [wm_kR, wm_kt, wm_kn, wm_kin, wm_kL, wm_kI, wm_ksI, wm_ksL, wm_kJ, wm_ksJ, kg_t, kl_v, Option.bind_some, mm_k hm, bb_k hm (show b < 5 by omega), ho, cx_tn_in hm hR hM ht, tr_ne0, if_false, tt_k hm (show t < 24 by omega), (hM.tt t ht).1, e1, hn0]
    rw [show nI (t + 1) - 1 = nI t by rw [← e1]; exact e2, kx_nI (by omega)]
end
