/-! the law's loop: fourteen times still and act, then still; twice -/
section
variable {N : Nat} {M M' M1 M2 : kMem} {g nb nt d : Nat} {A : kA} {E : Nat → Nat → Nat} {r : Nat → Int32} {I : kInts}
theorem CI.cp (h : CI I r nb nt) : CP I := by
  obtain ⟨-, -, h3, ⟨nx, u, n8, u8, e1, e2⟩, n, n800, e3⟩ := h
  exact ⟨h3, ⟨nx, n8, e1⟩, n, n800, e3⟩
theorem Gg.new (hS : SMp M) (v : Int32) : Gg (ksI (kNew M 13 1) (M.1.length + 1) 0 v) (M.1.length + 1) := by
  refine ⟨kt_newW, ?_, ?_⟩
  · show kn (kNew M 13 1) (M.1.length + 1) = 1
    unfold kn kcell kNew
    simp
  · have := hS.len
    omega
theorem SMp.nw (hS : SMp M) (v : Int32) : SMp (ksI (kNew M 13 1) (M.1.length + 1) 0 v) := by
  refine hS.kp ⟨[(13, 1)], rfl⟩ (fun a j ha => ?_)
  have := hS.len
  rw [z_RI, z_RN, if_neg (by omega)]
theorem CP.nw (hS : SMp M) (h : CP M.2.1) (v : Int32) : CP (ksI (kNew M 13 1) (M.1.length + 1) 0 v).2.1 := by
  refine h.kp (fun a j ha => ?_)
  have := hS.len
  show kI (ksI (kNew M 13 1) (M.1.length + 1) 0 v) a j = kI M a j
  rw [z_II, if_neg (fun z => by omega), z_IN, if_neg (by omega)]
theorem lw_turn (h : ST M A E r nb nt g) (hd : r 6 = nI d) (hd2 : d ≤ 1000) (h2 : 2 ≤ nt) (h10 : nt ≤ 10) (hnb : 1 ≤ nb) (hN : 1000 < N) : ∃ M1 M2 E' r' d', F_L_still N M 1 (aH A) = some (1, M1) ∧ F_L_act N M1 1 (aH A) g = some (1, M2) ∧ ST M2 A E' r' nb nt g ∧ r' 6 = nI d' ∧ d' ≤ d + 6 ∧ Cc M M2 9100 := by
  obtain ⟨M1, a1, a2, a3⟩ := lw_still h h10 hN
  obtain ⟨M2, E', r', b1, b2, b3, d', b4, b5⟩ := lw_act a2 hd hd2 h2 h10 hnb hN
  exact ⟨M1, M2, E', r', d', a1, b1, b2, b4, b5, (a3.trans b3).le (by omega)⟩
/-- the turns from m on, and the last still -/
def Lm (N : Nat) (h g : Nat) : Nat → kMem → Option kMem
  | 0, M => (F_L_still N M 1 h).bind fun r => if r.1 = 0 then none else some r.2
  | k + 1, M => (F_L_still N M 1 h).bind fun r => if r.1 = 0 then none else (F_L_act N r.2 1 h g).bind fun q => if q.1 = 0 then none else Lm N h g k q.2
theorem lw_lm (h2 : 2 ≤ nt) (h10 : nt ≤ 10) (hnb : 1 ≤ nb) (hN : 1000 < N) : ∀ (k : Nat) (M : kMem) (E : Nat → Nat → Nat) (r : Nat → Int32) (d : Nat), ST M A E r nb nt g → r 6 = nI d → d + 6 * k ≤ 1000 → ∃ M' E' r', Lm N (aH A) g k M = some M' ∧ ST M' A E' r' nb nt g ∧ Cc M M' (9100 * k + 1100)
  | 0, M, E, r, d, h, hd, hd2 => by
    obtain ⟨M1, a1, a2, a3⟩ := lw_still h h10 hN
    refine ⟨M1, E, r, ?_, a2, a3.le (by omega)⟩
    unfold Lm
    rw [a1, Option.bind_some, if_neg (show ¬ (1 : Int32) = 0 by decide)]
  | k + 1, M, E, r, d, h, hd, hd2 => by
    obtain ⟨M1, M2, E', r', d', a1, a2, a3, a4, a5, a6⟩ := lw_turn h hd (by omega) h2 h10 hnb hN
    obtain ⟨M3, E3, r3, b1, b2, b3⟩ := lw_lm h2 h10 hnb hN k M2 E' r' d' a3 a4 (by omega)
    refine ⟨M3, E3, r3, ?_, b2, (a6.trans b3).le (by omega)⟩
    unfold Lm
    rw [a1, Option.bind_some, if_neg (show ¬ (1 : Int32) = 0 by decide), a2, Option.bind_some, if_neg (show ¬ (1 : Int32) = 0 by decide)]
    exact b1
/-- one market of the law, from the number that its draws begin with -/
theorem lw_market (hS : SMp M) (hC : CP M.2.1) (v : Int32) (hN : 1000 < N) : ∃ M1 M' A, F_L_begins N (ksI (kNew M 13 1) (M.1.length + 1) 0 v) 1 (M.1.length + 1) = some (aH A, M1) ∧ aH A ≠ 0 ∧ Lm N (aH A) (M.1.length + 1) 14 M1 = some M' ∧ SMp M' ∧ CP M'.2.1 ∧ Cc M M1 150002 ∧ Cc M M' 280000 := by
  obtain ⟨M1, A, E, r, nb, nt, a1, a2, a3, ⟨a4, a5⟩, ⟨a6, a7⟩, a8⟩ := lw_begins (hS.nw v) (CP.nw hS hC v) (Gg.new hS v) hN
  obtain ⟨M2, E2, r2, b1, b2, b3⟩ := lw_lm a6 (by omega) a4 hN 14 M1 E r 0 a2 a3 (by omega)
  have c0 : Cc M (ksI (kNew M 13 1) (M.1.length + 1) 0 v) 2 := ⟨[(13, 1)], rfl, by simp⟩
  refine ⟨M1, M2, A, a1, ?_, b1, b2.1.1, b2.1.2.cp, (c0.trans a8).le (by omega), ((c0.trans a8).trans b3).le (by omega)⟩
  have := (kt_le a2.2.1.hk).1
  omega
end
