variable {Mb : SMem}
def tr0 (n : Nat) (T : Nat → Nat) (r : Nat → Int32) (nt i : Nat) : sg := if isM n T i then (if fnd r nt (nmc n T i) = none then .inl (i + 1) else erS n T i 3) else erS n T i 1
def tr1 (n : Nat) (T : Nat → Nat) (r : Nat → Int32) (nt i : Nat) : sg := stp n T (tr0 n T r nt i) (cN n T 1 100)
def tr2 (n : Nat) (T : Nat → Nat) (r : Nat → Int32) (nt i : Nat) : sg := stp n T (tr1 n T r nt i) (cN n T 0 10000)
def tr3 (n : Nat) (T : Nat → Nat) (r : Nat → Int32) (nt i : Nat) : sg := stp n T (tr2 n T r nt i) (cN n T 0 (kx (r 3) + 1))
def tr4 (n : Nat) (T : Nat → Nat) (r : Nat → Int32) (nt i : Nat) : sg := stp n T (tr3 n T r nt i) (cG n T 59)
def trR (n : Nat) (T : Nat → Nat) (r : Nat → Int32) (nt i : Nat) : Nat → Int32 := jnR r nt (nmc n T i) (nI (nuv n T (i + 1))) (nI (nuv n T (i + 2))) (nI (nuv n T (i + 3)))
section
variable {N : Nat} {I : kInts} {L : kLngs} {n c : Nat} {T : Nat → Nat} {σ : sg} {r s : Nat → Int32} {nb nt : Nat}
theorem ok_stp {f : Nat → Nat} (h : okS (stp n T σ f) = true) : ∃ j, σ = .inl j ∧ f j = 0 ∧ stp n T σ f = .inl (j + 1) := by
  cases σ with
  | inr x => cases h
  | inl j =>
    refine ⟨j, rfl, ?_⟩
    by_cases z : f j = 0
    · exact ⟨z, stp_0 z⟩
    · rw [stp_e z] at h; cases h
theorem ok_tr0 {i j : Nat} (h : tr0 n T r nt i = .inl j) : j = i + 1 ∧ isM n T i = true ∧ fnd r nt (nmc n T i) = none := by
  unfold tr0 at h
  by_cases z : isM n T i = true
  · rw [if_pos z] at h
    by_cases y : fnd r nt (nmc n T i) = none
    · rw [if_pos y] at h
      cases h
      exact ⟨rfl, z, y⟩
    · rw [if_neg y] at h; cases h
  · rw [if_neg z] at h; cases h
theorem ok_tr4 {i : Nat} (h : okS (tr4 n T r nt i) = true) : (isM n T i = true ∧ fnd r nt (nmc n T i) = none) ∧ cN n T 1 100 (i + 1) = 0 ∧ cN n T 0 10000 (i + 2) = 0 ∧ cN n T 0 (kx (r 3) + 1) (i + 3) = 0 ∧ (tr0 n T r nt i = .inl (i + 1) ∧ tr1 n T r nt i = .inl (i + 2) ∧ tr2 n T r nt i = .inl (i + 3) ∧ tr3 n T r nt i = .inl (i + 4)) ∧ tr4 n T r nt i = .inl (i + 5) := by
  obtain ⟨j3, a1, a2, a3⟩ := ok_stp h
  obtain ⟨j2, b1, b2, b3⟩ := ok_stp (σ := tr2 n T r nt i) (f := cN n T 0 (kx (r 3) + 1)) (show okS (tr3 n T r nt i) = true by rw [a1]; rfl)
  obtain ⟨j1, c1, c2, c3⟩ := ok_stp (σ := tr1 n T r nt i) (f := cN n T 0 10000) (show okS (tr2 n T r nt i) = true by rw [b1]; rfl)
  obtain ⟨j0, d1, d2, d3⟩ := ok_stp (σ := tr0 n T r nt i) (f := cN n T 1 100) (show okS (tr1 n T r nt i) = true by rw [c1]; rfl)
  obtain ⟨e0, e1, e2⟩ := ok_tr0 d1
  have x1 : tr1 n T r nt i = .inl (j0 + 1) := d3
  have x2 : tr2 n T r nt i = .inl (j1 + 1) := c3
  have x3 : tr3 n T r nt i = .inl (j2 + 1) := b3
  have y1 : j1 = j0 + 1 := by rw [x1] at c1; cases c1; rfl
  have y2 : j2 = j1 + 1 := by rw [x2] at b1; cases b1; rfl
  have y3 : j3 = j2 + 1 := by rw [x3] at a1; cases a1; rfl
  subst e0 y1 y2 y3
  exact ⟨⟨e1, e2⟩, d2, c2, b2, ⟨d1, x1, x2, x3⟩, a3⟩
theorem cx_tr28 {i : Nat} (hS : CS I n T c (tr0 n T r nt i)) (hR : RI r nb nt) (hM : RM I 85 r nb nt) (hn : nt < 24) {v : Int64} (hq : okS (tr0 n T r nt i) = true → nmV v (nmc n T i)) (hN : 1000 < N) : ∃ I', F_X7_readTrader_22 N (wm Mb I L) 6 85 v = some (wm Mb I' L) ∧ CS I' n T c (tr4 n T r nt i) ∧ (if okS (tr4 n T r nt i) = true then RM I' 85 (trR n T r nt i) nb (nt + 1) else RM I' 85 r nb nt) ∧ EF I I' := by
  have hm : (85 : Nat) ∈ mks := by decide
  have h5 := hR.nb5
  have h24 := hR.nt24
  obtain ⟨-, -, -, -, ⟨rt, hrt, ert⟩, -, -⟩ := hR.g
  obtain ⟨I1, a1, a2, a3⟩ := cx_number (Mb := Mb) (N := N) (L := L) hS (lo := 1) (hh := 100) (x2 := 99) (by decide) (by decide) (by decide) hN
  obtain ⟨I2, b1, b2, b3⟩ := cx_number (Mb := Mb) (N := N) (L := L) a2 (lo := 0) (hh := 10000) (x2 := 9999) (by decide) (by decide) (by decide) hN
  have M2 : RM I2 85 r nb nt := hM.cf h5 h24 (a3.trans b3)
  have e3 : kx (r 3) = rt := by rw [ert, kx_nI (by omega)]
  obtain ⟨I3, d1, d2, d3⟩ := cx_number (Mb := Mb) (N := N) (L := L) b2 (lo := 0) (hh := kx (r 3) + 1) (x2 := r 3) (by decide) (by omega) (by rw [e3, ert]; show nI rt = nI (rt + 1) - nI 1; rw [pk_sub (by omega)]; rfl) hN
  obtain ⟨I4, f1, f2, f3⟩ := cx_sg (Mb := Mb) (N := N) (L := L) d2 (ch := 59) (by decide)
  have hcf : CF I I4 := ((a3.trans b3).trans d3).trans f3
  have M4 : RM I4 85 r nb nt := hM.cf h5 h24 hcf
  rw [show nI 1 = 1 from rfl] at a1
  rw [show nI 0 = 0 from rfl] at b1 d1
  rw [show nI 59 = 59 from rfl] at f1
  have hS4 : CS I4 n T c (tr4 n T r nt i) := f2
  unfold F_X7_readTrader_22
  simp only [wm_kR, wm_kt, wm_kn, wm_kin, wm_kL, wm_kI, wm_ksI, wm_ksL, wm_kJ, wm_ksJ, kg_t, kl_v, Option.bind_some, s6.1, a1, b1, mm_k hm, M2.ret, d1, f1, cx_failed]
  by_cases hok : okS (tr4 n T r nt i) = true
  · obtain ⟨⟨o1, o2⟩, o3, o4, o5, ⟨o6, o7, o8, o9⟩, o10⟩ := ok_tr4 hok
    rw [o10] at hS4
    have hq4 : nmV v (nmc n T i) := hq (by rw [o6]; rfl)
    have v1 : nuV n T 1 100 (tr0 n T r nt i) = nI (nuv n T (i + 1)) := by rw [o6, nuV_0 o3]
    have v2 : nuV n T 0 10000 (stp n T (tr0 n T r nt i) (cN n T 1 100)) = nI (nuv n T (i + 2)) := by
      show nuV n T 0 10000 (tr1 n T r nt i) = _
      rw [o7, nuV_0 o4]
    have v3 : nuV n T 0 (kx (r 3) + 1) (stp n T (stp n T (tr0 n T r nt i) (cN n T 1 100)) (cN n T 0 10000)) = nI (nuv n T (i + 3)) := by
      show nuV n T 0 (kx (r 3) + 1) (tr2 n T r nt i) = _
      rw [o8, nuV_0 o5]
    obtain ⟨I5, g1, g2, g3⟩ := cx_admit (Mb := Mb) (N := N) (L := L) (w := nI (nuv n T (i + 1))) (p := nI (nuv n T (i + 2))) (ag := nI (nuv n T (i + 3))) hm M4 h5 hn hR.r8 hq4
    refine ⟨I5, ?_, ?_, ?_, hcf.e.trans g3.e⟩
    · simp only [hS4.ok, if_true, v1, v2, v3, g1, Option.bind_some]
    · rw [o10]; exact hS4.fm g3
    · rw [if_pos hok]; exact g2
  · have hz : ¬ I4 6 6 = 0 := by
      cases hs : tr4 n T r nt i with
      | inl j => rw [hs] at hok; exact absurd rfl hok
      | inr x => rw [hs] at hS4; exact CS.err hS4
    refine ⟨I4, ?_, hS4, ?_, hcf.e⟩
    · simp only [hz, if_false, if_neg one0]
    · rw [if_neg hok]; exact M4
theorem cx_readTrader {j : Nat} (hS : CS I n T c (.inl j)) (hk : tK n T j = 1) (hR : RI r nb nt) (hM : RM I 85 r nb nt) (hn : nt < 24) (hN : 1000 < N) : ∃ I', F_X7_readTrader N (wm Mb I L) 6 85 = some (wm Mb I' L) ∧ CS I' n T c (tr4 n T r nt (j + 1)) ∧ (if okS (tr4 n T r nt (j + 1)) = true then RM I' 85 (trR n T r nt (j + 1)) nb (nt + 1) else RM I' 85 r nb nt) ∧ EF I I' := by
  have hm : (85 : Nat) ∈ mks := by decide
  have h5 := hR.nb5
  have h24 := hR.nt24
  have hN2 : 100 < N := by omega
  obtain ⟨I1, a1, a2, a3⟩ := cx_anyWord (Mb := Mb) (N := N) (L := L) hS
  rw [stp_0 (by simp [hk])] at a2
  have M1 := hM.cf h5 h24 a3
  obtain ⟨I2, v, b1, b2, b3, b5, q, hq2⟩ := cx_takeName (Mb := Mb) (N := N) (L := L) a2 hN
  have M2 : RM I2 85 r nb nt := M1.cf h5 h24 b3
  have pre : ∃ I3, (F_X7_readTrader N (wm Mb I L) 6 85 = F_X7_readTrader_22 N (wm Mb I3 L) 6 85 v) ∧ CS I3 n T c (tr0 n T r nt (j + 1)) ∧ RM I3 85 r nb nt ∧ (okS (tr0 n T r nt (j + 1)) = true → nmV v (nmc n T (j + 1))) ∧ CF I2 I3 := by
    unfold F_X7_readTrader tr0
    by_cases cm : isM n T (j + 1) = true
    · rw [stp_0 (by simp [cm])] at b2
      have hnq := b5 (j + 1) rfl cm
      have hnm := cx_named (Mb := Mb) (N := N) (L := L) hm hnq.z h24 hR.r8 M2.tc M2.n hN2
      rw [if_pos cm]
      simp only [wm_kR, wm_kt, wm_kn, wm_kin, wm_kL, wm_kI, wm_ksI, wm_ksL, wm_kJ, wm_ksJ, kg_t, kl_v, Option.bind_some, s6.1, a1, b1, mm_k hm, hnm]
      cases hf : fnd r nt (nmc n T (j + 1)) with
      | none =>
        refine ⟨I2, ?_, b2, M2, fun _ => hnq, CF.rf'⟩
        simp only [cOf, if_true]
      | some t =>
        obtain ⟨I3, e1, e2, e3⟩ := cx_refuseT (Mb := Mb) (N := N) (L := L) b2 (e := 3) (by decide) (fun j hj => by cases hj; omega)
        rw [show nI 3 = 3 from rfl] at e1
        have e2' : CS I3 n T c (erS n T (j + 1) 3) := e2
        refine ⟨I3, ?_, e2', M2.cf h5 h24 e3, (fun z => by cases z), e3⟩
        simp only [cOf, tr_ne0, if_false, e1, Option.bind_some]
    · rw [stp_e (by simp [cm])] at b2
      have hz := CS.err b2
      have hnm := cx_named (Mb := Mb) (N := N) (L := L) hm hq2 h24 hR.r8 M2.tc M2.n hN2
      simp only [wm_kR, wm_kt, wm_kn, wm_kin, wm_kL, wm_kI, wm_ksI, wm_ksL, wm_kJ, wm_ksJ, kg_t, kl_v, Option.bind_some, s6.1, a1, b1, mm_k hm, hnm, ce_refuseT hz]
      rw [if_neg cm] at b2 ⊢
      refine ⟨I2, ?_, b2, M2, (fun z => by cases z), CF.rf'⟩
      split <;> rfl
  obtain ⟨I3, p1, p2, p3, p4, p5⟩ := pre
  obtain ⟨I4, q1, q2, q3, q4⟩ := cx_tr28 (Mb := Mb) (N := N) (L := L) p2 hR p3 hn p4 hN
  exact ⟨I4, p1.trans q1, q2, q3, ((a3.trans b3).trans p5).e.trans q4⟩
end
