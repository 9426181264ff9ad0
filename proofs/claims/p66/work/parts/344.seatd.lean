variable {Mb : SMem}
def erS (n : Nat) (T : Nat → Nat) (i e : Nat) : sg := .inr (e, tS n T i)
def plc (n : Nat) (T : Nat → Nat) (i d : Nat) : Nat := if isW n T 398548 i then 6 - d else 6 + d
def seI (n : Nat) (T : Nat → Nat) (r : Nat → Int32) (t b a q i : Nat) : sg × (Nat → Int32) :=
  if cN n T 1 (a + 1) i = 0 then (if r (si b q) = 0 then (if cG n T 59 (i + 1) = 0 then (.inl (i + 2), siR r t b q) else (erS n T (i + 1) (cG n T 59 (i + 1)), r)) else (erS n T i 3, r)) else (erS n T i (cN n T 1 (a + 1) i), r)
def seH (n : Nat) (T : Nat → Nat) (r : Nat → Int32) (t b a i : Nat) : sg × (Nat → Int32) :=
  if sdC n T i = 0 then seI n T r t b a (plc n T i (nuv n T (i + 1))) (i + 1) else (erS n T i (sdC n T i), r)
def seG (n : Nat) (T : Nat → Nat) (r : Nat → Int32) (nb t i : Nat) : sg × (Nat → Int32) :=
  if cN n T 0 nb i = 0 then seH n T r t (nuv n T i) (kx (r (14 + 15 * nuv n T i + 0))) (i + 1) else (erS n T i (cN n T 0 nb i), r)
def seF (n : Nat) (T : Nat → Nat) (r : Nat → Int32) (nb nt i : Nat) : sg × (Nat → Int32) :=
  if isM n T i then (match fnd r nt (nmc n T i) with
    | none => (erS n T i 4, r)
    | some t => if r (89 + 7 * t + 5) = -1 then seG n T r nb t (i + 1) else (erS n T i 3, r)) else (erS n T i 1, r)
section
variable {N : Nat} {I : kInts} {L : kLngs} {n c : Nat} {T : Nat → Nat} {σ : sg} {r : Nat → Int32} {nb nt m : Nat}
theorem RM.cI {I' : kInts} (h : RM I m r nb nt) (h5 : nb ≤ 5) (h24 : nt ≤ 24) (e : ∀ a j, m ≤ a → a < m + 41 → I' a j = I a j) : RM I' m r nb nt :=
  ⟨h.nu.cg (fun b hb => e _ _ (by unfold bd; omega) (by unfold bd; omega)) (fun t ht => e _ _ (by unfold tr; omega) (by unfold tr; omega)) (fun t ht => Or.inl (e _ _ (by unfold tr; omega) (by unfold tr; omega))), h.g.cg (fun j hj => e _ _ (by omega) (by omega)) (fun k hk => rfl), h.bb.cg (fun b hb j => e _ _ (by unfold bd; omega) (by unfold bd; omega)) (fun b hb j => e _ _ (by unfold ow; omega) (by unfold ow; omega)) (fun k h1 h2 => rfl) h5, h.tt.cg (fun t ht j => e _ _ (by unfold tr; omega) (by unfold tr; omega)) (fun t ht w hw => rfl), h.n.cg (fun t ht j _ => e _ _ (by unfold tr; omega) (by unfold tr; omega)) (fun t ht => rfl), h.e.cg (e _ _ (by unfold ev; omega) (by unfold ev; omega)) (fun k hk j => e _ _ (by unfold ek; omega) (by unfold ek; omega)) (fun k hk => rfl)⟩
theorem RM.cf {I' : kInts} (h : RM I 85 r nb nt) (h5 : nb ≤ 5) (h24 : nt ≤ 24) (e : CF I I') : RM I' 85 r nb nt := h.cI h5 h24 (fun a j h1 h2 => e _ _ (by omega))
def EF (I I' : kInts) : Prop := ∀ a j, ¬ (a = 6 ∧ 5 ≤ j ∧ j ≤ 7) → a < 85 ∨ 126 ≤ a → I' a j = I a j
theorem EF.rf' : EF I I := fun _ _ _ _ => rfl
theorem EF.trans {I1 I2 : kInts} (h : EF I I1) (h2 : EF I1 I2) : EF I I2 := fun a j x1 x4 => (h2 a j x1 x4).trans (h a j x1 x4)
theorem CF.e {I' : kInts} (h : CF I I') : EF I I' := fun a j x1 _ => h a j x1
theorem FR.e {I' : kInts} (h : FR 85 I I') : EF I I' := fun a j _ x4 => h a j (by omega)
theorem CF.d {I' : kInts} (h : CF I I') : EF I I' := h.e
theorem FR.d {I' : kInts} (h : FR 85 I I') : EF I I' := h.e
theorem EF.d {I' : kInts} (h : EF I I') : EF I I' := h
theorem CS.fm {I' : kInts} (h : CS I n T c σ) (e : FR 85 I I') : CS I' n T c σ := h.fr (fun a j ha => e a j (by omega))
theorem cx_sg (h : CS I n T c σ) {ch : Nat} (hch : ch < 256) : ∃ I', F_X9_takeSign N (wm Mb I L) 6 (nI ch) = some (wm Mb I' L) ∧ CS I' n T c (stp n T σ (cG n T ch)) ∧ CF I I' := by
  obtain ⟨I', a1, a2, a3⟩ := cx_takeIf (Mb := Mb) (N := N) (L := L) h (p := isG n T ch) (fun j hj => by
    unfold isG at hj
    simp only [Bool.and_eq_true, decide_eq_true_eq] at hj
    omega)
  refine ⟨I', ?_, a2, a3⟩
  unfold F_X9_takeSign
  simp only [cx_sign h hch, wm_kR, wm_kt, wm_kn, wm_kin, wm_kL, wm_kI, wm_ksI, wm_ksL, wm_kJ, wm_ksJ, kg_t, kl_v, Option.bind_some, s6.1, a1]
theorem sdV_or : sdV n T σ = 1 ∨ sdV n T σ = -1 := by
  unfold sdV
  split
  · exact Or.inr rfl
  · exact Or.inl rfl
theorem stp_0 {i : Nat} {f : Nat → Nat} (h : f i = 0) : stp n T (.inl i) f = .inl (i + 1) := by
  unfold stp
  simp only [h, if_true]
theorem stp_e {i : Nat} {f : Nat → Nat} (h : ¬ f i = 0) : stp n T (.inl i) f = erS n T i (f i) := by
  unfold stp erS
  simp only [h, if_false]
theorem nuV_0 {i lo hh : Nat} (h : cN n T lo hh i = 0) : nuV n T lo hh (.inl i) = nI (nuv n T i) := by
  unfold nuV
  simp only [h, if_true]
theorem nuV_e {i lo hh : Nat} (h : ¬ cN n T lo hh i = 0) : nuV n T lo hh (.inl i) = -1 := by
  unfold nuV
  simp only [h, if_false]
theorem cN_in {i lo hh : Nat} (h : cN n T lo hh i = 0) : lo ≤ nuv n T i ∧ nuv n T i < hh := by
  unfold cN at h
  by_cases y : tK n T i = 2
  · rw [if_pos y] at h
    by_cases z : lo ≤ nuv n T i ∧ nuv n T i < hh
    · exact z
    · rw [if_neg z] at h; cases h
  · rw [if_neg y] at h; cases h
theorem plc_ok {i d a : Nat} (h : 1 ≤ d ∧ d < a + 1) (h6 : a ≤ 6) : sdV n T (.inl i) * nI d = pz (plc n T i d) ∧ 6 - a ≤ plc n T i d ∧ plc n T i d ≤ 6 + a ∧ plc n T i d ≠ 6 := by
  unfold sdV plc
  simp only [qs]
  by_cases z : isW n T 398548 i = true
  · simp only [z, if_true]
    refine ⟨?_, by omega, by omega, by omega⟩
    rw [← pz_na (by omega)]
    grind
  · simp only [z, if_false, Bool.false_eq_true]
    refine ⟨?_, by omega, by omega, by omega⟩
    rw [← pz_a]
    grind
theorem cx_45 {i : Nat} (hS : CS I n T c (.inl i)) (hR : RI r nb nt) (hM : RM I 85 r nb nt) {t : Nat} (ht : t < nt) (hN : 1000 < N) : ∃ I', F_X7_readSeat_37 N (wm Mb I L) 6 85 (tr 85 t) = some (wm Mb I' L) ∧ CS I' n T c (seG n T r nb t i).1 ∧ RM I' 85 (seG n T r nb t i).2 nb nt ∧ EF I I' := by
  have hm : (85 : Nat) ∈ mks := by decide
  have h5 := hR.nb5
  have h24 := hR.nt24
  have one0' : ¬ (1 : Int32) = 0 := one0
  obtain ⟨I1, a1, a2, a3⟩ := cx_number (Mb := Mb) (N := N) (L := L) hS (lo := 0) (hh := nb) (x2 := nI nb - 1) (by omega) (by omega) rfl hN
  have M1 := hM.cf h5 h24 a3
  unfold F_X7_readSeat_37
  rw [show (0 : Int32) = nI 0 from rfl]
  simp only [wm_kR, wm_kt, wm_kn, wm_kin, wm_kL, wm_kI, wm_ksI, wm_ksL, wm_kJ, wm_ksJ, kg_t, kl_v, Option.bind_some, s6.1, mm_k hm, hM.bc, hR.r7, a1]
  unfold seG
  by_cases c4 : cN n T 0 nb i = 0
  · rw [stp_0 c4] at a2
    rw [nuV_0 c4, if_pos c4]
    have hb := (cN_in c4).2
    generalize hbb : nuv n T i = b at hb ⊢
    have hb5 : b < 5 := by omega
    obtain ⟨a, s, l, ha, -, -, ra, -⟩ := hR.b b hb
    rw [ra, kx_nI (by omega)]
    obtain ⟨I2, b1, b2, b3⟩ := cx_side (Mb := Mb) (N := N) (L := L) a2 hN
    have M2 := M1.cf h5 h24 b3
    simp only [cx_bn_in hm hR M1 hb, Option.bind_some, b1, show (nI 0 : Int32) = 0 from rfl, bd_ne0, if_false, wm_kt, bb_k hm hb5, kg_t, kl_v]
    unfold seH
    by_cases c5 : sdC n T (i + 1) = 0
    · rw [stp_0 c5] at b2
      rw [if_pos c5]
      obtain ⟨I3, d1, d2, d3⟩ := cx_number (Mb := Mb) (N := N) (L := L) b2 (lo := 1) (hh := a + 1) (x2 := nI a) (by omega) (by omega) (by show nI a = nI (a + 1) - nI 1; rw [pk_sub (by omega)]; rfl) hN
      have M3 := M2.cf h5 h24 d3
      unfold F_X7_readSeat_73
      rw [show (1 : Int32) = nI 1 from rfl]
      simp only [wm_kR, wm_kt, wm_kn, wm_kin, wm_kL, wm_kI, wm_ksI, wm_ksL, wm_kJ, wm_ksJ, kg_t, kl_v, Option.bind_some, s6.1, (M2.bb b hb).1, ra, d1, bd_ne0, if_false, bb_k hm hb5]
      unfold seI
      by_cases c6 : cN n T 1 (a + 1) (i + 1 + 1) = 0
      · rw [stp_0 c6] at d2
        rw [nuV_0 c6, if_pos c6]
        obtain ⟨p1, p2, p3, p4⟩ := plc_ok (n := n) (T := T) (i := i + 1) (cN_in c6) (show a ≤ 6 by omega)
        rw [p1]
        generalize hqq : plc n T (i + 1) (nuv n T (i + 1 + 1)) = q at p2 p3 p4 ⊢
        simp only [cx_free hm hR M3 hb ra (by omega) p2 p3 p4, Option.bind_some]
        by_cases c7 : r (si b q) = 0
        · simp only [c7, if_true, show ¬ (nI 1 = 0) from one0', if_false]
          obtain ⟨I4, e1, e2, e3⟩ := cx_sg (Mb := Mb) (N := N) (L := L) d2 (ch := 59) (by decide)
          have M4 := M3.cf h5 h24 e3
          unfold F_X7_readSeat_99
          rw [show (59 : Int32) = nI 59 from rfl]
          simp only [wm_kR, wm_kt, wm_kn, wm_kin, wm_kL, wm_kI, wm_ksI, wm_ksL, wm_kJ, wm_ksJ, kg_t, kl_v, Option.bind_some, s6.1, e1, cx_failed, tr_ne0, bd_ne0, if_false, mm_k hm]
          by_cases c8 : cG n T 59 (i + 1 + 1 + 1) = 0
          · rw [stp_0 c8] at e2
            simp only [e2.ok, c8, if_true]
            obtain ⟨I5, f1, f2, f3⟩ := cx_seat (Mb := Mb) (N := N) (L := L) hm h5 h24 M4 (show t < 24 by omega) hb5 (show q < 13 by omega) p4
            refine ⟨I5, ?_, e2.fm f3, f2, (((a3.trans b3).trans d3).trans e3).e.trans f3.e⟩
            simp only [one0', if_false]
            rw [p1, hqq, f1]
            simp only [Option.bind_some, c8, if_true]
          · rw [stp_e c8] at e2
            have hz := CS.err e2
            refine ⟨I4, ?_, ?_, ?_, (((a3.trans b3).trans d3).trans e3).e⟩
            · simp only [hz, if_false, one0']
            · simp only [c8, if_false]; exact e2
            · simp only [c8, if_false]; exact M4
        · obtain ⟨I4, e1, e2, e3⟩ := cx_refuseT (Mb := Mb) (N := N) (L := L) d2 (e := 3) (by decide) (fun j hj => by cases hj; omega)
          rw [show nI 3 = 3 from rfl] at e1
          have M4 := M3.cf h5 h24 e3
          have e2' : CS I4 n T c (erS n T (i + 1 + 1) 3) := e2
          have hz := CS.err e2'
          refine ⟨I4, ?_, ?_, ?_, (((a3.trans b3).trans d3).trans e3).e⟩
          · simp only [c7, if_false, if_true, e1, Option.bind_some, ce_112 hz]
          · simp only [c7, if_false]; exact e2'
          · simp only [c7, if_false]; exact M4
      · rw [stp_e c6] at d2
        have hz := CS.err d2
        obtain ⟨q, hq, e⟩ : ∃ q, q < 13 ∧ sdV n T (.inl (i + 1)) * (-1) = pz q := by
          rcases sdV_or (n := n) (T := T) (σ := .inl (i + 1)) with z | z
          · exact ⟨5, by decide, by rw [z]; decide⟩
          · exact ⟨7, by decide, by rw [z]; decide⟩
        obtain ⟨v, hv, hv2⟩ := cx_freeAny (Mb := Mb) (N := N) (I := I3) (L := L) hm hb5 hq
        refine ⟨I3, ?_, ?_, ?_, ((a3.trans b3).trans d3).e⟩
        · rw [nuV_e c6, e, hv]
          simp only [Option.bind_some, ce_refuseT hz, ce_112 hz]
          split <;> rfl
        · simp only [c6, if_false]; exact d2
        · simp only [c6, if_false]; exact M3
    · rw [stp_e c5] at b2
      have hz := CS.err b2
      refine ⟨I2, ?_, ?_, ?_, (a3.trans b3).e⟩
      · exact ce_84 hz (Or.inr ⟨b, hb5, rfl⟩) sdV_or _ _
      · simp only [c5, if_false]; exact b2
      · simp only [c5, if_false]; exact M2
  · rw [stp_e c4] at a2
    have hz := CS.err a2
    refine ⟨I1, ?_, ?_, ?_, a3.e⟩
    · rw [nuV_e c4]
      simp only [cx_bn0 hm (show (-1 : Int32) < 0 by decide), Option.bind_some, ce_side hz, if_true, kl_v]
      exact ce_84 hz (Or.inl rfl) (Or.inl rfl) _ _
    · simp only [c4, if_false]; exact a2
    · simp only [c4, if_false]; exact M1
end
section
variable {N : Nat} {I : kInts} {L : kLngs} {n c : Nat} {T : Nat → Nat} {r : Nat → Int32} {nb nt : Nat}
theorem cx_readSeat {j : Nat} (hS : CS I n T c (.inl j)) (hk : tK n T j = 1) (hR : RI r nb nt) (hM : RM I 85 r nb nt) (hN : 1000 < N) : ∃ I', F_X7_readSeat N (wm Mb I L) 6 85 = some (wm Mb I' L) ∧ CS I' n T c (seF n T r nb nt (j + 1)).1 ∧ RM I' 85 (seF n T r nb nt (j + 1)).2 nb nt ∧ EF I I' := by
  have hm : (85 : Nat) ∈ mks := by decide
  have h5 := hR.nb5
  have h24 := hR.nt24
  have hN2 : 100 < N := by omega
  obtain ⟨I1, a1, a2, a3⟩ := cx_anyWord (Mb := Mb) (N := N) (L := L) hS
  rw [stp_0 (by simp [hk])] at a2
  have M1 := hM.cf h5 h24 a3
  obtain ⟨I2, v, b1, b2, b3, b5, b6⟩ := cx_takeName (Mb := Mb) (N := N) (L := L) a2 hN
  have hd : EF I1 I2 := b3.e
  have M2 : RM I2 85 r nb nt := M1.cf h5 h24 b3
  unfold F_X7_readSeat
  simp only [wm_kR, wm_kt, wm_kn, wm_kin, wm_kL, wm_kI, wm_ksI, wm_ksL, wm_kJ, wm_ksJ, kg_t, kl_v, Option.bind_some, s6.1, a1, b1, mm_k hm]
  unfold seF
  by_cases cm : isM n T (j + 1) = true
  · rw [stp_0 (by simp [cm])] at b2
    have hnq := (b5 (j + 1) rfl cm).z
    rw [cx_named hm hnq h24 hR.r8 M2.tc M2.n hN2]
    rw [if_pos cm]
    cases hf : fnd r nt (nmc n T (j + 1)) with
    | none =>
      obtain ⟨I3, e1, e2, e3⟩ := cx_refuseT (Mb := Mb) (N := N) (L := L) b2 (e := 4) (by decide) (fun j hj => by cases hj; omega)
      rw [show nI 4 = 4 from rfl] at e1
      have e2' : CS I3 n T c (erS n T (j + 1) 4) := e2
      refine ⟨I3, ?_, e2', M2.cf h5 h24 e3, (a3.d.trans hd).trans e3.d⟩
      simp only [Option.bind_some, cOf, if_true, e1, ce_45 (CS.err e2')]
    | some t =>
      have ht := fnd_lt hf
      have ht24 : t < 24 := by omega
      simp only [Option.bind_some, cOf, tr_ne0, if_false, tt_k hm ht24, kg_t, cx_seated hm h24 M2 ht]
      by_cases cs : r (89 + 7 * t + 5) = -1
      · simp only [cs, if_true]
        obtain ⟨I3, f1, f2, f3, f4⟩ := cx_45 (Mb := Mb) (N := N) (L := L) b2 hR M2 ht hN
        exact ⟨I3, f1, f2, f3, (a3.d.trans hd).trans f4.d⟩
      · obtain ⟨I3, e1, e2, e3⟩ := cx_refuseT (Mb := Mb) (N := N) (L := L) b2 (e := 3) (by decide) (fun j hj => by cases hj; omega)
        rw [show nI 3 = 3 from rfl] at e1
        have e2' : CS I3 n T c (erS n T (j + 1) 3) := e2
        simp only [cs, if_false, if_neg one0]
        refine ⟨I3, ?_, e2', M2.cf h5 h24 e3, (a3.d.trans hd).trans e3.d⟩
        simp only [Option.bind_some, e1, ce_45 (CS.err e2')]
  · rw [stp_e (by simp [cm])] at b2
    have hz := CS.err b2
    obtain ⟨q, hq3⟩ := b6
    rw [cx_named hm hq3 h24 hR.r8 M2.tc M2.n hN2, if_neg cm]
    have hfin : erS n T (j + 1) (if isM n T (j + 1) = true then 0 else 1) = erS n T (j + 1) 1 := by rw [if_neg cm]
    refine ⟨I2, ?_, ?_, M2, a3.d.trans hd⟩
    · simp only [Option.bind_some, ce_refuseT hz, ce_45 hz]
      cases hf : fnd r nt q with
      | none => simp only [cOf, if_true]
      | some t =>
        have ht := fnd_lt hf
        simp only [cOf, tr_ne0, if_false, tt_k hm (show t < 24 by omega), kg_t, cx_seated hm h24 M2 ht, Option.bind_some]
        split <;> split <;> rfl
    · rw [← hfin]; exact b2
end
