/-! a StringBuilder of the law: its bytes -/
def SBx (M : kMem) (w : Nat) (cs : List Nat) : Prop := (kt M w 39 = true ∧ kI M w 1 = 0 ∧ kI M w 3 = nI cs.length) ∧ (kt M (kR M w 0) 20 = true ∧ cs.length ≤ kn M (kR M w 0) ∧ kn M (kR M w 0) ≤ 700) ∧ (∀ i, i < cs.length → kI M (kR M w 0) i = nI (cs.getD i 0)) ∧ ∀ i, i < kn M (kR M w 0) → ∃ c, c < 128 ∧ kI M (kR M w 0) i = nI c
def Sf (M M' : kMem) (k : Nat) : Prop := (∃ l, M'.1 = M.1 ++ l ∧ (l.map (fun c => c.2 + 1)).sum ≤ k) ∧ ∀ a j, (a = 0 ∨ ∃ s, kt M a s = true ∧ s ≠ 20 ∧ s ≠ 39) → kI M' a j = kI M a j ∧ kR M' a j = kR M a j
section
variable {N : Nat} {M M' M1 M2 : kMem} {a s i j k k2 w c : Nat} {cs : List Nat}
theorem Sf.rf' : Sf M M 0 := ⟨⟨[], by simp, by simp⟩, fun _ _ _ => ⟨rfl, rfl⟩⟩
theorem Sf.le (h : Sf M M' k) (hk : k ≤ k2) : Sf M M' k2 := by
  obtain ⟨⟨l, hl, hs⟩, h2⟩ := h
  exact ⟨⟨l, hl, by omega⟩, h2⟩
theorem Sf.trans (h : Sf M M1 k) (h2 : Sf M1 M2 k2) : Sf M M2 (k + k2) := by
  obtain ⟨⟨l, hl, hs⟩, h3⟩ := h
  obtain ⟨⟨l2, hl2, hs2⟩, g3⟩ := h2
  refine ⟨⟨l ++ l2, by rw [hl2, hl, List.append_assoc], by rw [List.map_append, List.sum_append]; omega⟩, fun a j ha => ?_⟩
  obtain ⟨e1, e2⟩ := h3 a j ha
  obtain ⟨e3, e4⟩ := g3 a j (ha.imp id (fun ⟨s, z1, z2⟩ => ⟨s, kt_pre hl z1, z2⟩))
  exact ⟨e3.trans e1, e4.trans e2⟩
theorem getD_app (cs p : List Nat) (i : Nat) : (cs ++ p).getD i 0 = if i < cs.length then cs.getD i 0 else p.getD (i - cs.length) 0 := by
  simp only [List.getD_eq_getElem?_getD]
  by_cases h : i < cs.length
  · rw [if_pos h, List.getElem?_append_left h]
  · rw [if_neg h, List.getElem?_append_right (by omega)]
theorem sub_pos {x y : Nat} (hx : x < 2 ^ 30) (hy : y < 2 ^ 30) : (0 : Int32) < nI x - nI y ↔ y < x := by
  rw [Int32.lt_iff_toInt_lt, pk_sub_toInt hx hy]
  have : (0 : Int32).toInt = 0 := rfl
  omega
theorem fit_c : ∀ c, c < 128 → fits .byte (.int (nI c)) = true := by decide +kernel
theorem i8_c : ∀ c, c < 128 → (nI c).toInt8.toInt32 = nI c := by decide +kernel
theorem sh_l0 : ∀ x : Int32, x <<< ((0 : Int32) &&& 31) = x := fun x => by
  rw [show ((0 : Int32) &&& 31) = 0 by decide]
  apply Int32.toBitVec_inj.mp
  simp
theorem sh_r0 : ∀ x : Int32, x >>> ((0 : Int32) &&& 31) = x := fun x => by
  rw [show ((0 : Int32) &&& 31) = 0 by decide]
  apply Int32.toBitVec_inj.mp
  simp
theorem sb_ens (h : SBx M w cs) {X : Nat} (hX : X ≤ 340) : ∃ M', F_AS_ensure N M w (nI X) = some M' ∧ SBx M' w cs ∧ X ≤ kn M' (kR M' w 0) ∧ Sf M M' 701 := by
  obtain ⟨⟨h1, h2, h3⟩, ⟨h4, h5, h6⟩, h7, h8⟩ := h
  unfold F_AS_ensure
  rw [h1, kg_t, h4, kg_t, kg_t, kl_v, h2, sh_r0, ofNnI]
  by_cases c0 : kn M (kR M w 0) < X
  · rw [if_pos ((sub_pos (by omega) (by omega)).mpr c0), kg_t, kg_t]
    generalize hv : kR M w 0 = v at *
    generalize hcap : kn M v = cap at *
    have e2 : nI cap + 2 = nI (cap + 2) := by rw [show (2 : Int32) = nI 2 from rfl, nI_add]
    have hncap : F_AS_newCapacity N M w (nI X) = some (nI (cap + max (X - cap) (cap + 2))) := by
      unfold F_AS_newCapacity F_AX_newLength
      rw [h1, kg_t, hv, h4, kg_t, kl_v, kg_t, kl_v, h2, sh_l0, kl_v, hcap, kg_t, ofNnI, sh_l0, pk_sub (by omega), e2, kmax_nI (by omega) (by omega), nI_add, kl_v]
      rw [if_pos (show (0 : Int32) < nI (cap + max (X - cap) (cap + 2)) from by
        rw [show (0 : Int32) = nI 0 from rfl, nI_ltI (by decide) (by omega)]; omega)]
      rw [if_neg (show ¬ (2147483639 : Int32) < nI (cap + max (X - cap) (cap + 2)) from by
        rw [show (2147483639 : Int32) = nI 2147483639 from rfl, nI_ltI (by decide) (by omega)]; omega)]
      rw [Option.bind_some, if_neg (show ¬ nI (cap + max (X - cap) (cap + 2)) = 2147483647 from by
        rw [show (2147483647 : Int32) = nI 2147483647 from rfl, nI_eq (by omega) (by decide)]; omega), kg_t, sh_r0]
    rw [hncap, Option.bind_some, kg_t, sh_l0]
    generalize hC : cap + max (X - cap) (cap + 2) = C
    have hC1 : X ≤ C ∧ cap < C ∧ C ≤ 700 := by omega
    have wl := (kt_le h1).2
    have vl := (kt_le h4).2
    have kN : kt (kNew M 20 C) (M.1.length + 1) 20 = true := kt_newW
    have kv : kt (kNew M 20 C) v 20 = true := kt_newO h4
    have kw : kt (kNew M 20 C) w 39 = true := kt_newO h1
    have nN : kn (kNew M 20 C) (M.1.length + 1) = C := by unfold kn kcell kNew; simp
    have nv : kn (kNew M 20 C) v = cap := by
      rw [← hcap]
      unfold kn
      rw [kcell_pre (M' := kNew M 20 C) (l := [(20, C)]) rfl (kt_le h4).1 vl]
    have iv : ∀ i, kI (kNew M 20 C) v i = kI M v i := fun i => by rw [z_IN, if_neg (by omega)]
    have hcp : kcpB (kNew M 20 C) v 0 (M.1.length + 1) 0 (nI cap) = true := by
      unfold kcpB kFitB
      have ec : (nI cap).toNatClampNeg = cap := kx_nI (by omega)
      have ex : kx (nI cap) = cap := kx_nI (by omega)
      have p1 : (0 : Int32) ≤ nI cap := nI_0le (by omega)
      rw [kv, kN, nv, nN, ec, ex]
      simp only [Bool.true_and, decide_eq_true_eq, Bool.and_eq_true, p1, show (0 : Int32) ≤ 0 by decide, decide_true, Bool.and_true, true_and, List.all_eq_true, List.mem_range]
      refine ⟨by show 0 + cap ≤ cap; omega, by show 0 + cap ≤ C; omega, fun i hi => ?_⟩
      rw [show kx 0 + i = i by rw [kx_0]; omega, iv]
      obtain ⟨c, hc, ec⟩ := h8 i hi
      rw [ec]
      exact fit_c c hc
    have hcopy : F_AR_copyOf N M v (nI C) = some (M.1.length + 1, kcp (kNew M 20 C) v 0 (M.1.length + 1) 0 (nI cap)) := by
      unfold F_AR_copyOf
      rw [h4, kg_t, hcap, ofNnI, if_neg (show ¬ nI C = nI cap from by rw [nI_eq (by omega) (by omega)]; omega)]
      rw [show (decide ((0 : Int32) ≤ nI C) && decide ((nI C).toNatClampNeg ≤ 60000)) = true from by
        have p1 : (0 : Int32) ≤ nI C := nI_0le (by omega)
        have ec : (nI C).toNatClampNeg = C := kx_nI (by omega)
        rw [ec]
        simp only [p1, decide_true, Bool.true_and, decide_eq_true_eq]
        omega]
      rw [show (nI C).toNatClampNeg = C from kx_nI (by omega), kg_t, kl_v, kl_v, kv, kg_t, nv, ofNnI, kmin_nI (by omega) (by omega), Nat.min_eq_left (by omega), hcp, kg_t, kl_v]
    rw [hcopy, Option.bind_some]
    have kc : ∀ x t, kt (kcp (kNew M 20 C) v 0 (M.1.length + 1) 0 (nI cap)) x t = kt (kNew M 20 C) x t := fun _ _ => rfl
    rw [kc, kw, kg_t, kl_v]
    generalize hM' : ksR (kcp (kNew M 20 C) v 0 (M.1.length + 1) 0 (nI cap)) w 0 (M.1.length + 1) = M4
    have c4 : M4.1 = M.1 ++ [(20, C)] := by rw [← hM']; rfl
    have i4 : ∀ x i, x ≠ M.1.length + 1 → kI M4 x i = kI M x i := by
      intro x i hx
      rw [← hM', z_IR]
      show (if x = M.1.length + 1 ∧ _ then _ else kI (kNew M 20 C) x i) = _
      rw [if_neg (fun z => hx z.1), z_IN, if_neg hx]
    have iN : ∀ i, kI M4 (M.1.length + 1) i = if i < cap then kI M v i else 0 := by
      intro i
      rw [← hM', z_IR]
      show (if M.1.length + 1 = M.1.length + 1 ∧ (0 : Int32).toNatClampNeg ≤ i ∧ i < (0 : Int32).toNatClampNeg + (nI cap).toNatClampNeg then kI (kNew M 20 C) v ((0 : Int32).toNatClampNeg + (i - (0 : Int32).toNatClampNeg)) else kI (kNew M 20 C) (M.1.length + 1) i) = _
      rw [show (0 : Int32).toNatClampNeg = 0 from by decide, show (nI cap).toNatClampNeg = cap from kx_nI (by omega)]
      by_cases z : i < cap
      · rw [if_pos ⟨rfl, Nat.zero_le _, by omega⟩, if_pos z, iv]
        congr 1
        omega
      · rw [if_neg (fun y => by omega), if_neg z, z_IN, if_pos rfl]
    have r4 : ∀ x i, (x ≠ w ∨ i ≠ 0) → x ≠ M.1.length + 1 → kR M4 x i = kR M x i := by
      intro x i hx hx2
      rw [← hM', z_RR, if_neg (fun z => hx.elim (fun y => y z.1) (fun y => y z.2))]
      show kR (kNew M 20 C) x i = _
      rw [z_RN, if_neg hx2]
    have rw4 : kR M4 w 0 = M.1.length + 1 := by rw [← hM', z_RR, if_pos ⟨rfl, rfl⟩]
    have n4 : kn M4 (M.1.length + 1) = C := by rw [← hM']; exact nN
    have k4 : kt M4 (M.1.length + 1) 20 = true := by rw [← hM']; exact kN
    refine ⟨M4, rfl, ⟨⟨by rw [← hM']; exact kw, (i4 w 1 (by omega)).trans h2, (i4 w 3 (by omega)).trans h3⟩, ?_⟩, ?_, ⟨[(20, C)], c4, by simp; omega⟩, fun x i hx => ?_⟩
    · rw [rw4, n4]
      refine ⟨⟨k4, by omega, by omega⟩, fun i hi => ?_, fun i hi => ?_⟩
      · rw [iN, if_pos (by omega)]
        exact h7 i hi
      · rw [iN]
        split
        · next z => exact h8 i z
        · exact ⟨0, by omega, rfl⟩
    · rw [rw4, n4]; omega
    · have hne : x ≠ w ∧ x ≠ M.1.length + 1 := by
        rcases hx with z | ⟨t, z1, z2, z3⟩
        · have := (kt_le h1).1; omega
        · exact ⟨kt_ne z1 h1 z3, by have := (kt_le z1).2; omega⟩
      exact ⟨i4 x i hne.2, r4 x i (Or.inl hne.1) hne.2⟩
  · rw [if_neg (fun z => c0 ((sub_pos (by omega) (by omega)).mp z))]
    exact ⟨M, rfl, ⟨⟨h1, h2, h3⟩, ⟨h4, h5, h6⟩, h7, h8⟩, by omega, Sf.rf'.le (by omega)⟩
/-- bytes written behind, then the count set -/
theorem sb_fin (h : SBx M w cs) {p : List Nat} (hp : ∀ i, i < p.length → p.getD i 0 < 128) (hk : kt M' w 39 = true) (hc : M'.1 = M.1) (hl : cs.length + p.length ≤ kn M (kR M w 0)) (hR : ∀ x i, kR M' x i = kR M x i) (hI : ∀ x i, x ≠ w → x ≠ kR M w 0 → kI M' x i = kI M x i) (h1 : kI M' w 1 = 0) (h3 : kI M' w 3 = nI (cs.length + p.length)) (hv : ∀ i, kI M' (kR M w 0) i = if cs.length ≤ i ∧ i < cs.length + p.length then nI (p.getD (i - cs.length) 0) else kI M (kR M w 0) i) : SBx M' w (cs ++ p) ∧ Sf M M' 0 := by
  obtain ⟨⟨g1, g2, g3⟩, ⟨g4, g5, g6⟩, g7, g8⟩ := h
  refine ⟨⟨⟨hk, h1, by rw [h3, List.length_append]⟩, ?_, fun i hi => ?_, fun i hi => ?_⟩, ⟨[], by rw [hc]; simp, by simp⟩, fun x i hx => ?_⟩
  · rw [hR, kt_cg hc, kn_cg hc, List.length_append]
    exact ⟨g4, hl, g6⟩
  · rw [hR, hv, getD_app]
    rw [List.length_append] at hi
    by_cases z : i < cs.length
    · rw [if_neg (by omega), if_pos z]
      exact g7 i z
    · rw [if_pos (by omega), if_neg z]
  · rw [hR] at hi ⊢
    rw [kn_cg hc] at hi
    rw [hv]
    split
    · next z => exact ⟨_, hp _ (by omega), rfl⟩
    · exact g8 i hi
  · refine ⟨?_, hR x i⟩
    rcases hx with z | ⟨t, z1, z2, z3⟩
    · refine hI x i ?_ ?_
      · have := (kt_le g1).1; omega
      · have := (kt_le g4).1; omega
    · exact hI x i (kt_ne z1 g1 z3) (kt_ne z1 g4 z2)
theorem sb_C (h : SBx M w cs) (hl : cs.length + 1 ≤ 340) (hc : c < 128) : ∃ M', F_SB_appendC N M w (nI c) = some (w, M') ∧ SBx M' w (cs ++ [c]) ∧ Sf M M' 701 := by
  obtain ⟨M1, u1, s1, hcap, f1⟩ := sb_ens (N := N) h (X := cs.length + 1) hl
  have s1' := s1
  obtain ⟨⟨g1, g2, g3⟩, ⟨g4, g5, g6⟩, g7, g8⟩ := s1
  have nwv : kR M1 w 0 ≠ w := kt_ne g4 g1 (by decide)
  unfold F_SB_appendC F_AS_appendC F_AS_isLatin1 F_J1_canEncode
  have e3 : kI M w 3 + 1 = nI (cs.length + 1) := by rw [h.1.2.2, nI_1]
  rw [h.1.1, kg_t, kg_t, kg_t, e3, u1, Option.bind_some, g1, kg_t, if_neg (by decide), kg_t, g2, if_pos rfl, Option.bind_some, if_neg (by decide)]
  rw [if_neg (show ¬ (255 : Int32) < nI c from by rw [show (255 : Int32) = nI 255 from rfl, nI_ltI (by decide) (by omega)]; omega), Option.bind_some, if_neg (by decide), kg_t, kg_t, kg_t, g3, nI_1, kl_v]
  have kn1 : kin (ksI M1 w 3 (nI (cs.length + 1))) (kR M1 w 0) 20 (nI cs.length) = true := kin_nI (i := cs.length) g4 rfl (by show cs.length < kn M1 (kR M1 w 0); omega) (by show kn M1 (kR M1 w 0) < _; omega)
  rw [kn1, kg_t, kl_v, Option.bind_some, kx_nI (by omega), i8_c c hc, i8_c c hc]
  obtain ⟨x1, x2⟩ := sb_fin (M' := ksI (ksI M1 w 3 (nI (cs.length + 1))) (kR M1 w 0) cs.length (nI c)) s1' (p := [c]) (fun i hi => by
    have : i = 0 := by simp at hi; omega
    subst this
    exact hc) g1 rfl (by simp; omega) (fun _ _ => rfl) (fun x i hx hx2 => by rw [z_II, if_neg (fun z => hx2 z.1), z_II, if_neg (fun z => hx z.1)]) (by rw [z_II, if_neg (fun z => nwv z.1.symm), z_II, if_neg (by omega)]; exact g2) (by rw [z_II, if_neg (fun z => nwv z.1.symm), z_II, if_pos ⟨rfl, rfl⟩]; rfl) (fun i => by
    rw [z_II]
    by_cases z : i = cs.length
    · rw [if_pos ⟨rfl, z⟩, if_pos (by simp; omega), z, Nat.sub_self]
      rfl
    · rw [if_neg (fun y => z y.2), if_neg (by simp; omega), z_II, if_neg (fun y => nwv y.1)])
  exact ⟨_, rfl, x1, (f1.trans x2).le (by omega)⟩
def pcs (s : Nat) : List Nat := (kSbyt.getD s []).map kx
theorem pcs_ok : ∀ s, s < 23 → s ≠ 0 → (F_J0_length s = some (nI (pcs s).length)) ∧ kSlen.getD s 0 = (pcs s).length ∧ (pcs s).length ≤ 100 ∧ ((List.range (pcs s).length).all (fun i => decide ((kSbyt.getD s []).getD i 0 = nI ((pcs s).getD i 0)) && decide ((pcs s).getD i 0 < 128))) = true := by decide +kernel
theorem sb_S (h : SBx M w cs) {s : Nat} (hs : s < 23) (hs0 : s ≠ 0) (hl : cs.length + (pcs s).length ≤ 340) : ∃ M', F_SB_appendS N M w s = some (w, M') ∧ SBx M' w (cs ++ pcs s) ∧ Sf M M' 701 := by
  obtain ⟨p1, p2, p3, p4⟩ := pcs_ok s hs hs0
  rw [List.all_eq_true] at p4
  have pb : ∀ i, i < (pcs s).length → (kSbyt.getD s []).getD i 0 = nI ((pcs s).getD i 0) ∧ (pcs s).getD i 0 < 128 := fun i hi => by
    have := p4 i (List.mem_range.mpr hi)
    simpa using this
  obtain ⟨M1, u1, s1, hcap, f1⟩ := sb_ens (N := N) h (X := cs.length + (pcs s).length) hl
  have s1' := s1
  obtain ⟨⟨g1, g2, g3⟩, ⟨g4, g5, g6⟩, g7, g8⟩ := s1
  have nwv : kR M1 w 0 ≠ w := kt_ne g4 g1 (by decide)
  have hkS : decide (s < kSn) = true := decide_eq_true hs
  have hcod : F_J0_coder s = some 0 := by unfold F_J0_coder; rw [hkS, kg_t]
  unfold F_SB_appendS F_AS_appendS F_AS_putStringAt F_AS_inflateIf F_J0_getBytesS
  rw [h.1.1, kg_t, p1, Option.bind_some, kg_t, kg_t, h.1.2.2, nI_add, u1, Option.bind_some, g1, kg_t, kg_t, kg_t, if_neg (by decide), kg_t, hcod, Option.bind_some, g2, if_pos rfl, Option.bind_some, kg_t, kg_t, hkS, kg_t, Option.bind_some, if_pos rfl, kg_t, kg_t, kg_t, g3, sh_l0, p2, ofNnI]
  have hcp : kcpTOk M1 s 0 (kR M1 w 0) (nI cs.length) (nI (pcs s).length) = true := by
    unfold kcpTOk
    have q1 : (0 : Int32) ≤ nI cs.length := nI_0le (by omega)
    have q2 : (0 : Int32) ≤ nI (pcs s).length := nI_0le (by omega)
    have ec : (nI (pcs s).length).toNatClampNeg = (pcs s).length := kx_nI (by omega)
    have ed : (nI cs.length).toNatClampNeg = cs.length := kx_nI (by omega)
    rw [hkS, g4, p2, ec, ed]
    simp only [Bool.true_and, Bool.and_eq_true, decide_eq_true_eq, q1, q2, show (0 : Int32) ≤ 0 by decide, decide_true, true_and]
    exact ⟨by show 0 + _ ≤ _; omega, hcap⟩
  rw [hcp, kg_t, kl_v, Option.bind_some, Option.bind_some]
  have kc : ∀ x t, kt (kcpT M1 s 0 (kR M1 w 0) (nI cs.length) (nI (pcs s).length)) x t = kt M1 x t := fun _ _ => rfl
  have ic : ∀ x i, kI (kcpT M1 s 0 (kR M1 w 0) (nI cs.length) (nI (pcs s).length)) x i = if x = kR M1 w 0 ∧ cs.length ≤ i ∧ i < cs.length + (pcs s).length then (kSbyt.getD s []).getD (i - cs.length) 0 else kI M1 x i := by
    intro x i
    show (if x = kR M1 w 0 ∧ (nI cs.length).toNatClampNeg ≤ i ∧ i < (nI cs.length).toNatClampNeg + (nI (pcs s).length).toNatClampNeg then (kSbyt.getD s []).getD ((0 : Int32).toNatClampNeg + (i - (nI cs.length).toNatClampNeg)) 0 else kI M1 x i) = _
    have ec : (nI (pcs s).length).toNatClampNeg = (pcs s).length := kx_nI (by omega)
    have ed : (nI cs.length).toNatClampNeg = cs.length := kx_nI (by omega)
    rw [ec, ed, show (0 : Int32).toNatClampNeg = 0 from by decide, Nat.zero_add]
  rw [kc, g1, kg_t, kg_t, ic, if_neg (fun z => nwv z.1.symm), g3, nI_add, kl_v, Option.bind_some]
  obtain ⟨x1, x2⟩ := sb_fin (M' := ksI (kcpT M1 s 0 (kR M1 w 0) (nI cs.length) (nI (pcs s).length)) w 3 (nI (cs.length + (pcs s).length))) s1' (p := pcs s) (fun i hi => (pb i hi).2) g1 rfl hcap (fun _ _ => rfl) (fun x i hx hx2 => by rw [z_II, if_neg (fun z => hx z.1), ic, if_neg (fun z => hx2 z.1)]) (by rw [z_II, if_neg (by omega), ic, if_neg (fun z => nwv z.1.symm)]; exact g2) (by rw [z_II, if_pos ⟨rfl, rfl⟩]) (fun i => by
    rw [z_II, if_neg (fun z => nwv z.1), ic]
    by_cases z : cs.length ≤ i ∧ i < cs.length + (pcs s).length
    · rw [if_pos ⟨rfl, z⟩, if_pos z]
      exact (pb _ (by omega)).1
    · rw [if_neg (fun y => z y.2), if_neg z])
  exact ⟨_, rfl, x1, (f1.trans x2).le (by omega)⟩
/-- a number's digits -/
def dgs (v : Nat) : List Nat := if v < 10 then [48 + v] else if v < 100 then [48 + v / 10, 48 + v % 10] else [48 + v / 100, 48 + v / 10 % 10, 48 + v % 10]
theorem num_tab : ∀ v, v < 1000 → ((-10 : Int32) < -nI v ↔ v < 10) ∧ ((-100 : Int32) < -nI v ↔ v < 100) ∧ ((-1000 : Int32) < -nI v) ∧ (-nI v < -9 ↔ 10 ≤ v) ∧ (-nI v / 100 = -nI (v / 100)) ∧ (-nI (v / 100) * 100 - -nI v = nI (v % 100)) := by decide +kernel
theorem dg_tab : ∀ v, v < 100 → (nI (48 + v % 10)).toInt8.toInt32 = nI (48 + v % 10) ∧ (nI (48 + v / 10)).toInt8.toInt32 = nI (48 + v / 10) ∧ (nI v).toNatClampNeg = v ∧ (decide ((0 : Int32) ≤ nI v) && decide (nI v < (100 : Int32))) = true := by decide +kernel
theorem dgs_len (v : Nat) : (dgs v).length = if v < 10 then 1 else if v < 100 then 2 else 3 := by
  unfold dgs
  split
  · rfl
  · split <;> rfl
theorem i_size {v : Nat} (hv : v < 1000) (hN : 100 < N) : F_IN_stringSize N M (nI v) = some (nI (dgs v).length) := by
  obtain ⟨t1, t2, t3, -⟩ := num_tab v hv
  obtain ⟨n, rfl⟩ : ∃ n, N = n + 3 := ⟨N - 3, by omega⟩
  have h0 : ¬ nI v < 0 := nI_pos (by omega)
  unfold F_IN_stringSize
  rw [if_neg h0, kl_v, dgs_len]
  unfold F_IN_stringSize_16
  rw [if_pos (by decide)]
  by_cases c1 : v < 10
  · rw [if_pos (t1.mpr c1), if_pos c1]
    rfl
  · rw [if_neg (fun z => c1 (t1.mp z)), if_neg c1, kl_v, kl_v, show (10 : Int32) * -10 = -100 by decide, show (1 : Int32) + 1 = 2 by decide]
    unfold F_IN_stringSize_16
    rw [if_pos (by decide)]
    by_cases c2 : v < 100
    · rw [if_pos (t2.mpr c2), if_pos c2]
      rfl
    · rw [if_neg (fun z => c2 (t2.mp z)), if_neg c2, kl_v, kl_v, show (10 : Int32) * -100 = -1000 by decide, show (2 : Int32) + 1 = 3 by decide]
      unfold F_IN_stringSize_16
      rw [if_pos (by decide), if_pos t3]
      rfl
theorem nI_dec {x : Nat} : nI (x + 1) + (-1) = nI x := by
  rw [← nI_1]
  grind
/-- the digits of a number below 100, backward from e -/
theorem i_two {v e u : Nat} (hv : v < 100) (ha : kt M a 20 = true) (hn : kn M a = u) (hu : u < 2000) (he : (dgs v).length ≤ e) (heu : e ≤ u) (n : Nat) : ∃ M', F_IN_getChars_22 N (n + 1) M (-nI v) a (nI e) 0 = some (nI (e - (dgs v).length), M') ∧ M'.1 = M.1 ∧ (∀ x i, kR M' x i = kR M x i) ∧ ∀ x i, kI M' x i = if x = a ∧ e - (dgs v).length ≤ i ∧ i < e then nI ((dgs v).getD (i - (e - (dgs v).length)) 0) else kI M x i := by
  obtain ⟨t1, t2, t3, t4, -⟩ := num_tab v (by omega)
  obtain ⟨d1, d2, d3, d4⟩ := dg_tab v hv
  have nn' : - -nI v = nI v := by grind
  unfold F_IN_getChars_22
  rw [if_pos (t2.mpr hv)]
  obtain ⟨e, rfl⟩ : ∃ e', e = e' + 1 := ⟨e - 1, by rw [dgs_len] at he; split at he <;> (try split at he) <;> omega⟩
  have k1 : kin M a 20 (nI e) = true := kin_nI ha hn (by omega) (by omega)
  rw [nI_dec, kl_v, nn', d4, kg_t, k1, kg_t, d3, d1, kx_nI (by omega), kl_v]
  by_cases c : 10 ≤ v
  · have hd : dgs v = [48 + v / 10, 48 + v % 10] := by unfold dgs; rw [if_neg (by omega), if_pos hv]
    rw [hd] at he ⊢
    obtain ⟨e, rfl⟩ : ∃ e', e = e' + 1 := ⟨e - 1, by simp at he; omega⟩
    rw [if_pos (t4.mpr c), nI_dec, kl_v, kg_t, show kin (ksI M a (e + 1) (nI (48 + v % 10))) a 20 (nI e) = true from kin_nI ha hn (by omega) (by omega), kg_t, d2, kx_nI (by omega), kl_v, if_pos rfl]
    refine ⟨_, rfl, rfl, fun _ _ => rfl, fun x i => ?_⟩
    rw [z_II, z_II]
    by_cases hx : x = a
    · by_cases h1 : i = e
      · subst h1
        rw [if_pos ⟨hx, rfl⟩, if_pos ⟨hx, by simp, by omega⟩]
        simp
      · rw [if_neg (fun z => h1 z.2)]
        by_cases h2 : i = e + 1
        · subst h2
          rw [if_pos ⟨hx, rfl⟩, if_pos ⟨hx, by simp, by omega⟩]
          simp
        · rw [if_neg (fun z => h2 z.2), if_neg (by simp; omega)]
    · rw [if_neg (fun z => hx z.1), if_neg (fun z => hx z.1), if_neg (fun z => hx z.1)]
  · have hd : dgs v = [48 + v] := by unfold dgs; rw [if_pos (by omega)]
    rw [hd] at he ⊢
    rw [if_neg (fun z => c (t4.mp z)), if_pos rfl]
    refine ⟨_, rfl, rfl, fun _ _ => rfl, fun x i => ?_⟩
    rw [z_II]
    by_cases hx : x = a
    · by_cases h1 : i = e
      · subst h1
        rw [if_pos ⟨hx, rfl⟩, if_pos ⟨hx, by simp, by omega⟩, show v % 10 = v from Nat.mod_eq_of_lt (by omega)]
        simp
      · rw [if_neg (fun z => h1 z.2), if_neg (by simp; omega)]
    · rw [if_neg (fun z => hx z.1), if_neg (fun z => hx z.1)]
theorem i_chars {v e u : Nat} (hv : v < 1000) (ha : kt M a 20 = true) (hn : kn M a = u) (hu : u < 2000) (he : (dgs v).length ≤ e) (heu : e ≤ u) (hN : 100 < N) : ∃ M' x, F_IN_getChars N M (nI v) (nI e) a = some (x, M') ∧ M'.1 = M.1 ∧ (∀ x i, kR M' x i = kR M x i) ∧ ∀ x i, kI M' x i = if x = a ∧ e - (dgs v).length ≤ i ∧ i < e then nI ((dgs v).getD (i - (e - (dgs v).length)) 0) else kI M x i := by
  obtain ⟨t1, t2, t3, t4, t5, t6⟩ := num_tab v hv
  obtain ⟨n, rfl⟩ : ∃ n, N = n + 2 := ⟨N - 2, by omega⟩
  have h0 : ¬ nI v < 0 := nI_pos (by omega)
  unfold F_IN_getChars
  rw [if_neg h0, if_pos rfl, kl_v]
  by_cases c2 : v < 100
  · obtain ⟨M', u1, u2⟩ := i_two (N := n + 2) c2 ha hn hu he heu (n + 1)
    exact ⟨M', _, u1, u2⟩
  · have hd : dgs v = [48 + v / 100, 48 + v / 10 % 10, 48 + v % 10] := by unfold dgs; rw [if_neg (by omega), if_neg c2]
    obtain ⟨d1, d2, d3, d4⟩ := dg_tab (v % 100) (by omega)
    have he3 : 3 ≤ e := by rw [hd] at he; simpa using he
    obtain ⟨e, rfl⟩ : ∃ e', e = e' + 2 := ⟨e - 2, by omega⟩
    unfold F_IN_getChars_22
    rw [if_neg (fun z => c2 (t2.mp z))]
    rw [show (!((100 : Int32) == 0)) = true from by decide, kg_t, kl_v, t5, t6, kl_v, nI_dec, kl_v, d4, kg_t, show kin M a 20 (nI (e + 1)) = true from kin_nI ha hn (by omega) (by omega), kg_t, d3, d1, kx_nI (by omega), kl_v, nI_dec, kl_v, kg_t]
    rw [show kin (ksI M a (e + 1) (nI (48 + v % 100 % 10))) a 20 (nI e) = true from kin_nI ha hn (by omega) (by omega), kg_t, d2, kx_nI (by omega), kl_v]
    have d5 : dgs (v / 100) = [48 + v / 100] := by unfold dgs; rw [if_pos (by omega)]
    obtain ⟨M', u1, u2, u3, u4⟩ := i_two (N := n + 2) (M := ksI (ksI M a (e + 1) (nI (48 + v % 100 % 10))) a e (nI (48 + v % 100 / 10))) (v := v / 100) (e := e) (show v / 100 < 100 by omega) ha hn hu (by rw [d5]; show 1 ≤ e; omega) (by omega) n
    refine ⟨M', _, u1, u2, u3, fun x i => ?_⟩
    rw [u4, hd, d5]
    show (if x = a ∧ e - 1 ≤ i ∧ i < e then nI ([48 + v / 100].getD (i - (e - 1)) 0) else _) = if x = a ∧ e + 2 - 3 ≤ i ∧ i < e + 2 then nI ([48 + v / 100, 48 + v / 10 % 10, 48 + v % 10].getD (i - (e + 2 - 3)) 0) else _
    by_cases hx : x = a
    · by_cases h1 : i = e - 1
      · subst h1
        rw [if_pos ⟨hx, by omega, by omega⟩, if_pos ⟨hx, by omega, by omega⟩, show e - 1 - (e - 1) = 0 by omega, show e - 1 - (e + 2 - 3) = 0 by omega]
        rfl
      · rw [if_neg (by omega), z_II, z_II]
        by_cases h2 : i = e
        · subst h2
          rw [if_pos ⟨hx, rfl⟩, if_pos ⟨hx, by omega, by omega⟩, show i - (i + 2 - 3) = 1 by omega, show v % 100 / 10 = v / 10 % 10 by omega]
          rfl
        · rw [if_neg (fun z => h2 z.2)]
          by_cases h3 : i = e + 1
          · subst h3
            rw [if_pos ⟨hx, rfl⟩, if_pos ⟨hx, by omega, by omega⟩, show e + 1 - (e + 2 - 3) = 2 by omega, show v % 100 % 10 = v % 10 by omega]
            rfl
          · rw [if_neg (fun z => h3 z.2), if_neg (by omega)]
    · rw [if_neg (fun z => hx z.1), if_neg (fun z => hx z.1), z_II, if_neg (fun z => hx z.1), z_II, if_neg (fun z => hx z.1)]
theorem dgs_ok {v : Nat} (hv : v < 1000) : ∀ i, i < (dgs v).length → 48 ≤ (dgs v).getD i 0 ∧ (dgs v).getD i 0 ≤ 57 := by
  have h : ∀ v, v < 1000 → ((dgs v).all (fun c => decide (48 ≤ c) && decide (c ≤ 57))) = true := by decide +kernel
  intro i hi
  have h2 := h v hv
  rw [List.all_eq_true] at h2
  have h3 := h2 _ (List.getElem_mem hi)
  rw [List.getD_eq_getElem?_getD, List.getElem?_eq_getElem hi]
  simpa using h3
theorem sb_I (h : SBx M w cs) {v : Nat} (hv : v < 1000) (hl : cs.length + (dgs v).length ≤ 340) (hN : 100 < N) : ∃ M', F_SB_appendI N M w (nI v) = some (w, M') ∧ SBx M' w (cs ++ dgs v) ∧ Sf M M' 701 := by
  obtain ⟨M1, u1, s1, hcap, f1⟩ := sb_ens (N := N) h (X := cs.length + (dgs v).length) hl
  have s1' := s1
  obtain ⟨⟨g1, g2, g3⟩, ⟨g4, g5, g6⟩, g7, g8⟩ := s1
  have nwv : kR M1 w 0 ≠ w := kt_ne g4 g1 (by decide)
  obtain ⟨M2, xx, v1, v2, v3, v4⟩ := i_chars (N := N) (M := M1) (a := kR M1 w 0) (e := cs.length + (dgs v).length) hv g4 rfl (by omega) (by omega) hcap hN
  rw [show cs.length + (dgs v).length - (dgs v).length = cs.length by omega] at v4
  have k2 : kt M2 w 39 = true := by rw [kt_cg v2]; exact g1
  unfold F_SB_appendI F_AS_appendI F_AS_isLatin1
  rw [h.1.1, kg_t, kg_t, kl_v, i_size hv hN, Option.bind_some, h.1.2.2, nI_add, kl_v, kg_t, u1, Option.bind_some, g1, kg_t, if_neg (by decide), kg_t, g2, if_pos rfl, Option.bind_some, if_neg (by decide), kg_t, v1, Option.bind_some, k2, kg_t, kl_v, Option.bind_some]
  obtain ⟨x1, x2⟩ := sb_fin (M' := ksI M2 w 3 (nI (cs.length + (dgs v).length))) s1' (p := dgs v) (fun i hi => by have := dgs_ok hv i hi; omega) k2 v2 hcap v3 (fun x i hx hx2 => by rw [z_II, if_neg (fun z => hx z.1), v4, if_neg (fun z => hx2 z.1)]) (by rw [z_II, if_neg (by omega), v4, if_neg (fun z => nwv z.1.symm)]; exact g2) (by rw [z_II, if_pos ⟨rfl, rfl⟩]) (fun i => by
    rw [z_II, if_neg (fun z => nwv z.1), v4]
    by_cases z : cs.length ≤ i ∧ i < cs.length + (dgs v).length
    · rw [if_pos ⟨rfl, z⟩, if_pos z]
    · rw [if_neg (fun y => z y.2), if_neg z])
  exact ⟨_, rfl, x1, (f1.trans x2).le (by omega)⟩
end
