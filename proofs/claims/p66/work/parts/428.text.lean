section
variable {N : Nat} {M M' M1 M2 : kMem} {a s i j k k2 w c : Nat} {cs : List Nat}
theorem lw_feeds (hN : 1000 < N) (hS : SMp M) (hs : STx M s cs) (hc : ∀ i, i < cs.length → 1 ≤ cs.getD i 0 ∧ cs.getD i 0 < 128) (hl : cs.length ≤ 340) {n0 : Nat} (hn0 : n0 ≤ 800) (h0 : kI M 2 1 = nI n0) : ∃ M', F_L_feeds N M 1 s = some (1, M') ∧ CT M'.2.1 cs.length (cT cs) ∧ Fq M M' 102 := by
  have k11 : kt M 1 11 = true := hS.k11
  have e10 : kR M 1 0 = 2 := hS.2 1 0 (by decide)
  have k28 : kt M 2 8 = true := hS.kt1 (by decide) (by decide)
  unfold F_L_feeds F_X11_truncate
  rw [k11, kg_t, kg_t, e10, k28, kg_t, h0, c_rng M (by decide) (show ¬ nI n0 < 0 from nI_pos (by omega)), Option.bind_some, k11, kg_t, e10, k28, kg_t, kl_v, ksm2 (by rfl), Option.bind_some, kl_v]
  have o1 : Fq M (ksI M 2 1 0) 0 := ⟨⟨[], by show M.1 = M.1 ++ []; simp, by simp⟩, fun _ _ _ => rfl, fun a j ha h5 h6 => by rw [z_II, if_neg h5]⟩
  have hT : CT (ksI M 2 1 0).2.1 (20 * 0) (cT cs) := ⟨by show kI (ksI M 2 1 0) 2 1 = _; rw [z_II, if_pos ⟨rfl, rfl⟩]; rfl, fun k hk => absurd hk (by omega)⟩
  obtain ⟨M', u1, u2, u3⟩ := lw_f8 hN hc hl 17 0 N (ksI M 2 1 0) (hS.fd o1) (hs.fd o1 hS) hT (by omega) (by omega) (by omega)
  exact ⟨M', u1, u2, (o1.trans u3).le (by omega)⟩
theorem Sf.new {c sz : Nat} (hN : M'.1 = M.1 ++ [(c, sz)]) (h1 : ∀ a j, a ≤ M.1.length → kI M' a j = kI M a j) (h2 : ∀ a j, a ≤ M.1.length → kR M' a j = kR M a j) : Sf M M' (sz + 1) := by
  refine ⟨⟨[(c, sz)], hN, by simp⟩, fun a j ha => ?_⟩
  have : a ≤ M.1.length := by
    rcases ha with z | ⟨s, z, -⟩
    · omega
    · exact (kt_le z).2
  exact ⟨h1 a j this, h2 a j this⟩
theorem sb_init {s : Nat} (hs : s < 23) (hs0 : s ≠ 0) (hl : (pcs s).length ≤ 100) : ∃ M', F_SB_init N (kNew M 39 4) (M.1.length + 1) s = some M' ∧ SBx M' (M.1.length + 1) (pcs s) ∧ Sf M M' 1000 := by
  obtain ⟨p1, p2, p3, p4⟩ := pcs_ok s hs hs0
  have w0 : (M.1.length + 1 == 0) = false := by simp
  have hkS : decide (s < kSn) = true := decide_eq_true hs
  have hcod : F_J0_coder s = some 0 := by unfold F_J0_coder; rw [hkS, kg_t]
  have kN : kt (kNew M 39 4) (M.1.length + 1) 39 = true := kt_newW
  have e16 : nI (pcs s).length + 16 = nI ((pcs s).length + 16) := by rw [show (16 : Int32) = nI 16 from rfl, nI_add]
  unfold F_SB_init F_AS_init F_AS_init_24
  rw [w0]
  rw [show (!false) = true from rfl, kg_t, kg_t, p1, Option.bind_some, if_pos (show nI (pcs s).length < 2147483631 from by
    rw [show (2147483631 : Int32) = nI 2147483631 from rfl, nI_ltI (by omega) (by decide)]; omega), hcod, Option.bind_some, kN]
  rw [show (true && decide ((0 : Int32).toInt8.toInt32 = 0)) = true from by decide, kg_t, kl_v, if_pos rfl, e16]
  rw [show (decide ((0 : Int32) ≤ nI ((pcs s).length + 16)) && decide ((nI ((pcs s).length + 16)).toNatClampNeg ≤ 60000)) = true from by
    have q1 : (0 : Int32) ≤ nI ((pcs s).length + 16) := nI_0le (by omega)
    have ec : (nI ((pcs s).length + 16)).toNatClampNeg = (pcs s).length + 16 := kx_nI (by omega)
    rw [ec]
    simp only [q1, decide_true, Bool.true_and, decide_eq_true_eq]
    omega]
  rw [kg_t, kl_v, kl_v, show (nI ((pcs s).length + 16)).toNatClampNeg = (pcs s).length + 16 from kx_nI (by omega)]
  generalize hM1 : ksI (kNew M 39 4) (M.1.length + 1) 1 0 = M1
  have c1 : M1.1 = M.1 ++ [(39, 4)] := by rw [← hM1]; rfl
  have k1 : kt M1 (M.1.length + 1) 39 = true := by rw [← hM1]; exact kN
  have l1 : M1.1.length = M.1.length + 1 := by rw [c1]; simp
  have k2 : kt (kNew M1 20 ((pcs s).length + 16)) (M.1.length + 1) 39 = true := kt_newO k1
  have k3 : kt (kNew M1 20 ((pcs s).length + 16)) (M1.1.length + 1) 20 = true := kt_newW
  have n3 : kn (kNew M1 20 ((pcs s).length + 16)) (M1.1.length + 1) = (pcs s).length + 16 := by unfold kn kcell kNew; simp
  rw [k2, kg_t, kl_v]
  generalize hM2 : ksR (kNew M1 20 ((pcs s).length + 16)) (M.1.length + 1) 0 (M1.1.length + 1) = M2
  have r2 : kR M2 (M.1.length + 1) 0 = M1.1.length + 1 := by rw [← hM2, z_RR, if_pos ⟨rfl, rfl⟩]
  have hz : ∀ i, kI M2 (M1.1.length + 1) i = 0 := fun i => by rw [← hM2, z_IR, z_IN, if_pos rfl]
  have hi1 : ∀ j, kI M2 (M.1.length + 1) j = 0 := fun j => by
    rw [← hM2, z_IR, z_IN, if_neg (by omega), ← hM1, z_II]
    split
    · rfl
    · rw [z_IN, if_pos rfl]
  have s2 : SBx M2 (M.1.length + 1) [] := by
    refine ⟨⟨by rw [← hM2]; exact k2, hi1 1, hi1 3⟩, ?_, fun i hi => absurd hi (by simp), fun i hi => ?_⟩
    · rw [r2]
      have n3' : kn M2 (M1.1.length + 1) = (pcs s).length + 16 := by rw [← hM2]; exact n3
      rw [n3']
      exact ⟨by rw [← hM2]; exact k3, by simp, by omega⟩
    · rw [r2, hz]
      exact ⟨0, by omega, rfl⟩
  have f2 : Sf M M2 200 := by
    refine ⟨⟨[(39, 4), (20, (pcs s).length + 16)], by rw [← hM2]; show M1.1 ++ [(20, (pcs s).length + 16)] = _; rw [c1, List.append_assoc]; rfl, by simp; omega⟩, fun a j ha => ?_⟩
    have hle : a ≤ M.1.length := by
      rcases ha with z | ⟨s, z, -⟩
      · omega
      · exact (kt_le z).2
    constructor
    · rw [← hM2, z_IR, z_IN, if_neg (by omega), ← hM1, z_II, if_neg (fun z => by omega), z_IN, if_neg (by omega)]
    · rw [← hM2, z_RR, if_neg (fun z => by omega), z_RN, if_neg (by omega), ← hM1, z_RI, z_RN, if_neg (by omega)]
  obtain ⟨M3, u1, u2, u3⟩ := sb_S (N := N) s2 hs hs0 (by simp; omega)
  unfold F_SB_appendB
  rw [s2.1.1, kg_t, kg_t, u1, Option.bind_some, Option.bind_some, Option.bind_some]
  exact ⟨M3, rfl, u2, (f2.trans u3).le (by omega)⟩
theorem sb_str (h : SBx M w cs) (hl : cs.length ≤ 340) (hN : 100 < N) : ∃ M' s, F_SB_toString N M w = some (s, M') ∧ STx M' s cs ∧ Gr M M' 800 := by
  obtain ⟨⟨h1, h2, h3⟩, ⟨h4, h5, h6⟩, h7, h8⟩ := h
  have w0 : (M.1.length + 1 == 0) = false := by simp
  have wl := (kt_le h1).2
  have vl := (kt_le h4).2
  have kN : kt (kNew M 40 4) (M.1.length + 1) 40 = true := kt_newW
  have kw : kt (kNew M 40 4) w 39 = true := kt_newO h1
  have iw : ∀ j, kI (kNew M 40 4) w j = kI M w j := fun j => by rw [z_IN, if_neg (by omega)]
  have rw0 : kR (kNew M 40 4) w 0 = kR M w 0 := by rw [z_RN, if_neg (by omega)]
  unfold F_SB_toString F_J0_init1 F_J0_init2 F_AS_getValue F_SB_length F_AS_length F_AS_isLatin1
  rw [kl_v, kl_v, w0]
  have h10 : ¬ (1 : Int32) = 0 := by decide
  have h00 : (if (0 : Int32) = 0 then some (1 : Int32) else some 0) = some 1 := rfl
  simp only [Bool.not_false, kg_t, kw, Option.bind_some, if_neg h10, iw, h2, h00, kN]
  rw [show (true && decide ((0 : Int32).toInt8.toInt32 = 0)) = true from by decide, kg_t, kl_v, h3, rw0]
  generalize hM1 : ksI (kNew M 40 4) (M.1.length + 1) 1 0 = M1
  generalize hv : kR M w 0 = v at *
  generalize hcap : kn M v = cap at *
  have c1 : M1.1 = M.1 ++ [(40, 4)] := by rw [← hM1]; rfl
  have l1 : M1.1.length = M.1.length + 1 := by rw [c1]; simp
  have k1 : kt M1 (M.1.length + 1) 40 = true := by rw [← hM1]; exact kN
  have kv1 : kt M1 v 20 = true := kt_pre c1 h4
  have nv1 : kn M1 v = cap := by
    rw [← hcap]
    unfold kn
    rw [kcell_pre c1 (kt_le h4).1 vl]
  have i1 : ∀ x j, x ≤ M.1.length → kI M1 x j = kI M x j := fun x j hx => by rw [← hM1, z_II, if_neg (fun z => by omega), z_IN, if_neg (by omega)]
  have r1 : ∀ x j, x ≤ M.1.length → kR M1 x j = kR M x j := fun x j hx => by rw [← hM1, z_RI, z_RN, if_neg (by omega)]
  have i1s : ∀ j, kI M1 (M.1.length + 1) j = 0 := fun j => by
    rw [← hM1, z_II]
    split
    · rfl
    · rw [z_IN, if_pos rfl]
  -- the copy
  have hcopy : ∃ M2, F_AR_copyOfRange N M1 v 0 (nI cs.length) = some (M1.1.length + 1, M2) ∧ M2.1 = M1.1 ++ [(20, cs.length)] ∧ (∀ x j, x ≤ M1.1.length → kI M2 x j = kI M1 x j ∧ kR M2 x j = kR M1 x j) ∧ ∀ i, i < cs.length → kI M2 (M1.1.length + 1) i = nI (cs.getD i 0) := by
    unfold F_AR_copyOfRange F_AR_copyOfRangeByte F_AR_checkLength
    rw [if_pos rfl, kv1, kg_t, nv1, ofNnI]
    by_cases c : nI cs.length = nI cap
    · have ec : cs.length = cap := (nI_eq (by omega) (by omega)).mp c
      have hfit : kFitA M1 v = true := by
        unfold kFitA
        rw [nv1, List.all_eq_true]
        intro i hi
        rw [List.mem_range] at hi
        obtain ⟨c', hc', ec'⟩ := h8 i hi
        rw [i1 _ _ vl, ec']
        exact fit_c c' hc'
      have k2 : kt (kClB M1 v) (M1.1.length + 1) 20 = true := by
        unfold kt kcell kClB
        simp
      rw [if_pos c, hfit]
      rw [show (true && true) = true from rfl, kg_t, kl_v, kl_v, k2, kg_t]
      refine ⟨_, rfl, by show M1.1 ++ [(20, kn M1 v)] = _; rw [nv1, ec], fun x j hx => ⟨?_, ?_⟩, fun i hi => ?_⟩
      · show (if x = M1.1.length + 1 then _ else kI M1 x j) = _
        rw [if_neg (by omega)]
      · show (if x = M1.1.length + 1 then _ else kR M1 x j) = _
        rw [if_neg (by omega)]
      · show (if M1.1.length + 1 = M1.1.length + 1 then kI M1 v i else _) = _
        rw [if_pos rfl, i1 _ _ vl]
        exact h7 i hi
    · rw [if_neg c, if_neg (show ¬ nI cs.length < 0 from nI_pos (by omega)), Option.bind_some, kl_v, Int32.sub_zero]
      rw [show (decide ((0 : Int32) ≤ nI cs.length) && decide ((nI cs.length).toNatClampNeg ≤ 60000)) = true from by
        have q1 : (0 : Int32) ≤ nI cs.length := nI_0le (by omega)
        have ec : (nI cs.length).toNatClampNeg = cs.length := kx_nI (by omega)
        rw [ec]
        simp only [q1, decide_true, Bool.true_and, decide_eq_true_eq]
        omega]
      rw [kg_t, kl_v, kl_v, show (nI cs.length).toNatClampNeg = cs.length from kx_nI (by omega)]
      have vl1 := (kt_le kv1).2
      have kv2 : kt (kNew M1 20 cs.length) v 20 = true := kt_newO kv1
      have kN2 : kt (kNew M1 20 cs.length) (M1.1.length + 1) 20 = true := kt_newW
      have nN2 : kn (kNew M1 20 cs.length) (M1.1.length + 1) = cs.length := by unfold kn kcell kNew; simp
      have nv2 : kn (kNew M1 20 cs.length) v = cap := by
        rw [← nv1]
        unfold kn
        rw [kcell_pre (M' := kNew M1 20 cs.length) (l := [(20, cs.length)]) rfl (kt_le kv1).1 vl1]
      have iv2 : ∀ i, kI (kNew M1 20 cs.length) v i = kI M v i := fun i => by rw [z_IN, if_neg (by omega), i1 _ _ vl]
      rw [kv2, kg_t, nv2, ofNnI, Int32.sub_zero, kmin_nI (by omega) (by omega), Nat.min_eq_right (by omega)]
      have hcp : kcpB (kNew M1 20 cs.length) v 0 (M1.1.length + 1) 0 (nI cs.length) = true := by
        unfold kcpB kFitB
        have ec : (nI cs.length).toNatClampNeg = cs.length := kx_nI (by omega)
        have ex : kx (nI cs.length) = cs.length := kx_nI (by omega)
        have q1 : (0 : Int32) ≤ nI cs.length := nI_0le (by omega)
        rw [kv2, kN2, nv2, nN2, ec, ex]
        simp only [Bool.true_and, decide_eq_true_eq, Bool.and_eq_true, q1, show (0 : Int32) ≤ 0 by decide, decide_true, Bool.and_true, true_and, List.all_eq_true, List.mem_range]
        refine ⟨by show 0 + cs.length ≤ cap; omega, by show 0 + cs.length ≤ cs.length; omega, fun i hi => ?_⟩
        rw [show kx 0 + i = i by rw [kx_0]; omega, iv2]
        obtain ⟨c', hc', ec'⟩ := h8 i (by omega)
        rw [ec']
        exact fit_c c' hc'
      rw [hcp, kg_t, kl_v]
      refine ⟨_, rfl, rfl, fun x j hx => ⟨?_, ?_⟩, fun i hi => ?_⟩
      · show (if x = M1.1.length + 1 ∧ _ then _ else kI (kNew M1 20 cs.length) x j) = _
        rw [if_neg (fun z => by omega), z_IN, if_neg (by omega)]
      · show kR (kNew M1 20 cs.length) x j = _
        rw [z_RN, if_neg (by omega)]
      · show (if M1.1.length + 1 = M1.1.length + 1 ∧ (0 : Int32).toNatClampNeg ≤ i ∧ i < (0 : Int32).toNatClampNeg + (nI cs.length).toNatClampNeg then kI (kNew M1 20 cs.length) v ((0 : Int32).toNatClampNeg + (i - (0 : Int32).toNatClampNeg)) else kI (kNew M1 20 cs.length) (M1.1.length + 1) i) = _
        rw [show (0 : Int32).toNatClampNeg = 0 from by decide, show (nI cs.length).toNatClampNeg = cs.length from kx_nI (by omega), if_pos ⟨rfl, Nat.zero_le _, by omega⟩, iv2, show 0 + (i - 0) = i by omega]
        exact h7 i hi
  obtain ⟨M2, u1, u2, u3, u4⟩ := hcopy
  rw [u1, Option.bind_some]
  have k2 : kt M2 (M.1.length + 1) 40 = true := kt_pre u2 k1
  rw [if_pos trivial, k2, kg_t, kl_v]
  rw [Option.bind_some, if_neg h10, Option.bind_some, Option.bind_some]
  have k3 : kt M2 (M1.1.length + 1) 20 = true := by
    unfold kt kcell
    simp [u2]
  have n3 : kn M2 (M1.1.length + 1) = cs.length := by
    unfold kn kcell
    simp [u2]
  refine ⟨_, _, rfl, ⟨⟨k2, ?_⟩, ?_⟩, ⟨⟨[(40, 4), (20, cs.length)], by show M2.1 = _; rw [u2, c1, List.append_assoc]; rfl, by simp; omega⟩, fun a j ha => ?_, fun a j ha => Or.inr ?_, fun tm ht2 hv2 => ?_⟩⟩
  · rw [z_IR, (u3 _ _ (by omega)).1]; exact i1s 1
  · rw [z_RR, if_pos ⟨rfl, rfl⟩]
    exact ⟨k3, n3, fun i hi => u4 i hi⟩
  · rw [z_IR, (u3 a j (by omega)).1]; exact i1 a j ha
  · rw [z_RR, if_neg (fun z => by omega), (u3 a j (by omega)).2]; exact r1 a j ha
  · have tl2 := (kt_le ht2).2
    unfold VC at hv2 ⊢
    rw [z_RR, if_neg (fun z => by omega), (u3 tm 1 (by omega)).2, r1 tm 1 tl2]
    refine hv2.imp id (fun q => ⟨?_, ?_⟩)
    · exact kt_pre u2 (kt_pre c1 q.1)
    · have ql := (kt_le q.1).2
      rw [z_RR, if_neg (fun z => by omega), (u3 _ _ (by omega)).2, r1 _ _ ql]
      exact q.2
end
