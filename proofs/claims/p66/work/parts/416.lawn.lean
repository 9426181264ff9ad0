section
variable {N : Nat} {M M' M1 M2 : kMem} {a s i j k k2 nb nt b t q : Nat} {A : kA} {E : Nat → Nat → Nat} {e' : Nat → Nat} {r r' : Nat → Int32}
theorem LW.eb (h : LW M A E r nb nt) (hb : b < nb) (hq : E b q ≠ 0) : kt M (E b q) 35 = true := (h.tm hb).ke hq
theorem lw_sits (h : LW M A E r nb nt) (h5 : nb ≤ 5) (h24 : nt ≤ 24) (hR : RI r nb nt) (ht : t < nt) (hb : b < nb) (q13 : q < 13) (q6 : q ≠ 6) (hf : r (si b q) = 0) (hN : 100 < N) : ∃ M' E', F_LT_sits N M (aT A t) (aB A b) (pz q) = some M' ∧ LW M' A E' (siR r t b q) nb nt ∧ Op M M' 7 := by
  have hb5 : b < 5 := by omega
  have eb := h.bk hb
  have etm := (h.b b hb).1.2.2.2.2.2
  have en : E b q = 0 := (h.e0 hR hb q13 q6).mpr hf
  obtain ⟨M1, u1, u2, u3, u4, u5, u6⟩ := tm_put (v := aT A t) (h.tm hb) hN q13 en
  have tk := h.tk ht
  have hk1 : ∀ x s, kt M x s = true → kt M1 x s = true := fun x s z => kt_pre u3 z
  have fm : ∀ x j s, kt M x s = true → s ≠ 34 → s ≠ 35 → kI M1 x j = kI M x j ∧ kR M1 x j = kR M x j := fun x j s hx h1 h2 => u4.1 x j (kt_le hx).2 (kt_ne hx (h.tm hb).k h1) (fun p hp => kt_ne hx ((h.tm hb).ke hp) h2)
  have fx : fs (E b) q (M.1.length + 1) q = M.1.length + 1 := if_pos rfl
  have fo : ∀ p, p ≠ q → fs (E b) q (M.1.length + 1) p = E b p := fun p hp => if_neg hp
  unfold F_LT_sits
  rw [eb, kg_t, val_of q13, Option.bind_some]
  simp only [etm, (h.tm hb).k, kg_t, u1, Option.bind_some, hk1 _ _ tk, kl_v, z_tR, show ((0 : Nat) == 0) = true from rfl, Bool.true_or]
  generalize hM5 : ksI (ksR M1 (aT A t) 6 (aB A b)) (aT A t) 4 (pz q) = M5
  have i5 : ∀ x j, x ≠ aT A t → kI M5 x j = kI M1 x j ∧ kR M5 x j = kR M1 x j := fun x j hx => by
    rw [← hM5, z_II, if_neg (fun z => hx z.1), z_IR, z_RI, z_RR, if_neg (fun z => hx z.1)]
    exact ⟨rfl, rfl⟩
  have c5 : M5.1 = M.1 ++ [(35, 6)] := by rw [← hM5]; exact u3
  have no : ∀ x s, kt M x s = true → s ≠ 32 → x ≠ aT A t := fun x s hx h1 => kt_ne hx tk h1
  have o5 : ∀ x j s, kt M x s = true → s ≠ 34 → s ≠ 35 → s ≠ 32 → kI M5 x j = kI M x j ∧ kR M5 x j = kR M x j := fun x j s hx h1 h2 h3 => by
    obtain ⟨y1, y2⟩ := i5 x j (no x s hx h3)
    obtain ⟨y3, y4⟩ := fm x j s hx h1 h2
    exact ⟨y1.trans y3, y2.trans y4⟩
  have tk1 : kt M1 (aT A t) 32 = true := hk1 _ _ tk
  have tme : TM M5 (aM A b) (fs (E b) q (M.1.length + 1)) := by
    refine u2.mem (i := 0) (E := fun _ => fs (E b) q (M.1.length + 1)) (fun x s hx => by rw [← hM5]; exact hx) (fun p hp => ?_) (fun p hp j => ?_) (fun j => ?_) (fun x hx => ?_)
    · have := kt_ne (u2.ke hp) tk1 (show 35 ≠ 32 by decide)
      exact ⟨(i5 _ 0 this).1, (i5 _ 5 this).1⟩
    · have := kt_ne (u2.ke hp) tk1 (show 35 ≠ 32 by decide)
      exact (i5 _ j this).2
    · exact (i5 _ j (kt_ne (h.tm hb).k tk (by decide))).2
    · exact (i5 _ 0 (kt_ne hx tk1 (by decide))).2
  refine ⟨M5, fE E b (fs (E b) q (M.1.length + 1)), rfl, ?_, ⟨⟨[(35, 6)], c5, by simp⟩, fun x j hx => ?_⟩⟩
  · refine h.move h5 h24 ht hb q13 q6 (r' := siR r t b q) ⟨_, c5⟩ (fun x j s hx y => (o5 x j s hx (by omega) (by omega) (by omega)).1) (fun x j s hx y => (o5 x j s hx (by omega) (by omega) (by omega)).2) (fun u hu hut j => ?_) (fun j hj => ?_) (fun b' hb' hbb => ⟨fun j => ?_, fun p hp j => ?_⟩) tme (fun k k1 k2 k3 => siR_ne k1 k2 k3) ?_ (fun z => ?_) (fun b' hb' z => ?_) ((fo 6 (fun z => q6 z.symm)).trans (h.c b hb).1) (fun p hp hp6 => ?_) (fun p hp b' hb' hbb q' hq' => ?_)
    · have hne : aT A u ≠ aT A t := fun z => hut (h.tinj h24 hu ht z)
      obtain ⟨y1, y2⟩ := i5 (aT A u) j hne
      obtain ⟨y3, y4⟩ := fm (aT A u) j 32 (h.tk hu) (by decide) (by decide)
      exact ⟨y1.trans y3, y2.trans y4⟩
    · rw [← hM5, z_II, if_neg (fun z => hj z.2), z_IR]
      exact (fm _ j 32 tk (by decide) (by decide)).1
    · have hk' := (h.tm hb').k
      rw [(i5 _ j (kt_ne hk' tk (by decide))).2]
      exact (u4.1 _ j (kt_le hk').2 (fun z => hbb (h.ij.1 _ _ hb' hb z)) (fun p hp => kt_ne hk' ((h.tm hb).ke hp) (by decide))).2
    · have hk' := (h.tm hb').ke hp
      obtain ⟨y1, y2⟩ := i5 _ j (kt_ne hk' tk (by decide))
      obtain ⟨y3, y4⟩ := u4.1 _ j (kt_le hk').2 (kt_ne hk' (h.tm hb).k (by decide)) (fun p2 hp2 z => hbb (h.ij.2 _ _ _ _ hb' hb hp z).1)
      exact ⟨y1.trans y3, y2.trans y4⟩
    · rw [siR_6, ← hM5, z_II, if_pos ⟨rfl, rfl⟩]
    · rw [siR_5] at z
      exact absurd z (nI_ne1 (by omega))
    · rw [siR_5] at z
      have : b = b' := (nI_eq (by omega) (by omega)).mp z
      rw [← hM5, z_RI, z_RR, if_pos ⟨rfl, rfl⟩, this]
    · by_cases z : p = q
      · subst z
        rw [siR_s hb5 q13, fx]
        refine ⟨fun y => absurd y (nI_ne0 (by omega) (by omega)), fun u hu y => ⟨by omega, ?_⟩⟩
        have : u = t := by have := (nI_eq (by omega) (by omega)).mp y; omega
        subst this
        rw [(i5 _ 1 (by have := (kt_le tk).2; omega)).2]
        exact u5
      · have hsp := si_lt (b := b) (q := p) hb5 hp
        rw [siR_ne (fun y => z ((si_inj hp hp6 q13 q6).mp y).2) (by omega) (by omega), fo p z]
        obtain ⟨c1, c2⟩ := (h.c b hb).2 p hp hp6
        refine ⟨c1, fun u hu y => ?_⟩
        obtain ⟨d1, d2⟩ := c2 u hu y
        refine ⟨d1, ?_⟩
        rw [(i5 _ 1 (kt_ne ((h.tm hb).ke d1) tk (by decide))).2, u6 p d1]
        exact d2
    · by_cases z : p = q
      · rw [z, fx]
        have := (kt_le (h.eb hb' hq')).2
        omega
      · rw [fo p z] at hp ⊢
        exact fun y => hbb (h.ij.2 _ _ _ _ hb hb' hp y).1.symm
  · rcases hx with z | ⟨s, z1, z2⟩
    · subst z
      obtain ⟨y1, y2⟩ := i5 0 j (by have := (kt_le tk).1; omega)
      obtain ⟨y3, y4⟩ := u4.1 0 j (Nat.zero_le _) (by have := (kt_le (h.tm hb).k).1; omega) (fun p hp => fun z => hp z.symm)
      exact ⟨y1.trans y3, y2.trans y4⟩
    · exact o5 x j s z1 (by omega) (by omega) (by omega)
/-- rising, seated or not -/
theorem lw_risesS (h : LW M A E r nb nt) (hR : RI r nb nt) (ht : t < nt) (hN : 100 < N) : ∃ M' E', F_LT_rises N M (aT A t) = some M' ∧ LW M' A E' (riS r t) nb nt ∧ Op M M' 0 := by
  rcases hR.s.1 t ht with e | ⟨b, q, hs⟩
  · rw [riS_0 e.1]
    refine ⟨M, E, ?_, h, Op.rf'⟩
    unfold F_LT_rises
    rw [h.tk ht, kg_t, (h.t t ht).2.1 e.1, if_pos rfl]
  · rw [hs.ris hR.nb5]
    exact lw_rises h hR ht hs hN
/-- one field of a trader -/
theorem LW.setT (h : LW M A E r nb nt) (h24 : nt ≤ 24) (h5 : nb ≤ 5) (ht : t < nt) {j w : Nat} (hjw : (j = 1 ∧ w = 1) ∨ (j = 2 ∧ w = 2) ∨ (j = 3 ∧ w = 3) ∨ (j = 5 ∧ w = 4)) (v : Int32) : LW (ksI M (aT A t) j v) A E (setr r (89 + 7 * t + w) v) nb nt := by
  have tk := h.tk ht
  have hI : ∀ x i s, kt M x s = true → s ≠ 32 → kI (ksI M (aT A t) j v) x i = kI M x i := fun x i s hx h1 => by rw [z_II, if_neg (fun z => kt_ne hx tk h1 z.1)]
  obtain ⟨⟨g1, g2, g3⟩, g4, g5, g6, g7, g8, g9, g10, g11, g12, g13⟩ := h.g
  have hr : ∀ k, k ≠ 89 + 7 * t + w → setr r (89 + 7 * t + w) v k = r k := fun k hk => setr_ne hk
  have hH : ∀ i, kI (ksI M (aT A t) j v) (aH A) i = kI M (aH A) i := fun i => hI _ i 30 g1 (by decide)
  refine ⟨⟨⟨g1, g2, g3⟩, ?_, ?_, ?_, ?_, ?_, ?_, ?_, ?_, ?_, ?_⟩, ⟨?_, ?_⟩, fun b hb => ?_, fun u hu => ?_, fun b hb => ?_, h.ij⟩
  · rw [hr 0 (by omega), hH]; exact g4
  · rw [hr 1 (by omega), hH]; exact g5
  · rw [hr 2 (by omega), hH]; exact g6
  · rw [hr 3 (by omega), hH]; exact g7
  · rw [hr 4 (by omega), hH]; exact g8
  · rw [hr 5 (by omega), hH]; exact g9
  · rw [hr 6 (by omega), hH]; exact g10
  · rw [hr 10 (by omega), hH]; exact g11
  · rw [hr 11 (by omega), hH]; exact g12
  · rw [hr 12 (by omega), hH]; exact g13
  · obtain ⟨l1, l2, l3, l4⟩ := h.lb
    exact ⟨l1, l2, (hI _ _ 33 l1 (by decide)).trans l3, l4⟩
  · obtain ⟨l1, l2, l3, l4⟩ := h.lt
    exact ⟨l1, l2, (hI _ _ 33 l1 (by decide)).trans l3, l4⟩
  · obtain ⟨⟨b1, b2, b3, b4, b5, b6⟩, b7⟩ := h.b b hb
    have hB : ∀ i, kI (ksI M (aT A t) j v) (aB A b) i = kI M (aB A b) i := fun i => hI _ i 31 b1 (by decide)
    refine ⟨⟨b1, (hB _).trans b2, ?_, ?_, ?_, b6⟩, b7.mem (i := b) (E := E) (fun _ _ z => z) (fun p hp => ⟨hI _ _ 35 (b7.ke hp) (by decide), hI _ _ 35 (b7.ke hp) (by decide)⟩) (fun _ _ _ => rfl) (fun _ => rfl) (fun _ _ => rfl)⟩
    · rw [hr _ (by omega), hB]; exact b3
    · rw [hr _ (by omega), hB]; exact b4
    · rw [hr _ (by omega), hB]; exact b5
  · obtain ⟨⟨t1, t2, t3, t4, t5, t6, t7⟩, t8, t9⟩ := h.t u hu
    rw [hr (89 + 7 * u + 5) (by omega), hr (89 + 7 * u + 6) (by omega)]
    by_cases z : u = t
    · subst z
      have hs : ∀ i, i ≠ j → kI (ksI M (aT A u) j v) (aT A u) i = kI M (aT A u) i := fun i hi => by rw [z_II, if_neg (fun y => hi y.2)]
      have hv : kI (ksI M (aT A u) j v) (aT A u) j = v := by rw [z_II, if_pos ⟨rfl, rfl⟩]
      have rv : setr r (89 + 7 * u + w) v (89 + 7 * u + w) = v := setr_eq
      rcases hjw with ⟨rfl, rfl⟩ | ⟨rfl, rfl⟩ | ⟨rfl, rfl⟩ | ⟨rfl, rfl⟩
      · exact ⟨⟨t1, (hs 0 (by decide)).trans t2, hv.trans rv.symm, by rw [hr _ (by omega), hs 2 (by decide)]; exact t4, by rw [hr _ (by omega), hs 3 (by decide)]; exact t5, by rw [hr _ (by omega), hs 5 (by decide)]; exact t6, (hs 4 (by decide)).trans t7⟩, t8, t9⟩
      · exact ⟨⟨t1, (hs 0 (by decide)).trans t2, by rw [hr _ (by omega), hs 1 (by decide)]; exact t3, hv.trans rv.symm, by rw [hr _ (by omega), hs 3 (by decide)]; exact t5, by rw [hr _ (by omega), hs 5 (by decide)]; exact t6, (hs 4 (by decide)).trans t7⟩, t8, t9⟩
      · exact ⟨⟨t1, (hs 0 (by decide)).trans t2, by rw [hr _ (by omega), hs 1 (by decide)]; exact t3, by rw [hr _ (by omega), hs 2 (by decide)]; exact t4, hv.trans rv.symm, by rw [hr _ (by omega), hs 5 (by decide)]; exact t6, (hs 4 (by decide)).trans t7⟩, t8, t9⟩
      · exact ⟨⟨t1, (hs 0 (by decide)).trans t2, by rw [hr _ (by omega), hs 1 (by decide)]; exact t3, by rw [hr _ (by omega), hs 2 (by decide)]; exact t4, by rw [hr _ (by omega), hs 3 (by decide)]; exact t5, hv.trans rv.symm, (hs 4 (by decide)).trans t7⟩, t8, t9⟩
    · have hne : aT A u ≠ aT A t := fun y => z (h.tinj h24 hu ht y)
      have hs : ∀ i, kI (ksI M (aT A t) j v) (aT A u) i = kI M (aT A u) i := fun i => by rw [z_II, if_neg (fun y => hne y.1)]
      rw [hr (89 + 7 * u + 1) (by omega), hr (89 + 7 * u + 2) (by omega), hr (89 + 7 * u + 3) (by omega), hr (89 + 7 * u + 4) (by omega), hs, hs, hs, hs, hs, hs]
      exact ⟨⟨t1, t2, t3, t4, t5, t6, t7⟩, t8, t9⟩
  · refine ⟨(h.c b hb).1, fun p hp hp6 => ?_⟩
    have := si_lt (b := b) (q := p) (by omega) hp
    rw [hr (si b p) (by omega)]
    exact (h.c b hb).2 p hp hp6
/-- one field of the market -/
theorem LW.setH (h : LW M A E r nb nt) (h5 : nb ≤ 5) {j w : Nat} (hjw : (j = 2 ∧ w = 0) ∨ (j = 7 ∧ w = 5) ∨ (j = 8 ∧ w = 6) ∨ (j = 9 ∧ w = 10) ∨ (j = 10 ∧ w = 11) ∨ (j = 11 ∧ w = 12)) (v : Int32) : LW (ksI M (aH A) j v) A E (setr r w v) nb nt := by
  have tk := h.hk
  have hI : ∀ x i s, kt M x s = true → s ≠ 30 → kI (ksI M (aH A) j v) x i = kI M x i := fun x i s hx h1 => by rw [z_II, if_neg (fun z => kt_ne hx tk h1 z.1)]
  obtain ⟨⟨g1, g2, g3⟩, g4, g5, g6, g7, g8, g9, g10, g11, g12, g13⟩ := h.g
  have hr : ∀ k, k ≠ w → setr r w v k = r k := fun k hk => setr_ne hk
  have rv : setr r w v w = v := setr_eq
  have hs : ∀ i, i ≠ j → kI (ksI M (aH A) j v) (aH A) i = kI M (aH A) i := fun i hi => by rw [z_II, if_neg (fun y => hi y.2)]
  have hv : kI (ksI M (aH A) j v) (aH A) j = v := by rw [z_II, if_pos ⟨rfl, rfl⟩]
  have w13 : w < 13 := by omega
  have hg : Lg (ksI M (aH A) j v) A (setr r w v) := by
    refine ⟨⟨g1, g2, g3⟩, ?_⟩
    rcases hjw with ⟨rfl, rfl⟩ | ⟨rfl, rfl⟩ | ⟨rfl, rfl⟩ | ⟨rfl, rfl⟩ | ⟨rfl, rfl⟩ | ⟨rfl, rfl⟩
    · exact ⟨hv.trans rv.symm, (hs 3 (by decide)).trans g5, (hs 4 (by decide)).trans g6, (hs 5 (by decide)).trans g7, (hs 6 (by decide)).trans g8, (hs 7 (by decide)).trans g9, (hs 8 (by decide)).trans g10, (hs 9 (by decide)).trans g11, (hs 10 (by decide)).trans g12, (hs 11 (by decide)).trans g13⟩
    · exact ⟨(hs 2 (by decide)).trans g4, (hs 3 (by decide)).trans g5, (hs 4 (by decide)).trans g6, (hs 5 (by decide)).trans g7, (hs 6 (by decide)).trans g8, hv.trans rv.symm, (hs 8 (by decide)).trans g10, (hs 9 (by decide)).trans g11, (hs 10 (by decide)).trans g12, (hs 11 (by decide)).trans g13⟩
    · exact ⟨(hs 2 (by decide)).trans g4, (hs 3 (by decide)).trans g5, (hs 4 (by decide)).trans g6, (hs 5 (by decide)).trans g7, (hs 6 (by decide)).trans g8, (hs 7 (by decide)).trans g9, hv.trans rv.symm, (hs 9 (by decide)).trans g11, (hs 10 (by decide)).trans g12, (hs 11 (by decide)).trans g13⟩
    · exact ⟨(hs 2 (by decide)).trans g4, (hs 3 (by decide)).trans g5, (hs 4 (by decide)).trans g6, (hs 5 (by decide)).trans g7, (hs 6 (by decide)).trans g8, (hs 7 (by decide)).trans g9, (hs 8 (by decide)).trans g10, hv.trans rv.symm, (hs 10 (by decide)).trans g12, (hs 11 (by decide)).trans g13⟩
    · exact ⟨(hs 2 (by decide)).trans g4, (hs 3 (by decide)).trans g5, (hs 4 (by decide)).trans g6, (hs 5 (by decide)).trans g7, (hs 6 (by decide)).trans g8, (hs 7 (by decide)).trans g9, (hs 8 (by decide)).trans g10, (hs 9 (by decide)).trans g11, hv.trans rv.symm, (hs 11 (by decide)).trans g13⟩
    · exact ⟨(hs 2 (by decide)).trans g4, (hs 3 (by decide)).trans g5, (hs 4 (by decide)).trans g6, (hs 5 (by decide)).trans g7, (hs 6 (by decide)).trans g8, (hs 7 (by decide)).trans g9, (hs 8 (by decide)).trans g10, (hs 9 (by decide)).trans g11, (hs 10 (by decide)).trans g12, hv.trans rv.symm⟩
  refine ⟨hg, ⟨?_, ?_⟩, fun b hb => ?_, fun u hu => ?_, fun b hb => ?_, h.ij⟩
  · obtain ⟨l1, l2, l3, l4⟩ := h.lb
    exact ⟨l1, l2, (hI _ _ 33 l1 (by decide)).trans l3, l4⟩
  · obtain ⟨l1, l2, l3, l4⟩ := h.lt
    exact ⟨l1, l2, (hI _ _ 33 l1 (by decide)).trans l3, l4⟩
  · obtain ⟨⟨b1, b2, b3, b4, b5, b6⟩, b7⟩ := h.b b hb
    have hB : ∀ i, kI (ksI M (aH A) j v) (aB A b) i = kI M (aB A b) i := fun i => hI _ i 31 b1 (by decide)
    refine ⟨⟨b1, (hB _).trans b2, ?_, ?_, ?_, b6⟩, b7.mem (i := b) (E := E) (fun _ _ z => z) (fun p hp => ⟨hI _ _ 35 (b7.ke hp) (by decide), hI _ _ 35 (b7.ke hp) (by decide)⟩) (fun _ _ _ => rfl) (fun _ => rfl) (fun _ _ => rfl)⟩
    · rw [hr _ (by omega), hB]; exact b3
    · rw [hr _ (by omega), hB]; exact b4
    · rw [hr _ (by omega), hB]; exact b5
  · obtain ⟨⟨t1, t2, t3, t4, t5, t6, t7⟩, t8, t9⟩ := h.t u hu
    have hT : ∀ i, kI (ksI M (aH A) j v) (aT A u) i = kI M (aT A u) i := fun i => hI _ i 32 t1 (by decide)
    rw [hr (89 + 7 * u + 1) (by omega), hr (89 + 7 * u + 2) (by omega), hr (89 + 7 * u + 3) (by omega), hr (89 + 7 * u + 4) (by omega), hr (89 + 7 * u + 5) (by omega), hr (89 + 7 * u + 6) (by omega), hT, hT, hT, hT, hT, hT]
    exact ⟨⟨t1, t2, t3, t4, t5, t6, t7⟩, t8, t9⟩
  · refine ⟨(h.c b hb).1, fun p hp hp6 => ?_⟩
    have := si_ge (b := b) (q := p)
    rw [hr (si b p) (by omega)]
    exact (h.c b hb).2 p hp hp6
end
