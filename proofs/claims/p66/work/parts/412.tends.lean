section
variable {N : Nat} {M M' M1 M2 : kMem} {tm a s t n i j k k2 : Nat} {e e' L R P : Nat → Nat} {S S' : Nat → Prop} {rt : Nat} {lo hi : Nat → Nat}
theorem tilt_eq (v : Int32) : (if (9 : Int32) < v then (9 : Int32) else if v < -9 then -9 else v) = kmax (-9) (kmin 9 v) := by
  unfold kmax kmin
  have h1 : (-9 : Int32) < 9 := by decide
  grind
def tlT (M : kMem) (e : Nat → Nat) (b : Nat) : Int32 := kmax (-9) (kmin 9 (sumI (TqM M e) 13 / kI M b 2))
theorem lb_tilt {b : Nat} (hb : kt M b 31 = true) (ht : kR M b 4 = tm) (h : TM M tm e) (hN : 100 < N) (hv : ∀ q, e q ≠ 0 → kt M (kR M (e q) 1) 32 = true) (h0 : kI M b 2 ≠ 0) : ∃ M', F_LB_tilt N M b = some (tlT M e b, M') ∧ Gr M M' 7 := by
  obtain ⟨M', u1, u2⟩ := lb_torque hb ht h hN hv
  unfold F_LB_tilt
  have e2 := u2.gi hb 2
  have z0 : (kI M b 2 == 0) = false := by simpa using h0
  rw [hb, kg_t, u1, Option.bind_some]
  simp only [u2.tg hb, kg_t, e2, z0, Bool.not_false, kl_v]
  refine ⟨M', ?_, u2⟩
  unfold tlT
  rw [← tilt_eq]
  by_cases c1 : (9 : Int32) < sumI (TqM M e) 13 / kI M b 2
  · rw [if_pos c1, if_pos c1]
  · rw [if_neg c1, if_neg c1]
    by_cases c2 : sumI (TqM M e) 13 / kI M b 2 < -9
    · rw [if_pos c2, if_pos c2]
    · rw [if_neg c2, if_neg c2]
theorem lb_height {b : Nat} (x : Int32) (hb : kt M b 31 = true) (ht : kR M b 4 = tm) (h : TM M tm e) (hN : 100 < N) (hv : ∀ q, e q ≠ 0 → kt M (kR M (e q) 1) 32 = true) (h0 : kI M b 2 ≠ 0) : ∃ M', F_LB_height N M b x = some (-x * tlT M e b, M') ∧ Gr M M' 7 := by
  obtain ⟨M', u1, u2⟩ := lb_tilt hb ht h hN hv h0
  unfold F_LB_height
  rw [hb, kg_t, u1, Option.bind_some]
  refine ⟨M', ?_, u2⟩
  have : -(x * tlT M e b) = -x * tlT M e b := by grind
  simp only [this]
theorem Gr.new {c sz : Nat} (hN : M'.1 = M.1 ++ [(c, sz)]) (h1 : ∀ a j, a ≤ M.1.length → kI M' a j = kI M a j) (h2 : ∀ a j, a ≤ M.1.length → kR M' a j = kR M a j) : Gr M M' (sz + 1) := by
  refine ⟨⟨[(c, sz)], hN, by simp⟩, h1, fun a j ha => Or.inr (h2 a j ha), fun tm ht hv => ?_⟩
  have tl2 := (kt_le ht).2
  unfold VC at hv ⊢
  rw [h2 _ _ tl2]
  refine hv.imp id (fun q => ⟨kt_pre hN q.1, ?_⟩)
  rw [h2 _ _ (kt_le q.1).2]
  exact q.2
theorem tm_exp (h : TM M tm e) {q : Nat} (hq : e q ≠ 0) : ∃ M' w, F_TM_exportEntry N M (e q) = some (w, M') ∧ kt M' w 38 = true ∧ kR M' w 1 = kR M (e q) 1 ∧ Gr M M' 3 := by
  unfold F_TM_exportEntry F_SE_init F_TE_getKey F_TE_getValue
  have w0 : ∀ x : Nat, (x + 1 == 0) = false := fun x => by simp
  have kN : kt (kNew M 38 2) (M.1.length + 1) 38 = true := kt_newW
  have ke : kt (kNew M 38 2) (e q) 35 = true := kt_newO (h.ke hq)
  have el := (kt_le (h.ke hq)).2
  have k1 := h.2.2.1 q hq
  have r1 : ∀ j, kR (kNew M 38 2) (e q) j = kR M (e q) j := fun j => by rw [z_RN, if_neg (by omega)]
  have hz : (kR M (e q) 0 == 0) = false := by simpa using k1.2
  rw [if_neg hq, kl_v, kl_v, w0]
  unfold ksK
  simp only [Bool.not_false, kg_t, kl_v, kN, ke, r1, hz, Bool.and_self, Option.bind_some, z_tR, z_tI]
  refine ⟨_, _, rfl, kN, ?_, ?_⟩
  · rw [z_RR, if_pos ⟨rfl, rfl⟩, z_RR, if_neg (by omega), z_RI, r1]
  · refine Gr.new (c := 38) (sz := 2) rfl (fun a j ha => ?_) (fun a j ha => ?_)
    · rw [z_IR, z_IR, z_II, if_neg (by omega), z_IN, if_neg (by omega)]
    · rw [z_RR, if_neg (by omega), z_RR, if_neg (by omega), z_RI, z_RN, if_neg (by omega)]
theorem tm_last (h : TM M tm e) (hN : 100 < N) {q : Nat} (hq : e q ≠ 0) : ∃ M' w s, F_TM_lastEntry N M tm = some (w, M') ∧ kt M' w 38 = true ∧ kR M' w 1 = kR M (e s) 1 ∧ Gr M M' 3 ∧ e s ≠ 0 ∧ ∀ p, e p ≠ 0 → p ≤ s := by
  obtain ⟨-, -, -, L, R, P, rt, lo, hi, hm, hp⟩ := id h
  have hrt : NZ e rt := by
    rcases hp.2.2.2.2 with z | z
    · exact absurd hq (z.2 q)
    · exact z.1
  obtain ⟨s, s1, s2, s3⟩ := mlst (N := N) hm hp hN hrt
  obtain ⟨M', w, u1, u2, u3, u4⟩ := tm_exp (N := N) h s2
  refine ⟨M', w, s, ?_, u2, u3, u4, s2, s3⟩
  unfold F_TM_lastEntry
  rw [h.k, kg_t, s1, Option.bind_some, u1, Option.bind_some]
theorem tm_first (h : TM M tm e) (hN : 100 < N) {q : Nat} (hq : e q ≠ 0) : ∃ M' w s, F_TM_firstEntry N M tm = some (w, M') ∧ kt M' w 38 = true ∧ kR M' w 1 = kR M (e s) 1 ∧ Gr M M' 3 ∧ e s ≠ 0 ∧ ∀ p, e p ≠ 0 → s ≤ p := by
  obtain ⟨-, -, -, L, R, P, rt, lo, hi, hm, hp⟩ := id h
  have hrt : NZ e rt := by
    rcases hp.2.2.2.2 with z | z
    · exact absurd hq (z.2 q)
    · exact z.1
  obtain ⟨s, s1, s2, s3⟩ := mfst (N := N) hm hp hN hrt
  obtain ⟨M', w, u1, u2, u3, u4⟩ := tm_exp (N := N) h s2
  refine ⟨M', w, s, ?_, u2, u3, u4, s2, s3⟩
  unfold F_TM_firstEntry
  rw [h.k, kg_t, s1, Option.bind_some, u1, Option.bind_some]
end
