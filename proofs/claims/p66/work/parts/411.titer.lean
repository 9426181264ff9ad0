/-! what only makes cells; the values of a map one after the other: torque; the first and the last entry -/
def Gr (M M' : kMem) (k : Nat) : Prop := (∃ l, M'.1 = M.1 ++ l ∧ (l.map (fun c => c.2 + 1)).sum ≤ k) ∧ (∀ a j, a ≤ M.1.length → kI M' a j = kI M a j) ∧ (∀ a j, a ≤ M.1.length → (kt M a 34 = true ∧ j = 1) ∨ kR M' a j = kR M a j) ∧ ∀ tm, kt M tm 34 = true → VC M tm → VC M' tm
section
variable {N : Nat} {M M' M1 M2 : kMem} {tm a s t n i j k k2 : Nat} {e e' L R P : Nat → Nat} {S S' : Nat → Prop} {rt : Nat} {lo hi : Nat → Nat}
theorem Gr.rf' : Gr M M 0 := ⟨⟨[], by simp, by simp⟩, fun _ _ _ => rfl, fun _ _ _ => Or.inr rfl, fun _ _ h => h⟩
theorem Gr.len (h : Gr M M' k) : M.1.length ≤ M'.1.length := by
  obtain ⟨⟨l, hl, -⟩, -⟩ := h
  rw [hl, List.length_append]
  omega
theorem Gr.tg (h : Gr M M' k) (ha : kt M a s = true) : kt M' a s = true := by
  obtain ⟨⟨l, hl, -⟩, -⟩ := h
  exact kt_pre hl ha
theorem Gr.trans (h : Gr M M1 k) (h2 : Gr M1 M2 k2) : Gr M M2 (k + k2) := by
  have hlen := h.len
  obtain ⟨⟨l, hl, hs⟩, h3, h4, h5⟩ := h
  obtain ⟨⟨l2, hl2, hs2⟩, g3, g4, g5⟩ := h2
  refine ⟨⟨l ++ l2, by rw [hl2, hl, List.append_assoc], by rw [List.map_append, List.sum_append]; omega⟩, fun a j ha => (g3 a j (by omega)).trans (h3 a j ha), fun a j ha => ?_, fun tm ht hv => g5 tm (kt_pre hl ht) (h5 tm ht hv)⟩
  rcases h4 a j ha with z | z
  · exact Or.inl z
  · rcases g4 a j (by omega) with y | y
    · rw [kt_preF hl ha] at y
      exact Or.inl y
    · exact Or.inr (y.trans z)
theorem Gr.le (h : Gr M M' k) (hk : k ≤ k2) : Gr M M' k2 := by
  obtain ⟨⟨l, hl, hs⟩, h2⟩ := h
  exact ⟨⟨l, hl, by omega⟩, h2⟩
theorem Gr.gi (h : Gr M M' k) (ha : kt M a s = true) (j : Nat) : kI M' a j = kI M a j := h.2.1 a j (kt_le ha).2
theorem Gr.gr (h : Gr M M' k) (ha : kt M a s = true) (hj : s ≠ 34 ∨ j ≠ 1) : kR M' a j = kR M a j := by
  rcases h.2.2.1 a j (kt_le ha).2 with z | z
  · rcases hj with y | y
    · exact absurd rfl (kt_ne ha z.1 y)
    · exact absurd z.2 y
  · exact z
theorem TM.gr (h : TM M tm e) (g : Gr M M' k) : TM M' tm e := by
  have hk := h.k
  refine ⟨(g.gr hk (Or.inr (by decide))).trans h.1, g.2.2.2 tm hk h.2.1, fun q hq => ?_, h.2.2.2.mem (fun a s z => g.tg z) (fun q hq => g.gi (h.ke hq) 5) (fun q hq j h1 h2 => g.gr (h.ke hq) (Or.inl (by decide))) (g.gr hk (Or.inr (by decide)))⟩
  rw [g.gi (h.ke hq), g.gr (h.ke hq) (Or.inl (by decide))]
  exact h.2.2.1 q hq
theorem sumI_gap {f : Nat → Int32} {a : Nat} : ∀ (d : Nat), (∀ q, a ≤ q → q < a + d → f q = 0) → sumI f (a + d) = sumI f a
  | 0, _ => rfl
  | d + 1, h => by
    show sumI f (a + d) + f (a + d) = sumI f a
    rw [sumI_gap d (fun q h1 h2 => h q h1 (by omega)), h (a + d) (by omega) (by omega), Int32.add_zero]
theorem sumI_to {f : Nat → Int32} {a b : Nat} (hab : a ≤ b) (h : ∀ q, a ≤ q → q < b → f q = 0) : sumI f b = sumI f a := by
  have := sumI_gap (f := f) (a := a) (b - a) (fun q h1 h2 => h q h1 (by omega))
  rw [show a + (b - a) = b by omega] at this
  exact this
/-- one map's values, as position times weight -/
def TqM (M : kMem) (e : Nat → Nat) (q : Nat) : Int32 := if e q = 0 then 0 else kI M (kR M (e q) 1) 4 * kI M (kR M (e q) 1) 1
def Ex (it : Nat) (M0 M : kMem) : Prop := M.1 = M0.1 ∧ M.2.1 = M0.2.1 ∧ (∀ a j, a ≠ it → kR M a j = kR M0 a j) ∧ kR M it 3 = kR M0 it 3
theorem tq_loop {it : Nat} {M0 : kMem} (h : MT M0 tm e (NZ e) L R P rt) (hp : PT (NZ e) L R P rt lo hi) (hN : 100 < N) (hit : kt M0 it 37 = true) (hv : ∀ q, e q ≠ 0 → kt M0 (kR M0 (e q) 1) 32 = true) (h3 : kR M0 it 3 = tm) (h2 : kI M0 tm 5 = kI M0 it 2) : ∀ (d n q : Nat) (M : kMem) (acc : Int32), 13 ≤ q + d → d < n → Ex it M0 M → (q = 13 ∨ e q ≠ 0) → kR M it 0 = e q → acc = sumI (TqM M0 e) q → ∃ M', F_LB_torque_15 N n M acc it = some (sumI (TqM M0 e) 13, M') ∧ Ex it M0 M' := by
  intro d
  induction d with
  | zero =>
    intro n q M acc hd hn hx hq hR ha
    have q13 : q = 13 := hq.resolve_right (fun z => by have := hp.rng (q := q) z; omega)
    subst q13
    obtain ⟨n', rfl⟩ : ∃ n', n = n' + 1 := ⟨n - 1, by omega⟩
    unfold F_LB_torque_15 F_PI_hasNext
    rw [kt_cg hx.1, hit, kg_t, kg_t, hR, h.1, if_pos rfl, Option.bind_some, if_pos rfl, ha]
    exact ⟨M, rfl, hx⟩
  | succ d ih =>
    intro n q M acc hd hn hx hq hR ha
    obtain ⟨n', rfl⟩ : ∃ n', n = n' + 1 := ⟨n - 1, by omega⟩
    unfold F_LB_torque_15 F_PI_hasNext F_TI_next F_PI_nextEntry
    rw [kt_cg hx.1, hit, kg_t, kg_t, hR]
    rcases hq with hq | hq
    · subst hq
      rw [h.1, if_pos rfl, Option.bind_some, if_pos rfl, ha]
      exact ⟨M, rfl, hx⟩
    · have q1 := hp.rng (q := q) hq
      have eit : ∀ p, e p ≠ 0 → e p ≠ it := fun p hp' => kt_ne (h.k hp') hit (by decide)
      have tit : tm ≠ it := kt_ne h.2.2.2.1 hit (by decide)
      have kIe : ∀ a j, kI M a j = kI M0 a j := fun a j => by unfold kI; rw [hx.2.1]
      have hM : MT M tm e (NZ e) L R P rt := by
        refine ⟨h.1, fun p hp' => ⟨h.nz hp', ?_, ?_, ?_, ?_, ?_⟩, h.2.2.1, ?_, ?_⟩
        · rw [kt_cg hx.1]; exact h.k hp'
        · rw [kIe]; exact h.co hp'
        · rw [hx.2.2.1 _ _ (eit p hp')]; exact h.l hp'
        · rw [hx.2.2.1 _ _ (eit p hp')]; exact h.r hp'
        · rw [hx.2.2.1 _ _ (eit p hp')]; exact h.p hp'
        · rw [kt_cg hx.1]; exact h.2.2.2.1
        · rw [hx.2.2.1 _ _ tit]; exact h.2.2.2.2
      obtain ⟨s, s1, s2⟩ := msuc (N := N) hM hp hN hq
      rw [if_neg hq, Option.bind_some, if_neg (by decide)]
      simp only [kl_v, if_neg hq, kg_t]
      rw [hx.2.2.2, h3, hM.2.2.2.1, kg_t, kIe tm 5, kIe it 2, if_pos h2, s1, Option.bind_some]
      rw [show kt (ksR M it 0 (e s)) it 37 = true from by rw [z_tR, kt_cg hx.1]; exact hit, kg_t, Option.bind_some]
      have v1 : kR (ksR (ksR M it 0 (e s)) it 1 (e q)) (e q) 1 = kR M0 (e q) 1 := by
        rw [z_RR, if_neg (fun z => eit q hq z.1), z_RR, if_neg (fun z => eit q hq z.1)]
        exact hx.2.2.1 _ _ (eit q hq)
      have kq : kt M (e q) 35 = true := hM.k hq
      have kv : kt M (kR M0 (e q) 1) 32 = true := by rw [kt_cg hx.1]; exact hv q hq
      simp only [z_tR, kq, kg_t, Option.bind_some, v1, kv, Bool.or_true]
      have hx2 : Ex it M0 (ksR (ksR M it 0 (e s)) it 1 (e q)) := by
        refine ⟨hx.1, hx.2.1, fun a j ha => ?_, ?_⟩
        · rw [z_RR, if_neg (fun z => ha z.1), z_RR, if_neg (fun z => ha z.1)]
          exact hx.2.2.1 a j ha
        · rw [z_RR, if_neg (by omega), z_RR, if_neg (by omega)]
          exact hx.2.2.2
      have hacc : acc + kI (ksR (ksR M it 0 (e s)) it 1 (e q)) (kR M0 (e q) 1) 4 * kI (ksR (ksR M it 0 (e s)) it 1 (e q)) (kR M0 (e q) 1) 1 = sumI (TqM M0 e) (q + 1) := by
        rw [z_IR, z_IR, z_IR, z_IR, kIe, kIe, ha]
        show _ = sumI (TqM M0 e) q + TqM M0 e q
        unfold TqM
        rw [if_neg hq]
      have hz : ∀ p, q < p → (s = 13 → p < 13) → (s ≠ 13 → p < s) → TqM M0 e p = 0 := by
        intro p h1 h4 h5
        unfold TqM
        by_cases y : e p = 0
        · rw [if_pos y]
        · exfalso
          rcases s2 with ⟨z1, z2⟩ | ⟨z1, z2, z3⟩
          · have := z2 p y; omega
          · have s13 : s ≠ 13 := hp.n13 z1
            have := z3 p y h1
            have := h5 s13
            omega
      refine ih n' s _ _ ?_ (by omega) hx2 (s2.imp (fun z => z.1) (fun z => z.1)) ?_ ?_
      · rcases s2 with ⟨z1, z2⟩ | ⟨z1, z2, z3⟩ <;> omega
      · rw [z_RR, if_neg (by omega), z_RR, if_pos ⟨rfl, rfl⟩]
      · rw [hacc]
        symm
        rcases s2 with ⟨z1, z2⟩ | ⟨z1, z2, z3⟩
        · subst z1
          exact sumI_to (by omega) (fun p h1 h4 => hz p (by omega) (fun _ => h4) (fun z => absurd rfl z))
        · exact sumI_to (by omega) (fun p h1 h4 => hz p (by omega) (fun z => absurd z (hp.n13 z1)) (fun _ => h4))
theorem z_tN (h : kt M a s = true) : kt (kNew M t n) a s = true := kt_newO h
/-- torque, tilt and height of a board whose map is tm -/
theorem lb_torque {b : Nat} (hb : kt M b 31 = true) (ht : kR M b 4 = tm) (h : TM M tm e) (hN : 100 < N) (hv : ∀ q, e q ≠ 0 → kt M (kR M (e q) 1) 32 = true) : ∃ M', F_LB_torque N M b = some (sumI (TqM M e) 13, M') ∧ Gr M M' 7 := by
  have hk := h.k
  have w0 : ∀ x : Nat, (x + 1 == 0) = false := fun x => by simp
  -- the values' view
  have hval : ∃ M1 vw, F_TM_values N M tm = some (vw, M1) ∧ Gr M M1 2 ∧ kt M1 vw 36 = true ∧ kR M1 vw 0 = tm := by
    unfold F_TM_values
    rw [hk, kg_t, kl_v]
    rcases h.2.1 with z | ⟨z1, z2⟩
    · rw [z, if_pos rfl, kl_v, kl_v, w0]
      unfold F_TV_init F_AC_init
      have k1 : kt (kNew M 36 1) (M.1.length + 1) 36 = true := kt_newW
      have k2 : kt (kNew M 36 1) tm 34 = true := kt_newO hk
      rw [show (!false) = true from rfl, kg_t, k1, kg_t, kl_v, w0]
      simp only [Bool.not_false, kg_t, Option.bind_some, kl_v, z_tR, k2]
      have tl := (kt_le hk).2
      refine ⟨_, _, rfl, ⟨⟨[(36, 1)], rfl, by simp⟩, fun a j ha => ?_, fun a j ha => ?_, fun tm2 ht2 hv2 => ?_⟩, ?_, ?_⟩
      · rw [z_IR, z_IR, z_IN, if_neg (by omega)]
      · rw [z_RR, z_RR, z_RN]
        by_cases y : a = tm ∧ j = 1
        · exact Or.inl ⟨by rw [y.1]; exact hk, y.2⟩
        · right
          rw [if_neg y, if_neg (by omega), if_neg (by omega)]
      · have tl2 := (kt_le ht2).2
        unfold VC at hv2 ⊢
        by_cases y : tm2 = tm
        · subst y
          right
          rw [z_RR, if_pos ⟨rfl, rfl⟩]
          refine ⟨k1, ?_⟩
          rw [z_RR, if_neg (by omega), z_RR, if_pos ⟨rfl, rfl⟩]
        · have e1 : kR (ksR (ksR (kNew M 36 1) (M.1.length + 1) 0 tm) tm 1 (M.1.length + 1)) tm2 1 = kR M tm2 1 := by
            rw [z_RR, if_neg (fun q => y q.1), z_RR, if_neg (by omega), z_RN, if_neg (by omega)]
          rw [e1]
          refine hv2.imp id (fun q => ⟨kt_newO q.1, ?_⟩)
          have ql := (kt_le q.1).2
          rw [z_RR, if_neg (fun u => kt_ne q.1 hk (by decide) u.1), z_RR, if_neg (by omega), z_RN, if_neg (by omega)]
          exact q.2
      · exact k1
      · rw [z_RR, if_neg (by omega), z_RR, if_pos ⟨rfl, rfl⟩]
    · rw [if_neg (by have := (kt_le z1).1; omega)]
      exact ⟨M, _, rfl, Gr.rf'.le (by omega), z1, z2⟩
  obtain ⟨M1, vw, a1, g1, v1, v2⟩ := hval
  have h1 : TM M1 tm e := h.gr g1
  unfold F_LB_torque
  rw [hb, kg_t, ht, hk, kg_t, a1, Option.bind_some, v1, kg_t]
  -- the iterator
  have hk1 := h1.k
  have hvl := (kt_le v1).2
  have htl := (kt_le hk1).2
  have kN : kt (kNew M1 37 4) (M1.1.length + 1) 37 = true := kt_newW
  have ktv : kt (kNew M1 37 4) vw 36 = true := kt_newO v1
  have gN : Gr M1 (kNew M1 37 4) 5 := by
    refine ⟨⟨[(37, 4)], rfl, by simp⟩, fun a j ha => by rw [z_IN, if_neg (by omega)], fun a j ha => Or.inr (by rw [z_RN, if_neg (by omega)]), fun tm2 ht2 hv2 => ?_⟩
    have tl2 := (kt_le ht2).2
    unfold VC at hv2 ⊢
    rw [z_RN, if_neg (by omega)]
    refine hv2.imp id (fun q => ⟨kt_newO q.1, ?_⟩)
    have := (kt_le q.1).2
    rw [z_RN, if_neg (by omega)]
    exact q.2
  have hN2 : TM (kNew M1 37 4) tm e := h1.gr gN
  have rv : kR (kNew M1 37 4) vw 0 = tm := by rw [z_RN, if_neg (by omega), v2]
  have hf : ∃ q0, F_TM_getFirstEntry N (kNew M1 37 4) tm = some (e q0) ∧ (q0 = 13 ∨ e q0 ≠ 0) ∧ ∀ p, e p ≠ 0 → q0 ≤ p := by
    obtain ⟨-, -, -, L, R, P, rt, lo, hi, hm, hp⟩ := hN2
    rcases hp.2.2.2.2 with ⟨z, z2⟩ | ⟨z, -⟩
    · exact ⟨13, by rw [mfst0 hm z, hm.1], Or.inl rfl, fun p hp2 => absurd hp2 (z2 p)⟩
    · obtain ⟨q0, c1, c2, c3⟩ := mfst (N := N) hm hp hN z
      exact ⟨q0, c1, Or.inr c2, c3⟩
  obtain ⟨q0, f1, f2, f3⟩ := hf
  unfold F_TV_iterator F_TI_init F_PI_init
  rw [kl_v, kl_v, ktv, kg_t, kg_t, rv, hN2.k, kg_t, f1, Option.bind_some, w0]
  simp only [Bool.not_false, kg_t, kl_v, kN, z_tR, z_tI, hN2.k, Option.bind_some, w0]
  -- the loop
  generalize hMi : ksR (ksR (ksI (ksR (kNew M1 37 4) (M1.1.length + 1) 3 tm) (M1.1.length + 1) 2 (kI (ksR (kNew M1 37 4) (M1.1.length + 1) 3 tm) tm 5)) (M1.1.length + 1) 1 0) (M1.1.length + 1) 0 (e q0) = Mi
  have ntl : tm ≠ M1.1.length + 1 := by omega
  have iI : ∀ a j, a ≠ M1.1.length + 1 → kI Mi a j = kI M1 a j := by
    intro a j ha
    rw [← hMi, z_IR, z_IR, z_II, if_neg (fun z => ha z.1), z_IR, z_IN, if_neg ha]
  have iR : ∀ a j, a ≠ M1.1.length + 1 → kR Mi a j = kR M1 a j := by
    intro a j ha
    rw [← hMi, z_RR, if_neg (fun z => ha z.1), z_RR, if_neg (fun z => ha z.1), z_RI, z_RR, if_neg (fun z => ha z.1), z_RN, if_neg ha]
  have iT : Mi.1 = M1.1 ++ [(37, 4)] := by rw [← hMi]; rfl
  have gi : Gr M1 Mi 5 := by
    refine ⟨⟨[(37, 4)], iT, by simp⟩, fun a j ha => iI a j (by omega), fun a j ha => Or.inr (iR a j (by omega)), fun tm2 ht2 hv2 => ?_⟩
    have tl2 := (kt_le ht2).2
    unfold VC at hv2 ⊢
    rw [iR _ _ (by omega)]
    refine hv2.imp id (fun q => ⟨kt_pre iT q.1, ?_⟩)
    have := (kt_le q.1).2
    rw [iR _ _ (by omega)]
    exact q.2
  have hi' : TM Mi tm e := h1.gr gi
  have kit : kt Mi (M1.1.length + 1) 37 = true := by rw [← hMi]; exact kN
  have gM : Gr M Mi 7 := (g1.trans gi).le (by omega)
  have tq : TqM Mi e = TqM M e := by
    funext q
    unfold TqM
    by_cases z : e q = 0
    · rw [if_pos z, if_pos z]
    · rw [if_neg z, if_neg z, gM.gr (h.ke z) (Or.inl (by decide)), gM.gi (hv q z), gM.gi (hv q z)]
  obtain ⟨-, -, -, L, R, P, rt, lo, hi, hm, hp⟩ := hi'
  obtain ⟨M', u1, u2⟩ := tq_loop (N := N) hm hp hN kit (fun q hq => by rw [gM.gr (h.ke hq) (Or.inl (by decide))]; exact gM.tg (hv q hq)) (by rw [← hMi, z_RR, if_neg (by omega), z_RR, if_neg (by omega), z_RI, z_RR, if_pos ⟨rfl, rfl⟩]) (by rw [← hMi]; exact (show kI (ksI (ksR (kNew M1 37 4) (M1.1.length + 1) 3 tm) (M1.1.length + 1) 2 (kI (ksR (kNew M1 37 4) (M1.1.length + 1) 3 tm) tm 5)) tm 5 = _ from if_neg (fun z => ntl z.1)).trans (show kI (ksI (ksR (kNew M1 37 4) (M1.1.length + 1) 3 tm) (M1.1.length + 1) 2 (kI (ksR (kNew M1 37 4) (M1.1.length + 1) 3 tm) tm 5)) (M1.1.length + 1) 2 = _ from if_pos ⟨rfl, rfl⟩).symm) 13 N q0 Mi 0 (by omega) (by omega) ⟨rfl, rfl, fun _ _ _ => rfl, rfl⟩ f2 (by rw [← hMi, z_RR, if_pos ⟨rfl, rfl⟩]) (by
    rw [sumI_zero]
    intro p hp2
    unfold TqM
    by_cases z : e p = 0
    · rw [if_pos z]
    · have := f3 p z
      omega)
  refine ⟨M', by rw [u1, tq], ⟨⟨?_, ?_⟩, fun a j ha => ?_, fun a j ha => ?_, fun tm2 ht2 hv2 => ?_⟩⟩
  · exact gM.1.choose
  · obtain ⟨b1, b2⟩ := gM.1.choose_spec
    exact ⟨u2.1.trans b1, b2⟩
  · have : kI M' a j = kI Mi a j := by unfold kI; rw [u2.2.1]
    rw [this]
    exact gM.2.1 a j ha
  · have := g1.len
    rw [u2.2.2.1 a j (by omega)]
    exact gM.2.2.1 a j ha
  · have hv3 := gM.2.2.2 tm2 ht2 hv2
    have l1 := g1.len
    have l2 := (kt_le ht2).2
    unfold VC at hv3 ⊢
    rw [u2.2.2.1 _ _ (by omega)]
    refine hv3.imp id (fun q => ⟨by rw [kt_cg u2.1]; exact q.1, ?_⟩)
    rw [u2.2.2.1 _ _ (kt_ne q.1 kit (by decide))]
    exact q.2
end
