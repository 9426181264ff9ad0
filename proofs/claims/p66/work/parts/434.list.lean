/-! lists that grow, maps that are made -/
def Lx (M : kMem) (l a : Nat) (f : Nat → Nat) (n : Nat) : Prop := kt M l 33 = true ∧ kI M l 2 = nI n ∧ (n = 0 ∧ kR M l 1 = 0 ∧ kI M l 1 ≠ 0 ∨ 1 ≤ n ∧ Ll M l a f n)
def Ey (M : kMem) (tm : Nat) : Prop := kt M tm 34 = true ∧ kR M tm 1 = 0 ∧ kR M tm 2 = 0 ∧ kR M tm 3 = 0
section
variable {N : Nat} {M M' M1 M2 : kMem} {a s i j k k2 l n x g tm : Nat} {f : Nat → Nat}
theorem Ey.ok (h : Ey M tm) : TM M tm (fun _ => 0) := by
  obtain ⟨h1, h2, h3, h4⟩ := h
  refine ⟨h3, Or.inl h2, fun q hq => absurd rfl hq, id, id, id, 13, id, id, ⟨rfl, fun q hq => absurd rfl hq, fun q p hq _ _ => absurd rfl hq, h1, h4⟩, fun q hq => absurd rfl hq, fun q hq => absurd rfl hq, fun q hq => absurd rfl hq, fun q hq => absurd rfl hq, Or.inl ⟨rfl, fun q hq => hq rfl⟩⟩
theorem tm_init (h : kt M tm 34 = true) (h1 : kR M tm 1 = 0) (h3 : kR M tm 3 = 0) : ∃ M', F_TM_init N M tm = some M' ∧ Ey M' tm ∧ M'.1 = M.1 ∧ ∀ y j, y ≠ tm → kI M' y j = kI M y j ∧ kR M' y j = kR M y j := by
  have hn : (!(tm == 0)) = true := by
    have := (kt_le h).1
    simp; omega
  refine ⟨ksR (ksI (ksI M tm 4 0) tm 5 0) tm 2 0, ?_, ⟨h, ?_, ?_, ?_⟩, rfl, fun y j hy => ⟨?_, ?_⟩⟩
  · unfold F_TM_init F_AM_init
    rw [hn, kg_t, kg_t, Option.bind_some, h, kg_t, kl_v, z_tI, h, kg_t, kl_v, z_tI, z_tI, h, kg_t, kl_v]
  · rw [z_RR, if_neg (fun z => absurd z.2 (by decide))]; exact h1
  · rw [z_RR, if_pos ⟨rfl, rfl⟩]
  · rw [z_RR, if_neg (fun z => absurd z.2 (by decide))]; exact h3
  · rw [z_IR, z_II, if_neg (fun z => hy z.1), z_II, if_neg (fun z => hy z.1)]
  · rw [z_RR, if_neg (fun z => hy z.1), z_RI, z_RI]
theorem al_init (h : kt M l 33 = true) (h1 : kI M l 2 = 0) : ∃ M', F_AL_init N M l = some M' ∧ Lx M' l a f 0 ∧ M'.1 = M.1 ∧ ∀ y j, y ≠ l → kI M' y j = kI M y j ∧ kR M' y j = kR M y j := by
  have hn : (!(l == 0)) = true := by
    have := (kt_le h).1
    simp; omega
  refine ⟨ksE (ksI M l 0 0) l 1, ?_, ⟨h, ?_, Or.inl ⟨rfl, ?_, ?_⟩⟩, rfl, fun y j hy => ⟨?_, ?_⟩⟩
  · unfold F_AL_init F_AB_init F_AC_init
    simp only [hn, kg_t, Option.bind_some, h, kl_v, z_tI]
  · show kI (ksI (ksR (ksI M l 0 0) l 1 0) l 1 1) l 2 = _
    rw [z_II, if_neg (fun z => absurd z.2 (by decide)), z_IR, z_II, if_neg (fun z => absurd z.2 (by decide)), h1]
    rfl
  · show kR (ksI (ksR (ksI M l 0 0) l 1 0) l 1 1) l 1 = _
    rw [z_RI, z_RR, if_pos ⟨rfl, rfl⟩]
  · show kI (ksI (ksR (ksI M l 0 0) l 1 0) l 1 1) l 1 ≠ 0
    rw [z_II, if_pos ⟨rfl, rfl⟩]
    decide
  · show kI (ksI (ksR (ksI M l 0 0) l 1 0) l 1 1) y j = _
    rw [z_II, if_neg (fun z => hy z.1), z_IR, z_II, if_neg (fun z => hy z.1)]
  · show kR (ksI (ksR (ksI M l 0 0) l 1 0) l 1 1) y j = _
    rw [z_RI, z_RR, if_neg (fun z => hy z.1), z_RI]
theorem al_add (h : Lx M l a f n) (hn : n < 10) (hx : kt M x 31 = true ∨ kt M x 32 = true) : ∃ M' a', F_AL_add N M l x = some (1, M') ∧ Lx M' l a' (fun k => if k = n then x else f k) (n + 1) ∧ (1 ≤ n → a' = a) ∧ (n = 0 → M.1.length < a') ∧ (∃ c, M'.1 = M.1 ++ c ∧ (c.map (fun c => c.2 + 1)).sum ≤ 11) ∧ ∀ y j, y ≤ M.1.length → y ≠ l → (1 ≤ n → y ≠ a) → kI M' y j = kI M y j ∧ kR M' y j = kR M y j := by
  obtain ⟨h1, h2, h3⟩ := h
  have ll := kt_le h1
  have hx2 : ∀ {X : kMem} {c}, X.1 = M.1 ++ c → (kt X x 31 || kt X x 32) = true := fun {X c} e => by
    rw [Bool.or_eq_true]
    exact hx.imp (fun z => kt_pre e z) (fun z => kt_pre e z)
  have hM : (ksI M l 0 (kI M l 0 + 1)).1 = M.1 := rfl
  unfold F_AL_add
  rw [h1, kg_t, kg_t, kl_v]
  generalize hM1 : ksI M l 0 (kI M l 0 + 1) = M1
  have c1 : M1.1 = M.1 := by rw [← hM1]; rfl
  have t1 : kt M1 l 33 = true := by rw [kt_cg c1]; exact h1
  have i1 : ∀ y j, (y ≠ l ∨ j ≠ 0) → kI M1 y j = kI M y j := fun y j z => by rw [← hM1, z_II, if_neg (by omega)]
  have r1 : ∀ y j, kR M1 y j = kR M y j := fun y j => by rw [← hM1, z_RI]
  rw [t1, kg_t, r1, i1 l 1 (Or.inr (by decide)), i1 l 2 (Or.inr (by decide)), h2]
  rcases h3 with ⟨n0, e1, e2⟩ | ⟨n1, b1, b2, b3, b4, b5, b6, b7⟩
  · subst n0
    have kNl : kt (kNew M1 21 10) l 33 = true := kt_newO t1
    have kNw : kt (kNew M1 21 10) (M1.1.length + 1) 21 = true := kt_newW
    have nN : kn (kNew M1 21 10) (M1.1.length + 1) = 10 := by unfold kn kcell kNew; simp
    have l1 : M1.1.length = M.1.length := by rw [c1]
    have e0 : (!(kI M l 1 == 0)) = true := by simpa using e2
    rw [if_pos e1, e0, kg_t, kg_t, kg_t]
    unfold F_AL_add3E F_AL_grow F_AL_grow1
    rw [if_pos (show nI 0 = 0 from rfl), t1, kg_t, kg_t, kg_t, kg_t, r1, if_pos e1, i1 l 1 (Or.inr (by decide)), e0, kg_t, if_neg (by decide), kg_t, if_pos e1, kg_t, i1 l 2 (Or.inr (by decide)), h2]
    rw [show (decide (0 ≤ (kmax 10 (nI 0 + 1))) && decide ((kmax 10 (nI 0 + 1)).toNatClampNeg ≤ 60000)) = true by decide, kg_t, kl_v, show (kmax 10 (nI 0 + 1)).toNatClampNeg = 10 by decide, kl_v, kNl]
    rw [show (true && !(M1.1.length + 1 == 0)) = true by simp, kg_t, kl_v, Option.bind_some, Option.bind_some, kl_v]
    have kin0 : kin (ksR (kNew M1 21 10) l 1 (M1.1.length + 1)) (M1.1.length + 1) 21 (nI 0) = true := kin_nI (n := 10) kNw nN (by decide) (by decide)
    rw [kin0, hx2 (c := [(21, 10)]) (by show M1.1 ++ _ = _; rw [c1]), show (true && true) = true from rfl, kg_t, kl_v, z_tR, z_tR, kNl, kg_t, kl_v, Option.bind_some]
    refine ⟨_, M1.1.length + 1, rfl, ⟨kNl, ?_, Or.inr ⟨by omega, kNl, ?_, ?_, kNw, ?_, ?_, fun k hk => ?_⟩⟩, fun z => absurd z (by omega), fun _ => by omega, ⟨[(21, 10)], by show M1.1 ++ _ = _; rw [c1], by simp⟩, fun y j hy hy1 _ => ⟨?_, ?_⟩⟩
    · rw [z_II, if_pos ⟨rfl, rfl⟩]; rfl
    · rw [z_RI, z_RR, if_neg (fun z => by omega), z_RR, if_pos ⟨rfl, rfl⟩]
    · rw [z_II, if_pos ⟨rfl, rfl⟩]; rfl
    · exact Nat.le_trans (by omega) (Nat.le_of_eq nN.symm)
    · exact nN
    · have k0 : k = 0 := by omega
      subst k0
      rw [z_RI, z_RR, if_pos ⟨rfl, by decide⟩]
      exact (if_pos rfl).symm
    · rw [z_II, if_neg (fun z => hy1 z.1), z_IR, z_IR, z_IN, if_neg (by omega), i1 y j (Or.inl hy1)]
    · rw [z_RI, z_RR, if_neg (fun z => by omega), z_RR, if_neg (fun z => hy1 z.1), z_RN, if_neg (by omega), r1]
  · have la := kt_le b4
    have a0 : ¬ kR M l 1 = 0 := by rw [b2]; omega
    have nal : l ≠ a := kt_ne h1 b4 (by decide)
    have t4 : kt M1 a 21 = true := by rw [kt_cg c1]; exact b4
    have n4 : kn M1 a = 10 := by rw [kn_cg c1]; exact b6
    rw [if_neg a0, kg_t, kg_t, b2]
    unfold F_AL_add3R
    rw [t4, kg_t, n4, if_neg (show ¬ nI n = Int32.ofNat 10 from fun z => by have := (nI_eq (show n < 2147483648 by omega) (show 10 < 2147483648 by omega)).mp z; omega)]
    rw [show kin M1 a 21 (nI n) = true from kin_nI t4 n4 hn (by decide), hx2 (c := []) (by rw [c1]; simp), show (true && true) = true from rfl, kg_t, kl_v, z_tR, t1, kg_t, kl_v, kx_nI (by omega), Option.bind_some]
    refine ⟨_, a, rfl, ⟨t1, ?_, Or.inr ⟨by omega, t1, ?_, ?_, t4, ?_, n4, fun k hk => ?_⟩⟩, fun _ => rfl, fun z => absurd z (by omega), ⟨[], by show M1.1 = _; rw [c1]; simp, by simp⟩, fun y j hy hy1 hy2 => ⟨?_, ?_⟩⟩
    · rw [z_II, if_pos ⟨rfl, rfl⟩, nI_succ]
    · rw [z_RI, z_RR, if_neg (fun z => nal z.1), r1, b2]
    · rw [z_II, if_pos ⟨rfl, rfl⟩, nI_succ]
    · show _ ≤ kn M1 a
      omega
    · rw [z_RI, z_RR]
      by_cases e : k = n
      · rw [if_pos ⟨rfl, e⟩]
        exact (if_pos e).symm
      · rw [if_neg (fun z => e z.2), r1]
        exact (b7 k (by omega)).trans (if_neg e).symm
    · rw [z_II, if_neg (fun z => hy1 z.1), z_IR, i1 y j (Or.inl hy1)]
    · rw [z_RI, z_RR, if_neg (fun z => hy2 n1 z.1), r1]
end
