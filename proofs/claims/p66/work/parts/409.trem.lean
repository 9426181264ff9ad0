section
variable {N : Nat} {M M' : kMem} {tm a s t n i j : Nat} {e e' L R P : Nat → Nat} {S S' : Nat → Prop} {rt : Nat} {lo hi : Nat → Nat}
theorem MT.tmI (h : MT M tm e S L R P rt) {w : Int32} : MT (ksI M tm j w) tm e S L R P rt := by
  refine ⟨h.1, fun q hq => ⟨h.nz hq, h.k hq, ?_, h.l hq, h.r hq, h.p hq⟩, h.2.2.1, h.2.2.2.1, h.2.2.2.2⟩
  rw [z_II, if_neg (fun z => h.tn hq z.1)]
  exact h.co hq
theorem m_delE (h : TM M tm e) (hN : 100 < N) {x : Nat} (ex : e x ≠ 0) : ∃ M' e', F_TM_deleteEntry N M tm (e x) = some M' ∧ TT M' tm e' (NZ e') ∧ KY M' e' (NZ e') id ∧ M'.1 = M.1 ∧ (∀ a j, a ≠ tm → (∀ q, e q ≠ 0 → a ≠ e q) → kI M' a j = kI M a j ∧ kR M' a j = kR M a j) ∧ (∀ j, j ≠ 3 → kR M' tm j = kR M tm j) ∧ e' x = 0 ∧ ∀ q, q ≠ x → (e q = 0 → e' q = 0) ∧ (e q ≠ 0 → (∃ p, e p ≠ 0 ∧ e' q = e p) ∧ e' q ≠ 0 ∧ kR M' (e' q) 1 = kR M (e q) 1) := by
  obtain ⟨h1, h2, h3, L, R, P, rt, lo, hi, hm0, hp⟩ := h
  have sx : NZ e x := ex
  have x13 := hp.rng sx
  generalize hM2 : ksI (ksI M tm 5 (kI M tm 5 + 1)) tm 4 (kI (ksI M tm 5 (kI M tm 5 + 1)) tm 4 - 1) = M2
  have hm : MT M2 tm e (NZ e) L R P rt := by rw [← hM2]; exact hm0.tmI.tmI
  have c2 : M2.1 = M.1 := by rw [← hM2]; rfl
  have r2 : ∀ a j, kR M2 a j = kR M a j := fun a j => by rw [← hM2]; rfl
  have i2 : ∀ a j, a ≠ tm → kI M2 a j = kI M a j := fun a j hz => by rw [← hM2, z_II, if_neg (fun z => hz z.1), z_II, if_neg (fun z => hz z.1)]
  have k2 : KY M2 e (NZ e) id := fun q hq => by rw [i2 _ _ (hm.tn hq), r2]; exact h3 q hq
  unfold F_TM_deleteEntry
  rw [hm0.2.2.2.1, kg_t, kg_t, kl_v]
  simp only [z_tI, hm0.2.2.2.1, kg_t, kl_v]
  have kx0 : kt M (e x) 35 = true := hm0.k sx
  rw [hM2, kx0, kg_t, kg_t, hm.l sx, hm.r sx]
  have one : (L x = 13 ∨ R x = 13) → ∃ M' e', F_TM_deleteEntry_57 N M2 tm (e x) = some M' ∧ TT M' tm e' (NZ e') ∧ KY M' e' (NZ e') id ∧ M'.1 = M.1 ∧ (∀ a j, a ≠ tm → (∀ q, e q ≠ 0 → a ≠ e q) → kI M' a j = kI M a j ∧ kR M' a j = kR M a j) ∧ (∀ j, j ≠ 3 → kR M' tm j = kR M tm j) ∧ e' x = 0 ∧ ∀ q, q ≠ x → (e q = 0 → e' q = 0) ∧ (e q ≠ 0 → (∃ p, e p ≠ 0 ∧ e' q = e p) ∧ e' q ≠ 0 ∧ kR M' (e' q) 1 = kR M (e q) 1) := by
    intro hc
    obtain ⟨M', u1, u2, f1, f2, f3, f4, f5, f6⟩ := m57 (N := N) hm hp hN sx hc
    have he : ∀ q, q ≠ x → fs e x 0 q = e q := fun q hq => if_neg hq
    have hx0 : fs e x 0 x = 0 := if_pos rfl
    refine ⟨M', fs e x 0, u1, u2.cg (fun q => ⟨fun hq => ?_, fun hq => ?_⟩) (fun q hq => he q hq.2) (by rw [he _ (by omega)]; exact hm.1), fun q hq => ?_, f1.trans c2, fun a j ha hq => ⟨(f5 a j hq).trans (i2 a j ha), (f3 a j hq (Or.inl ha)).trans (r2 a j)⟩, fun j hj => (f3 tm j (fun q hq => (hm.tn hq).symm) (Or.inr hj)).trans (r2 tm j), hx0, fun q hq => ⟨fun z => (he q hq).trans z, fun z => ⟨⟨q, z, he q hq⟩, ?_, ?_⟩⟩⟩
    · have hqx : q ≠ x := fun z => hq (z ▸ hx0)
      exact ⟨by show e q ≠ 0; rw [← he q hqx]; exact hq, hqx⟩
    · show fs e x 0 q ≠ 0
      rw [he q hq.2]
      exact hq.1
    · have hqx : q ≠ x := fun z => hq (z ▸ hx0)
      have hq2 : e q ≠ 0 := by rw [← he q hqx]; exact hq
      rw [he q hqx, f6 q hq2 0 (by omega), f4 q hq2 0 (by omega)]
      exact k2 q hq2
    · rw [he q hq]; exact z
    · rw [he q hq, f4 q z 1 (by omega)]
      exact r2 _ _
  by_cases hl : L x = 13
  · rw [hl, hm.1, if_pos rfl]
    exact one (Or.inl hl)
  · rw [if_neg (hm.nz (hp.lt sx hl).1)]
    by_cases hr : R x = 13
    · rw [hr, hm.1, if_pos rfl]
      exact one (Or.inr hr)
    · rw [if_neg (hm.nz (hp.rgt sx hr).1)]
      obtain ⟨y, y1, y2, y3, y4, y5⟩ := msucR (N := N) hm hp hN sx hr
      have yk := k2 y y2
      have yr := hp.rng y2
      have hz : (kR M2 (e y) 0 == 0) = false := by simpa using yk.2
      rw [y1, Option.bind_some, hm0.k y2, hz]
      simp only [Bool.not_false, Bool.and_self, kg_t, kl_v]
      generalize hM3 : ksR (ksK M2 (e x) 0 (kI M2 (e y) 0)) (e x) 1 (kR (ksK M2 (e x) 0 (kI M2 (e y) 0)) (e y) 1) = M3
      have exy : e y ≠ e x := fun z => by have := hm.2.2.1 _ _ y2 sx z; omega
      have c3 : M3.1 = M2.1 := by rw [← hM3]; rfl
      have r3 : ∀ a j, (a ≠ e x ∨ 1 < j) → kR M3 a j = kR M2 a j := by
        intro a j hj
        rw [← hM3]
        unfold ksK
        rw [z_RR, if_neg (fun z => by rcases hj with w | w; exact w z.1; omega), z_RR, if_neg (fun z => by rcases hj with w | w; exact w z.1; omega), z_RI]
      have i3 : ∀ a j, (a ≠ e x ∨ j ≠ 0) → kI M3 a j = kI M2 a j := by
        intro a j hj
        rw [← hM3]
        unfold ksK
        rw [z_IR, z_IR, z_II, if_neg (fun z => by rcases hj with w | w; exact w z.1; exact w z.2)]
      have v3 : kR M3 (e x) 1 = kR M (e y) 1 := by
        rw [← hM3, z_RR, if_pos ⟨rfl, rfl⟩]
        unfold ksK
        rw [z_RR, if_neg (fun z => exy z.1), z_RI, r2]
      have w3 : kI M3 (e x) 0 = pz y ∧ kR M3 (e x) 0 ≠ 0 := by
        rw [← hM3]
        unfold ksK
        rw [z_IR, z_IR, z_II, if_pos ⟨rfl, rfl⟩, z_RR, if_neg (by omega), z_RR, if_pos ⟨rfl, rfl⟩]
        exact ⟨yk.1, by decide⟩
      have hm3 : MT M3 tm e (NZ e) L R P rt := by
        refine ⟨hm.1, fun q hq => ⟨hm.nz hq, ?_, ?_, ?_, ?_, ?_⟩, hm.2.2.1, ?_, ?_⟩
        · rw [kt_cg c3]; exact hm.k hq
        · rw [i3 _ _ (Or.inr (by decide))]; exact hm.co hq
        · rw [r3 _ _ (Or.inr (by decide))]; exact hm.l hq
        · rw [r3 _ _ (Or.inr (by decide))]; exact hm.r hq
        · rw [r3 _ _ (Or.inr (by decide))]; exact hm.p hq
        · rw [kt_cg c3]; exact hm.2.2.2.1
        · rw [r3 _ _ (Or.inr (by decide))]; exact hm.2.2.2.2
      have k3 : kt M2 (e x) 35 = true := hm.k sx
      have ky3 : kt (ksK M2 (e x) 0 (kI M2 (e y) 0)) (e y) 35 = true := hm.k y2
      have kx3 : kt (ksK M2 (e x) 0 (kI M2 (e y) 0)) (e x) 35 = true := hm.k sx
      rw [ky3, kg_t, kx3, kg_t]
      obtain ⟨M', u1, u2, f1, f2, f3, f4, f5, f6⟩ := m57 (N := N) hm3 hp hN y2 (Or.inl y4)
      have u3 := u2.ren (q := x) (y := y) ⟨sx, by omega⟩ y3 (by omega) (fun k hk hk2 => by have := y5 k hk.1 hk2; have := hk.2; omega)
      have he : ∀ q, q ≠ x → q ≠ y → (if q = y then e x else if q = x then 0 else e q) = e q := fun q h1 h2 => by rw [if_neg h2, if_neg h1]
      have hnx : x ≠ y := by omega
      refine ⟨M', fun q => if q = y then e x else if q = x then 0 else e q, u1, u3.cg (fun q => ⟨fun hq => ?_, fun hq => ?_⟩) (fun _ _ => rfl) ?_, fun q hq => ?_, (f1.trans c3).trans c2, fun a j ha hq => ⟨((f5 a j hq).trans (i3 a j (Or.inl (hq x ex)))).trans (i2 a j ha), ((f3 a j hq (Or.inl ha)).trans (r3 a j (Or.inl (hq x ex)))).trans (r2 a j)⟩, fun j hj => ((f3 tm j (fun q hq => (hm.tn hq).symm) (Or.inr hj)).trans (r3 _ _ (Or.inl (hm.tn sx).symm))).trans (r2 tm j), ?_, fun q hq => ⟨fun z => ?_, fun z => ⟨?_, ?_, ?_⟩⟩⟩
      · have hq' : (if q = y then e x else if q = x then 0 else e q) ≠ 0 := hq
        by_cases w : q = y
        · exact Or.inl w
        · by_cases w2 : q = x
          · rw [if_neg w, if_pos w2] at hq'; exact absurd rfl hq'
          · rw [he q w2 w] at hq'
            exact Or.inr ⟨⟨hq', w⟩, w2⟩
      · show (if q = y then e x else if q = x then 0 else e q) ≠ 0
        rcases hq with w | ⟨⟨w, w2⟩, w3⟩
        · rw [if_pos w]; exact ex
        · rw [he q w3 w2]; exact w
      · show (if (13 : Nat) = y then e x else if (13 : Nat) = x then 0 else e 13) = 0
        rw [he _ (by omega) (by omega)]
        exact hm.1
      · have hq' : (if q = y then e x else if q = x then 0 else e q) ≠ 0 := hq
        show kI M' (if q = y then e x else if q = x then 0 else e q) 0 = pz q ∧ kR M' (if q = y then e x else if q = x then 0 else e q) 0 ≠ 0
        by_cases w : q = y
        · rw [if_pos w, f6 x ex 0 (by omega), f4 x ex 0 (by omega), w]
          exact w3
        · by_cases w2 : q = x
          · rw [if_neg w, if_pos w2] at hq'; exact absurd rfl hq'
          · rw [he q w2 w] at hq' ⊢
            have nq : e q ≠ e x := fun z => w2 (hm.2.2.1 _ _ hq' sx z)
            rw [f6 q hq' 0 (by omega), f4 q hq' 0 (by omega), i3 _ _ (Or.inl nq), r3 _ _ (Or.inl nq)]
            exact k2 q hq'
      · show (if x = y then e x else if x = x then 0 else e x) = 0
        rw [if_neg hnx, if_pos rfl]
      · show (if q = y then e x else if q = x then 0 else e q) = 0
        by_cases w : q = y
        · rw [w] at z; exact absurd z y2
        · rw [he q hq w]; exact z
      · show ∃ p, e p ≠ 0 ∧ (if q = y then e x else if q = x then 0 else e q) = e p
        by_cases w : q = y
        · exact ⟨x, ex, if_pos w⟩
        · exact ⟨q, z, he q hq w⟩
      · show (if q = y then e x else if q = x then 0 else e q) ≠ 0
        by_cases w : q = y
        · rw [if_pos w]; exact ex
        · rw [he q hq w]; exact z
      · show kR M' (if q = y then e x else if q = x then 0 else e q) 1 = kR M (e q) 1
        by_cases w : q = y
        · rw [if_pos w, f4 x ex 1 (by omega), v3, w]
        · have nq : e q ≠ e x := fun v => hq (hm.2.2.1 _ _ z sx v)
          rw [he q hq w, f4 q z 1 (by omega), r3 _ _ (Or.inl nq), r2]
theorem VC.fm (h : VC M tm) (hk : ∀ a s, kt M a s = true → kt M' a s = true) (h1 : kR M' tm 1 = kR M tm 1) (h2 : ∀ a, kt M a 36 = true → kR M' a 0 = kR M a 0) : VC M' tm := by
  unfold VC
  rw [h1]
  rcases h with z | ⟨z1, z2⟩
  · exact Or.inl z
  · exact Or.inr ⟨hk _ _ z1, (h2 _ z1).trans z2⟩
theorem tm_rem (h : TM M tm e) (hN : 100 < N) {x : Nat} (ex : e x ≠ 0) : ∃ M' e', F_TM_remove N M tm (pz x) = some (kR M (e x) 1, M') ∧ TM M' tm e' ∧ M'.1 = M.1 ∧ FM tm e M M' ∧ e' x = 0 ∧ ∀ q, q ≠ x → (e q = 0 → e' q = 0) ∧ (e q ≠ 0 → (∃ p, e p ≠ 0 ∧ e' q = e p) ∧ e' q ≠ 0 ∧ kR M' (e' q) 1 = kR M (e q) 1) := by
  obtain ⟨M', e', u1, u2, u3, u4, u5, u6, u7, u8⟩ := m_delE h hN ex
  have hk : ∀ a s, kt M a s = true → kt M' a s = true := fun a s z => by rw [kt_cg u4]; exact z
  refine ⟨M', e', ?_, ⟨(u6 2 (by decide)).trans h.1, h.2.1.fm hk (u6 1 (by decide)) (fun a z => ?_), u3, u2⟩, u4, ⟨fun a j _ ha hq => u5 a j ha hq, u6⟩, u7, u8⟩
  · unfold F_TM_remove
    rw [h.k, kg_t, tm_get h hN (h.lt13 ex), Option.bind_some, if_neg ex, h.ke ex, kg_t, kl_v, kg_t, u1, Option.bind_some]
  · exact (u5 a 0 (kt_ne z h.k (by decide)) (fun q hq => kt_ne z (h.ke hq) (by decide))).2
end
