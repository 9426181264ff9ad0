/-! deletion: the tree is mended -/
section
variable {N : Nat} {M : kMem} {tm : Nat} {e L R P : Nat → Nat} {S : Nat → Prop} {rt : Nat} {lo hi : Nat → Nat}
theorem PT.pout (h : PT S L R P rt lo hi) {q : Nat} (hq : S q) : P q < lo q ∨ hi q ≤ P q := by
  have q1 := h.rng hq
  have n13 := h.n13 hq
  rcases h.par hq with z | ⟨sp, z | z⟩
  · omega
  · have w := h.lt sp (by rw [z]; exact n13)
    rw [z] at w
    omega
  · have w := h.rgt sp (by rw [z]; exact n13)
    rw [z] at w
    omega
theorem rotl_out {a b c d k : Nat} (h1 : k ≠ a) (h2 : k ≠ b) (h3 : k ≠ d) : rlL L a b d k = L k ∧ rlR L R a b c d k = R k := by
  unfold rlL rlR
  rw [if_neg h2, if_neg (fun z => h3 z.1), if_neg h1, if_neg (fun z => h3 z.1)]
  exact ⟨rfl, rfl⟩
theorem rotr_out {a b c d k : Nat} (h1 : k ≠ a) (h2 : k ≠ b) (h3 : k ≠ d) : rrL L R a b c d k = L k ∧ rrR R a b d k = R k := by
  unfold rrL rrR
  rw [if_neg h1, if_neg (fun z => h3 z.1), if_neg h2, if_neg (fun z => h3 z.1)]
  exact ⟨rfl, rfl⟩
theorem rotP_out {a b c d k : Nat} (h1 : k ≠ a) (h2 : k ≠ b) (h3 : k ≠ c) : rlP P a b c d k = P k := by
  unfold rlP
  rw [if_neg h1, if_neg h2, if_neg h3]
def FD (N n tm : Nat) (e : Nat → Nat) (S : Nat → Prop) : Prop := ∀ (M : kMem) (q : Nat) (L R P : Nat → Nat) (rt : Nat) (lo hi : Nat → Nat), MT M tm e S L R P rt → PT S L R P rt lo hi → S q → 13 - (hi q - lo q) + 2 ≤ n → ∃ M' L' R' P' rt' lo' hi', F_TM_fixAfterDeletion_0 N n M tm (e q) = some M' ∧ MT M' tm e S L' R' P' rt' ∧ PT S L' R' P' rt' lo' hi' ∧ FT tm e S M M' ∧ ∀ k, lo q ≤ k → k < hi q → L' k = L k ∧ R' k = R k
theorem fd_root (h : MT M tm e S L R P rt) (r1 : S rt) {n : Nat} (hn : 1 ≤ n) : ∃ M', F_TM_fixAfterDeletion_0 N n M tm (e rt) = some M' ∧ MT M' tm e S L R P rt ∧ FT tm e S M M' := by
  obtain ⟨k, rfl⟩ : ∃ k, n = k + 1 := ⟨n - 1, by omega⟩
  obtain ⟨m1, f1⟩ := h.col r1 (w := 1) (Or.inr rfl)
  refine ⟨ksI M (e rt) 5 1, ?_, m1, f1⟩
  unfold F_TM_fixAfterDeletion_0
  rw [h.2.2.2.1, kg_t, h.2.2.2.2, if_pos rfl, ta_set h r1 (Or.inr rfl)]
  rfl
theorem setAny (h : MT M tm e S L R P rt) {x : Nat} (hx : x = 13 ∨ S x) {w : Int32} (hw : w = 0 ∨ w = 1) : ∃ M', F_TM_setColor N M (e x) w = some M' ∧ MT M' tm e S L R P rt ∧ FT tm e S M M' := by
  rcases hx with rfl | hx
  · rw [h.1, ta_set0]
    exact ⟨M, rfl, h, FT.rf'⟩
  · exact ⟨_, ta_set h hx hw, (h.col hx hw).1, (h.col hx hw).2⟩
theorem colAny (h : MT M tm e S L R P rt) {x : Nat} (hx : x = 13 ∨ S x) : ∃ v : Int32, F_TM_colorOf N M (e x) = some v ∧ (v = 0 ∨ v = 1) ∧ (v ≠ 1 → x ≠ 13) := by
  rcases hx with rfl | hx
  · rw [h.1, ta_col0]
    exact ⟨1, rfl, Or.inr rfl, fun z => absurd rfl z⟩
  · exact ⟨_, ta_col h hx, h.co hx, fun _ z => by subst z; exact h.nz hx h.1⟩
theorem lefAny (h : MT M tm e S L R P rt) (hp : PT S L R P rt lo hi) {x : Nat} (hx : x = 13 ∨ S x) : ∃ y, F_TM_leftOf N M (e x) = some (e y) ∧ (y = 13 ∨ S y) ∧ (y ≠ 13 → S x ∧ y = L x) := by
  rcases hx with rfl | hx
  · rw [h.1, ta_lef0]
    exact ⟨13, by rw [h.1], Or.inl rfl, fun z => absurd rfl z⟩
  · exact ⟨L x, ta_lef h hx, (hp.2.1 x hx).imp id (fun z => z.1), fun _ => ⟨hx, rfl⟩⟩
theorem rigAny (h : MT M tm e S L R P rt) (hp : PT S L R P rt lo hi) {x : Nat} (hx : x = 13 ∨ S x) : ∃ y, F_TM_rightOf N M (e x) = some (e y) ∧ (y = 13 ∨ S y) ∧ (y ≠ 13 → S x ∧ y = R x) := by
  rcases hx with rfl | hx
  · rw [h.1, ta_rig0]
    exact ⟨13, by rw [h.1], Or.inl rfl, fun z => absurd rfl z⟩
  · exact ⟨R x, ta_rig h hx, (hp.2.2.1 x hx).imp id (fun z => z.1), fun _ => ⟨hx, rfl⟩⟩
theorem d143 (h : MT M tm e S L R P rt) (hp : PT S L R P rt lo hi) {q n : Nat} (hq : S q) (sp : S (P q)) (hl : L (P q) = q) (hb : R (P q) ≠ 13) (hn : 1 ≤ n) : ∃ M' L' R' P' rt' lo' hi', F_TM_fixAfterDeletion_143 N (fun M a0 a1 => F_TM_fixAfterDeletion_0 N n M a0 a1) M tm (e q) (e (R (P q))) = some M' ∧ MT M' tm e S L' R' P' rt' ∧ PT S L' R' P' rt' lo' hi' ∧ FT tm e S M M' ∧ ∀ k, lo q ≤ k → k < hi q → L' k = L k ∧ R' k = R k := by
  have q1 := hp.rng hq
  have p1 := hp.rng sp
  have pl := hp.lt sp (by rw [hl]; exact hp.n13 hq)
  rw [hl] at pl
  have pr := hp.rgt sp hb
  have pb := hp.rng pr.1
  have po := hp.pout sp
  unfold F_TM_fixAfterDeletion_143
  rw [ta_par h hq, Option.bind_some]
  obtain ⟨v, v1, v2, -⟩ := colAny (N := N) h (Or.inr sp)
  rw [v1, Option.bind_some]
  obtain ⟨M1, a1, m1, f1⟩ := setAny (N := N) h (Or.inr pr.1) v2
  rw [a1, Option.bind_some, ta_par m1 hq, Option.bind_some]
  obtain ⟨M2, a2, m2, f2⟩ := setAny (N := N) m1 (Or.inr sp) (w := 1) (Or.inr rfl)
  rw [a2, Option.bind_some]
  obtain ⟨y, y1, y2, -⟩ := rigAny (N := N) m2 hp (Or.inr pr.1)
  rw [y1, Option.bind_some]
  obtain ⟨M3, a3, m3, f3⟩ := setAny (N := N) m2 y2 (w := 1) (Or.inr rfl)
  rw [a3, Option.bind_some, ta_par m3 hq, Option.bind_some, m3.2.2.2.1, kg_t]
  obtain ⟨M4, a4, m4, f4, -⟩ := mrotl (N := N) m3 hp sp rfl hb
  have p4 := hp.rotl sp rfl hb
  rw [a4, Option.bind_some, m4.2.2.2.1, kg_t, kl_v, m4.2.2.2.2]
  obtain ⟨M5, a5, m5, f5⟩ := fd_root (N := N) m4 (p4.root hq).1 hn
  exact ⟨M5, _, _, _, _, _, _, a5, m5, p4, (((f1.trans f2).trans f3).trans f4).trans f5, fun k k1 k2 => rotl_out (by omega) (by omega) (by omega)⟩
theorem d71 (h : MT M tm e S L R P rt) (hp : PT S L R P rt lo hi) {q n : Nat} (hq : S q) (sp : S (P q)) (hl : L (P q) = q) (ih : FD N n tm e S) (hn : 13 - (hi (P q) - lo (P q)) + 2 ≤ n) : ∃ M' L' R' P' rt' lo' hi', F_TM_fixAfterDeletion_71 N (fun M a0 a1 => F_TM_fixAfterDeletion_0 N n M a0 a1) M tm (e q) (e (R (P q))) = some M' ∧ MT M' tm e S L' R' P' rt' ∧ PT S L' R' P' rt' lo' hi' ∧ FT tm e S M M' ∧ ∀ k, lo q ≤ k → k < hi q → L' k = L k ∧ R' k = R k := by
  have q1 := hp.rng hq
  have p1 := hp.rng sp
  have pl := hp.lt sp (by rw [hl]; exact hp.n13 hq)
  rw [hl] at pl
  have po := hp.pout sp
  have hb0 : R (P q) = 13 ∨ S (R (P q)) := (hp.2.2.1 _ sp).imp id (fun z => z.1)
  have both : ∀ (M1 : kMem), MT M1 tm e S L R P rt → FT tm e S M M1 → ∃ M' L' R' P' rt' lo' hi', ((F_TM_parentOf N M1 (e q)).bind fun r66 => (fun M a0 a1 => F_TM_fixAfterDeletion_0 N n M a0 a1) M1 tm r66) = some M' ∧ MT M' tm e S L' R' P' rt' ∧ PT S L' R' P' rt' lo' hi' ∧ FT tm e S M M' ∧ ∀ k, lo q ≤ k → k < hi q → L' k = L k ∧ R' k = R k := by
    intro M1 m1 f1
    rw [ta_par m1 hq, Option.bind_some]
    obtain ⟨M', L', R', P', rt', lo', hi', u1, u2, u3, u4, u5⟩ := ih M1 (P q) L R P rt lo hi m1 hp sp hn
    exact ⟨M', L', R', P', rt', lo', hi', u1, u2, u3, f1.trans u4, fun k k1 k2 => u5 k (by omega) (by omega)⟩
  have r106 : (R (P q) ≠ 13) → (∀ v, F_TM_colorOf N M (e (R (R (P q)))) = some v → v = 1 → L (R (P q)) ≠ 13) → ∃ M' L' R' P' rt' lo' hi', F_TM_fixAfterDeletion_106 N (fun M a0 a1 => F_TM_fixAfterDeletion_0 N n M a0 a1) M tm (e q) (e (R (P q))) = some M' ∧ MT M' tm e S L' R' P' rt' ∧ PT S L' R' P' rt' lo' hi' ∧ FT tm e S M M' ∧ ∀ k, lo q ≤ k → k < hi q → L' k = L k ∧ R' k = R k := by
    intro hb hcl
    have pr := hp.rgt sp hb
    have pb := hp.rng pr.1
    unfold F_TM_fixAfterDeletion_106
    rw [ta_rig h pr.1, Option.bind_some]
    obtain ⟨v, v1, -, -⟩ := colAny (N := N) h (x := R (R (P q))) ((hp.2.2.1 _ pr.1).imp id (fun z => z.1))
    rw [v1, Option.bind_some]
    by_cases hv : v = 1
    · rw [if_pos hv]
      have hc := hcl v v1 hv
      have pc := hp.lt pr.1 hc
      have pcr := hp.rng pc.1
      rw [ta_lef h pr.1, Option.bind_some]
      obtain ⟨M1, a1, m1, f1⟩ := setAny (N := N) h (Or.inr pc.1) (w := 1) (Or.inr rfl)
      rw [a1, Option.bind_some]
      obtain ⟨M2, a2, m2, f2⟩ := setAny (N := N) m1 (Or.inr pr.1) (w := 0) (Or.inl rfl)
      rw [a2, Option.bind_some, m2.2.2.2.1, kg_t]
      obtain ⟨M3, a3, m3, f3, -⟩ := mrotr (N := N) m2 hp pr.1 rfl hc
      have p3 := hp.rotr pr.1 rfl hc
      have hx := hp.2.2.1 _ pc.1
      have hxq : q ≠ R (L (R (P q))) := by
        rcases hx with z | ⟨z, -, z2, z3⟩
        · rw [z]; exact hp.n13 hq
        · have := hp.rng z
          omega
      have e1 : rlP P (R (P q)) (L (R (P q))) (R (L (R (P q)))) (P (R (P q))) q = P q := rotP_out (by omega) (by omega) hxq
      have e2 : rrR R (R (P q)) (L (R (P q))) (P (R (P q))) (P q) = L (R (P q)) := by
        unfold rrR
        rw [if_neg (by omega), if_pos ⟨pr.2.1.symm, by rw [pr.2.1]⟩]
      have e3 : rrL L R (R (P q)) (L (R (P q))) (R (L (R (P q)))) (P (R (P q))) (P q) = q := by
        unfold rrL
        rw [if_neg (by omega), if_neg (fun z => z.2 (by rw [pr.2.1])), hl]
      rw [a3, Option.bind_some, ta_par m3 hq, Option.bind_some, e1, ta_rig m3 sp, Option.bind_some]
      have e4 : rrR R (R (P q)) (L (R (P q))) (P (R (P q))) (rlP P (R (P q)) (L (R (P q))) (R (L (R (P q)))) (P (R (P q))) q) ≠ 13 := by rw [e1, e2]; exact hc
      obtain ⟨M4, L', R', P', rt', lo', hi', u1, u2, u3, u4, u5⟩ := d143 (N := N) (n := n) m3 p3 hq (by rw [e1]; exact sp) (by rw [e1]; exact e3) e4 (by omega)
      rw [e1] at u1
      refine ⟨M4, L', R', P', rt', lo', hi', u1, u2, u3, ((f1.trans f2).trans f3).trans u4, fun k k1 k2 => ?_⟩
      have w1 : fs lo (R (P q)) (L (R (P q)) + 1) q = lo q := if_neg (by omega)
      have w2 : fs hi (L (R (P q))) (hi (R (P q))) q = hi q := if_neg (by omega)
      obtain ⟨w3, w4⟩ := u5 k (by first | rw [w1]; exact k1 | exact k1) (by first | rw [w2]; exact k2 | exact k2)
      rw [w3, w4]
      exact rotr_out (by omega) (by omega) (by rw [pr.2.1]; omega)
    · rw [if_neg hv]
      exact d143 h hp hq sp hl hb (by omega)
  unfold F_TM_fixAfterDeletion_71
  obtain ⟨y, y1, y2, y3⟩ := lefAny (N := N) h hp hb0
  rw [y1, Option.bind_some]
  obtain ⟨v, v1, v2, v3⟩ := colAny (N := N) h y2
  rw [v1, Option.bind_some]
  by_cases hv : v = 1
  · rw [if_pos hv]
    obtain ⟨x, x1, x2, x3⟩ := rigAny (N := N) h hp hb0
    rw [x1, Option.bind_some]
    obtain ⟨w, w1, w2, w3⟩ := colAny (N := N) h x2
    rw [w1, Option.bind_some]
    by_cases hw : w = 1
    · rw [if_pos hw]
      obtain ⟨M1, a1, m1, f1⟩ := setAny (N := N) h hb0 (w := 0) (Or.inl rfl)
      rw [a1, Option.bind_some]
      exact both M1 m1 f1
    · rw [if_neg hw]
      obtain ⟨x4, x5⟩ := x3 (w3 hw)
      refine r106 (hp.n13 x4) (fun v9 v8 v7 => ?_)
      rw [← x5, w1] at v8
      exact absurd ((Option.some.inj v8).trans v7) hw
  · rw [if_neg hv]
    obtain ⟨x4, x5⟩ := y3 (v3 hv)
    refine r106 (hp.n13 x4) (fun v9 v8 v7 => ?_)
    rw [← x5]
    exact v3 hv
theorem dcL (h : MT M tm e S L R P rt) (hp : PT S L R P rt lo hi) {q n : Nat} (hq : S q) (sp : S (P q)) (hl : L (P q) = q) (ih : FD N n tm e S) (hn : 13 - (hi q - lo q) + 2 ≤ n + 1) : ∃ M' L' R' P' rt' lo' hi', ((F_TM_colorOf N M (e (R (P q)))).bind fun r42 => if r42 = 0 then ((F_TM_setColor N M (e (R (P q))) 1).bind fun r67 => (F_TM_parentOf N r67 (e q)).bind fun r68 => (F_TM_setColor N r67 r68 0).bind fun r69 => (F_TM_parentOf N r69 (e q)).bind fun r70 => kg (kt r69 tm 34) <| (F_TM_rotateLeft N r69 tm r70).bind fun r71 => (F_TM_parentOf N r71 (e q)).bind fun r72 => (F_TM_rightOf N r71 r72).bind fun r73 => F_TM_fixAfterDeletion_71 N (fun M a0 a1 => F_TM_fixAfterDeletion_0 N n M a0 a1) r71 tm (e q) r73) else F_TM_fixAfterDeletion_71 N (fun M a0 a1 => F_TM_fixAfterDeletion_0 N n M a0 a1) M tm (e q) (e (R (P q)))) = some M' ∧ MT M' tm e S L' R' P' rt' ∧ PT S L' R' P' rt' lo' hi' ∧ FT tm e S M M' ∧ ∀ k, lo q ≤ k → k < hi q → L' k = L k ∧ R' k = R k := by
  have q1 := hp.rng hq
  have p1 := hp.rng sp
  have pl := hp.lt sp (by rw [hl]; exact hp.n13 hq)
  rw [hl] at pl
  have po := hp.pout sp
  have pu := hp.up hq sp (Or.inl hl)
  have hb0 : R (P q) = 13 ∨ S (R (P q)) := (hp.2.2.1 _ sp).imp id (fun z => z.1)
  obtain ⟨v, v1, v2, v3⟩ := colAny (N := N) h hb0
  rw [v1, Option.bind_some]
  by_cases hv : v = 0
  · rw [if_pos hv]
    have hb := v3 (by rw [hv]; decide)
    have pr := hp.rgt sp hb
    have pb := hp.rng pr.1
    obtain ⟨M1, a1, m1, f1⟩ := setAny (N := N) h (Or.inr pr.1) (w := 1) (Or.inr rfl)
    rw [a1, Option.bind_some, ta_par m1 hq, Option.bind_some]
    obtain ⟨M2, a2, m2, f2⟩ := setAny (N := N) m1 (Or.inr sp) (w := 0) (Or.inl rfl)
    rw [a2, Option.bind_some, ta_par m2 hq, Option.bind_some, m2.2.2.2.1, kg_t]
    obtain ⟨M3, a3, m3, f3, -⟩ := mrotl (N := N) m2 hp sp rfl hb
    have p3 := hp.rotl sp rfl hb
    have hxq : q ≠ L (R (P q)) := by
      rcases hp.2.1 _ pr.1 with z | ⟨z, -, z2, z3⟩
      · rw [z]; exact hp.n13 hq
      · have := hp.rng z
        omega
    have e1 : rlP P (P q) (R (P q)) (L (R (P q))) (P (P q)) q = P q := rotP_out (by omega) (by omega) hxq
    have e2 : rlL L (P q) (R (P q)) (P (P q)) (P q) = q := by
      unfold rlL
      rw [if_neg (by omega), if_neg (fun z => by omega), hl]
    rw [a3, Option.bind_some, ta_par m3 hq, Option.bind_some, e1, ta_rig m3 sp, Option.bind_some]
    have w1 : fs lo (R (P q)) (lo (P q)) q = lo q := by first | rfl | exact if_neg (by omega)
    have w2 : fs hi (P q) (R (P q)) q = hi q := by first | rfl | exact if_neg (by omega)
    have w5 : fs lo (R (P q)) (lo (P q)) (P q) = lo (P q) := by first | exact if_neg (by omega) | exact if_pos rfl
    have w6 : fs hi (P q) (R (P q)) (P q) = R (P q) := by first | exact if_neg (by omega) | exact if_pos rfl
    obtain ⟨M4, L', R', P', rt', lo', hi', u1, u2, u3, u4, u5⟩ := d71 (N := N) (n := n) m3 p3 hq (by rw [e1]; exact sp) (by rw [e1]; exact e2) ih (by rw [e1, w5, w6]; omega)
    rw [e1] at u1
    refine ⟨M4, L', R', P', rt', lo', hi', u1, u2, u3, ((f1.trans f2).trans f3).trans u4, fun k k1 k2 => ?_⟩
    obtain ⟨w3, w4⟩ := u5 k (by rw [w1]; exact k1) (by rw [w2]; exact k2)
    rw [w3, w4]
    exact rotl_out (by omega) (by omega) (by omega)
  · rw [if_neg hv]
    exact d71 h hp hq sp hl ih (by omega)
theorem d302 (h : MT M tm e S L R P rt) (hp : PT S L R P rt lo hi) {q n : Nat} (hq : S q) (sp : S (P q)) (hl : R (P q) = q) (hb : L (P q) ≠ 13) (hn : 1 ≤ n) : ∃ M' L' R' P' rt' lo' hi', F_TM_fixAfterDeletion_302 N (fun M a0 a1 => F_TM_fixAfterDeletion_0 N n M a0 a1) M tm (e q) (e (L (P q))) = some M' ∧ MT M' tm e S L' R' P' rt' ∧ PT S L' R' P' rt' lo' hi' ∧ FT tm e S M M' ∧ ∀ k, lo q ≤ k → k < hi q → L' k = L k ∧ R' k = R k := by
  have q1 := hp.rng hq
  have p1 := hp.rng sp
  have pl := hp.rgt sp (by rw [hl]; exact hp.n13 hq)
  rw [hl] at pl
  have pr := hp.lt sp hb
  have pb := hp.rng pr.1
  have po := hp.pout sp
  unfold F_TM_fixAfterDeletion_302
  rw [ta_par h hq, Option.bind_some]
  obtain ⟨v, v1, v2, -⟩ := colAny (N := N) h (Or.inr sp)
  rw [v1, Option.bind_some]
  obtain ⟨M1, a1, m1, f1⟩ := setAny (N := N) h (Or.inr pr.1) v2
  rw [a1, Option.bind_some, ta_par m1 hq, Option.bind_some]
  obtain ⟨M2, a2, m2, f2⟩ := setAny (N := N) m1 (Or.inr sp) (w := 1) (Or.inr rfl)
  rw [a2, Option.bind_some]
  obtain ⟨y, y1, y2, -⟩ := lefAny (N := N) m2 hp (Or.inr pr.1)
  rw [y1, Option.bind_some]
  obtain ⟨M3, a3, m3, f3⟩ := setAny (N := N) m2 y2 (w := 1) (Or.inr rfl)
  rw [a3, Option.bind_some, ta_par m3 hq, Option.bind_some, m3.2.2.2.1, kg_t]
  obtain ⟨M4, a4, m4, f4, -⟩ := mrotr (N := N) m3 hp sp rfl hb
  have p4 := hp.rotr sp rfl hb
  rw [a4, Option.bind_some, m4.2.2.2.1, kg_t, kl_v, m4.2.2.2.2]
  obtain ⟨M5, a5, m5, f5⟩ := fd_root (N := N) m4 (p4.root hq).1 hn
  exact ⟨M5, _, _, _, _, _, _, a5, m5, p4, (((f1.trans f2).trans f3).trans f4).trans f5, fun k k1 k2 => rotr_out (by omega) (by omega) (by omega)⟩
theorem d230 (h : MT M tm e S L R P rt) (hp : PT S L R P rt lo hi) {q n : Nat} (hq : S q) (sp : S (P q)) (hl : R (P q) = q) (ih : FD N n tm e S) (hn : 13 - (hi (P q) - lo (P q)) + 2 ≤ n) : ∃ M' L' R' P' rt' lo' hi', F_TM_fixAfterDeletion_230 N (fun M a0 a1 => F_TM_fixAfterDeletion_0 N n M a0 a1) M tm (e q) (e (L (P q))) = some M' ∧ MT M' tm e S L' R' P' rt' ∧ PT S L' R' P' rt' lo' hi' ∧ FT tm e S M M' ∧ ∀ k, lo q ≤ k → k < hi q → L' k = L k ∧ R' k = R k := by
  have q1 := hp.rng hq
  have p1 := hp.rng sp
  have pl := hp.rgt sp (by rw [hl]; exact hp.n13 hq)
  rw [hl] at pl
  have po := hp.pout sp
  have hb0 : L (P q) = 13 ∨ S (L (P q)) := (hp.2.1 _ sp).imp id (fun z => z.1)
  have both : ∀ (M1 : kMem), MT M1 tm e S L R P rt → FT tm e S M M1 → ∃ M' L' R' P' rt' lo' hi', ((F_TM_parentOf N M1 (e q)).bind fun r66 => (fun M a0 a1 => F_TM_fixAfterDeletion_0 N n M a0 a1) M1 tm r66) = some M' ∧ MT M' tm e S L' R' P' rt' ∧ PT S L' R' P' rt' lo' hi' ∧ FT tm e S M M' ∧ ∀ k, lo q ≤ k → k < hi q → L' k = L k ∧ R' k = R k := by
    intro M1 m1 f1
    rw [ta_par m1 hq, Option.bind_some]
    obtain ⟨M', L', R', P', rt', lo', hi', u1, u2, u3, u4, u5⟩ := ih M1 (P q) L R P rt lo hi m1 hp sp hn
    exact ⟨M', L', R', P', rt', lo', hi', u1, u2, u3, f1.trans u4, fun k k1 k2 => u5 k (by omega) (by omega)⟩
  have r106 : (L (P q) ≠ 13) → (∀ v, F_TM_colorOf N M (e (L (L (P q)))) = some v → v = 1 → R (L (P q)) ≠ 13) → ∃ M' L' R' P' rt' lo' hi', F_TM_fixAfterDeletion_265 N (fun M a0 a1 => F_TM_fixAfterDeletion_0 N n M a0 a1) M tm (e q) (e (L (P q))) = some M' ∧ MT M' tm e S L' R' P' rt' ∧ PT S L' R' P' rt' lo' hi' ∧ FT tm e S M M' ∧ ∀ k, lo q ≤ k → k < hi q → L' k = L k ∧ R' k = R k := by
    intro hb hcl
    have pr := hp.lt sp hb
    have pb := hp.rng pr.1
    unfold F_TM_fixAfterDeletion_265
    rw [ta_lef h pr.1, Option.bind_some]
    obtain ⟨v, v1, -, -⟩ := colAny (N := N) h (x := L (L (P q))) ((hp.2.1 _ pr.1).imp id (fun z => z.1))
    rw [v1, Option.bind_some]
    by_cases hv : v = 1
    · rw [if_pos hv]
      have hc := hcl v v1 hv
      have pc := hp.rgt pr.1 hc
      have pcr := hp.rng pc.1
      rw [ta_rig h pr.1, Option.bind_some]
      obtain ⟨M1, a1, m1, f1⟩ := setAny (N := N) h (Or.inr pc.1) (w := 1) (Or.inr rfl)
      rw [a1, Option.bind_some]
      obtain ⟨M2, a2, m2, f2⟩ := setAny (N := N) m1 (Or.inr pr.1) (w := 0) (Or.inl rfl)
      rw [a2, Option.bind_some, m2.2.2.2.1, kg_t]
      obtain ⟨M3, a3, m3, f3, -⟩ := mrotl (N := N) m2 hp pr.1 rfl hc
      have p3 := hp.rotl pr.1 rfl hc
      have hx := hp.2.1 _ pc.1
      have hxq : q ≠ L (R (L (P q))) := by
        rcases hx with z | ⟨z, -, z2, z3⟩
        · rw [z]; exact hp.n13 hq
        · have := hp.rng z
          omega
      have e1 : rlP P (L (P q)) (R (L (P q))) (L (R (L (P q)))) (P (L (P q))) q = P q := rotP_out (by omega) (by omega) hxq
      have e2 : rlL L (L (P q)) (R (L (P q))) (P (L (P q))) (P q) = R (L (P q)) := by
        unfold rlL
        rw [if_neg (by omega), if_pos ⟨pr.2.1.symm, by rw [pr.2.1]⟩]
      have e3 : rlR L R (L (P q)) (R (L (P q))) (L (R (L (P q)))) (P (L (P q))) (P q) = q := by
        unfold rlR
        rw [if_neg (by omega), if_neg (fun z => z.2 (by rw [pr.2.1])), hl]
      rw [a3, Option.bind_some, ta_par m3 hq, Option.bind_some, e1, ta_lef m3 sp, Option.bind_some]
      have e4 : rlL L (L (P q)) (R (L (P q))) (P (L (P q))) (rlP P (L (P q)) (R (L (P q))) (L (R (L (P q)))) (P (L (P q))) q) ≠ 13 := by rw [e1, e2]; exact hc
      obtain ⟨M4, L', R', P', rt', lo', hi', u1, u2, u3, u4, u5⟩ := d302 (N := N) (n := n) m3 p3 hq (by rw [e1]; exact sp) (by rw [e1]; exact e3) e4 (by omega)
      rw [e1] at u1
      refine ⟨M4, L', R', P', rt', lo', hi', u1, u2, u3, ((f1.trans f2).trans f3).trans u4, fun k k1 k2 => ?_⟩
      have w1 : fs lo (R (L (P q))) (lo (L (P q))) q = lo q := if_neg (by omega)
      have w2 : fs hi (L (P q)) (R (L (P q))) q = hi q := if_neg (by omega)
      obtain ⟨w3, w4⟩ := u5 k (by first | rw [w1]; exact k1 | exact k1) (by first | rw [w2]; exact k2 | exact k2)
      rw [w3, w4]
      exact rotl_out (by omega) (by omega) (by rw [pr.2.1]; omega)
    · rw [if_neg hv]
      exact d302 h hp hq sp hl hb (by omega)
  unfold F_TM_fixAfterDeletion_230
  obtain ⟨y, y1, y2, y3⟩ := rigAny (N := N) h hp hb0
  rw [y1, Option.bind_some]
  obtain ⟨v, v1, v2, v3⟩ := colAny (N := N) h y2
  rw [v1, Option.bind_some]
  by_cases hv : v = 1
  · rw [if_pos hv]
    obtain ⟨x, x1, x2, x3⟩ := lefAny (N := N) h hp hb0
    rw [x1, Option.bind_some]
    obtain ⟨w, w1, w2, w3⟩ := colAny (N := N) h x2
    rw [w1, Option.bind_some]
    by_cases hw : w = 1
    · rw [if_pos hw]
      obtain ⟨M1, a1, m1, f1⟩ := setAny (N := N) h hb0 (w := 0) (Or.inl rfl)
      rw [a1, Option.bind_some]
      exact both M1 m1 f1
    · rw [if_neg hw]
      obtain ⟨x4, x5⟩ := x3 (w3 hw)
      refine r106 (hp.n13 x4) (fun v9 v8 v7 => ?_)
      rw [← x5, w1] at v8
      exact absurd ((Option.some.inj v8).trans v7) hw
  · rw [if_neg hv]
    obtain ⟨x4, x5⟩ := y3 (v3 hv)
    refine r106 (hp.n13 x4) (fun v9 v8 v7 => ?_)
    rw [← x5]
    exact v3 hv
theorem dcR (h : MT M tm e S L R P rt) (hp : PT S L R P rt lo hi) {q n : Nat} (hq : S q) (sp : S (P q)) (hl : R (P q) = q) (ih : FD N n tm e S) (hn : 13 - (hi q - lo q) + 2 ≤ n + 1) : ∃ M' L' R' P' rt' lo' hi', ((F_TM_colorOf N M (e (L (P q)))).bind fun r42 => if r42 = 0 then ((F_TM_setColor N M (e (L (P q))) 1).bind fun r67 => (F_TM_parentOf N r67 (e q)).bind fun r68 => (F_TM_setColor N r67 r68 0).bind fun r69 => (F_TM_parentOf N r69 (e q)).bind fun r70 => kg (kt r69 tm 34) <| (F_TM_rotateRight N r69 tm r70).bind fun r71 => (F_TM_parentOf N r71 (e q)).bind fun r72 => (F_TM_leftOf N r71 r72).bind fun r73 => F_TM_fixAfterDeletion_230 N (fun M a0 a1 => F_TM_fixAfterDeletion_0 N n M a0 a1) r71 tm (e q) r73) else F_TM_fixAfterDeletion_230 N (fun M a0 a1 => F_TM_fixAfterDeletion_0 N n M a0 a1) M tm (e q) (e (L (P q)))) = some M' ∧ MT M' tm e S L' R' P' rt' ∧ PT S L' R' P' rt' lo' hi' ∧ FT tm e S M M' ∧ ∀ k, lo q ≤ k → k < hi q → L' k = L k ∧ R' k = R k := by
  have q1 := hp.rng hq
  have p1 := hp.rng sp
  have pl := hp.rgt sp (by rw [hl]; exact hp.n13 hq)
  rw [hl] at pl
  have po := hp.pout sp
  have pu := hp.up hq sp (Or.inr hl)
  have hb0 : L (P q) = 13 ∨ S (L (P q)) := (hp.2.1 _ sp).imp id (fun z => z.1)
  obtain ⟨v, v1, v2, v3⟩ := colAny (N := N) h hb0
  rw [v1, Option.bind_some]
  by_cases hv : v = 0
  · rw [if_pos hv]
    have hb := v3 (by rw [hv]; decide)
    have pr := hp.lt sp hb
    have pb := hp.rng pr.1
    obtain ⟨M1, a1, m1, f1⟩ := setAny (N := N) h (Or.inr pr.1) (w := 1) (Or.inr rfl)
    rw [a1, Option.bind_some, ta_par m1 hq, Option.bind_some]
    obtain ⟨M2, a2, m2, f2⟩ := setAny (N := N) m1 (Or.inr sp) (w := 0) (Or.inl rfl)
    rw [a2, Option.bind_some, ta_par m2 hq, Option.bind_some, m2.2.2.2.1, kg_t]
    obtain ⟨M3, a3, m3, f3, -⟩ := mrotr (N := N) m2 hp sp rfl hb
    have p3 := hp.rotr sp rfl hb
    have hxq : q ≠ R (L (P q)) := by
      rcases hp.2.2.1 _ pr.1 with z | ⟨z, -, z2, z3⟩
      · rw [z]; exact hp.n13 hq
      · have := hp.rng z
        omega
    have e1 : rlP P (P q) (L (P q)) (R (L (P q))) (P (P q)) q = P q := rotP_out (by omega) (by omega) hxq
    have e2 : rrR R (P q) (L (P q)) (P (P q)) (P q) = q := by
      unfold rrR
      rw [if_neg (by omega), if_neg (fun z => by omega), hl]
    rw [a3, Option.bind_some, ta_par m3 hq, Option.bind_some, e1, ta_lef m3 sp, Option.bind_some]
    have w1 : fs lo (P q) (L (P q) + 1) q = lo q := by first | rfl | exact if_neg (by omega)
    have w2 : fs hi (L (P q)) (hi (P q)) q = hi q := by first | rfl | exact if_neg (by omega)
    have w5 : fs lo (P q) (L (P q) + 1) (P q) = L (P q) + 1 := by first | exact if_neg (by omega) | exact if_pos rfl
    have w6 : fs hi (L (P q)) (hi (P q)) (P q) = hi (P q) := by first | exact if_neg (by omega) | exact if_pos rfl
    obtain ⟨M4, L', R', P', rt', lo', hi', u1, u2, u3, u4, u5⟩ := d230 (N := N) (n := n) m3 p3 hq (by rw [e1]; exact sp) (by rw [e1]; exact e2) ih (by rw [e1, w5, w6]; omega)
    rw [e1] at u1
    refine ⟨M4, L', R', P', rt', lo', hi', u1, u2, u3, ((f1.trans f2).trans f3).trans u4, fun k k1 k2 => ?_⟩
    obtain ⟨w3, w4⟩ := u5 k (by rw [w1]; exact k1) (by rw [w2]; exact k2)
    rw [w3, w4]
    exact rotr_out (by omega) (by omega) (by omega)
  · rw [if_neg hv]
    exact d230 h hp hq sp hl ih (by omega)
theorem fixD : ∀ (n : Nat), FD N n tm e S := by
  intro n
  induction n with
  | zero => intro M q L R P rt lo hi _ _ _ hn; omega
  | succ n ih =>
    intro M q L R P rt lo hi h hp hq hn
    have q1 := hp.rng hq
    unfold F_TM_fixAfterDeletion_0
    rw [h.2.2.2.1, kg_t, h.2.2.2.2]
    by_cases hr : e q = e rt
    · rw [if_pos hr]
      obtain ⟨M1, a1, m1, f1⟩ := setAny (N := N) h (Or.inr hq) (w := 1) (Or.inr rfl)
      rw [a1, Option.bind_some]
      exact ⟨M1, L, R, P, rt, lo, hi, rfl, m1, hp, f1, fun k _ _ => ⟨rfl, rfl⟩⟩
    · rw [if_neg hr, ta_col h hq, Option.bind_some]
      rcases hp.par hq with z | ⟨sp, hch⟩
      · rw [z.2.1] at hr; exact absurd rfl hr
      · by_cases hc : kI M (e q) 5 = 1
        · rw [if_pos hc]
          simp only [ta_par h hq, ta_lef h sp, ta_rig h sp, Option.bind_some]
          by_cases hA : e q = e (L (P q))
          · rw [if_pos hA]
            have hl : L (P q) = q := by
              rcases hp.2.1 _ sp with z | z
              · rw [z, h.1] at hA; exact absurd hA (h.nz hq)
              · rw [h.inj hq z.1] at hA; exact hA.symm
            exact dcL h hp hq sp hl ih hn
          · rw [if_neg hA]
            have hl : R (P q) = q := by
              rcases hch with z | z
              · rw [z] at hA; exact absurd rfl hA
              · exact z
            exact dcR h hp hq sp hl ih hn
        · rw [if_neg hc]
          obtain ⟨M1, a1, m1, f1⟩ := setAny (N := N) h (Or.inr hq) (w := 1) (Or.inr rfl)
          rw [a1, Option.bind_some]
          exact ⟨M1, L, R, P, rt, lo, hi, rfl, m1, hp, f1, fun k _ _ => ⟨rfl, rfl⟩⟩
end
