/-! a trader rises, a trader sits -/
def fE (E : Nat → Nat → Nat) (b : Nat) (e : Nat → Nat) : Nat → Nat → Nat := fun x => if x = b then e else E x
section
variable {N : Nat} {M M' M1 M2 : kMem} {a s i j k k2 nb nt b t q : Nat} {A : kA} {E : Nat → Nat → Nat} {e' : Nat → Nat} {r r' : Nat → Int32}
theorem fE_b : fE E b e' b = e' := if_pos rfl
theorem fE_o {x : Nat} (h : x ≠ b) : fE E b e' x = E x := if_neg h
theorem LW.move (h : LW M A E r nb nt) (h5 : nb ≤ 5) (h24 : nt ≤ 24) (ht : t < nt) (hb : b < nb) (hq : q < 13) (h6 : q ≠ 6) (hc : ∃ l, M'.1 = M.1 ++ l)
    (hI : ∀ a j s, kt M a s = true → (s = 30 ∨ s = 31 ∨ s = 33) → kI M' a j = kI M a j)
    (hRR : ∀ a j s, kt M a s = true → (s = 30 ∨ s = 31 ∨ s = 33 ∨ s = 21 ∨ s = 36) → kR M' a j = kR M a j)
    (hTo : ∀ u, u < nt → u ≠ t → ∀ j, kI M' (aT A u) j = kI M (aT A u) j ∧ kR M' (aT A u) j = kR M (aT A u) j)
    (hTs : ∀ j, j ≠ 4 → kI M' (aT A t) j = kI M (aT A t) j)
    (hMo : ∀ b', b' < nb → b' ≠ b → (∀ j, kR M' (aM A b') j = kR M (aM A b') j) ∧ ∀ p, E b' p ≠ 0 → ∀ j, kI M' (E b' p) j = kI M (E b' p) j ∧ kR M' (E b' p) j = kR M (E b' p) j)
    (hM : TM M' (aM A b) e')
    (hr : ∀ k, k ≠ si b q → k ≠ 89 + 7 * t + 5 → k ≠ 89 + 7 * t + 6 → r' k = r k)
    (h4 : kI M' (aT A t) 4 = r' (89 + 7 * t + 6)) (h6a : r' (89 + 7 * t + 5) = -1 → kR M' (aT A t) 6 = 0) (h6b : ∀ b', b' < 5 → r' (89 + 7 * t + 5) = nI b' → kR M' (aT A t) 6 = aB A b')
    (e6 : e' 6 = 0) (hcb : ∀ p, p < 13 → p ≠ 6 → (r' (si b p) = 0 → e' p = 0) ∧ ∀ u, u < nt → r' (si b p) = nI (u + 1) → e' p ≠ 0 ∧ kR M' (e' p) 1 = aT A u)
    (hfr : ∀ p, e' p ≠ 0 → ∀ b', b' < nb → b' ≠ b → ∀ q', E b' q' ≠ 0 → e' p ≠ E b' q') : LW M' A (fE E b e') r' nb nt := by
  obtain ⟨l, hc⟩ := hc
  have hk : ∀ x s, kt M x s = true → kt M' x s = true := fun x s z => kt_pre hc z
  have hn : ∀ x s, kt M x s = true → kn M' x = kn M x := fun x s z => by
    have := kt_le z
    unfold kn
    rw [kcell_pre hc this.1 this.2]
  have hsi := si_lt (b := b) (q := q) (by omega) hq
  have hsg := si_ge (b := b) (q := q)
  have hsl := si_le (b := b) hq
  obtain ⟨⟨g1, g2, g3⟩, g4, g5, g6, g7, g8, g9, g10, g11, g12, g13⟩ := h.g
  have hH : ∀ j, kI M' (aH A) j = kI M (aH A) j := fun j => hI _ j 30 g1 (by omega)
  have re : ∀ k, k < 14 → r' k = r k := fun k hk2 => hr k (by omega) (by omega) (by omega)
  refine ⟨⟨⟨hk _ _ g1, (hRR _ _ 30 g1 (by omega)).trans g2, (hRR _ _ 30 g1 (by omega)).trans g3⟩, ?_, ?_, ?_, ?_, ?_, ?_, ?_, ?_, ?_, ?_⟩, ⟨?_, ?_⟩, fun b' hb' => ?_, fun u hu => ?_, fun b' hb' => ?_, h.ij.1, fun b1 b2 q1 q2 hb1 hb2 hq1 hz => ?_⟩
  · rw [re 0 (by omega)]; exact (hH _).trans g4
  · rw [re 1 (by omega)]; exact (hH _).trans g5
  · rw [re 2 (by omega)]; exact (hH _).trans g6
  · rw [re 3 (by omega)]; exact (hH _).trans g7
  · rw [re 4 (by omega)]; exact (hH _).trans g8
  · rw [re 5 (by omega)]; exact (hH _).trans g9
  · rw [re 6 (by omega)]; exact (hH _).trans g10
  · rw [re 10 (by omega)]; exact (hH _).trans g11
  · rw [re 11 (by omega)]; exact (hH _).trans g12
  · rw [re 12 (by omega)]; exact (hH _).trans g13
  · obtain ⟨l1, l2, l3, l4, l5, l6, l7⟩ := h.lb
    exact ⟨hk _ _ l1, (hRR _ _ 33 l1 (by omega)).trans l2, (hI _ _ 33 l1 (by omega)).trans l3, hk _ _ l4, by rw [hn _ _ l4]; exact l5, by rw [hn _ _ l4]; exact l6, fun k hk2 => (hRR _ _ 21 l4 (by omega)).trans (l7 k hk2)⟩
  · obtain ⟨l1, l2, l3, l4, l5, l6, l7⟩ := h.lt
    exact ⟨hk _ _ l1, (hRR _ _ 33 l1 (by omega)).trans l2, (hI _ _ 33 l1 (by omega)).trans l3, hk _ _ l4, by rw [hn _ _ l4]; exact l5, by rw [hn _ _ l4]; exact l6, fun k hk2 => (hRR _ _ 21 l4 (by omega)).trans (l7 k hk2)⟩
  · obtain ⟨⟨b1, b2, b3, b4, b5, b6⟩, b7⟩ := h.b b' hb'
    have hB : ∀ j, kI M' (aB A b') j = kI M (aB A b') j := fun j => hI _ j 31 b1 (by omega)
    have rb : ∀ w, w < 3 → r' (14 + 15 * b' + w) = r (14 + 15 * b' + w) := by
      intro w hw
      refine hr _ ?_ (by omega) (by omega)
      intro z
      have g1 := si_ge (b := b) (q := q)
      have g2 := si_le (b := b) hq
      omega
    refine ⟨⟨hk _ _ b1, (hB _).trans b2, ?_, ?_, ?_, (hRR _ _ 31 b1 (by omega)).trans b6⟩, ?_⟩
    · rw [rb 0 (by decide)]; exact (hB _).trans b3
    · rw [rb 1 (by decide)]; exact (hB _).trans b4
    · rw [rb 2 (by decide)]; exact (hB _).trans b5
    · by_cases z : b' = b
      · rw [z, fE_b]; exact hM
      · rw [fE_o z]
        obtain ⟨m1, m2⟩ := hMo b' hb' z
        exact b7.mem hk (fun p hp => ⟨(m2 p hp 0).1, (m2 p hp 5).1⟩) (fun p hp j => (m2 p hp j).2) m1 (fun x hx => hRR x 0 36 hx (by omega))
  · obtain ⟨⟨t1, t2, t3, t4, t5, t6, t7⟩, t8, t9⟩ := h.t u hu
    by_cases z : u = t
    · subst z
      refine ⟨⟨hk _ _ t1, (hTs _ (by decide)).trans t2, ?_, ?_, ?_, ?_, h4⟩, h6a, h6b⟩
      · rw [hr _ (by omega) (by omega) (by omega)]; exact (hTs _ (by decide)).trans t3
      · rw [hr _ (by omega) (by omega) (by omega)]; exact (hTs _ (by decide)).trans t4
      · rw [hr _ (by omega) (by omega) (by omega)]; exact (hTs _ (by decide)).trans t5
      · rw [hr _ (by omega) (by omega) (by omega)]; exact (hTs _ (by decide)).trans t6
    · have ho := hTo u hu z
      rw [hr (89 + 7 * u + 1) (by omega) (by omega) (by omega), hr (89 + 7 * u + 2) (by omega) (by omega) (by omega), hr (89 + 7 * u + 3) (by omega) (by omega) (by omega), hr (89 + 7 * u + 4) (by omega) (by omega) (by omega), hr (89 + 7 * u + 5) (by omega) (by omega) (by omega), hr (89 + 7 * u + 6) (by omega) (by omega) (by omega)]
      exact ⟨⟨hk _ _ t1, (ho _).1.trans t2, (ho _).1.trans t3, (ho _).1.trans t4, (ho _).1.trans t5, (ho _).1.trans t6, (ho _).1.trans t7⟩, fun y => (ho _).2.trans (t8 y), fun b3 hb3 y => (ho _).2.trans (t9 b3 hb3 y)⟩
  · by_cases z : b' = b
    · rw [z, fE_b]; exact ⟨e6, hcb⟩
    · rw [fE_o z]
      obtain ⟨c1, c2⟩ := h.c b' hb'
      refine ⟨c1, fun p hp hp6 => ?_⟩
      have hs2 := si_lt (b := b') (q := p) (by omega) hp
      rw [hr (si b' p) (fun y => z ((si_inj hp hp6 hq h6).mp y).1) (by omega) (by omega)]
      refine ⟨(c2 p hp hp6).1, fun u hu y => ?_⟩
      obtain ⟨d1, d2⟩ := (c2 p hp hp6).2 u hu y
      exact ⟨d1, (((hMo b' hb' z).2 p d1 1).2).trans d2⟩
  · by_cases z1 : b1 = b <;> by_cases z2 : b2 = b
    · subst z1
      subst z2
      rw [fE_b] at hq1 hz
      exact ⟨rfl, hM.inj hq1 hz⟩
    · subst z1
      rw [fE_b] at hq1
      rw [fE_b, fE_o z2] at hz
      exact absurd hz (hfr q1 hq1 b2 hb2 z2 q2 (by rw [← hz]; exact hq1))
    · subst z2
      rw [fE_o z1] at hq1
      rw [fE_b, fE_o z1] at hz
      exact absurd hz.symm (hfr q2 (by rw [← hz]; exact hq1) b1 hb1 z1 q1 hq1)
    · rw [fE_o z1] at hq1
      rw [fE_o z1, fE_o z2] at hz
      exact h.ij.2 b1 b2 q1 q2 hb1 hb2 hq1 hz
theorem lw_rises (h : LW M A E r nb nt) (hR : RI r nb nt) (ht : t < nt) (hs : st r nb t b q) (hN : 100 < N) : ∃ M' E', F_LT_rises N M (aT A t) = some M' ∧ LW M' A E' (riR r t b q) nb nt ∧ Op M M' 0 := by
  have h5 := hR.nb5
  have h24 := hR.nt24
  obtain ⟨hb, e1, e2, e3⟩ := h.seat hR ht hs
  have q13 := hs.q13
  have q6 : q ≠ 6 := hs.2.1
  have hb5 : b < 5 := by omega
  have eb := h.bk hb
  have etm := (h.b b hb).1.2.2.2.2.2
  obtain ⟨en, ev⟩ := ((h.c b hb).2 q q13 q6).2 t ht hs.2.2.2.2.2
  obtain ⟨M1, e', u1, u2, u3, u4, u5, u6⟩ := tm_rem (h.tm hb) hN en
  have tk := h.tk ht
  have hk1 : ∀ x s, kt M1 x s = kt M x s := fun x s => kt_cg u3 x s
  have fm : ∀ x j s, kt M x s = true → s ≠ 34 → s ≠ 35 → kI M1 x j = kI M x j ∧ kR M1 x j = kR M x j := fun x j s hx h1 h2 => u4.1 x j (kt_le hx).2 (kt_ne hx (h.tm hb).k h1) (fun p hp => kt_ne hx ((h.tm hb).ke hp) h2)
  unfold F_LT_rises
  rw [tk, kg_t, e1, if_neg (by have := (kt_le eb).1; omega), kg_t, eb, kg_t, kg_t, e2, val_of q13, Option.bind_some]
  simp only [etm, (h.tm hb).k, kg_t, u1, Option.bind_some, ev, hk1, tk, Bool.or_true, kl_v, z_tR]
  generalize hM5 : ksI (ksR M1 (aT A t) 6 0) (aT A t) 4 0 = M5
  have i5 : ∀ x j, x ≠ aT A t → kI M5 x j = kI M1 x j ∧ kR M5 x j = kR M1 x j := fun x j hx => by
    rw [← hM5, z_II, if_neg (fun z => hx z.1), z_IR, z_RI, z_RR, if_neg (fun z => hx z.1)]
    exact ⟨rfl, rfl⟩
  have c5 : M5.1 = M.1 := by rw [← hM5]; exact u3
  have no : ∀ x s, kt M x s = true → s ≠ 32 → x ≠ aT A t := fun x s hx h1 => kt_ne hx tk h1
  have o5 : ∀ x j s, kt M x s = true → s ≠ 34 → s ≠ 35 → s ≠ 32 → kI M5 x j = kI M x j ∧ kR M5 x j = kR M x j := fun x j s hx h1 h2 h3 => by
    obtain ⟨y1, y2⟩ := i5 x j (no x s hx h3)
    obtain ⟨y3, y4⟩ := fm x j s hx h1 h2
    exact ⟨y1.trans y3, y2.trans y4⟩
  have tme : TM M5 (aM A b) e' := by
    refine u2.mem (i := 0) (E := fun _ => e') (fun x s hx => by rw [← hM5]; exact hx) (fun p hp => ?_) (fun p hp j => ?_) (fun j => ?_) (fun x hx => ?_)
    · have := kt_ne (u2.ke hp) (by rw [hk1]; exact tk) (show 35 ≠ 32 by decide)
      exact ⟨(i5 _ 0 this).1, (i5 _ 5 this).1⟩
    · have := kt_ne (u2.ke hp) (by rw [hk1]; exact tk) (show 35 ≠ 32 by decide)
      exact (i5 _ j this).2
    · exact (i5 _ j (kt_ne (h.tm hb).k tk (by decide))).2
    · exact (i5 _ 0 (kt_ne hx (by rw [hk1]; exact tk) (by decide))).2
  refine ⟨M5, fE E b e', rfl, ?_, ⟨⟨[], by rw [c5]; simp, by simp⟩, fun x j hx => ?_⟩⟩
  · refine h.move h5 h24 ht hb q13 q6 (e' := e') (r' := riR r t b q) ⟨[], by rw [c5]; simp⟩ (fun x j s hx y => (o5 x j s hx (by omega) (by omega) (by omega)).1) (fun x j s hx y => (o5 x j s hx (by omega) (by omega) (by omega)).2) (fun u hu hut j => ?_) (fun j hj => ?_) (fun b' hb' hbb => ⟨fun j => ?_, fun p hp j => ?_⟩) tme (fun k k1 k2 k3 => riR_ne k1 k2 k3) ?_ (fun _ => ?_) (fun b' hb' z => ?_) ((u6 6 (fun z => q6 z.symm)).1 (h.c b hb).1) (fun p hp hp6 => ?_) (fun p hp b' hb' hbb q' hq' => ?_)
    · have hne : aT A u ≠ aT A t := fun z => hut (h.tinj h24 hu ht z)
      obtain ⟨y1, y2⟩ := i5 (aT A u) j hne
      obtain ⟨y3, y4⟩ := fm (aT A u) j 32 (h.tk hu) (by decide) (by decide)
      exact ⟨y1.trans y3, y2.trans y4⟩
    · rw [← hM5, z_II, if_neg (fun z => hj z.2), z_IR]
      exact (fm _ j 32 tk (by decide) (by decide)).1
    · have hk' := (h.tm hb').k
      rw [(i5 _ j (kt_ne hk' tk (by decide))).2]
      exact (u4.1 _ j (kt_le hk').2 (fun z => hbb (h.ij.1 _ _ hb' hb z)) (fun p hp => kt_ne hk' ((h.tm hb).ke hp) (by decide))).2
    · have hk' := (h.tm hb').ke hp
      obtain ⟨y1, y2⟩ := i5 _ j (kt_ne hk' tk (by decide))
      obtain ⟨y3, y4⟩ := u4.1 _ j (kt_le hk').2 (kt_ne hk' (h.tm hb).k (by decide)) (fun p2 hp2 z => hbb (h.ij.2 _ _ _ _ hb' hb hp z).1)
      exact ⟨y1.trans y3, y2.trans y4⟩
    · rw [riR_6, ← hM5, z_II, if_pos ⟨rfl, rfl⟩]
    · rw [← hM5, z_RI, z_RR, if_pos ⟨rfl, rfl⟩]
    · rw [riR_5] at z
      exact absurd z.symm (nI_ne1 (by omega))
    · by_cases z : p = q
      · rw [z, riR_s hb5 q13]
        exact ⟨fun _ => u5, fun u hu y => absurd y.symm (nI_ne0 (by omega) (by omega))⟩
      · have hsp := si_lt (b := b) (q := p) hb5 hp
        rw [riR_ne (fun y => z ((si_inj hp hp6 q13 q6).mp y).2) (by omega) (by omega)]
        obtain ⟨c1, c2⟩ := (h.c b hb).2 p hp hp6
        refine ⟨fun y => (u6 p z).1 (c1 y), fun u hu y => ?_⟩
        obtain ⟨d1, d2⟩ := c2 u hu y
        obtain ⟨-, d4, d5⟩ := (u6 p z).2 d1
        refine ⟨d4, ?_⟩
        rw [(i5 _ 1 (kt_ne (u2.ke d4) (by rw [hk1]; exact tk) (by decide))).2, d5]
        exact d2
    · have hpq : p ≠ q := fun z => hp (z ▸ u5)
      by_cases z : E b p = 0
      · exact absurd ((u6 p hpq).1 z) hp
      · obtain ⟨⟨p2, d1, d2⟩, -⟩ := (u6 p hpq).2 z
        rw [d2]
        exact fun y => hbb (h.ij.2 _ _ _ _ hb hb' d1 y).1.symm
  · rcases hx with z | ⟨s, z1, z2⟩
    · subst z
      obtain ⟨y1, y2⟩ := i5 0 j (by have := (kt_le tk).1; omega)
      obtain ⟨y3, y4⟩ := u4.1 0 j (Nat.zero_le _) (by have := (kt_le (h.tm hb).k).1; omega) (fun p hp => fun z => hp z.symm)
      exact ⟨y1.trans y3, y2.trans y4⟩
    · exact o5 x j s z1 (by omega) (by omega) (by omega)
end
