variable {Mb : SMem}
def mvR (r : Nat → Int32) (i j : Nat) (c : Int32) : Nat → Int32 := setr (setr r i (r i - kmin c (r i))) j (setr r i (r i - kmin c (r i)) j + kmin c (r i))
def riR (r : Nat → Int32) (t b q : Nat) : Nat → Int32 := setr (setr (setr r (si b q) 0) (89 + 7 * t + 5) (-1)) (89 + 7 * t + 6) 0
def siR (r : Nat → Int32) (t b q : Nat) : Nat → Int32 := setr (setr (setr r (si b q) (nI (t + 1))) (89 + 7 * t + 5) (nI b)) (89 + 7 * t + 6) (pz q)
def shR (r : Nat → Int32) (i : Nat) : Nat → Int32 := fun j => if 260 + i ≤ j ∧ j ≤ 292 then r (j - 3) else r j
def rcR (r : Nat → Int32) (k x : Int32) : Nat → Int32 := setr (setr (setr (setr (shR r 0) 257 k) 258 x) 259 (r 6)) 13 (kmin 12 (r 13 + 1))
def cp (r : Nat → Int32) (nt i : Nat) : Prop := i = 5 ∨ ∃ t, t < nt ∧ i = 89 + 7 * t + 2 ∧ r (89 + 7 * t + 4) = 1
section
variable {N : Nat} {I : kInts} {L : kLngs} {r f : Nat → Int32} {nb nt : Nat}
theorem cp.cl {i : Nat} (h : cp r nt i) : cl nt i := h.imp id (fun ⟨t, ht, e, _⟩ => ⟨t, ht, e⟩)
theorem cp.lt {i : Nat} (h : cp r nt i) (h24 : nt ≤ 24) : i < 293 := by
  rcases h with rfl | ⟨t, ht, rfl, -⟩ <;> omega
theorem kmin_nI {a b : Nat} (ha : a < 2147483648) (hb : b < 2147483648) : kmin (nI a) (nI b) = nI (min a b) := by
  unfold kmin
  by_cases h : b < a
  · rw [if_pos (nI_lt h ha), Nat.min_eq_right (by omega)]
  · rw [if_neg (by rw [nI_ltI hb ha]; exact h), Nat.min_eq_left (by omega)]
theorem mv_num (h : RIc r nt) (h24 : nt ≤ 24) {i j : Nat} (hi : cl nt i) (hj : cl nt j) (hij : i ≠ j) {c : Int32} (hc : nn c) : ∃ x y d, r i = nI x ∧ r j = nI y ∧ d ≤ x ∧ x ≤ tot r nt ∧ y + d ≤ tot r nt ∧ tot r nt ≤ 340000 ∧ kmin c (r i) = nI d ∧ mvR r i j c = setr (setr r i (nI (x - d))) j (nI (y + d)) ∧ (kx c ≤ x → d = kx c) := by
  have e1 : r i = nI (kx (r i)) := h.nnn hi
  have e2 : r j = nI (kx (r j)) := h.nnn hj
  have e3 : c = nI (kx c) := hc
  have l1 := @nn_lt (r i)
  have l2 := @nn_lt (r j)
  have l3 := @nn_lt c
  have l4 := cl_le (r := r) hi
  have hT : tot r nt ≤ 340000 := by
    have := h.2.2
    unfold tot
    omega
  have hmin : kmin c (r i) = nI (min (kx c) (kx (r i))) := by
    rw [← kmin_nI l3 l1, ← e3, ← e1]
  have hs := tot_set (v := kx (r i) - min (kx c) (kx (r i))) hi e1 l1 (by omega)
  have l5 := cl_le (r := setr r i (nI (kx (r i) - min (kx c) (kx (r i))))) hj
  rw [setr_ne (fun z => hij z.symm)] at l5
  refine ⟨kx (r i), kx (r j), min (kx c) (kx (r i)), e1, e2, by omega, l4, by omega, hT, hmin, ?_, fun z => by omega⟩
  unfold mvR
  rw [hmin, setr_ne (fun z => hij z.symm)]
  have e4 : r i - nI (min (kx c) (kx (r i))) = nI (kx (r i) - min (kx c) (kx (r i))) := by
    have := pk_sub (a := kx (r i)) (b := min (kx c) (kx (r i))) (by omega)
    rw [← e1] at this
    exact this
  have e5 : r j + nI (min (kx c) (kx (r i))) = nI (kx (r j) + min (kx c) (kx (r i))) := by
    have := nI_add (kx (r j)) (min (kx c) (kx (r i)))
    rw [← e2] at this
    exact this
  rw [e4, e5]
theorem RIc_mv (h : RIc r nt) (h24 : nt ≤ 24) {i j : Nat} (hi : cl nt i) (hj : cl nt j) (hij : i ≠ j) {c : Int32} (hc : nn c) : RIc (mvR r i j c) nt := by
  obtain ⟨x, y, d, e1, e2, h1, h2, h3, h4, -, e3, -⟩ := mv_num h h24 hi hj hij hc
  rw [e3]
  have hT : tot r nt ≤ 100000 + 10000 * nt := h.2.2
  have s1 := tot_set (v := x - d) hi e1 (by omega) (by omega)
  exact (h.set hi e1 (by omega) (by omega) (by omega)).set hj ((setr_ne (fun z => hij z.symm)).trans e2) (by omega) (by omega) (by omega)
theorem mvR_ne {i j k : Nat} {c : Int32} (h1 : k ≠ i) (h2 : k ≠ j) : mvR r i j c k = r k := by
  unfold mvR
  rw [setr_ne h2, setr_ne h1]
theorem cp.ne {i k : Nat} (h : cp r nt i) (hk : k ≠ 5) (h2 : ∀ t, t < nt → k ≠ 89 + 7 * t + 2) : k ≠ i := by
  rcases h with rfl | ⟨t, ht, rfl, -⟩
  · exact hk
  · exact h2 t ht
theorem cp.ret {i t : Nat} (h : cp r nt i) (h2 : r (89 + 7 * t + 4) = 0) : 89 + 7 * t + 2 ≠ i := by
  rcases h with rfl | ⟨s, hs, rfl, e⟩
  · omega
  · intro z
    have : t = s := by omega
    subst this
    rw [e] at h2
    exact absurd h2 (by decide)
theorem RI_mv (h : RI r nb nt) {i j : Nat} (hi : cp r nt i) (hj : cp r nt j) (hij : i ≠ j) {c : Int32} (hc : nn c) : RI (mvR r i j c) nb nt := by
  have h5 := h.nb5
  have h24 := h.nt24
  refine ⟨h.g.cg (fun k hk => ?_), h.b.cg (fun b hb w hw => ?_), h.t.cg (fun t ht => ⟨?_, ?_, ?_, fun z => ?_⟩), h.s.cg (fun b hb => ?_) (fun b hb q hq h6 => ?_) (fun t ht => ⟨?_, ?_⟩), RIc_mv h.c h24 hi.cl hj.cl hij hc⟩
  · simp only [List.mem_cons, List.not_mem_nil, or_false] at hk
    exact mvR_ne (hi.ne (by omega) (fun t ht => by omega)) (hj.ne (by omega) (fun t ht => by omega))
  · exact mvR_ne (hi.ne (by omega) (fun t ht => by omega)) (hj.ne (by omega) (fun t ht => by omega))
  · exact mvR_ne (hi.ne (by omega) (fun t ht => by omega)) (hj.ne (by omega) (fun t ht => by omega))
  · exact mvR_ne (hi.ne (by omega) (fun t ht => by omega)) (hj.ne (by omega) (fun t ht => by omega))
  · exact mvR_ne (hi.ne (by omega) (fun t ht => by omega)) (hj.ne (by omega) (fun t ht => by omega))
  · exact mvR_ne (hi.ret z) (hj.ret z)
  · exact mvR_ne (hi.ne (by omega) (fun t ht => by omega)) (hj.ne (by omega) (fun t ht => by omega))
  · have h7 := si_lt (show b < 5 by omega) hq
    have h8 : 17 ≤ si b q := by unfold si; omega
    exact mvR_ne (hi.ne (by omega) (fun t ht => by omega)) (hj.ne (by omega) (fun t ht => by omega))
  · exact mvR_ne (hi.ne (by omega) (fun t ht => by omega)) (hj.ne (by omega) (fun t ht => by omega))
  · exact mvR_ne (hi.ne (by omega) (fun t ht => by omega)) (hj.ne (by omega) (fun t ht => by omega))
theorem si_ge {b q : Nat} : 17 + 15 * b ≤ si b q := by unfold si; omega
theorem si_le {b q : Nat} (hq : q < 13) : si b q ≤ 28 + 15 * b := by unfold si; split <;> omega
theorem riR_ne {t b q k : Nat} (h1 : k ≠ si b q) (h2 : k ≠ 89 + 7 * t + 5) (h3 : k ≠ 89 + 7 * t + 6) : riR r t b q k = r k := by
  unfold riR
  rw [setr_ne h3, setr_ne h2, setr_ne h1]
theorem riR_5 {t b q : Nat} : riR r t b q (89 + 7 * t + 5) = -1 := by
  unfold riR
  rw [setr_ne (by omega), setr_eq]
theorem riR_6 {t b q : Nat} : riR r t b q (89 + 7 * t + 6) = 0 := by
  unfold riR
  rw [setr_eq]
theorem riR_s {t b q : Nat} (hb : b < 5) (hq : q < 13) : riR r t b q (si b q) = 0 := by
  have h7 := si_lt hb hq
  unfold riR
  rw [setr_ne (by omega), setr_ne (by omega), setr_eq]
theorem siR_ne {t b q k : Nat} (h1 : k ≠ si b q) (h2 : k ≠ 89 + 7 * t + 5) (h3 : k ≠ 89 + 7 * t + 6) : siR r t b q k = r k := by
  unfold siR
  rw [setr_ne h3, setr_ne h2, setr_ne h1]
theorem siR_5 {t b q : Nat} : siR r t b q (89 + 7 * t + 5) = nI b := by
  unfold siR
  rw [setr_ne (by omega), setr_eq]
theorem siR_6 {t b q : Nat} : siR r t b q (89 + 7 * t + 6) = pz q := by
  unfold siR
  rw [setr_eq]
theorem siR_s {t b q : Nat} (hb : b < 5) (hq : q < 13) : siR r t b q (si b q) = nI (t + 1) := by
  have h7 := si_lt hb hq
  unfold siR
  rw [setr_ne (by omega), setr_ne (by omega), setr_eq]
theorem st.uniq {t b q b2 q2 : Nat} (h5 : nb ≤ 5) (h : st r nb t b q) (h2 : st r nb t b2 q2) : b = b2 ∧ q = q2 := by
  have q1 := h.q13
  have q2' := h2.q13
  have b1 := h.1
  have b2' := h2.1
  exact ⟨(nI_eq (by omega) (by omega)).mp (h.2.2.2.1.symm.trans h2.2.2.2.1), (pz_eq (by omega) (by omega)).mp (h.2.2.2.2.1.symm.trans h2.2.2.2.2.1)⟩
theorem st.own {t s b q : Nat} (ht : t < 24) (hs : s < 24) (h : st r nb t b q) (h2 : st r nb s b q) : t = s := by
  have := (nI_eq (by omega) (by omega)).mp (h.2.2.2.2.2.symm.trans h2.2.2.2.2.2)
  omega
theorem RI.pres (h : RI r nb nt) {t b q : Nat} (ht : t < nt) (hs : st r nb t b q) : r (89 + 7 * t + 4) = 1 := by
  rcases (h.t t ht).2 with e | ⟨-, e, -⟩
  · exact e
  · exact absurd e (hs.seated h.nb5)
theorem RI_ri (h : RI r nb nt) {t b q : Nat} (ht : t < nt) (hs : st r nb t b q) : RI (riR r t b q) nb nt := by
  have h5 := h.nb5
  have h24 := h.nt24
  have hb := hs.1
  have hq := hs.q13
  have h7 := si_lt (show b < 5 by omega) hq
  have h8 := @si_ge b q
  have hseat : ∀ s c p, s < nt → s ≠ t → st r nb s c p → st (riR r t b q) nb s c p := by
    intro s c p hsn hne h1
    have hne2 : si c p ≠ si b q := fun z => by
      obtain ⟨rfl, rfl⟩ := (si_inj h1.q13 h1.2.1 hq hs.2.1).mp z
      exact hne (st.own (by omega) (by omega) h1 hs)
    have hc := h1.1
    have hp := h1.q13
    have h9 := si_lt (show c < 5 by omega) hp
    have h10 := si_le (b := b) hq
    exact h1.cg (riR_ne (by omega) (by omega) (by omega)) (riR_ne hne2 (by omega) (by omega)) (riR_ne (by omega) (by omega) (by omega)) (riR_ne (by omega) (by omega) (by omega))
  refine ⟨h.g.cg (fun k hk => ?_), h.b.cg (fun c hc w hw => ?_), fun s hs2 => ?_, ⟨fun s hs2 => ?_, fun c hc p hp h6 => ?_⟩, h.c.cg ?_ (fun s hs2 => ?_)⟩
  · simp only [List.mem_cons, List.not_mem_nil, or_false] at hk
    exact riR_ne (by omega) (by omega) (by omega)
  · have h10 := si_le (b := b) hq
    exact riR_ne (by omega) (by omega) (by omega)
  · rw [riR_ne (k := 89 + 7 * s + 1) (by omega) (by omega) (by omega), riR_ne (k := 89 + 7 * s + 4) (by omega) (by omega) (by omega), riR_ne (k := 89 + 7 * s + 2) (by omega) (by omega) (by omega)]
    refine ⟨(h.t s hs2).1, ?_⟩
    by_cases e : s = t
    · subst e
      exact Or.inl (h.pres ht hs)
    · rw [riR_ne (k := 89 + 7 * s + 5) (by omega) (by omega) (by omega)]
      exact (h.t s hs2).2
  · by_cases e : s = t
    · subst e
      exact Or.inl ⟨riR_5, riR_6⟩
    · rw [riR_ne (k := 89 + 7 * s + 5) (by omega) (by omega) (by omega), riR_ne (k := 89 + 7 * s + 6) (by omega) (by omega) (by omega)]
      exact (h.s.1 s hs2).imp id (fun ⟨c, p, h1⟩ => ⟨c, p, hseat s c p hs2 e h1⟩)
  · have h9 := si_lt (show c < 5 by omega) hp
    by_cases e : si c p = si b q
    · rw [e]
      exact Or.inl (riR_s (by omega) hq)
    · rw [riR_ne e (by omega) (by omega)]
      refine (h.s.2 c hc p hp h6).imp id (fun ⟨s, hs2, e2, h1⟩ => ⟨s, hs2, e2, hseat s c p hs2 (fun z => ?_) h1⟩)
      subst z
      obtain ⟨rfl, rfl⟩ := st.uniq h5 h1 hs
      exact e rfl
  · exact riR_ne (by omega) (by omega) (by omega)
  · exact riR_ne (by omega) (by omega) (by omega)
theorem RI_si (h : RI r nb nt) {t b q a : Nat} (ht : t < nt) (hu : r (89 + 7 * t + 5) = -1) (hp : r (89 + 7 * t + 4) = 1) (hb : b < nb) (ha : r (14 + 15 * b + 0) = nI a) (ha6 : a ≤ 6) (h1 : 6 - a ≤ q) (h2 : q ≤ 6 + a) (h6 : q ≠ 6) (he : r (si b q) = 0) : RI (siR r t b q) nb nt := by
  have h5 := h.nb5
  have h24 := h.nt24
  have hq : q < 13 := by omega
  have h7 := si_lt (show b < 5 by omega) hq
  have h8 := @si_ge b q
  have h10 := si_le (b := b) hq
  have hseat : ∀ s c p, s < nt → s ≠ t → st r nb s c p → st (siR r t b q) nb s c p := by
    intro s c p hsn hne h1
    have hne2 : si c p ≠ si b q := fun z => by
      have := h1.2.2.2.2.2
      rw [z, he] at this
      exact nI_ne0 (show 0 < s + 1 by omega) (by omega) this.symm
    have hc := h1.1
    have hp := h1.q13
    have h9 := si_lt (show c < 5 by omega) hp
    exact h1.cg (siR_ne (by omega) (by omega) (by omega)) (siR_ne hne2 (by omega) (by omega)) (siR_ne (by omega) (by omega) (by omega)) (siR_ne (by omega) (by omega) (by omega))
  have hself : st (siR r t b q) nb t b q := ⟨hb, h6, ⟨a, (siR_ne (by omega) (by omega) (by omega)).trans ha, ha6, h1, h2⟩, siR_5, siR_6, siR_s (by omega) hq⟩
  refine ⟨h.g.cg (fun k hk => ?_), h.b.cg (fun c hc w hw => ?_), fun s hs2 => ?_, ⟨fun s hs2 => ?_, fun c hc p hp h6 => ?_⟩, h.c.cg ?_ (fun s hs2 => ?_)⟩
  · simp only [List.mem_cons, List.not_mem_nil, or_false] at hk
    exact siR_ne (by omega) (by omega) (by omega)
  · exact siR_ne (by omega) (by omega) (by omega)
  · rw [siR_ne (k := 89 + 7 * s + 1) (by omega) (by omega) (by omega), siR_ne (k := 89 + 7 * s + 4) (by omega) (by omega) (by omega), siR_ne (k := 89 + 7 * s + 2) (by omega) (by omega) (by omega)]
    refine ⟨(h.t s hs2).1, ?_⟩
    by_cases e : s = t
    · subst e
      exact Or.inl hp
    · rw [siR_ne (k := 89 + 7 * s + 5) (by omega) (by omega) (by omega)]
      exact (h.t s hs2).2
  · by_cases e : s = t
    · subst e
      exact Or.inr ⟨b, q, hself⟩
    · rw [siR_ne (k := 89 + 7 * s + 5) (by omega) (by omega) (by omega), siR_ne (k := 89 + 7 * s + 6) (by omega) (by omega) (by omega)]
      exact (h.s.1 s hs2).imp id (fun ⟨c, p, h1⟩ => ⟨c, p, hseat s c p hs2 e h1⟩)
  · have h9 := si_lt (show c < 5 by omega) hp
    by_cases e : si c p = si b q
    · obtain ⟨rfl, rfl⟩ := (si_inj hp (by assumption) hq (by assumption)).mp e
      exact Or.inr ⟨t, ht, siR_s (by omega) hq, hself⟩
    · rw [siR_ne e (by omega) (by omega)]
      refine (h.s.2 c hc p hp h6).imp id (fun ⟨s, hs2, e2, h1⟩ => ⟨s, hs2, e2, hseat s c p hs2 (fun z => ?_) h1⟩)
      subst z
      exact h1.seated h5 hu
  · exact siR_ne (by omega) (by omega) (by omega)
  · exact siR_ne (by omega) (by omega) (by omega)
theorem shR_step {k : Nat} (hk : k < 33) : setr (shR r (k + 1)) (260 + k) (shR r (k + 1) (257 + k)) = shR r k := by
  funext j
  unfold setr shR
  by_cases e : j = 260 + k
  · subst e
    rw [if_pos rfl, if_neg (by omega), if_pos (by omega)]
    congr 1
    omega
  · rw [if_neg e]
    by_cases e2 : 260 + (k + 1) ≤ j ∧ j ≤ 292
    · rw [if_pos e2, if_pos (by omega)]
    · rw [if_neg e2, if_neg (by omega)]
theorem rcR_lo {k x : Int32} {j : Nat} (h1 : j ≠ 13) (h2 : j < 257) : rcR r k x j = r j := by
  unfold rcR
  rw [setr_ne h1, setr_ne (by omega), setr_ne (by omega), setr_ne (by omega)]
  exact if_neg (by omega)
theorem rcR_13 {k x : Int32} : rcR r k x 13 = kmin 12 (r 13 + 1) := setr_eq
theorem rcR_0 {k x : Int32} : rcR r k x 257 = k ∧ rcR r k x 258 = x ∧ rcR r k x 259 = r 6 := by
  unfold rcR
  refine ⟨?_, ?_, ?_⟩
  · rw [setr_ne (by decide), setr_ne (by decide), setr_ne (by decide), setr_eq]
  · rw [setr_ne (by decide), setr_ne (by decide), setr_eq]
  · rw [setr_ne (by decide), setr_eq]
theorem rcR_hi {k x : Int32} {j : Nat} (h1 : 260 ≤ j) (h2 : j < 293) : rcR r k x j = r (j - 3) := by
  unfold rcR
  rw [setr_ne (by omega), setr_ne (by omega), setr_ne (by omega), setr_ne (by omega)]
  exact if_pos (by omega)
theorem kmin12 {e : Nat} (h : e ≤ 12) : kmin 12 (nI e + 1) = nI (min 12 (e + 1)) := by
  rw [nI_1, show (12 : Int32) = nI 12 from rfl, kmin_nI (by omega) (by omega)]
theorem RI_rc (h : RI r nb nt) (k x : Int32) : RI (rcR r k x) nb nt := by
  have h5 := h.nb5
  have h24 := h.nt24
  obtain ⟨g1, g2, g3, g4, g5, g6, ⟨e, he, g7⟩⟩ := h.g
  refine ⟨?_, h.b.cg (fun b hb w hw => rcR_lo (by omega) (by omega)), h.t.cg (fun t ht => ⟨rcR_lo (by omega) (by omega), rcR_lo (by omega) (by omega), rcR_lo (by omega) (by omega), fun _ => rcR_lo (by omega) (by omega)⟩), h.s.cg (fun b hb => rcR_lo (by omega) (by omega)) (fun b hb q hq h6 => ?_) (fun t ht => ⟨rcR_lo (by omega) (by omega), rcR_lo (by omega) (by omega)⟩), h.c.cg (rcR_lo (by decide) (by decide)) (fun t ht => rcR_lo (by omega) (by omega))⟩
  · unfold RIg
    rw [rcR_13, rcR_lo (show 0 ≠ 13 by decide) (by decide), rcR_lo (show 1 ≠ 13 by decide) (by decide), rcR_lo (show 2 ≠ 13 by decide) (by decide), rcR_lo (show 3 ≠ 13 by decide) (by decide), rcR_lo (show 4 ≠ 13 by decide) (by decide), rcR_lo (show 7 ≠ 13 by decide) (by decide), rcR_lo (show 8 ≠ 13 by decide) (by decide)]
    refine ⟨g1, g2, g3, g4, g5, g6, min 12 (e + 1), by omega, ?_⟩
    rw [g7, kmin12 he]
  · have h7 := si_lt (show b < 5 by omega) hq
    have h8 := @si_ge b q
    exact rcR_lo (by omega) (by omega)
end
