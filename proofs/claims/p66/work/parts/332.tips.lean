variable {Mb : SMem}
def tbL (nt : Nat) : Nat → Nat → (Nat → Int32) → (Nat → Int32)
  | 0, _, r => r
  | k + 1, i, r => tbL nt k (i + 1) (tpL nt i 12 r)
def tbF (nt : Nat) : Nat → Nat → (Nat → Int32) → (Nat → Int32) → (Nat → Int32)
  | 0, _, _, f => f
  | k + 1, i, r, f => tbF nt k (i + 1) (tpL nt i 12 r) (tpF nt i 12 r f)
def mdR (nt : Nat) (r : Nat → Int32) : Nat → Int32 := agL nt 0 (eaL nt nt 0 (setr r 6 (r 6 + 1)))
def dyR (nb nt : Nat) (r : Nat → Int32) : Nat → Int32 := tbL nt nb 0 (mdR nt r)
def dyF (nb nt : Nat) (r f : Nat → Int32) : Nat → Int32 := tbF nt nb 0 (mdR nt r) f
def dyN (nb nt : Nat) : Nat → (Nat → Int32) → (Nat → Int32)
  | 0, r => r
  | k + 1, r => dyN nb nt k (dyR nb nt r)
def dyNF (nb nt : Nat) : Nat → (Nat → Int32) → (Nat → Int32) → (Nat → Int32)
  | 0, _, f => f
  | k + 1, r, f => dyNF nb nt k (dyR nb nt r) (dyF nb nt r f)
section
variable {N : Nat} {I : kInts} {L : kLngs} {r f : Nat → Int32} {nb nt m : Nat}
theorem pz_sub1 (d : Nat) : pz (6 + (d + 1)) - 1 = pz (6 + d) := by
  have := pz_s (6 + d)
  rw [show 6 + d + 1 = 6 + (d + 1) by omega] at this
  rw [← this]
  grind
theorem pz_add1 {d : Nat} (h : d + 1 ≤ 6) : pz (6 - (d + 1)) - (-1) = pz (6 - d) := by
  have := pz_s (6 - (d + 1))
  rw [show 6 - (d + 1) + 1 = 6 - d by omega] at this
  rw [← this]
  grind
theorem RI_tpL {b : Nat} (hb : b < nb) : ∀ (k : Nat) (r : Nat → Int32), RI r nb nt → RI (tpL nt b k r) nb nt
  | 0, r, h => h
  | k + 1, r, h => by
    unfold tpL
    by_cases c : tmu r b (tqr r nt b) = 0
    · rw [if_pos c]; exact h
    · rw [if_neg c]
      obtain ⟨q, ht, hs⟩ := fa_st h hb c
      exact RI_tpL hb k _ (RI_tpS h ht hs)
theorem RI_tbL : ∀ (k i : Nat) (r : Nat → Int32), RI r nb nt → i + k = nb → RI (tbL nt k i r) nb nt
  | 0, i, r, h, _ => h
  | k + 1, i, r, h, e => RI_tbL k (i + 1) _ (RI_tpL (by omega) 12 r h) (by omega)
theorem RI_6 (h : RI r nb nt) (v : Int32) : RI (setr r 6 v) nb nt := by
  have h5 := h.nb5
  refine ⟨h.g.cg (fun k hk => ?_), h.b.cg (fun b hb w hw => setr_ne (by omega)), h.t.cg (fun s hs => ⟨setr_ne (by omega), setr_ne (by omega), setr_ne (by omega), fun _ => setr_ne (by omega)⟩), h.s.cg (fun b hb => setr_ne (by omega)) (fun b hb q hq h6 => ?_) (fun s hs => ⟨setr_ne (by omega), setr_ne (by omega)⟩), h.c.cg (setr_ne (by omega)) (fun s hs => setr_ne (by omega))⟩
  · simp only [List.mem_cons, List.not_mem_nil, or_false] at hk
    exact setr_ne (by omega)
  · have h8 := @si_ge b q
    exact setr_ne (by omega)
theorem RI_md (h : RI r nb nt) : RI (mdR nt r) nb nt := RI_agL nt 0 _ (RI_eaL nt 0 _ (RI_6 h _) (by omega)) (by omega)
theorem RI_dyR (h : RI r nb nt) : RI (dyR nb nt r) nb nt := RI_tbL nb 0 _ (RI_md h) (by omega)
theorem RI_dyN : ∀ (k : Nat) (r : Nat → Int32), RI r nb nt → RI (dyN nb nt k r) nb nt
  | 0, r, h => h
  | k + 1, r, h => RI_dyN k _ (RI_dyR h)
theorem setr_12 {k : Nat} {v c : Int32} (h : k ≠ 12) : setr (setr r 12 c) k v = setr (setr r k v) 12 c := setr_comm (fun z => h z.symm)
theorem riS_12 (t : Nat) (c : Int32) : riS (setr r 12 c) t = setr (riS r t) 12 c := by
  unfold riS
  rw [setr_ne (show 89 + 7 * t + 5 ≠ 12 by omega), setr_ne (show 89 + 7 * t + 6 ≠ 12 by omega)]
  split
  · rfl
  · unfold riR
    have h8 := @si_ge (kx (r (89 + 7 * t + 5))) (kx (r (89 + 7 * t + 6) + 6))
    rw [setr_12 (by omega), setr_12 (by omega), setr_12 (by omega)]
theorem mvR_12 {i j : Nat} (hi : i ≠ 12) (hj : j ≠ 12) (d c : Int32) : mvR (setr r 12 c) i j d = setr (mvR r i j d) 12 c := by
  unfold mvR
  rw [setr_ne hi, setr_12 hi, setr_ne hj, setr_12 hj]
theorem rcR_12 (k x c : Int32) : rcR (setr r 12 c) k x = setr (rcR r k x) 12 c := by
  have e : shR (setr r 12 c) 0 = setr (shR r 0) 12 c := by
    funext j
    unfold shR setr
    by_cases h : j = 12
    · subst h
      simp
    · by_cases h2 : 260 + 0 ≤ j ∧ j ≤ 292
      · simp only [h2, and_self, if_true, h, if_false]
        rw [if_neg (by omega)]
      · simp only [h2, if_false, h]
  unfold rcR
  rw [e, setr_ne (show 6 ≠ 12 by decide), setr_ne (show 13 ≠ 12 by decide), setr_12 (by decide), setr_12 (by decide), setr_12 (by decide), setr_12 (by decide)]
theorem tp0_12 (t : Nat) (c : Int32) : tp0 (setr r 12 c) t = setr (tp0 r t) 12 c := by
  unfold tp0
  rw [riS_12, setr_ne (show 4 ≠ 12 by decide), mvR_12 (by omega) (by decide), rcR_12]
theorem tqr_12 (c : Int32) (b : Nat) : tqr (setr r 12 c) nt b = tqr r nt b := sumI_congr (fun t _ => by
  unfold tqf
  rw [setr_ne (show 89 + 7 * t + 5 ≠ 12 by omega), setr_ne (show 89 + 7 * t + 6 ≠ 12 by omega), setr_ne (show 89 + 7 * t + 1 ≠ 12 by omega)])
theorem tmu_12 (c : Int32) (b : Nat) (x : Int32) : tmu (setr r 12 c) b x = tmu r b x := by
  unfold tmu
  rw [setr_ne (show 14 + 15 * b + 2 ≠ 12 by omega)]
theorem far_12 (c : Int32) (b : Nat) (s : Bool) : ∀ d, far (setr r 12 c) b s d = far r b s d
  | 0 => rfl
  | d + 1 => by
    unfold far
    have h8 := @si_ge b (if s then 6 + (d + 1) else 6 - (d + 1))
    rw [setr_ne (by omega), far_12 c b s d]
theorem tpS_12c (t : Nat) (c : Int32) : tp0 (setr r 12 c) t = setr (tpS r t) 12 c := by
  rw [tp0_12]
  unfold tpS
  rw [setr_setr]
theorem RM.fine (h : RM I m r nb nt) : I m 6 = r 4 := h.g.2.2.2.2.2.2.1
theorem RM.falls (h : RM I m r nb nt) : I m 10 = r 12 := h.g.2.2.2.2.2.2.2.2.2.2.1
theorem cx_dropL (hm : m ∈ mks) (hN : 100 < N) (h : RI r nb nt) (hi : RM I m r nb nt) {b : Nat} (hb : b < nb) (s : Bool) : ∀ (d n : Nat), d ≤ kx (r (14 + 15 * b + 0)) → d ≤ 6 → (∃ e, 1 ≤ e ∧ e ≤ d ∧ r (si b (if s then 6 + e else 6 - e)) ≠ 0) → d < n → ∃ I', F_X4_dropFarthest_5 N n (wm Mb I L) m (bd m b) (if s then 1 else -1) (nI d) = some (wm Mb I' L) ∧ RM I' m (tp0 r (far r b s d)) nb nt ∧ FR m I I'
  | d, 0, _, _, _, hn => absurd hn (Nat.not_lt_zero _)
  | 0, n + 1, _, _, ⟨e, h1, h2, _⟩, _ => by omega
  | d + 1, n + 1, hd, hd6, ⟨e, h1, h2, h3⟩, hn => by
    have h5 := h.nb5
    have h24 := h.nt24
    have hb' : b < 5 := by omega
    have hq : (if s then 6 + (d + 1) else 6 - (d + 1)) < 13 ∧ (if s then 6 + (d + 1) else 6 - (d + 1)) ≠ 6 := by split <;> omega
    have hp : (if s then (1 : Int32) else -1) * nI (d + 1) = pz (if s then 6 + (d + 1) else 6 - (d + 1)) := by
      cases s with
      | true =>
        simp only [if_true]
        rw [← pz_a, Int32.one_mul]
      | false =>
        simp only [Bool.false_eq_true, if_false]
        rw [← pz_na (by omega)]
        grind
    have ho := (hi.bb b hb).2.2.2.1 _ hq.1 hq.2
    have hf : far r b s (d + 1) = if r (si b (if s then 6 + (d + 1) else 6 - (d + 1))) = 0 then far r b s d else kx (r (si b (if s then 6 + (d + 1) else 6 - (d + 1)))) - 1 := rfl
    unfold F_X4_dropFarthest_5
    rw [if_neg (show ¬ nI (d + 1) < 1 by rw [show (1 : Int32) = nI 1 from rfl, nI_ltI (by omega) (by omega)]; omega), hp]
    simp only [wm_kR, wm_kt, wm_kn, wm_kin, wm_kL, wm_kI, wm_ksI, wm_ksL, wm_kJ, wm_ksJ, kg_t, kl_v, Option.bind_some, mm_k hm, mm_bs hm, mm_bn hm, mm_ts hm, mm_tn hm, mm_e hm, mm_ek hm, bb_k hm hb', cx_own hm hb' hq.1, ho]
    rw [hf]
    by_cases c : r (si b (if s then 6 + (d + 1) else 6 - (d + 1))) = 0
    · rw [c, show (0 : Int32) - 1 = -1 by decide]
      simp only [cx_tn_out hm h hi (Or.inl (show (-1 : Int32) < 0 by decide)), wm_kR, wm_kt, wm_kn, wm_kin, wm_kL, wm_kI, wm_ksI, wm_ksL, wm_kJ, wm_ksJ, kg_t, kl_v, Option.bind_some, if_true, pk_m1]
      exact cx_dropL hm hN h hi hb s d n (by omega) (by omega) ⟨e, h1, by
        by_cases z : e = d + 1
        · subst z; exact absurd c h3
        · omega, h3⟩ (by omega)
    · rw [if_neg c]
      rcases h.s.2 b hb _ hq.1 hq.2 with z | ⟨t, ht, z, hs⟩
      · exact absurd z c
      have ht' : t < 24 := by omega
      rw [z, kx_nI (by omega), nI_pred, Nat.add_sub_cancel]
      simp only [cx_tn_in hm h hi ht, wm_kR, wm_kt, wm_kn, wm_kin, wm_kL, wm_kI, wm_ksI, wm_ksL, wm_kJ, wm_ksJ, kg_t, kl_v, Option.bind_some, if_neg tr_ne0]
      have hp1 : riS r t (89 + 7 * t + 4) = 1 := by
        rw [riS_ne h ht (by omega) (by omega) (by omega)]
        exact h.pres ht hs
      have hr1 := RI_riS h ht
      have hr2 := RI_mv hr1 (i := 89 + 7 * t + 2) (j := 5) (Or.inr ⟨t, ht, rfl, hp1⟩) (Or.inl rfl) (by omega) (nn_fine hr1)
      obtain ⟨I1, a1, b1, c1⟩ := cx_unseat (Mb := Mb) (N := N) (L := L) hm h hi ht
      obtain ⟨I2, a2, b2, c2⟩ := cx_toBank (Mb := Mb) (N := N) (L := L) hm h5 h24 b1 ht (riS r t 4)
      refine ⟨_, ?_, RM_ev b2 hr2 1 (nI t), (c1.trans c2).trans FR_ev⟩
      have e1 := b1.fine
      have e2 := b2.nu.2.1 t ht'
      have e3 := b2.day
      simp only [a1, a2, wm_kR, wm_kt, wm_kn, wm_kin, wm_kL, wm_kI, wm_ksI, wm_ksL, wm_kJ, wm_ksJ, kg_t, kl_v, Option.bind_some, mm_k hm, mm_bs hm, mm_bn hm, mm_ts hm, mm_tn hm, mm_e hm, mm_ek hm, tt_k hm ht', e1, e2, e3, cx_ev hm _ _ _ hN]
theorem cx_drop (hm : m ∈ mks) (hN : 100 < N) (h : RI r nb nt) (hi : RM I m r nb nt) {b : Nat} (hb : b < nb) (hq : ¬ tqr r nt b = 0) : ∃ I', F_X4_dropFarthest N (wm Mb I L) m (bd m b) (if decide (0 < tqr r nt b) then 1 else -1) = some (wm Mb I' L) ∧ RM I' m (tp0 r (fa r nt b)) nb nt ∧ FR m I I' := by
  have h5 := h.nb5
  obtain ⟨a, s, l, ⟨ha1, ha6⟩, -, -, ha, -, -⟩ := h.b b hb
  have hka : kx (r (14 + 15 * b + 0)) = a := by rw [ha, kx_nI (by omega)]
  have hv := heavy h hb hq
  rw [hka] at hv
  have h1 := cx_dropL (Mb := Mb) (N := N) (L := L) hm hN h hi hb (decide (0 < tqr r nt b)) a N (by omega) ha6 hv (by omega)
  unfold F_X4_dropFarthest
  simp only [wm_kR, wm_kt, wm_kn, wm_kin, wm_kL, wm_kI, wm_ksI, wm_ksL, wm_kJ, wm_ksJ, kg_t, kl_v, Option.bind_some, bb_k hm (show b < 5 by omega), (hi.bb b hb).1, ha]
  unfold fa
  rw [hka]
  exact h1
theorem cx_t29 (hm : m ∈ mks) (hN : 100 < N) {b : Nat} (hb : b < nb) (c0 : Int32) (k4 : kMem → Nat → Int32 → Int32 → Option (Int32 × kMem)) : ∀ (k s n : Nat) (I : kInts) (r : Nat → Int32), RI r nb nt → RM I m (setr r 12 c0) nb nt → s + k = 12 → k < n → ∃ I', F_X4_tipBoards_29 N k4 n (wm Mb I L) m (r 12 - c0) (nI b) (bd m b) (tqr r nt b) (nI s) = k4 (wm Mb I' L) m (tpL nt b k r 12 - c0) (nI (b + 1)) ∧ RM I' m (setr (tpL nt b k r) 12 c0) nb nt ∧ FR m I I'
  | k, s, 0, I, r, _, _, _, h => absurd h (Nat.not_lt_zero _)
  | 0, s, n + 1, I, r, h, hi, e, _ => by
    refine ⟨I, ?_, hi, FR.rfl'⟩
    unfold F_X4_tipBoards_29
    rw [if_neg (show ¬ nI s < 12 by rw [show (12 : Int32) = nI 12 from rfl, nI_ltI (by omega) (by omega)]; omega)]
    simp only [kl_v, nI_1]
    rfl
  | k + 1, s, n + 1, I, r, h, hi, e, hn => by
    have h5 := h.nb5
    have hb' : b < 5 := by omega
    have hR := RI_12 h c0
    unfold F_X4_tipBoards_29
    rw [if_pos (show nI s < 12 by rw [show (12 : Int32) = nI 12 from rfl, nI_ltI (by omega) (by omega)]; omega)]
    simp only [wm_kR, wm_kt, wm_kn, wm_kin, wm_kL, wm_kI, wm_ksI, wm_ksL, wm_kJ, wm_ksJ, kg_t, kl_v, Option.bind_some, mm_k hm, mm_bs hm, mm_bn hm, mm_ts hm, mm_tn hm, mm_e hm, mm_ek hm, bb_k hm hb', cx_tm hm hR hi hb, tmu_12, nI_1]
    unfold tpL
    by_cases c : tmu r b (tqr r nt b) = 0
    · rw [if_pos c, if_pos c]
      exact ⟨I, rfl, hi, FR.rfl'⟩
    · rw [if_neg c, if_neg c]
      have h0 : ¬ tqr r nt b = 0 := fun z => c (by rw [z]; exact tmu_0 h hb)
      obtain ⟨q, ht, hs⟩ := fa_st h hb c
      have hfa : fa (setr r 12 c0) nt b = fa r nt b := by
        unfold fa
        rw [far_12, tqr_12, setr_ne (show 14 + 15 * b + 0 ≠ 12 by omega)]
      have hd := cx_drop (Mb := Mb) (N := N) (L := L) hm hN hR hi hb (by rw [tqr_12]; exact h0)
      rw [tqr_12, hfa, tpS_12c] at hd
      obtain ⟨I1, a1, b1, c1⟩ := hd
      have hS := RI_tpS h ht hs
      have hS2 := RI_12 hS c0
      have hT := cx_tq (Mb := Mb) (N := N) (L := L) hm hb' hS2 b1 hN
      rw [tqr_12] at hT
      have e12 : r 12 - c0 + 1 = tpS r (fa r nt b) 12 - c0 := by rw [tpS_12 h]; grind
      obtain ⟨I2, a2, b2, c2⟩ := cx_t29 hm hN hb c0 k4 k (s + 1) n I1 (tpS r (fa r nt b)) hS b1 (by omega) (by omega)
      by_cases hx : 0 < tqr r nt b
      · simp only [hx, decide_true, if_true] at a1 ⊢
        simp only [a1, wm_kR, wm_kt, wm_kn, wm_kin, wm_kL, wm_kI, wm_ksI, wm_ksL, wm_kJ, wm_ksJ, kg_t, kl_v, Option.bind_some, mm_k hm, mm_bs hm, mm_bn hm, mm_ts hm, mm_tn hm, mm_e hm, mm_ek hm, hT, e12, nI_1]
        exact ⟨I2, a2, b2, c1.trans c2⟩
      · simp only [hx, decide_false, Bool.false_eq_true, if_false] at a1 ⊢
        simp only [a1, wm_kR, wm_kt, wm_kn, wm_kin, wm_kL, wm_kI, wm_ksI, wm_ksL, wm_kJ, wm_ksJ, kg_t, kl_v, Option.bind_some, mm_k hm, mm_bs hm, mm_bn hm, mm_ts hm, mm_tn hm, mm_e hm, mm_ek hm, hT, e12, nI_1]
        exact ⟨I2, a2, b2, c1.trans c2⟩
theorem cx_tbL (hm : m ∈ mks) (hN : 100 < N) (c0 : Int32) : ∀ (k i n : Nat) (I : kInts) (r : Nat → Int32), RI r nb nt → RM I m (setr r 12 c0) nb nt → i + k = nb → k < n → ∃ I', F_X4_tipBoards_4 N n (wm Mb I L) m (r 12 - c0) (nI i) = some (tbL nt k i r 12 - c0, wm Mb I' L) ∧ RM I' m (tbL nt k i r) nb nt ∧ FR m I I'
  | k, i, 0, I, r, _, _, _, h => absurd h (Nat.not_lt_zero _)
  | 0, i, n + 1, I, r, h, hi, e, _ => by
    have h5 := h.nb5
    have h24 := h.nt24
    have hR := RI_12 h c0
    have hg := RM_g10 hi h5 h24 (r 12)
    rw [setr_setr, setr_same rfl] at hg
    have e10 : I m 10 + (r 12 - c0) = r 12 := by rw [hi.falls, setr_eq]; grind
    refine ⟨_, ?_, hg, FR.rfl'.up (by omega) (by omega)⟩
    unfold F_X4_tipBoards_4
    simp (disch := omega) only [wm_kR, wm_kt, wm_kn, wm_kin, wm_kL, wm_kI, wm_ksI, wm_ksL, wm_kJ, wm_ksJ, kg_t, kl_v, Option.bind_some, mm_k hm, mm_bs hm, mm_bn hm, mm_ts hm, mm_tn hm, mm_e hm, mm_ek hm, hi.bc, hR.r7, nI_ltP, e10]
    rw [if_neg (by omega)]
    rfl
  | k + 1, i, n + 1, I, r, h, hi, e, hn => by
    have h5 := h.nb5
    have hb : i < nb := by omega
    have hb' : i < 5 := by omega
    have hR := RI_12 h c0
    have hT := cx_tq (Mb := Mb) (N := N) (L := L) hm hb' hR hi hN
    rw [tqr_12] at hT
    obtain ⟨I1, a1, b1, c1⟩ := cx_t29 (Mb := Mb) (N := N) (L := L) hm hN hb c0 (fun M a0 x1 x2 => F_X4_tipBoards_4 N n M a0 x1 x2) 12 0 N I r h hi (by omega) (by omega)
    obtain ⟨I2, a2, b2, c2⟩ := cx_tbL hm hN c0 k (i + 1) n I1 (tpL nt i 12 r) (RI_tpL hb 12 r h) b1 (by omega) (by omega)
    refine ⟨I2, ?_, b2, c1.trans c2⟩
    unfold F_X4_tipBoards_4
    simp (disch := omega) only [wm_kR, wm_kt, wm_kn, wm_kin, wm_kL, wm_kI, wm_ksI, wm_ksL, wm_kJ, wm_ksJ, kg_t, kl_v, Option.bind_some, mm_k hm, mm_bs hm, mm_bn hm, mm_ts hm, mm_tn hm, mm_e hm, mm_ek hm, bb_r hm hb', kin_b hm hb', hi.bc, hR.r7, nI_ltP, kx_nI, hT]
    rw [if_pos hb, show (0 : Int32) = nI 0 from rfl, a1, a2]
    rfl
theorem cx_tip (hm : m ∈ mks) (hN : 100 < N) (h : RI r nb nt) (hi : RM I m r nb nt) : ∃ I', F_X4_tipBoards N (wm Mb I L) m = some (tbL nt nb 0 r 12 - r 12, wm Mb I' L) ∧ RM I' m (tbL nt nb 0 r) nb nt ∧ FR m I I' := by
  have h5 := h.nb5
  have h1 := cx_tbL (Mb := Mb) (N := N) (L := L) hm hN (r 12) nb 0 N I r h (by rw [setr_same rfl]; exact hi) (by omega) (by omega)
  unfold F_X4_tipBoards
  rw [show r 12 - r 12 = 0 by grind, show nI 0 = 0 from rfl] at h1
  exact h1
theorem eaS_12 {t : Nat} : eaS r nt t 12 = r 12 := by
  unfold eaS
  split
  · rfl
  · split <;> exact mvR_ne (by omega) (by omega)
theorem eaL_12 : ∀ (k i : Nat) (r : Nat → Int32), eaL nt k i r 12 = r 12
  | 0, _, _ => rfl
  | k + 1, i, r => (eaL_12 k (i + 1) _).trans eaS_12
theorem riS_l12 {t : Nat} : riS r t 12 = r 12 := by
  unfold riS
  split
  · rfl
  · have h8 := @si_ge (kx (r (89 + 7 * t + 5))) (kx (r (89 + 7 * t + 6) + 6))
    exact riR_ne (by omega) (by omega) (by omega)
theorem agS_12 {t : Nat} : agS r t 12 = r 12 := by
  unfold agS
  split
  · rfl
  · split
    · unfold rtR
      rw [rcR_lo (by decide) (by decide), setr_ne (by omega), mvR_ne (by omega) (by omega), riS_l12, setr_ne (by omega)]
    · exact setr_ne (by omega)
theorem agL_12 : ∀ (k i : Nat) (r : Nat → Int32), agL k i r 12 = r 12
  | 0, _, _ => rfl
  | k + 1, i, r => (agL_12 k (i + 1) _).trans agS_12
theorem mdR_12 : mdR nt r 12 = r 12 := by
  unfold mdR
  rw [agL_12, eaL_12]
  exact setr_ne (by decide)
theorem cx_daysL (hm : m ∈ mks) (hN : 100 < N) {D : Nat} (hD : D ≤ 100) : ∀ (k i n : Nat) (x : Int32) (I : kInts) (r : Nat → Int32), RI r nb nt → RM I m r nb nt → i + k = D → k < n → ∃ I', F_X4_passDays_4 N n (wm Mb I L) m (nI D) x (nI i) = some (x + (dyN nb nt k r 12 - r 12), wm Mb I' L) ∧ RM I' m (dyN nb nt k r) nb nt ∧ FR m I I'
  | k, i, 0, x, I, r, _, _, _, h => absurd h (Nat.not_lt_zero _)
  | 0, i, n + 1, x, I, r, h, hi, e, _ => by
    refine ⟨I, ?_, hi, FR.rfl'⟩
    unfold F_X4_passDays_4
    rw [if_neg (by rw [nI_ltI (by omega) (by omega)]; omega)]
    show some (x, _) = some (x + (r 12 - r 12), _)
    rw [show x + (r 12 - r 12) = x by grind]
  | k + 1, i, n + 1, x, I, r, h, hi, e, hn => by
    have h5 := h.nb5
    have h24 := h.nt24
    have b0 := RM_g0 hi h5 h24 (r 6 + 1)
    have f0 : FR m I (up I m 0 (r 6 + 1)) := FR.rfl'.up (by omega) (by omega)
    have r0 := RI_6 h (r 6 + 1)
    obtain ⟨I1, a1, b1, c1⟩ := cx_earns (Mb := Mb) (N := N) (L := L) hm hN r0 b0
    have r1 := RI_eaL nt 0 _ r0 (Nat.zero_add nt)
    obtain ⟨I2, a2, b2, c2⟩ := cx_ages (Mb := Mb) (N := N) (L := L) hm hN r1 b1
    obtain ⟨I3, a3, b3, c3⟩ := cx_tip (Mb := Mb) (N := N) (L := L) hm hN (RI_md h) b2
    have hx : x + (dyN nb nt (k + 1) r 12 - r 12) = x + (dyR nb nt r 12 - r 12) + (dyN nb nt k (dyR nb nt r) 12 - dyR nb nt r 12) := by
      show x + (dyN nb nt k (dyR nb nt r) 12 - r 12) = _
      grind
    obtain ⟨I4, a4, b4, c4⟩ := cx_daysL hm hN hD k (i + 1) n (x + (dyR nb nt r 12 - r 12)) I3 (dyR nb nt r) (RI_dyR h) b3 (by omega) (by omega)
    refine ⟨I4, ?_, b4, (((f0.trans c1).trans c2).trans c3).trans c4⟩
    have hmd : mdR nt r 12 = r 12 := mdR_12
    rw [hmd] at a3
    unfold F_X4_passDays_4
    rw [if_pos (by rw [nI_ltI (by omega) (by omega)]; omega)]
    simp only [wm_kR, wm_kt, wm_kn, wm_kin, wm_kL, wm_kI, wm_ksI, wm_ksL, wm_kJ, wm_ksJ, kg_t, kl_v, Option.bind_some, mm_k hm, mm_bs hm, mm_bn hm, mm_ts hm, mm_tn hm, mm_e hm, mm_ek hm, hi.day, a1, a2, a3, nI_1]
    rw [hx]
    exact a4
theorem cx_days (hm : m ∈ mks) (hN : 100 < N) (h : RI r nb nt) (hi : RM I m r nb nt) {D : Nat} (hD : D ≤ 100) : ∃ I', F_X4_passDays N (wm Mb I L) m (nI D) = some (dyN nb nt D r 12 - r 12, wm Mb I' L) ∧ RM I' m (dyN nb nt D r) nb nt ∧ FR m I I' := by
  have h1 := cx_daysL (Mb := Mb) (N := N) (L := L) hm hN hD D 0 N 0 I r h hi (by omega) (by omega)
  unfold F_X4_passDays
  rw [Int32.zero_add, show nI 0 = 0 from rfl] at h1
  exact h1
end
