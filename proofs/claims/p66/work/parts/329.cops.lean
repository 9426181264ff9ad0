variable {Mb : SMem}
def riS (r : Nat → Int32) (t : Nat) : Nat → Int32 := if r (89 + 7 * t + 5) = -1 then r else riR r t (kx (r (89 + 7 * t + 5))) (kx (r (89 + 7 * t + 6) + 6))
section
variable {N : Nat} {I : kInts} {L : kLngs} {r f : Nat → Int32} {nb nt m : Nat}
theorem st.ris {t b q : Nat} (h : st r nb t b q) (h5 : nb ≤ 5) : riS r t = riR r t b q := by
  have hq := h.q13
  unfold riS
  rw [if_neg (h.seated h5), h.kxb h5, h.2.2.2.2.1, pz_p6, kx_nI (by omega)]
theorem riS_0 {t : Nat} (h : r (89 + 7 * t + 5) = -1) : riS r t = r := if_pos h
theorem RI_riS (h : RI r nb nt) {t : Nat} (ht : t < nt) : RI (riS r t) nb nt := by
  by_cases e : r (89 + 7 * t + 5) = -1
  · rw [riS_0 e]; exact h
  · obtain ⟨b, q, hs⟩ := h.seat ht e
    rw [hs.ris h.nb5]
    exact RI_ri h ht hs
theorem riS_5 (h : RI r nb nt) {t : Nat} (ht : t < nt) : riS r t (89 + 7 * t + 5) = -1 ∧ riS r t (89 + 7 * t + 6) = 0 := by
  by_cases e : r (89 + 7 * t + 5) = -1
  · rw [riS_0 e]
    rcases h.s.1 t ht with z | ⟨b, q, hs⟩
    · exact z
    · exact absurd e (hs.seated h.nb5)
  · obtain ⟨b, q, hs⟩ := h.seat ht e
    rw [hs.ris h.nb5]
    exact ⟨riR_5, riR_6⟩
theorem riS_ne (h : RI r nb nt) {t k : Nat} (ht : t < nt) (h1 : k < 14 ∨ 89 ≤ k) (h2 : k ≠ 89 + 7 * t + 5) (h3 : k ≠ 89 + 7 * t + 6) : riS r t k = r k := by
  by_cases e : r (89 + 7 * t + 5) = -1
  · rw [riS_0 e]
  · obtain ⟨b, q, hs⟩ := h.seat ht e
    have hb := hs.1
    have h5 := h.nb5
    have h7 := si_lt (show b < 5 by omega) hs.q13
    have h8 := @si_ge b q
    rw [hs.ris h.nb5]
    exact riR_ne (by omega) h2 h3
theorem siR_alt {t b q : Nat} (hb : b < 5) (hq : q < 13) : setr (setr (setr r (89 + 7 * t + 5) (nI b)) (89 + 7 * t + 6) (pz q)) (si b q) (nI (t + 1)) = siR r t b q := by
  have h7 := si_lt hb hq
  unfold siR
  rw [setr_comm (i := 89 + 7 * t + 6) (j := si b q) (by omega), setr_comm (i := 89 + 7 * t + 5) (j := si b q) (by omega)]
theorem cx_seat (hm : m ∈ mks) (h5 : nb ≤ 5) (h24 : nt ≤ 24) (hi : RM I m r nb nt) {t b q : Nat} (ht : t < 24) (hb : b < 5) (hq : q < 13) (h6 : q ≠ 6) : ∃ I', F_X4_seat N (wm Mb I L) m (tr m t) (bd m b) (pz q) = some (wm Mb I' L) ∧ RM I' m (siR r t b q) nb nt ∧ FR m I I' := by
  have q1 : tr m t = m + 17 + t := rfl
  have q2 : ow m b = m + 8 + 2 * b := rfl
  have hRM := RM_o (RM_t6 (RM_t5 hi h5 h24 ht (nI b)) h5 h24 ht (pz q)) h5 h24 hb hq h6 (v := nI (t + 1)) (w := nI t) (nI_pred t).symm
  rw [siR_alt hb hq] at hRM
  refine ⟨_, ?_, hRM, ((FR.rfl'.up (by omega) (by omega)).up (by omega) (by omega)).up (by omega) (by omega)⟩
  unfold F_X4_seat
  have e0 : up (up I (tr m t) 6 (nI b)) (tr m t) 7 (pz q) (tr m t) 0 = nI t := by
    rw [up_ne (Or.inr (by decide)), up_ne (Or.inr (by decide))]
    exact hi.nu.2.1 t ht
  simp only [wm_kR, wm_kt, wm_kn, wm_kin, wm_kL, wm_kI, wm_ksI, wm_ksL, wm_kJ, wm_ksJ, kg_t, kl_v, Option.bind_some, bb_k hm hb, tt_k hm ht, hi.nu.1 b hb, e0, cx_setOwn hm hb hq]
theorem cx_unseat (hm : m ∈ mks) (hR : RI r nb nt) (hi : RM I m r nb nt) {t : Nat} (ht : t < nt) : ∃ I', F_X4_unseat N (wm Mb I L) m (tr m t) = some (wm Mb I' L) ∧ RM I' m (riS r t) nb nt ∧ FR m I I' := by
  have h5 := hR.nb5
  have h24 := hR.nt24
  have ht' : t < 24 := by omega
  have q1 : tr m t = m + 17 + t := rfl
  obtain ⟨-, -, -, -, e6, e7⟩ := hi.tt t ht
  by_cases e : r (89 + 7 * t + 5) = -1
  · rw [riS_0 e]
    have e8 : r (89 + 7 * t + 6) = 0 := by
      have := (riS_5 hR ht).2
      rw [riS_0 e] at this
      exact this
    refine ⟨I, ?_, hi, FR.rfl'⟩
    unfold F_X4_unseat
    rw [e] at e6
    rw [e8] at e7
    simp only [wm_kR, wm_kt, wm_kn, wm_kin, wm_kL, wm_kI, wm_ksI, wm_ksL, wm_kJ, wm_ksJ, kg_t, kl_v, Option.bind_some, mm_k hm, mm_bs hm, mm_bn hm, mm_ts hm, mm_tn hm, mm_e hm, mm_ek hm, tt_k hm ht', e6, cx_bn_out hm hR hi (Or.inl (show (-1 : Int32) < 0 by decide)), if_true, up_same e6, up_same e7]
  · obtain ⟨b, q, hs⟩ := hR.seat ht e
    have hb := hs.1
    have hb' : b < 5 := by omega
    have hq := hs.q13
    have q2 : ow m b = m + 8 + 2 * b := rfl
    rw [hs.ris h5]
    have hRM := RM_t6 (RM_t5 (RM_o hi h5 h24 hb' hq hs.2.1 (v := 0) (w := -1) (by decide)) h5 h24 ht' (-1)) h5 h24 ht' 0
    refine ⟨_, ?_, hRM, ((FR.rfl'.up (by omega) (by omega)).up (by omega) (by omega)).up (by omega) (by omega)⟩
    unfold F_X4_unseat
    rw [hs.2.2.2.1] at e6
    rw [hs.2.2.2.2.1] at e7
    simp only [wm_kR, wm_kt, wm_kn, wm_kin, wm_kL, wm_kI, wm_ksI, wm_ksL, wm_kJ, wm_ksJ, kg_t, kl_v, Option.bind_some, mm_k hm, mm_bs hm, mm_bn hm, mm_ts hm, mm_tn hm, mm_e hm, mm_ek hm, tt_k hm ht', e6, e7, cx_bn_in hm hR hi hb, if_neg bd_ne0, bb_k hm hb', cx_setOwn hm hb' hq]
theorem mvR_p5 {i : Nat} {c : Int32} (h : 5 ≠ i) : mvR r i 5 c = setr (setr r i (r i - kmin c (r i))) 5 (r 5 + kmin c (r i)) := by
  unfold mvR
  rw [setr_ne h]
theorem mvR_5p {i : Nat} {c : Int32} (h : i ≠ 5) : mvR r 5 i c = setr (setr r 5 (r 5 - kmin c (r 5))) i (r i + kmin c (r 5)) := by
  unfold mvR
  rw [setr_ne h]
theorem RM.bank (h : RM I m r nb nt) : I m 1 = r 5 := h.g.2.1
theorem cx_toBank (hm : m ∈ mks) (h5 : nb ≤ 5) (h24 : nt ≤ 24) (hi : RM I m r nb nt) {t : Nat} (ht : t < nt) (c : Int32) : ∃ I', F_X4_payToBank N (wm Mb I L) m (tr m t) c = some (wm Mb I' L) ∧ RM I' m (mvR r (89 + 7 * t + 2) 5 c) nb nt ∧ FR m I I' := by
  have ht' : t < 24 := by omega
  have q1 : tr m t = m + 17 + t := rfl
  obtain ⟨-, e3, -⟩ := hi.tt t ht
  rw [mvR_p5 (by omega)]
  refine ⟨_, ?_, RM_g1 (RM_t2 hi h5 h24 ht' _) h5 h24 _, (FR.rfl'.up (by omega) (by omega)).up (by omega) (by omega)⟩
  unfold F_X4_payToBank
  have e1 : ∀ v, up I (tr m t) 3 v m 1 = r 5 := fun v => (up_ne (Or.inl (by omega))).trans hi.bank
  simp only [wm_kR, wm_kt, wm_kn, wm_kin, wm_kL, wm_kI, wm_ksI, wm_ksL, wm_kJ, wm_ksJ, kg_t, kl_v, Option.bind_some, mm_k hm, mm_bs hm, mm_bn hm, mm_ts hm, mm_tn hm, mm_e hm, mm_ek hm, tt_k hm ht', e3, e1]
def shI (I : kInts) (m i : Nat) : kInts := fun a j => if (a = ek m 0 ∨ a = ek m 1 ∨ a = ek m 2) ∧ i < j ∧ j ≤ 11 then I a (j - 1) else I a j
def evI (I : kInts) (m : Nat) (k x d : Int32) : kInts := up (up (up (up (shI I m 0) (ek m 0) 0 k) (ek m 1) 0 x) (ek m 2) 0 d) (ev m) 3 (kmin (I (ev m) 3 + 1) 12)
theorem ee_r (hm : m ∈ mks) {k : Nat} (hk : k < 3) : kR Mb (ev m) k = ek m k := (sh_e (Mb := Mb) m hm k hk).1
theorem kin_e (hm : m ∈ mks) {k i : Nat} (hk : k < 3) (hi : i < 12) : kin Mb (ek m k) 13 (nI i) = true := kin_nI (sh_e m hm k hk).2.1 (sh_e m hm k hk).2.2 hi (by decide)
theorem shI_step {i : Nat} (hi : i < 11) : up (up (up (shI I m (i + 1)) (ek m 0) (i + 1) (shI I m (i + 1) (ek m 0) i)) (ek m 1) (i + 1) (up (shI I m (i + 1)) (ek m 0) (i + 1) (shI I m (i + 1) (ek m 0) i) (ek m 1) i)) (ek m 2) (i + 1) (up (up (shI I m (i + 1)) (ek m 0) (i + 1) (shI I m (i + 1) (ek m 0) i)) (ek m 1) (i + 1) (up (shI I m (i + 1)) (ek m 0) (i + 1) (shI I m (i + 1) (ek m 0) i) (ek m 1) i) (ek m 2) i) = shI I m i := by
  have d1 : ek m 1 ≠ ek m 0 := by unfold ek; omega
  have d2 : ek m 2 ≠ ek m 0 := by unfold ek; omega
  have d3 : ek m 2 ≠ ek m 1 := by unfold ek; omega
  rw [up_ne (Or.inl d1), up_ne (Or.inl d3), up_ne (Or.inl d2)]
  have hs : ∀ a, shI I m (i + 1) a i = I a i := fun a => if_neg (by omega)
  rw [hs, hs, hs]
  funext a j
  by_cases h2 : a = ek m 2 ∧ j = i + 1
  · obtain ⟨rfl, rfl⟩ := h2
    rw [up_eq]
    unfold shI
    rw [if_pos ⟨Or.inr (Or.inr rfl), by omega⟩]
    rfl
  rw [up_ne (by omega)]
  by_cases h1 : a = ek m 1 ∧ j = i + 1
  · obtain ⟨rfl, rfl⟩ := h1
    rw [up_eq]
    unfold shI
    rw [if_pos ⟨Or.inr (Or.inl rfl), by omega⟩]
    rfl
  rw [up_ne (by omega)]
  by_cases h0 : a = ek m 0 ∧ j = i + 1
  · obtain ⟨rfl, rfl⟩ := h0
    rw [up_eq]
    unfold shI
    rw [if_pos ⟨Or.inl rfl, by omega⟩]
    rfl
  rw [up_ne (by omega)]
  unfold shI
  by_cases hA : a = ek m 0 ∨ a = ek m 1 ∨ a = ek m 2
  · have hj : j ≠ i + 1 := by
      rintro rfl
      rcases hA with rfl | rfl | rfl
      · exact h0 ⟨rfl, rfl⟩
      · exact h1 ⟨rfl, rfl⟩
      · exact h2 ⟨rfl, rfl⟩
    by_cases hB : i + 1 < j ∧ j ≤ 11
    · rw [if_pos ⟨hA, hB⟩, if_pos ⟨hA, by omega⟩]
    · rw [if_neg (fun z => hB z.2), if_neg (fun z => hB (by omega))]
  · rw [if_neg (fun z => hA z.1), if_neg (fun z => hA z.1)]
theorem cx_evL (hm : m ∈ mks) (k x d : Int32) : ∀ (i n : Nat), i ≤ 11 → i < n → F_X2_add_4 N n (wm Mb (shI I m i) L) (ev m) k x d (nI i) = some (wm Mb (evI I m k x d) L)
  | i, 0, _, h => absurd h (Nat.not_lt_zero _)
  | 0, n + 1, h1, h2 => by
    unfold F_X2_add_4
    rw [if_neg (show ¬ 0 < nI 0 by decide)]
    have e0 : (0 : Int32) = nI 0 := rfl
    have e3 : up (up (up (shI I m 0) (ek m 0) 0 k) (ek m 1) 0 x) (ek m 2) 0 d (ev m) 3 = I (ev m) 3 := by
      rw [up_ne (Or.inr (by decide)), up_ne (Or.inr (by decide)), up_ne (Or.inr (by decide))]
      exact if_neg (fun z => by have := z.1; unfold ev ek at this; omega)
    rw [e0]
    simp (disch := omega) only [wm_kR, wm_kt, wm_kn, wm_kin, wm_kL, wm_kI, wm_ksI, wm_ksL, wm_kJ, wm_ksJ, kg_t, kl_v, Option.bind_some, mm_ek hm, ee_r hm (show 0 < 3 by decide), ee_r hm (show 1 < 3 by decide), ee_r hm (show 2 < 3 by decide), kin_e hm (show 0 < 3 by decide) (show 0 < 12 by decide), kin_e hm (show 1 < 3 by decide) (show 0 < 12 by decide), kin_e hm (show 2 < 3 by decide) (show 0 < 12 by decide), kx_nI, e3]
    rfl
  | i + 1, n + 1, h1, h2 => by
    have ih := cx_evL hm k x d i n (by omega) (by omega)
    unfold F_X2_add_4
    rw [if_pos (show 0 < nI (i + 1) from nI_lt (a := 0) (by omega) (by omega))]
    simp (disch := omega) only [wm_kR, wm_kt, wm_kn, wm_kin, wm_kL, wm_kI, wm_ksI, wm_ksL, wm_kJ, wm_ksJ, kg_t, kl_v, Option.bind_some, mm_ek hm, ee_r hm (show 0 < 3 by decide), ee_r hm (show 1 < 3 by decide), ee_r hm (show 2 < 3 by decide), nI_pred, pk_m1, kin_e hm (show 0 < 3 by decide) (show i < 12 by omega), kin_e hm (show 1 < 3 by decide) (show i < 12 by omega), kin_e hm (show 2 < 3 by decide) (show i < 12 by omega), kin_e hm (show 0 < 3 by decide) (show i + 1 < 12 by omega), kin_e hm (show 1 < 3 by decide) (show i + 1 < 12 by omega), kin_e hm (show 2 < 3 by decide) (show i + 1 < 12 by omega), kx_nI, shI_step]
    exact ih
theorem cx_ev (hm : m ∈ mks) (k x d : Int32) (hN : 100 < N) : F_X2_add N (wm Mb I L) (ev m) k x d = some (wm Mb (evI I m k x d) L) := by
  unfold F_X2_add
  have h := cx_evL (Mb := Mb) (N := N) (I := I) (L := L) hm k x d 11 N (by omega) (by omega)
  have e : shI I m 11 = I := by
    funext a j
    exact if_neg (by omega)
  rw [e] at h
  exact h
theorem evI_o {k x d : Int32} {a : Nat} (h : a < m + 3 ∨ m + 6 < a) (j : Nat) : evI I m k x d a j = I a j := by
  unfold evI
  rw [up_ne (Or.inl (by unfold ev; omega)), up_ne (Or.inl (by unfold ek; omega)), up_ne (Or.inl (by unfold ek; omega)), up_ne (Or.inl (by unfold ek; omega))]
  exact if_neg (fun z => by have := z.1; unfold ek at this; omega)
theorem RM_ev (hi : RM I m r nb nt) (hR : RI r nb nt) (k x : Int32) : RM (evI I m k x (r 6)) m (rcR r k x) nb nt := by
  have h5 := hR.nb5
  have h24 := hR.nt24
  obtain ⟨e, he, g7⟩ := hR.g.2.2.2.2.2.2
  refine ⟨hi.nu.cg (fun b hb => evI_o (by unfold bd; omega) _) (fun s hs => evI_o (by unfold tr; omega) _) (fun s hs => Or.inl (evI_o (by unfold tr; omega) _)), ?_, hi.bb.cg (fun b hb j => evI_o (by unfold bd; omega) _) (fun b hb j => evI_o (by unfold ow; omega) _) (fun k h1 h2 => rcR_lo (by omega) (by omega)) h5, hi.tt.cg (fun s hs j => evI_o (by unfold tr; omega) _) (fun s hs w hw => rcR_lo (by omega) (by omega)), hi.n.cg (fun s hs j _ => evI_o (by unfold tr; omega) _) (fun s hs => rcR_lo (by omega) (by omega)), ?_⟩
  · exact hi.g.cg (fun j hj => evI_o (by omega) _) (fun k hk => rcR_lo (by omega) (by omega))
  · obtain ⟨h1, h2⟩ := hi.e
    have h3 := h2 e he g7
    have ec : evI I m k x (r 6) (ev m) 3 = rcR r k x 13 := by
      unfold evI
      rw [up_eq, h1, rcR_13]
      unfold kmin
      split <;> split <;> first | rfl | grind
    refine ⟨ec, fun e2 he2 h13 j hj => ?_⟩
    rw [rcR_13, g7, kmin12 he] at h13
    have h14 := (nI_eq (by omega) (by omega)).mp h13
    have d1 : ek m 1 ≠ ek m 0 := by unfold ek; omega
    have d2 : ek m 2 ≠ ek m 0 := by unfold ek; omega
    have d3 : ek m 2 ≠ ek m 1 := by unfold ek; omega
    have d4 : ∀ k, k < 3 → ek m k ≠ ev m := by intro k hk; unfold ek ev; omega
    unfold evI
    rw [up_ne (Or.inl (d4 0 (by decide))), up_ne (Or.inl (d4 1 (by decide))), up_ne (Or.inl (d4 2 (by decide))), up_ne (a' := ek m 0) (Or.inl d2.symm), up_ne (a' := ek m 0) (Or.inl d1.symm), up_ne (a' := ek m 1) (Or.inl d3.symm)]
    cases j with
    | zero =>
      rw [up_eq, up_eq, up_eq]
      exact ⟨(rcR_0).1.symm, (rcR_0).2.1.symm, (rcR_0).2.2.symm⟩
    | succ j =>
      have hs : ∀ k, k < 3 → shI I m 0 (ek m k) (j + 1) = I (ek m k) j := fun k hk => if_pos ⟨by
        have : k = 0 ∨ k = 1 ∨ k = 2 := by omega
        rcases this with rfl | rfl | rfl
        · exact Or.inl rfl
        · exact Or.inr (Or.inl rfl)
        · exact Or.inr (Or.inr rfl), by omega, by omega⟩
      rw [up_ne (Or.inr (by omega)), up_ne (Or.inr (by omega)), up_ne (Or.inr (by omega)), up_ne (Or.inr (by omega)), up_ne (Or.inr (by omega)), up_ne (Or.inr (by omega)), hs 0 (by decide), hs 1 (by decide), hs 2 (by decide), rcR_hi (by omega) (by omega), rcR_hi (by omega) (by omega), rcR_hi (by omega) (by omega)]
      have h4 := h3 j (by omega)
      rw [show 257 + 3 * (j + 1) - 3 = 257 + 3 * j by omega, show 258 + 3 * (j + 1) - 3 = 258 + 3 * j by omega, show 259 + 3 * (j + 1) - 3 = 259 + 3 * j by omega]
      exact h4
theorem FR_ev {k x d : Int32} : FR m I (evI I m k x d) := fun a j h => evI_o (by omega) j
end
