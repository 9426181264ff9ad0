variable {Mb : SMem}
def nz (x s : Int32) : Nat := if bt x s = 0 then 0 else 1
def ct (x : Int32) : Nat := nz x 24 + nz x 16 + nz x 8 + nz x 0
def ad (p : Nat × (Nat → Nat)) (x s : Int32) : Nat × (Nat → Nat) := if bt x s = 0 then p else (p.1 + 1, fun k => if k = p.1 then kx (bt x s) else p.2 k)
def ad4 (p : Nat × (Nat → Nat)) (x : Int32) : Nat × (Nat → Nat) := ad (ad (ad (ad p x 24) x 16) x 8) x 0
def RB (I : kInts) (n : Nat) (T : Nat → Nat) : Prop := I 540 10 = nI n ∧ ∀ k, k < n → I 547 k = nI (T k)
section
variable {N : Nat} {I : kInts} {L : kLngs} {n : Nat} {T : Nat → Nat} {p : Nat × (Nat → Nat)}
theorem ad_n (p : Nat × (Nat → Nat)) (x s : Int32) : (ad p x s).1 = p.1 + nz x s := by
  unfold ad nz
  split
  · rfl
  · rfl
theorem ad4_n (p : Nat × (Nat → Nat)) (x : Int32) : (ad4 p x).1 = p.1 + ct x := by
  unfold ad4 ct
  rw [ad_n, ad_n, ad_n, ad_n]
  omega
theorem ct_le (x : Int32) : ct x ≤ 4 := by
  have h : ∀ s, nz x s ≤ 1 := fun s => by unfold nz; split <;> omega
  have h1 := h 24
  have h2 := h 16
  have h3 := h 8
  have h4 := h 0
  unfold ct
  omega
theorem ad_ok (x s : Int32) (h : ∀ k, 1 ≤ p.2 k ∧ p.2 k ≤ 255) : ∀ k, 1 ≤ (ad p x s).2 k ∧ (ad p x s).2 k ≤ 255 := by
  intro k
  unfold ad
  by_cases c : bt x s = 0
  · rw [if_pos c]; exact h k
  · rw [if_neg c]
    show 1 ≤ (if k = p.1 then kx (bt x s) else p.2 k) ∧ (if k = p.1 then kx (bt x s) else p.2 k) ≤ 255
    by_cases d : k = p.1
    · rw [if_pos d]
      obtain ⟨v, hv, e⟩ := bt_num x s
      rw [e, kx_nI (by omega)]
      refine ⟨?_, hv⟩
      by_cases z : v = 0
      · subst z; exact absurd e c
      · omega
    · rw [if_neg d]; exact h k
theorem ad4_ok (x : Int32) (h : ∀ k, 1 ≤ p.2 k ∧ p.2 k ≤ 255) : ∀ k, 1 ≤ (ad4 p x).2 k ∧ (ad4 p x).2 k ≤ 255 := ad_ok _ _ (ad_ok _ _ (ad_ok _ _ (ad_ok _ _ h)))
theorem bt_nI (x s : Int32) : nI (kx (bt x s)) = bt x s := by
  obtain ⟨v, hv, e⟩ := bt_num x s
  rw [e, kx_nI (by omega)]
def CFt (I I' : kInts) : Prop := ∀ a j, ¬ (a = 2 ∧ j = 1) → a ≠ 3 → I' a j = I a j
def RFt (I I' : kInts) : Prop := ∀ a j, ¬ (a = 540 ∧ j = 10) → a ≠ 547 → I' a j = I a j
theorem CFt.trans {I1 I2 : kInts} (h : CFt I I1) (h2 : CFt I1 I2) : CFt I I2 := fun a j x1 x2 => (h2 a j x1 x2).trans (h a j x1 x2)
theorem RFt.trans {I1 I2 : kInts} (h : RFt I I1) (h2 : RFt I1 I2) : RFt I I2 := fun a j x1 x2 => (h2 a j x1 x2).trans (h a j x1 x2)
theorem ltn8 {s : Int32} (h : s = 24 ∨ s = 16 ∨ s = 8 ∨ s = 0) : ¬ s < 0 := by rcases h with rfl | rfl | rfl | rfl <;> decide
theorem cab_step {x s : Int32} (hs : s = 24 ∨ s = 16 ∨ s = 8 ∨ s = 0) (z : Nat) (h : CT I p.1 p.2) (hn : p.1 + nz x s ≤ 800) : ∃ I', F_X8_addBytesOf_3 N (z + 1) (wm Mb I L) 2 x s = F_X8_addBytesOf_3 N z (wm Mb I' L) 2 x (s + (-8)) ∧ CT I' (ad p x s).1 (ad p x s).2 ∧ CFt I I' := by
  by_cases c : bt x s = 0
  · refine ⟨I, ?_, by unfold ad; rw [if_pos c]; exact h, fun _ _ _ _ => rfl⟩
    rw [F_X8_addBytesOf_3]
    simp only [ltn8 hs, if_false, bt_u x hs, c, if_true, kl_v]
  · have hz : nz x s = 1 := by unfold nz; rw [if_neg c]
    have hp : p.1 < 800 := by omega
    have e1 : I 2 1 = nI p.1 := h.1
    have ea : nI p.1 + 1 = nI (p.1 + 1) := by rw [nI_succ]
    refine ⟨up (up I 3 p.1 (bt x s)) 2 1 (nI (p.1 + 1)), ?_, ?_, fun a j x1 x2 => (up_ne (by omega)).trans (up_ne (by omega))⟩
    · have e2 : ∀ v, up I 3 p.1 v 2 1 = nI p.1 := fun v => (up_ne (by omega)).trans e1
      rw [F_X8_addBytesOf_3]
      simp only [ltn8 hs, if_false, bt_u x hs, c, kl_v, wm_kR, wm_kt, wm_kn, wm_kin, wm_kL, wm_kI, wm_ksI, wm_ksL, wm_kJ, wm_ksJ, kg_t, kl_v, Option.bind_some, s2.1]
      unfold F_X8_add
      simp (disch := omega) only [wm_kR, wm_kt, wm_kn, wm_kin, wm_kL, wm_kI, wm_ksI, wm_ksL, wm_kJ, wm_ksJ, kg_t, kl_v, Option.bind_some, s2.1, s2.2, s3.1, s3.2, ofNnI, e1, nI_lt0, if_false, nI_ltP, hp, if_true, kin_3, kx_nI, e2, ea]
    · unfold ad
      rw [if_neg c]
      refine ⟨up_eq, fun k hk => ?_⟩
      show up (up I 3 p.1 (bt x s)) 2 1 (nI (p.1 + 1)) 3 k = nI (if k = p.1 then kx (bt x s) else p.2 k)
      have hk' : k < p.1 + 1 := hk
      rw [up_ne (by omega)]
      by_cases d : k = p.1
      · rw [if_pos d, d, up_eq, bt_nI]
      · rw [if_neg d, up_ne (by omega)]
        exact h.2 k (by omega)
theorem cx_adds {x : Int32} (h : CT I p.1 p.2) (hn : p.1 + ct x ≤ 800) (hN : 100 < N) : ∃ I', F_X8_addBytesOf N (wm Mb I L) 2 x = some (wm Mb I' L) ∧ CT I' (ad4 p x).1 (ad4 p x).2 ∧ CFt I I' := by
  obtain ⟨z, rfl⟩ : ∃ v, N = v + 5 := ⟨N - 5, by omega⟩
  unfold ct at hn
  obtain ⟨I1, a1, a2, a3⟩ := cab_step (Mb := Mb) (N := z + 5) (L := L) (x := x) (s := 24) (by decide) (z + 4) h (by omega)
  obtain ⟨I2, b1, b2, b3⟩ := cab_step (Mb := Mb) (N := z + 5) (L := L) (x := x) (s := 16) (by decide) (z + 3) a2 (by rw [ad_n]; omega)
  obtain ⟨I3, c1, c2, c3⟩ := cab_step (Mb := Mb) (N := z + 5) (L := L) (x := x) (s := 8) (by decide) (z + 2) b2 (by rw [ad_n, ad_n]; omega)
  obtain ⟨I4, d1, d2, d3⟩ := cab_step (Mb := Mb) (N := z + 5) (L := L) (x := x) (s := 0) (by decide) (z + 1) c2 (by rw [ad_n, ad_n, ad_n]; omega)
  refine ⟨I4, ?_, d2, ((a3.trans b3).trans c3).trans d3⟩
  have e1 : (24 : Int32) + (-8) = 16 := by decide
  have e2 : (16 : Int32) + (-8) = 8 := by decide
  have e3 : (8 : Int32) + (-8) = 0 := by decide
  rw [e1] at a1
  rw [e2] at b1
  rw [e3] at c1
  unfold F_X8_addBytesOf
  rw [a1, b1, c1, d1, F_X8_addBytesOf_3, if_pos (by decide)]
theorem cbs_step {x s : Int32} (M : kMem) (hs : s = 24 ∨ s = 16 ∨ s = 8 ∨ s = 0) (z y : Nat) : F_X11_bytesIn_5 N M (z + 1) x (nI y) s = F_X11_bytesIn_5 N M z x (nI (y + nz x s)) (s + (-8)) := by
  rw [F_X11_bytesIn_5]
  unfold nz
  by_cases c : bt x s = 0
  · simp only [ltn8 hs, if_false, bt_u x hs, c, if_true, kl_v, Nat.add_zero]
  · simp only [ltn8 hs, if_false, bt_u x hs, c, kl_v, nI_1]
theorem cx_bytes (M : kMem) (x : Int32) (hN : 100 < N) : F_X11_bytesIn N M x = some (nI (ct x)) := by
  obtain ⟨z, rfl⟩ : ∃ v, N = v + 5 := ⟨N - 5, by omega⟩
  have e1 : (24 : Int32) + (-8) = 16 := by decide
  have e2 : (16 : Int32) + (-8) = 8 := by decide
  have e3 : (8 : Int32) + (-8) = 0 := by decide
  unfold F_X11_bytesIn
  rw [show (0 : Int32) = nI 0 from rfl, cbs_step M (s := 24) (by decide) (z + 4) 0, e1, cbs_step M (s := 16) (by decide) (z + 3), e2, cbs_step M (s := 8) (by decide) (z + 2), e3, cbs_step M (s := 0) (by decide) (z + 1), F_X11_bytesIn_5, if_pos (by decide)]
  congr 2
  unfold ct
  omega
end
