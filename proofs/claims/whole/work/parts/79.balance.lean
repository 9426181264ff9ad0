/-! balancingSeat -/
def bsA (r : Nat → Int32) (b : Nat) (T w : Int32) : Nat → Nat → Int32 → Int32
  | 0, _, x => x
  | k + 1, q, x => if q = 6 ∨ ¬ r (si b q) = 0 then bsA r b T w k (q + 1) x else if x = 0 then bsA r b T w k (q + 1) (pz q) else if kabs (T + pz q * w) < kabs (T + x * w) then bsA r b T w k (q + 1) (pz q) else bsA r b T w k (q + 1) x
section
variable {N : Nat} {I : kInts} {L : kLngs} {r s f : Nat → Int32} {nb nt m : Nat}
theorem cx_bsL (hm : m ∈ mks) (hR : RI r nb nt) (hM : RM I m r nb nt) {b a : Nat} (hb : b < nb) (ra : r (14 + 15 * b + 0) = nI a) (ha : a ≤ 6) (T w : Int32) (k : Nat) : ∀ (q z : Nat) (x y : Int32), q + k = 7 + a → 6 - a ≤ q → k < z → (x = 0 ∨ y = kabs (T + x * w)) → F_X4_mostBalancingSeat_19 N (wm Mb I L) z (bd m b) w T x y (pz q) = some (bsA r b T w k q x) := by
  have h5 := hR.nb5
  have hb' : b < 5 := by omega
  have e1 : I (bd m b) 1 = pz (6 + a) := ((hM.bb b hb).1.trans ra).trans pz_a
  induction k with
  | zero =>
    intro q z x y e h1 hz hxy
    obtain ⟨z, rfl⟩ : ∃ v, z = v + 1 := ⟨z - 1, by omega⟩
    unfold F_X4_mostBalancingSeat_19
    simp only [wm_kR, wm_kt, wm_kn, wm_kin, wm_kL, wm_kI, wm_ksI, wm_ksL, wm_kJ, wm_ksJ, kg_t, kl_v, Option.bind_some, bb_k hm hb', e1]
    rw [if_pos ((pz_lt (by omega) (by omega)).mpr (by omega))]
    rfl
  | succ k ih =>
    intro q z x y e h1 hz hxy
    obtain ⟨z, rfl⟩ : ∃ v, z = v + 1 := ⟨z - 1, by omega⟩
    unfold F_X4_mostBalancingSeat_19 bsA
    simp only [wm_kR, wm_kt, wm_kn, wm_kin, wm_kL, wm_kI, wm_ksI, wm_ksL, wm_kJ, wm_ksJ, kg_t, kl_v, Option.bind_some, bb_k hm hb', e1, pz_s]
    rw [if_neg (fun y => by have := (pz_lt (by omega) (by omega)).mp y; omega)]
    by_cases c6 : q = 6
    · rw [if_pos (Or.inl c6), c6, cx_free6 hm hR hM hb]
      simp only [Option.bind_some, if_true]
      exact ih 7 z x y (by omega) (by omega) (by omega) hxy
    · rw [cx_free hm hR hM hb ra ha h1 (by omega) c6]
      by_cases c1 : r (si b q) = 0
      · have hn : ¬ (q = 6 ∨ ¬ r (si b q) = 0) := fun y => y.elim c6 (fun y => y c1)
        rw [if_neg hn]
        simp only [c1, if_true, Option.bind_some, if_neg one0]
        by_cases c2 : x = 0
        · simp only [c2, if_true]
          exact ih (q + 1) z _ _ (by omega) (by omega) (by omega) (Or.inr rfl)
        · have hy := hxy.resolve_left c2
          simp only [c2, if_false, hy]
          by_cases c3 : kabs (T + pz q * w) < kabs (T + x * w)
          · simp only [c3, if_true]
            exact ih (q + 1) z _ _ (by omega) (by omega) (by omega) (Or.inr rfl)
          · simp only [c3, if_false]
            exact ih (q + 1) z _ _ (by omega) (by omega) (by omega) (Or.inr rfl)
      · rw [if_pos (Or.inr c1)]
        simp only [c1, if_false, Option.bind_some, if_true]
        exact ih (q + 1) z x y (by omega) (by omega) (by omega) hxy
theorem rx_bsL (hR : RI r nb nt) {b a : Nat} (hb : b < nb) (ra : r (14 + 15 * b + 0) = nI a) (ha : a ≤ 6) (T w : Int32) (k : Nat) : ∀ (q z : Nat) (x : Int32), q + k = 7 + a → 6 - a ≤ q → k < z → F_X12_balancingSeat_58 N z (wm Mb (rf I r f) L) 540 (nI b) w x T (pz q) = some (bsA r b T w k q x, wm Mb (rf I r f) L) := by
  have h5 := hR.nb5
  have hb' : b < 5 := by omega
  have hob := rx_ofB0 (N := N) (I := I) (L := L) (r := r) (f := f) hb'
  rw [ra, pz_a (a := a)] at hob
  induction k with
  | zero =>
    intro q z x e h1 hz
    obtain ⟨z, rfl⟩ : ∃ v, z = v + 1 := ⟨z - 1, by omega⟩
    unfold F_X12_balancingSeat_58
    simp only [wm_kR, wm_kt, wm_kn, wm_kin, wm_kL, wm_kI, wm_ksI, wm_ksL, wm_kJ, wm_ksJ, kg_t, kl_v, Option.bind_some, sr_k, sr_0, sr_1, sr_2, sr_3, sr_4, sr_7, sr_8, sr_9, sr_26, sr_27, sr_28, hob]
    rw [if_pos ((pz_lt (by omega) (by omega)).mpr (by omega))]
    rfl
  | succ k ih =>
    intro q z x e h1 hz
    obtain ⟨z, rfl⟩ : ∃ v, z = v + 1 := ⟨z - 1, by omega⟩
    unfold F_X12_balancingSeat_58 bsA
    simp only [wm_kR, wm_kt, wm_kn, wm_kin, wm_kL, wm_kI, wm_ksI, wm_ksL, wm_kJ, wm_ksJ, kg_t, kl_v, Option.bind_some, sr_k, sr_0, sr_1, sr_2, sr_3, sr_4, sr_7, sr_8, sr_9, sr_26, sr_27, sr_28, hob]
    rw [if_neg (fun y => by have := (pz_lt (by omega) (by omega)).mp y; omega)]
    have e0 : (pz q = 0) = (q = 6) := propext (pz_eq0 (by omega))
    unfold F_X12_balancingSeat_89 F_X12_balancingSeat_90
    by_cases c6 : q = 6
    · rw [if_pos (Or.inl c6)]
      simp only [e0, c6, if_true, pz_s]
      exact ih 7 z x (by omega) (by omega) (by omega)
    · have hons := rx_onS (N := N) (I := I) (L := L) (r := r) (f := f) hb' (show q < 13 by omega) c6
      have em : (r (si b q) - 1 = -1) = (r (si b q) = 0) := by apply propext; constructor <;> intro z <;> grind
      simp only [e0, c6, if_false, hons, Option.bind_some, em, false_or]
      by_cases c1 : r (si b q) = 0
      · simp only [c1, not_true, if_true, if_false, if_neg one0, pz_s]
        by_cases c2 : x = 0
        · simp only [c2, if_true]
          exact ih (q + 1) z _ (by omega) (by omega) (by omega)
        · simp only [c2, if_false, rx_bare, Option.bind_some]
          by_cases c3 : kabs (T + pz q * w) < kabs (T + x * w)
          · simp only [c3, if_true]
            exact ih (q + 1) z _ (by omega) (by omega) (by omega)
          · simp only [c3, if_false]
            exact ih (q + 1) z _ (by omega) (by omega) (by omega)
      · simp only [c1, not_false_eq_true, if_true, if_false, pz_s]
        exact ih (q + 1) z x (by omega) (by omega) (by omega)
theorem sx_balancingSeat (h : Rel I) (x w : Int32) (hN : 100 < N) : SameX [(1, 1), (2, 2)] (fun M => F_X11_balancingSeat N M 1 x w) (fun M => F_X12_balancingSeat N M 540 x w) I := by
  obtain ⟨nb, nt, hR, hM⟩ := h.2.2.1.row
  have h5 := hR.nb5
  intro L
  rcases num_cases x (show nb < 1000 by omega) with ⟨b, hb, rfl⟩ | hx
  · by_cases hw : w < 1 ∨ 99 < w
    · refine ⟨.inr 2, I, ?_, fun L' => ⟨0, tw6 I 2, L', ?_, h.tw, LF.rf', Or.inr ⟨2, 2, rfl, by simp, tw_6⟩⟩⟩
      · show F_X11_balancingSeat N (wm Mb I L) 1 (nI b) w = _
        unfold F_X11_balancingSeat
        simp only [wm_kR, wm_kt, wm_kn, wm_kin, wm_kL, wm_kI, wm_ksI, wm_ksL, wm_kJ, wm_ksJ, kg_t, kl_v, Option.bind_some, x1_t.1, cx_exB_in hR hM hb, kbx, cx_range, if_pos hw]
      · show F_X12_balancingSeat N (wm Mb I L') 540 (nI b) w = _
        unfold F_X12_balancingSeat F_X12_balancingSeat_31
        simp only [wm_kR, wm_kt, wm_kn, wm_kin, wm_kL, wm_kI, wm_ksI, wm_ksL, wm_kJ, wm_ksJ, kg_t, kl_v, Option.bind_some, sr_k, sr_0, sr_1, sr_2, sr_3, sr_4, sr_7, sr_8, sr_9, sr_26, sr_27, sr_28, tw_fd, rx_noB_in hR hb, if_true, in_a, if_pos hw, rx_stopT two0 one0, if_neg one0]
    · obtain ⟨a, s', l, ha, -, -, ra, -⟩ := hR.b b hb
      refine ⟨.inl (bsA (I 541) b (tqr (I 541) nt b) w (2 * a + 1) (6 - a) 0), I, ?_, fun L' => ⟨bsA (I 541) b (tqr (I 541) nt b) w (2 * a + 1) (6 - a) 0, tw6 I 0, L', ?_, h.tw, LF.rf', Or.inl ⟨rfl, tw_6⟩⟩⟩
      · show F_X11_balancingSeat N (wm Mb I L) 1 (nI b) w = _
        have z := cx_bsL (N := N) (L := L) m169 hR hM hb ra (by omega) (tqr (I 541) nt b) w (2 * a + 1) (6 - a) N 0 0 (by omega) (by omega) (by omega) (Or.inl rfl)
        rw [← pz_na (show a ≤ 6 by omega)] at z
        unfold F_X11_balancingSeat F_X4_mostBalancingSeat
        simp only [wm_kR, wm_kt, wm_kn, wm_kin, wm_kL, wm_kI, wm_ksI, wm_ksL, wm_kJ, wm_ksJ, kg_t, kl_v, Option.bind_some, x1_t.1, x1_t.2.1, mm_k m169, cx_exB_in hR hM hb, kbx, cx_range, if_neg hw, cx_tq m169 (show b < 5 by omega) hR hM hN, bb_k m169 (show b < 5 by omega), (hM.bb b hb).1, ra, z]
      · show F_X12_balancingSeat N (wm Mb I L') 540 (nI b) w = _
        have z := rx_bsL (N := N) (I := tw6 I 0) (L := L') (f := I 546) hR hb ra (by omega) (tqr (I 541) nt b) w (2 * a + 1) (6 - a) N 0 (by omega) (by omega) (by omega)
        have hh := rx_tqr (N := N) (I := tw6 I 0) (L := L') (f := I 546) hR hb hN
        have hob := rx_ofB0 (N := N) (I := tw6 I 0) (L := L') (r := I 541) (f := I 546) (show b < 5 by omega)
        rw [tw_rf] at z hh hob
        rw [← pz_na (show a ≤ 6 by omega)] at z
        rw [ra] at hob
        unfold F_X12_balancingSeat F_X12_balancingSeat_31
        simp only [wm_kR, wm_kt, wm_kn, wm_kin, wm_kL, wm_kI, wm_ksI, wm_ksL, wm_kJ, wm_ksJ, kg_t, kl_v, Option.bind_some, sr_k, sr_0, sr_1, sr_2, sr_3, sr_4, sr_7, sr_8, sr_9, sr_26, sr_27, sr_28, tw_fd, rx_noB_in hR hb, if_true, in_a, if_neg hw, if_neg one0, rx_stopF, hh, hob, z]
  · refine ⟨.inr 1, I, ?_, fun L' => ⟨0, tw6 I 1, L', ?_, h.tw, LF.rf', Or.inr ⟨1, 1, rfl, by simp, tw_6⟩⟩⟩
    · show F_X11_balancingSeat N (wm Mb I L) 1 x w = _
      unfold F_X11_balancingSeat
      simp only [wm_kR, wm_kt, wm_kn, wm_kin, wm_kL, wm_kI, wm_ksI, wm_ksL, wm_kJ, wm_ksJ, kg_t, kl_v, Option.bind_some, x1_t.1, cx_exB_out hR hM hx, kbx]
    · show F_X12_balancingSeat N (wm Mb I L') 540 x w = _
      unfold F_X12_balancingSeat
      simp only [wm_kR, wm_kt, wm_kn, wm_kin, wm_kL, wm_kI, wm_ksI, wm_ksL, wm_kJ, wm_ksJ, kg_t, kl_v, Option.bind_some, sr_k, sr_0, sr_1, sr_2, sr_3, sr_4, sr_7, sr_8, sr_9, sr_26, sr_27, sr_28, tw_fd, rx_noB_out hR hx, if_neg one0]
end
