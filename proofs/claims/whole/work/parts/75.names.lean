/-! the whole text as a name: findTrader -/
section
variable {N : Nat} {I K : kInts} {L : kLngs} {n : Nat} {T : Nat → Nat} {r s f : Nat → Int32} {nb nt : Nat}
theorem rx_whole (hO : okT n T) (h10 : I 540 10 = nI n) (hb : ∀ k, k < n → I 547 k = nI (T k)) (hN : 1000 < N) : F_X12_wholeName N (wm Mb I L) 540 = some (wnv n T) := by
  have h800 := hO.1
  have loop : ∀ (k i w : Nat), i + k = n → k < w → i ≤ 6 → (∀ q, q < i → kd (T (0 + q)) = 1) → F_X12_wholeName_4 N (wm Mb I L) w 540 (nI (wv T 0 i)) (nI i) = some (wnv n T) := by
    intro k
    induction k with
    | zero =>
      intro i w e hw h6 hq
      obtain ⟨w, rfl⟩ : ∃ v, w = v + 1 := ⟨w - 1, by omega⟩
      have : i = n := by omega
      subst this
      unfold F_X12_wholeName_4
      simp (disch := omega) only [wm_kR, wm_kt, wm_kn, wm_kin, wm_kL, wm_kI, wm_ksI, wm_ksL, wm_kJ, wm_ksJ, kg_t, kl_v, Option.bind_some, sr_k, sr_0, sr_1, sr_2, sr_3, sr_4, sr_7, sr_8, sr_9, sr_26, sr_27, sr_28, h10, nI_ltP]
      rw [if_neg (by omega)]
      unfold wnv
      by_cases z : 1 ≤ i
      · rw [if_pos ⟨z, h6, hq⟩]
      · have : i = 0 := by omega
        subst this
        rw [if_neg (by omega)]
        rfl
    | succ k ih =>
      intro i w e hw h6 hq
      obtain ⟨w, rfl⟩ : ∃ v, w = v + 1 := ⟨w - 1, by omega⟩
      have hi : i < n := by omega
      have hB := hO.2 i
      unfold F_X12_wholeName_4
      simp (disch := omega) only [wm_kR, wm_kt, wm_kn, wm_kin, wm_kL, wm_kI, wm_ksI, wm_ksL, wm_kJ, wm_ksJ, kg_t, kl_v, Option.bind_some, sr_k, sr_0, sr_1, sr_2, sr_3, sr_4, sr_7, sr_8, sr_9, sr_26, sr_27, sr_28, h10, nI_ltP, kin_nI s48.1 s48.2 (show i < 800 by omega) (by decide), kx_nI, hb i hi, rx_small _ hB.2]
      rw [if_pos hi]
      by_cases c1 : kd (T i) = 1
      · simp only [c1, if_true, if_neg one0]
        have e6 : (nI i = 6) = (i = 6) := by
          apply propext
          exact nI_eq (a := i) (b := 6) (by omega) (by omega)
        by_cases c2 : i = 6
        · have e7 : nI i = 6 := by rw [e6]; exact c2
          simp only [e7, if_true]
          unfold wnv
          rw [if_neg (fun z => by have := z.2.1; omega)]
        · have e7 : ¬ nI i = 6 := by rw [e6]; exact c2
          simp only [e7, if_false]
          have hl := kd_1 c1
          have hwv : wv T 0 i < 1073741824 := by
            rw [wv_code (by omega)]
            exact code_30 h6 (fun q hq2 => by have := kd_1 (hq q hq2); show 1 ≤ T (0 + q) - 96 ∧ T (0 + q) - 96 ≤ 26; omega)
          have em : (32 : Int32) * nI (wv T 0 i) + nI (T i) - 96 = nI (wv T 0 (i + 1)) := by
            rw [wv_s, if_pos (by omega), Nat.zero_add, show (32 : Int32) = nI 32 from rfl, show (96 : Int32) = nI 96 from rfl, pk_mul, nI_add, pk_sub (by omega)]
            congr 1
            omega
          rw [em, nI_1]
          exact ih (i + 1) w (by omega) (by omega) (by omega) (fun q hq2 => by
            by_cases y : q = i
            · rw [y, Nat.zero_add]; exact c1
            · exact hq q (by omega))
      · simp only [c1, if_false, if_true]
        unfold wnv
        rw [if_neg (fun z => c1 (by have := z.2.2 i hi; rwa [Nat.zero_add] at this))]
  have h := loop n 0 N (by omega) (by omega) (by omega) (fun q hq => absurd hq (Nat.not_lt_zero _))
  exact h
theorem wnv_0 (h : 1 ≤ n ∧ n ≤ 6 ∧ ∀ q, q < n → kd (T (0 + q)) = 1) : wnv n T = nI (wv T 0 n) ∧ ¬ wnv n T = 0 := by
  have e : wnv n T = nI (wv T 0 n) := if_pos h
  refine ⟨e, ?_⟩
  have hf : ∀ q, q < n → 1 ≤ T (0 + q) - 96 ∧ T (0 + q) - 96 ≤ 26 := fun q hq => by have := kd_1 (h.2.2 q hq); omega
  rw [e, wv_code (by omega)]
  have h1 := code_ge (f := fun q => T (0 + q) - 96) h.1 hf
  have h2 := code_30 (f := fun q => T (0 + q) - 96) h.2.1 hf
  exact nI_ne0 (by omega) (by omega)
theorem nmZ.v {v : Int64} {c : Int32} (h : nmZ v c) (h0 : ¬ c = 0) : nmV v c := by
  obtain ⟨n, f, a1, a2, a3, a4⟩ := h
  by_cases z : n = 0
  · subst z
    exact absurd a4 h0
  · exact ⟨n, f, ⟨by omega, a1⟩, a2, a3, a4⟩
theorem fnd_0 {m : Nat} (h : RMn I m r nt) : fnd r nt 0 = none := by
  cases hf : fnd r nt 0 with
  | none => rfl
  | some t =>
    have h1 := fnd_lt hf
    have h2 := (fndL_lt hf).2
    obtain ⟨n, f, a1, a2, -, a4⟩ := h t h1
    rw [h2] at a4
    have k1 := code_30 a1.2 a2
    have k2 := code_ge a1.1 a2
    exact absurd a4.symm (nI_ne0 (by omega) (by omega))
/-- the class reads the whole text as a name -/
theorem cx_whole (h : Rel I) (hN : 1000 < N) : ∃ n T v, (okT n T ∧ I 2 1 = nI n ∧ I 540 10 = nI n ∧ ∀ k, k < n → I 547 k = nI (T k)) ∧ F_X8_nameBetween N (wm Mb I L) 2 0 (nI n) = some v ∧ nmZ v (wnv n T) := by
  obtain ⟨⟨n, T, hO, hT, h10, hb⟩, -⟩ := h
  have a1 := cx_between (N := N) (I := I) (L := L) (p := 0) (l := n) hO hT (by omega) hN
  rw [Nat.zero_add] at a1
  refine ⟨n, T, _, ⟨hO, hT.1, h10, hb⟩, a1, ?_⟩
  by_cases b2 : 1 ≤ n ∧ n ≤ 6 ∧ ∀ q, q < n → kd (T (0 + q)) = 1
  · rw [if_pos b2, (wnv_0 b2).1]
    exact (read_nmV b2).z
  · rw [if_neg b2, show wnv n T = 0 from if_neg b2]
    exact nmZ_0
theorem sx_findTrader (h : Rel I) (hN : 1000 < N) : SameI (fun M => F_X11_findTrader N M 1) (fun M => F_X12_findTrader N M 540) I := by
  intro L
  obtain ⟨n, T, v, ⟨hO, h21, h10, hb⟩, a1, a4⟩ := cx_whole (L := L) h hN
  obtain ⟨nb, nt, hR, hM⟩ := h.2.2.1.row
  have h24 := hR.nt24
  have hN2 : 100 < N := by omega
  have hw : ∀ L', F_X12_wholeName N (wm Mb (tw6 I 0) L') 540 = some (wnv n T) := fun L' => rx_whole hO ((tw_o (by omega)).trans h10) (fun k hk => (tw_o (by omega)).trans (hb k hk)) hN
  have ht : ∀ L', F_X12_traderNamed N (wm Mb (tw6 I 0) L') 540 (wnv n T) = some (rOf (fnd (I 541) nt (wnv n T))) := fun L' => by
    have := rx_named (N := N) (I := tw6 I 0) (L := L') (f := I 546) h24 hR.r8 (wnv n T) hN2
    rw [tw_rf] at this
    exact this
  have hnm := cx_named (N := N) (L := L) m169 a4 h24 hR.r8 hM.tc hM.n hN2
  refine ⟨rOf (fnd (I 541) nt (wnv n T)), ?_, fun L' => ⟨tw6 I 0, L', ?_, h.tw, LF.rf'⟩⟩
  · show F_X11_findTrader N (wm Mb I L) 1 = _
    unfold F_X11_findTrader
    simp only [wm_kR, wm_kt, wm_kn, wm_kin, wm_kL, wm_kI, wm_ksI, wm_ksL, wm_kJ, wm_ksJ, kg_t, kl_v, Option.bind_some, x1_t.1, x1_t.2.1, x1_t.2.2.2.1, s2.1, h21, a1, mm_k m169, hnm]
    cases hf : fnd (I 541) nt (wnv n T) with
    | none => simp only [cOf, if_true, rOf]
    | some t =>
      have ht2 := fnd_lt hf
      simp only [cOf, tr_ne0, if_false, rOf, tt_k m169 (show t < 24 by omega), kg_t, hM.nu.2.1 t (show t < 24 by omega)]
  · show F_X12_findTrader N (wm Mb I L') 540 = _
    unfold F_X12_findTrader
    simp only [wm_kR, wm_kt, wm_kn, wm_kin, wm_kL, wm_kI, wm_ksI, wm_ksL, wm_kJ, wm_ksJ, kg_t, kl_v, Option.bind_some, sr_k, sr_0, sr_1, sr_2, sr_3, sr_4, sr_7, sr_8, sr_9, sr_26, sr_27, sr_28, tw_fd, hw]
    by_cases b2 : wnv n T = 0
    · simp only [b2, if_true, fnd_0 hM.n, rOf]
    · simp only [b2, if_false, ht, Option.bind_some]
end
