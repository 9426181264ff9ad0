/-! the whole text as a name: findTrader -/
theorem s167 : NA 167 168 := ⟨⟨(kt_of (n := 2) 167 (by decide)).1, rfl⟩, sh_a.2.2.1 168 (by decide)⟩
section
variable {N : Nat} {I K : kInts} {L : kLngs} {n : Nat} {T : Nat → Nat} {r s f : Nat → Int32} {nb nt : Nat}
theorem rx_whole (hO : okT n T) (h10 : I 1241 10 = nI n) (hb : ∀ k, k < n → I 1248 k = nI (T k)) (hN : 1000 < N) : F_X12_wholeName N (wm Mb I L) 1241 = some (wnv n T) := by
  have h800 := hO.1
  have loop : ∀ (k i w : Nat), i + k = n → k < w → i ≤ 6 → (∀ q, q < i → kd (T (0 + q)) = 1) → F_X12_wholeName_4 N (wm Mb I L) w 1241 (nI (wv T 0 i)) (nI i) = some (wnv n T) := by
    intro k
    induction k with
    | zero =>
      intro i w e hw h6 hq
      obtain ⟨w, rfl⟩ : ∃ v, w = v + 1 := ⟨w - 1, by omega⟩
      have : i = n := by omega
      subst this
      unfold F_X12_wholeName_4
      simp (disch := omega) only [wm_kR, wm_kt, wm_kn, wm_kin, wm_kL, wm_kI, wm_ksI, wm_ksL, kg_t, kl_v, Option.bind_some, sr_k, sr_0, sr_1, sr_2, sr_3, sr_4, sr_7, sr_8, sr_9, sr_26, sr_27, sr_28, h10, nI_ltP]
      rw [if_neg (by omega)]
      unfold wnv
      by_cases z : 1 ≤ i
      · rw [if_pos ⟨z, h6, hq⟩]
      · have : i = 0 := by omega
        subst this
        rw [if_neg (by omega)]
        rfl
    | succ k ih =>
      intro i w e hw h6 hq
      obtain ⟨w, rfl⟩ : ∃ v, w = v + 1 := ⟨w - 1, by omega⟩
      have hi : i < n := by omega
      have hB := hO.2 i
      unfold F_X12_wholeName_4
      simp (disch := omega) only [wm_kR, wm_kt, wm_kn, wm_kin, wm_kL, wm_kI, wm_ksI, wm_ksL, kg_t, kl_v, Option.bind_some, sr_k, sr_0, sr_1, sr_2, sr_3, sr_4, sr_7, sr_8, sr_9, sr_26, sr_27, sr_28, h10, nI_ltP, kin_nI s48.1 s48.2 (show i < 800 by omega) (by decide), kx_nI, hb i hi, rx_small _ hB.2]
      rw [if_pos hi]
      by_cases c1 : kd (T i) = 1
      · simp only [c1, if_true, if_neg one0]
        have e6 : (nI i = 6) = (i = 6) := by
          apply propext
          exact nI_eq (a := i) (b := 6) (by omega) (by omega)
        by_cases c2 : i = 6
        · have e7 : nI i = 6 := by rw [e6]; exact c2
          simp only [e7, if_true]
          unfold wnv
          rw [if_neg (fun z => by have := z.2.1; omega)]
        · have e7 : ¬ nI i = 6 := by rw [e6]; exact c2
          simp only [e7, if_false]
          have hl := kd_1 c1
          have hwv : wv T 0 i < 1073741824 := by
            rw [wv_code (by omega)]
            exact code_30 h6 (fun q hq2 => by have := kd_1 (hq q hq2); show 1 ≤ T (0 + q) - 96 ∧ T (0 + q) - 96 ≤ 26; omega)
          have em : (32 : Int32) * nI (wv T 0 i) + nI (T i) - 96 = nI (wv T 0 (i + 1)) := by
            rw [wv_s, if_pos (by omega), Nat.zero_add, show (32 : Int32) = nI 32 from rfl, show (96 : Int32) = nI 96 from rfl, pk_mul, nI_add, pk_sub (by omega)]
            congr 1
            omega
          rw [em, nI_1]
          exact ih (i + 1) w (by omega) (by omega) (by omega) (fun q hq2 => by
            by_cases y : q = i
            · rw [y, Nat.zero_add]; exact c1
            · exact hq q (by omega))
      · simp only [c1, if_false, if_true]
        unfold wnv
        rw [if_neg (fun z => c1 (by have := z.2.2 i hi; rwa [Nat.zero_add] at this))]
  have h := loop n 0 N (by omega) (by omega) (by omega) (fun q hq => absurd hq (Nat.not_lt_zero _))
  exact h
theorem wnv_0 (h : 1 ≤ n ∧ n ≤ 6 ∧ ∀ q, q < n → kd (T (0 + q)) = 1) : wnv n T = nI (wv T 0 n) ∧ ¬ wnv n T = 0 := by
  have e : wnv n T = nI (wv T 0 n) := if_pos h
  refine ⟨e, ?_⟩
  have hf : ∀ q, q < n → 1 ≤ T (0 + q) - 96 ∧ T (0 + q) - 96 ≤ 26 := fun q hq => by have := kd_1 (h.2.2 q hq); omega
  rw [e, wv_code (by omega)]
  have h1 := code_ge (f := fun q => T (0 + q) - 96) h.1 hf
  have h2 := code_30 (f := fun q => T (0 + q) - 96) h.2.1 hf
  exact nI_ne0 (by omega) (by omega)
/-- the class reads the whole text as a name -/
theorem cx_whole (h : Rel I) (hN : 1000 < N) : ∃ n T I' res, (okT n T ∧ I 2 1 = nI n ∧ I 1241 10 = nI n ∧ ∀ k, k < n → I 1248 k = nI (T k)) ∧ F_X5_read N (wm Mb I L) 167 2 0 (nI n) = some (res, wm Mb I' L) ∧ (∀ x j, x ≠ 167 → x ≠ 168 → I' x j = I x j) ∧ Rel I' ∧ (res = 1 ∧ ¬ wnv n T = 0 ∧ nmR I' 167 168 (wnv n T) ∨ res = 0 ∧ wnv n T = 0) := by
  have hr := h
  obtain ⟨⟨n, T, hO, hT, h10, hb⟩, hE, hMM, hNu, hH, hSl, hOu, hNm⟩ := hr
  obtain ⟨I', res, a1, a2, a3, a4⟩ := cx_read (N := N) (I := I) (L := L) (p := 0) (l := n) s167 (by decide) (by decide) hO hT (by omega) hN
  rw [Nat.zero_add] at a1
  have kk : ∀ x j, x ≠ 167 → x ≠ 168 → I' x j = I x j := fun x j y1 y2 => a2 x j y1 y2
  have hnm : nmE I' 167 168 := by
    rcases a4 with ⟨b1, b2, b3, b4⟩ | ⟨b1, b2, b3⟩
    · exact ⟨_, (read_nmR hO b2 b3 b4).q⟩
    · exact ⟨_, 0, fun _ => 0, by omega, fun k hk => absurd hk (Nat.not_lt_zero _), b3, fun k hk => absurd hk (Nat.not_lt_zero _), rfl⟩
  refine ⟨n, T, I', res, ⟨hO, hT.1, h10, hb⟩, a1, kk, ⟨(show RelT I from ⟨n, T, hO, hT, h10, hb⟩).kp (fun x j y => kk x j (by omega) (by omega)), ⟨by rw [kk 6 6 (by omega) (by omega), kk 1241 18 (by omega) (by omega)]; exact hE.1, by rw [kk 6 7 (by omega) (by omega), kk 1241 19 (by omega) (by omega)]; exact hE.2⟩, hMM.kp (fun x j y1 y2 => kk x j (by omega) (by omega)) (fun k hk => kk _ _ (by omega) (by omega)), fun m hm => (hNu m hm).kp (fun x j y1 y2 => kk x j (by have := mks_ge hm; omega) (by have := mks_ge hm; omega)), hH.kp (fun x j y => kk x j (by omega) (by omega)), hSl.kp (fun x j y => kk x j (by omega) (by omega)), hOu.kp (fun x j y => kk x j (by omega) (by omega)), ⟨hNm.1.kp (fun j => kk _ _ (by omega) (by omega)) (fun j => kk _ _ (by omega) (by omega)), hnm, fun i hi => ⟨(hNm.2.2 i hi).1.kp (fun j => kk _ _ (by omega) (by omega)) (fun j => kk _ _ (by omega) (by omega)), (hNm.2.2 i hi).2.kp (fun j => kk _ _ (by omega) (by omega)) (fun j => kk _ _ (by omega) (by omega))⟩⟩⟩, ?_⟩
  rcases a4 with ⟨b1, b2, b3, b4⟩ | ⟨b1, b2, b3⟩
  · obtain ⟨c1, c2⟩ := wnv_0 b2
    refine Or.inl ⟨b1, c2, ?_⟩
    rw [c1]
    exact read_nmR hO b2 b3 b4
  · exact Or.inr ⟨b1, if_neg b2⟩
theorem sx_findTrader (h : Rel I) (hN : 1000 < N) : Same0 (fun M => F_X11_findTrader N M 1) (fun M => F_X12_findTrader N M 1241) I := by
  intro L
  obtain ⟨n, T, I1, res, ⟨hO, h21, h10, hb⟩, a1, a2, a3, a4⟩ := cx_whole (L := L) h hN
  obtain ⟨nb, nt, hR, hM⟩ := a3.2.2.1.row
  have h24 := hR.nt24
  have hN2 : 100 < N := by omega
  have hw : ∀ L', F_X12_wholeName N (wm Mb (tw6 I1 0) L') 1241 = some (wnv n T) := fun L' => rx_whole hO ((tw_o (by omega)).trans ((a2 _ _ (by omega) (by omega)).trans h10)) (fun k hk => (tw_o (by omega)).trans ((a2 _ _ (by omega) (by omega)).trans (hb k hk))) hN
  have ht : ∀ L', F_X12_traderNamed N (wm Mb (tw6 I1 0) L') 1241 (wnv n T) = some (rOf (fnd (I1 1242) nt (wnv n T))) := fun L' => by
    have := rx_named (N := N) (I := tw6 I1 0) (L := L') (f := I1 1247) h24 hR.r8 (wnv n T) hN2
    rw [tw_rf] at this
    exact this
  rcases a4 with ⟨b1, b2, b3⟩ | ⟨b1, b2⟩
  · have hnm := cx_named (N := N) (L := L) m169 s167 b3.q h24 hR.r8 hM.tc hM.n hN2
    refine ⟨rOf (fnd (I1 1242) nt (wnv n T)), I1, ?_, fun L' => ⟨tw6 I1 0, L', ?_, a3.tw, LF.rf'⟩⟩
    · show F_X11_findTrader N (wm Mb I L) 1 = _
      unfold F_X11_findTrader
      simp only [wm_kR, wm_kt, wm_kn, wm_kin, wm_kL, wm_kI, wm_ksI, wm_ksL, kg_t, kl_v, Option.bind_some, x1_t.1, x1_t.2.1, x1_t.2.2.2.1, x1_t.2.2.2.2.2.2.1, s2.1, s167.1.1, h21, a1, b1, if_neg one0, mm_k m169, hnm]
      cases hf : fnd (I1 1242) nt (wnv n T) with
      | none => simp only [cOf, if_true, rOf]
      | some t =>
        have ht2 := fnd_lt hf
        simp only [cOf, tr_ne0, if_false, rOf, tt_k m169 (show t < 24 by omega), kg_t, hM.nu.2.1 t (show t < 24 by omega)]
    · show F_X12_findTrader N (wm Mb I1 L') 1241 = _
      unfold F_X12_findTrader
      simp only [wm_kR, wm_kt, wm_kn, wm_kin, wm_kL, wm_kI, wm_ksI, wm_ksL, kg_t, kl_v, Option.bind_some, sr_k, sr_0, sr_1, sr_2, sr_3, sr_4, sr_7, sr_8, sr_9, sr_26, sr_27, sr_28, tw_fd, hw, b2, if_false, ht]
  · refine ⟨-1, I1, ?_, fun L' => ⟨tw6 I1 0, L', ?_, a3.tw, LF.rf'⟩⟩
    · show F_X11_findTrader N (wm Mb I L) 1 = _
      unfold F_X11_findTrader
      simp only [wm_kR, wm_kt, wm_kn, wm_kin, wm_kL, wm_kI, wm_ksI, wm_ksL, kg_t, kl_v, Option.bind_some, x1_t.1, x1_t.2.1, x1_t.2.2.2.1, x1_t.2.2.2.2.2.2.1, s2.1, s167.1.1, h21, a1, b1, if_true]
    · show F_X12_findTrader N (wm Mb I1 L') 1241 = _
      unfold F_X12_findTrader
      simp only [wm_kR, wm_kt, wm_kn, wm_kin, wm_kL, wm_kI, wm_ksI, wm_ksL, kg_t, kl_v, Option.bind_some, sr_k, sr_0, sr_1, sr_2, sr_3, sr_4, sr_7, sr_8, sr_9, sr_26, sr_27, sr_28, tw_fd, hw, b2, if_true]
end
