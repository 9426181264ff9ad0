/-! truncate, outputByte, findTrader -/
section
variable {N : Nat} {I K : kInts} {L : kLngs} {n : Nat} {T : Nat → Nat} {r s f : Nat → Int32} {nb nt : Nat}
theorem num_not {k n : Nat} (hk : k < n) (hn : n < 1000) : ¬ (nI k < 0 ∨ nI n ≤ nI k) := by
  rw [nI_lt0 (show k < 2147483648 by omega), Int32.le_iff_lt_or_eq, nI_ltI (by omega) (by omega)]
  rintro (z | z | z)
  · exact z
  · omega
  · have := (nI_eq (by omega) (by omega)).mp z; omega
theorem sx_outputByte (h : Rel I) (x : Int32) : SameI (fun M => F_X11_outputByte N M 1 x) (fun M => F_X12_outputByte N M 540 x) I := by
  obtain ⟨k, hk, h4, h29, hb⟩ := h.2.2.2.2.2.2.1
  intro L
  have h52 : kt Mb 551 13 = true ∧ kn Mb 551 = 200 := kt_of 551 (by decide)
  have hs5 : kt Mb 5 13 = true ∧ kn Mb 5 = 800 := sh_a.1 5 (by decide)
  have e29 : tw6 I 0 540 29 = nI k := (tw_o (by omega)).trans h29
  rcases num_cases x (show k < 1000 by omega) with ⟨i, hi, rfl⟩ | hx
  · have h0 := num_not hi (show k < 1000 by omega)
    have hn0 : ¬ nI i < 0 := fun z => h0 (Or.inl z)
    refine ⟨I 551 i, ?_, fun L' => ⟨tw6 I 0, L', ?_, h.tw, LF.rf'⟩⟩
    · show F_X11_outputByte N (wm Mb I L) 1 (nI i) = _
      unfold F_X11_outputByte F_X8_byteAt
      simp (disch := omega) only [wm_kR, wm_kt, wm_kn, wm_kin, wm_kL, wm_kI, wm_ksI, wm_ksL, wm_kJ, wm_ksJ, kg_t, kl_v, Option.bind_some, x1_t.1, x1_t.2.2.2.2.1, s4.1, s4.2, hn0, if_false, h4, nI_ltP, hs5.1, hs5.2, ofNnI, kin_nI hs5.1 hs5.2 (show i < 800 by omega) (by decide), kx_nI, hb i hi]
      rw [if_pos hi, if_pos (by omega)]
      rfl
    · show F_X12_outputByte N (wm Mb I L') 540 (nI i) = _
      unfold F_X12_outputByte
      simp only [wm_kR, wm_kt, wm_kn, wm_kin, wm_kL, wm_kI, wm_ksI, wm_ksL, wm_kJ, wm_ksJ, kg_t, kl_v, Option.bind_some, sr_k, sr_0, sr_1, sr_2, sr_3, sr_4, sr_7, sr_8, sr_9, sr_26, sr_27, sr_28, tw_fd, e29, in0 _ _ (show k < 1000 by omega), if_neg h0, if_neg one0, kin_nI h52.1 h52.2 (show i < 200 by omega) (by decide), kx_nI (show i < 2147483648 by omega)]
      rw [tw_o (by omega)]
  · refine ⟨-1, ?_, fun L' => ⟨tw6 I 0, L', ?_, h.tw, LF.rf'⟩⟩
    · show F_X11_outputByte N (wm Mb I L) 1 x = _
      unfold F_X11_outputByte F_X8_byteAt
      by_cases c : x < 0
      · simp only [wm_kR, wm_kt, wm_kn, wm_kin, wm_kL, wm_kI, wm_ksI, wm_ksL, wm_kJ, wm_ksJ, kg_t, kl_v, Option.bind_some, x1_t.1, x1_t.2.2.2.2.1, s4.1, c, if_true]
      · have : ¬ x < nI k := Int32.not_lt.mpr (hx.resolve_left c)
        simp only [wm_kR, wm_kt, wm_kn, wm_kin, wm_kL, wm_kI, wm_ksI, wm_ksL, wm_kJ, wm_ksJ, kg_t, kl_v, Option.bind_some, x1_t.1, x1_t.2.2.2.2.1, s4.1, c, if_false, h4, this]
    · show F_X12_outputByte N (wm Mb I L') 540 x = _
      unfold F_X12_outputByte
      simp only [wm_kR, wm_kt, wm_kn, wm_kin, wm_kL, wm_kI, wm_ksI, wm_ksL, wm_kJ, wm_ksJ, kg_t, kl_v, Option.bind_some, sr_k, sr_0, sr_1, sr_2, sr_3, sr_4, sr_7, sr_8, sr_9, sr_26, sr_27, sr_28, tw_fd, e29, in0 _ _ (show k < 1000 by omega), if_pos hx, if_true]
theorem mks_ge {m : Nat} (h : m ∈ mks) : 44 ≤ m := by
  revert h
  simp only [mks, List.mem_cons, List.not_mem_nil, or_false]
  omega
/-- another text -/
theorem Rel.txt (h : Rel I) (k1 : ∀ a j, ¬ (a = 2 ∧ j = 1) → a ≠ 3 → a ≠ 547 → ¬ (a = 540 ∧ (j = 6 ∨ j = 10)) → K a j = I a j) (hT : RelT K) : Rel K := by
  obtain ⟨-, hE, hMM, hNu, hH, hSl, hOu, hNm⟩ := h
  exact ⟨hT, ⟨by rw [k1 6 6 (by omega) (by omega) (by omega) (by omega), k1 540 18 (by omega) (by omega) (by omega) (by omega)]; exact hE.1, by rw [k1 6 7 (by omega) (by omega) (by omega) (by omega), k1 540 19 (by omega) (by omega) (by omega) (by omega)]; exact hE.2⟩, hMM.kp (fun x j y1 y2 => k1 x j (by omega) (by omega) (by omega) (by omega)) (fun k hk => k1 _ _ (by omega) (by omega) (by omega) (by omega)), fun m hm => (hNu m hm).kp (fun x j y1 y2 => k1 x j (by have := mks_sep hm; have := mks_ge hm; omega) (by have := mks_ge hm; omega) (by have := mks_sep hm; omega) (by have := mks_sep hm; omega)), hH.kp (fun x j y => k1 x j (by omega) (by omega) (by omega) (by omega)), hSl.kp (fun x j y => k1 x j (by omega) (by omega) (by omega) (by omega)), hOu.kp (fun x j y => k1 x j (by omega) (by omega) (by omega) (by omega)), hNm.kp (fun x j y => k1 x j (by omega) (by omega) (by omega) (by omega))⟩
theorem sx_truncate (h : Rel I) (x : Int32) : SameX [(2, 1)] (fun M => F_X11_truncate N M 1 x) (fun M => F_X12_truncate N M 540 x) I := by
  obtain ⟨n, T, hO, hT, h10, hb⟩ := h.1
  have h800 := hO.1
  intro L
  have e10 : tw6 I 0 540 10 = nI n := (tw_o (by omega)).trans h10
  have hin : ∀ M, F_X12_in N M x.toInt64 0 ((nI n).toInt64) = some (if x < 0 ∨ nI n < x then 0 else 1) := by
    intro M
    have z := in1 (N := N) M x 0 (nI n)
    rw [show (0 : Int32).toInt64 = 0 from rfl] at z
    exact z
  by_cases hx : x < 0 ∨ nI n < x
  · refine ⟨.inr 2, I, ?_, fun L' => ⟨0, tw6 I 1, L', ?_, h.tw, LF.rf', Or.inr ⟨2, 1, rfl, by simp, tw_6⟩⟩⟩
    · show F_X11_truncate N (wm Mb I L) 1 x = _
      unfold F_X11_truncate
      simp only [wm_kR, wm_kt, wm_kn, wm_kin, wm_kL, wm_kI, wm_ksI, wm_ksL, wm_kJ, wm_ksJ, kg_t, kl_v, Option.bind_some, x1_t.1, x1_t.2.2.2.1, s2.1, hT.1, cx_range, if_pos hx, kbx]
    · show F_X12_truncate N (wm Mb I L') 540 x = _
      unfold F_X12_truncate F_X12_truncate_25
      simp only [wm_kR, wm_kt, wm_kn, wm_kin, wm_kL, wm_kI, wm_ksI, wm_ksL, wm_kJ, wm_ksJ, kg_t, kl_v, Option.bind_some, sr_k, sr_0, sr_1, sr_2, sr_3, sr_4, sr_7, sr_8, sr_9, sr_26, sr_27, sr_28, tw_fd, e10, hin, if_pos hx, if_true, rx_stopT one0 one0, if_neg one0]
  · obtain ⟨w, hw, rfl⟩ : ∃ w, w < n + 1 ∧ x = nI w := by
      rcases num_cases x (show n + 1 < 1000 by omega) with y | y | y
      · exact y
      · exact absurd (Or.inl y) hx
      · have : nI n < x := by
          have h1 : nI n < nI (n + 1) := (nI_ltI (by omega) (by omega)).mpr (by omega)
          grind
        exact absurd (Or.inr this) hx
    refine ⟨.inl (nI w), up I 2 1 (nI w), ?_, fun L' => ?_⟩
    · show F_X11_truncate N (wm Mb I L) 1 (nI w) = _
      unfold F_X11_truncate
      simp only [wm_kR, wm_kt, wm_kn, wm_kin, wm_kL, wm_kI, wm_ksI, wm_ksL, wm_kJ, wm_ksJ, kg_t, kl_v, Option.bind_some, x1_t.1, x1_t.2.2.2.1, s2.1, hT.1, cx_range, if_neg hx, kbx]
    · let K := up (tw6 (up I 2 1 (nI w)) 0) 540 10 (nI w)
      have k6 : K 540 6 = 0 := (up_ne (by omega)).trans tw_6
      have e10' : tw6 (up I 2 1 (nI w)) 0 540 10 = nI n := (tw_o (by omega)).trans ((up_ne (by omega)).trans h10)
      refine ⟨nI w, K, L', ?_, h.txt (fun a j y1 y2 y3 y4 => (up_ne (by omega)).trans ((tw_o (by omega)).trans (up_ne (by omega)))) ⟨w, T, ⟨by omega, hO.2⟩, ⟨?_, fun k hk => ?_⟩, up_eq, fun k hk => ?_⟩, LF.rf', Or.inl ⟨rfl, k6⟩⟩
      · show F_X12_truncate N (wm Mb (up I 2 1 (nI w)) L') 540 (nI w) = _
        unfold F_X12_truncate F_X12_truncate_25
        simp only [wm_kR, wm_kt, wm_kn, wm_kin, wm_kL, wm_kI, wm_ksI, wm_ksL, wm_kJ, wm_ksJ, kg_t, kl_v, Option.bind_some, sr_k, sr_0, sr_1, sr_2, sr_3, sr_4, sr_7, sr_8, sr_9, sr_26, sr_27, sr_28, tw_fd, e10', hin, if_neg hx, if_neg one0, rx_stopF, if_true]
        rfl
      · exact (up_ne (by omega)).trans ((tw_o (by omega)).trans up_eq)
      · exact (up_ne (by omega)).trans ((tw_o (by omega)).trans ((up_ne (by omega)).trans (hT.2 k (by omega))))
      · exact (up_ne (by omega)).trans ((tw_o (by omega)).trans ((up_ne (by omega)).trans (hb k (by omega))))
/-- the whole text as a name: the reference -/
def wnv (n : Nat) (T : Nat → Nat) : Int32 := if (1 ≤ n ∧ n ≤ 6 ∧ ∀ q, q < n → kd (T (0 + q)) = 1) then nI (wv T 0 n) else 0
end
