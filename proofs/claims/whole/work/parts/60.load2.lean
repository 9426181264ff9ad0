/-! load of both -/
def Same0 (fc fr : kMem → Option (Int32 × kMem)) (I : kInts) : Prop := ∀ L, ∃ v I1, fc (wm Mb I L) = some (v, wm Mb I1 L) ∧ ∀ L', ∃ I2 L2, fr (wm Mb I1 L') = some (v, wm Mb I2 L2) ∧ Rel I2 ∧ LF L' L2
section
variable {N : Nat} {I : kInts} {L : kLngs} {n c : Nat} {T : Nat → Nat} {r s f : Nat → Int32} {nb nt : Nat}
theorem sh62 : kt Mb 457 14 = true ∧ kn Mb 457 = 2 := kt_of 457 (by decide)
theorem cx_unfill (hN : 1000 < N) : F_X11_beginMarketOfText_57 N N (wm Mb I L) 1 0 = some (wm Mb (up (up I 457 0 0) 457 1 0) L) := by
  obtain ⟨w, rfl⟩ : ∃ v, N = v + 3 := ⟨N - 3, by omega⟩
  have hb : ((0 : Int32) == 0 || (0 : Int32) == 1) = true := rfl
  have k0 : kin Mb 457 14 0 = true := by rw [show (0 : Int32) = nI 0 from rfl]; exact kin_nI sh62.1 sh62.2 (by decide) (by decide)
  have k1 : kin Mb 457 14 1 = true := by rw [show (1 : Int32) = nI 1 from rfl]; exact kin_nI sh62.1 sh62.2 (by decide) (by decide)
  have x0 : kx 0 = 0 := by decide
  have x1 : kx 1 = 1 := by decide
  unfold F_X11_beginMarketOfText_57
  simp only [wm_kR, wm_kt, wm_kn, wm_kin, wm_kL, wm_kI, wm_ksI, wm_ksL, wm_kJ, wm_ksJ, kg_t, kl_v, Option.bind_some, sh_x.1, sh_x.2.2.2.2.2.2.2.2.2, sh62.1, sh62.2, k0, hb, Bool.and_self, x0]
  rw [if_pos (by decide)]
  unfold F_X11_beginMarketOfText_57
  simp only [show (0 : Int32) + 1 = 1 from rfl, wm_kR, wm_kt, wm_kn, wm_kin, wm_kL, wm_kI, wm_ksI, wm_ksL, wm_kJ, wm_ksJ, kg_t, kl_v, Option.bind_some, sh_x.1, sh_x.2.2.2.2.2.2.2.2.2, sh62.1, sh62.2, k1, hb, Bool.and_self, x1]
  rw [if_pos (by decide)]
  unfold F_X11_beginMarketOfText_57
  simp only [show (1 : Int32) + 1 = 2 from rfl, wm_kR, wm_kt, wm_kn, wm_kin, wm_kL, wm_kI, wm_ksI, wm_ksL, wm_kJ, wm_ksJ, kg_t, kl_v, Option.bind_some, sh_x.1, sh_x.2.2.2.2.2.2.2.2.2, sh62.1, sh62.2]
  rw [if_neg (by decide)]
theorem RelM.row (h : RelM I 44 541 0) : ∃ nb nt, RI (I 541) nb nt ∧ RM I 44 (I 541) nb nt := by
  obtain ⟨nb, nt, h1, h2⟩ := h
  rw [rw_0] at h1 h2
  exact ⟨nb, nt, h1, h2⟩
theorem RelM.of (h1 : RI (I 541) nb nt) (h2 : RM I 44 (I 541) nb nt) : RelM I 44 541 0 := ⟨nb, nt, by rw [rw_0]; exact h1, by rw [rw_0]; exact h2⟩
def ErC (I : kInts) (σ : sg) : Prop := match σ with
  | .inl _ => I 6 6 = 0 ∧ I 6 7 = -1
  | .inr x => I 6 6 = nI x.1 ∧ (1 ≤ x.1 ∧ x.1 ≤ 5) ∧ I 6 7 = nI x.2
theorem CS.er {σ : sg} (h : CS I n T c σ) : ErC I σ := by
  cases σ with
  | inl j => exact h.2.2.2
  | inr x => exact ⟨h.2.1, h.2.2.1, h.2.2.2.1⟩
theorem ErC.kp {I' : kInts} {σ : sg} (h : ErC I σ) (e : ∀ j, 5 < j → I' 6 j = I 6 j) : ErC I' σ := by
  cases σ with
  | inl j => exact ⟨(e _ (by decide)).trans h.1, (e _ (by decide)).trans h.2⟩
  | inr x => exact ⟨(e _ (by decide)).trans h.1, h.2.1, (e _ (by decide)).trans h.2.2⟩
theorem mks_far {m : Nat} (h : m ∈ mks) (h1 : m ≠ 44) (h2 : m ≠ 85) : 128 ≤ m := by
  revert h1 h2
  revert h
  simp only [mks, List.mem_cons, List.not_mem_nil, or_false]
  omega
theorem mks_sep {m : Nat} (h : m ∈ mks) : m + 41 ≤ 126 ∨ 128 ≤ m ∧ m + 41 ≤ 456 ∨ 458 ≤ m ∧ m + 41 ≤ 540 := by
  revert h
  simp only [mks, List.mem_cons, List.not_mem_nil, or_false]
  omega
theorem cx_load (h : Rel I) (hN : 1000 < N) : ∃ I1 n T σ r nb nt, F_X11_load N (wm Mb I L) 1 = some (I1 6 6, wm Mb I1 L) ∧ (okT n T ∧ I 540 10 = nI n ∧ ∀ k, k < n → I 547 k = nI (T k)) ∧ ErC I1 σ ∧ (okS σ = true → RI r nb nt ∧ RM I1 44 r nb nt ∧ r 9 = nI (tot r nt)) ∧ I1 2 1 = 0 ∧ (okS σ = true → I1 126 2 = 0 ∧ I1 457 0 = 0 ∧ I1 457 1 = 0) ∧ (okS σ = false → ∀ a j, 44 ≤ a → a < 85 ∨ 126 ≤ a → I1 a j = I a j) ∧ True ∧ (∀ m, m ∈ mks → Nu I1 m) ∧ (∀ a j, a = 4 ∨ a = 5 ∨ 10 ≤ a ∧ a < 44 ∨ a = 126 ∧ j = 1 ∨ 127 ≤ a ∧ a ≠ 457 → I1 a j = I a j) ∧ (∀ (J : kInts) (LJ : kLngs), RS J LJ n T (.inl 0) → (∀ k, k < 293 → J 541 k = 0) → ∃ J' LJ', F_X12_setup N (wm Mb J LJ) 540 = some (wm Mb J' LJ') ∧ RD J' LJ' n T σ r ∧ RFr J J' ∧ LF LJ LJ') := by
  obtain ⟨⟨n, T, hO, hT, h10, hb⟩, hE, hM, hNu, hH, hSl, hOu, hNm⟩ := h
  have hm : (44 : Nat) ∈ mks := by decide
  have hm2 : (85 : Nat) ∈ mks := by decide
  obtain ⟨I1, c, a1, a2, a3, a4, a5, a6⟩ := cx_begin (N := N) (L := L) hO hT hN
  have hS : CS I1 n T c (.inl 0) := ⟨⟨hO, ⟨(a6 _ _ (by omega)).trans hT.1, fun k hk => (a6 _ _ (by omega)).trans (hT.2 k hk)⟩, a2⟩, a3, Nat.zero_le _, a4, a5⟩
  obtain ⟨I2, σ, r, nb, nt, b1, b2, b3, b4⟩ := lk_setup (N := N) (L := L) hS ((hNu 85 hm2).kp (fun x j h1 h2 => a6 _ _ (by omega))) hN
  obtain ⟨c1, c2, ⟨c3, c4⟩, c5⟩ := b2
  have e2 : ∀ a j, a = 4 ∨ a = 5 ∨ 10 ≤ a ∧ a < 85 ∨ 126 ≤ a → I2 a j = I a j := fun a j ha => (b3 a j (by omega) (by omega)).trans (a6 _ _ (by omega))
  have nu2 : ∀ m, m ∈ mks → Nu I2 m := by
    intro m hmm
    by_cases z : m = 85
    · rw [z]; exact c2.nu
    · refine (hNu m hmm).kp (fun x j h1 h2 => e2 x j ?_)
      by_cases y : m = 44
      · omega
      · have := mks_far hmm y z
        omega
  have x0 : ∀ j, up I2 2 1 0 6 j = I2 6 j := fun j => up_ne (Or.inl (by decide))
  have e66 : F_X9_failed N (wm Mb (up I2 2 1 0) L) 6 = some (if I2 6 6 = 0 then 0 else 1) := by rw [cx_failed, x0]
  have RMu : RM (up I2 2 1 0) 85 r nb nt := c2.cI c3 c4 (fun a j h1 h2 => up_ne (Or.inl (by omega)))
  have nu3 : ∀ m, m ∈ mks → Nu (up I2 2 1 0) m := fun m hmm => (nu2 m hmm).kp (fun x j h1 h2 => up_ne (Or.inl (by
    have : 44 ≤ m := by
      by_cases y : m = 44
      · omega
      · by_cases z : m = 85
        · omega
        · have := mks_far hmm y z
          omega
    omega)))
  have pre : ∀ v I4, (F_X11_beginMarketOfText N (wm Mb I L) 1 = some (wm Mb I4 L)) → v = I4 6 6 → F_X11_load N (wm Mb I L) 1 = some (v, wm Mb I4 L) := by
    intro v I4 h1 h2
    unfold F_X11_load
    simp only [wm_kR, wm_kt, wm_kn, wm_kin, wm_kL, wm_kI, wm_ksI, wm_ksL, wm_kJ, wm_ksJ, kg_t, kl_v, Option.bind_some, sh_x.1, sh_x.2.2.2.1, s6.1, h1, h2]
  by_cases hok : okS σ = true
  · obtain ⟨hRI, h9, hpr⟩ := c5 hok
    have h66 : I2 6 6 = 0 := by
      cases σ with
      | inl j => exact c1.ok
      | inr x => cases hok
    obtain ⟨I4, d1, d2, d3, d4⟩ := cx_copy (N := N) (I := up I2 2 1 0) (L := L) hm hm2 (by unfold ap; omega) (by omega) (nu3 44 hm) (nu3 85 hm2)
    have RM4 := d2 r nb nt c3 c4 RMu
    have e4 : ∀ a j, a < 44 ∨ 85 ≤ a → I4 a j = up I2 2 1 0 a j := fun a j ha => d4 a j (by omega)
    have key : ∀ a j, a < 44 ∨ 85 ≤ a → ¬ (a = 126 ∧ j = 2) → ¬ (a = 457 ∧ (j = 0 ∨ j = 1)) → ¬ (a = 2 ∧ j = 1) → up (up (up I4 126 2 0) 457 0 0) 457 1 0 a j = I2 a j := by
      intro a j y1 y2 y3 y4
      rw [up_ne (by omega), up_ne (by omega), up_ne (by omega), e4 a j y1, up_ne (by omega)]
    have keyM : ∀ a j, 44 ≤ a → a < 85 → up (up (up I4 126 2 0) 457 0 0) 457 1 0 a j = I4 a j := by
      intro a j y1 y2
      rw [up_ne (by omega), up_ne (by omega), up_ne (by omega)]
    refine ⟨up (up (up I4 126 2 0) 457 0 0) 457 1 0, n, T, σ, r, nb, nt, pre _ _ ?_ rfl, ⟨hO, h10, hb⟩, c1.er.kp (fun j hj => key 6 j (by omega) (by omega) (by omega) (by omega)), fun _ => ⟨hRI, RM4.cI c3 c4 (fun a j y1 y2 => keyM a j y1 (by omega)), h9⟩, ?_, fun _ => ⟨?_, ?_, up_eq⟩, fun y => (by rw [hok] at y; cases y), trivial, fun m hmm => ?_, fun a j ha => ?_, ?_⟩
    · unfold F_X11_beginMarketOfText
      have hs2 : kt Mb 126 3 = true := (kt_of (n := 3) 126 (by decide)).1
      have hf : F_X3_forget N (wm Mb I4 L) 126 = some (wm Mb (up I4 126 2 0) L) := by
        unfold F_X3_forget
        simp only [wm_kR, wm_kt, wm_kn, wm_kin, wm_kL, wm_kI, wm_ksI, wm_ksL, wm_kJ, wm_ksJ, kg_t, kl_v, Option.bind_some, hs2]
      simp only [wm_kR, wm_kt, wm_kn, wm_kin, wm_kL, wm_kI, wm_ksI, wm_ksL, wm_kJ, wm_ksJ, kg_t, kl_v, Option.bind_some, sh_x.1, sh_x.2.1, sh_x.2.2.2.1, sh_x.2.2.2.2.2.1, sh_x.2.2.2.2.2.2.1, sh_x.2.2.2.2.2.2.2.1, s6.1, s2.1, mm_k hm, mm_k hm2, a1, b1, e66, h66, if_true, d1, hs2, hf, cx_unfill hN]
    · rw [up_ne (by omega), up_ne (by omega), up_ne (by omega), e4 _ _ (by omega), up_eq]
    · rw [up_ne (by omega), up_ne (by omega), up_eq]
    · rw [up_ne (by omega), up_eq]
    · by_cases z : m = 44
      · rw [z]
        exact d3.kp (fun x j y1 y2 => keyM x j y1 (by omega))
      · refine (nu2 m hmm).kp (fun x j h1 h2 => key x j ?_ ?_ ?_ ?_)
        all_goals
          by_cases y : m = 85
          · omega
          · have h3 := mks_far hmm z y
            have h4 := mks_sep hmm
            omega
    · rw [key a j (by omega) (by omega) (by omega) (by omega), e2 a j (by omega)]
    · intro J LJ hJ h0
      exact b4 J LJ hJ h0
  · have hokf : okS σ = false := by simpa using hok
    have h66 : ¬ I2 6 6 = 0 := by
      cases σ with
      | inl j => exact absurd rfl hok
      | inr x => exact CS.err c1
    have key : ∀ a j, ¬ (a = 2 ∧ j = 1) → up I2 2 1 0 a j = I2 a j := fun a j y => up_ne (by omega)
    refine ⟨up I2 2 1 0, n, T, σ, r, nb, nt, pre _ _ ?_ rfl, ⟨hO, h10, hb⟩, c1.er.kp (fun j hj => key 6 j (by omega)), fun y => absurd y hok, up_eq, fun y => absurd y hok, fun _ a j y1 y2 => (key a j (by omega)).trans (e2 a j (by omega)), trivial, nu3, fun a j ha => (key a j (by omega)).trans (e2 a j (by omega)), ?_⟩
    · unfold F_X11_beginMarketOfText
      simp only [wm_kR, wm_kt, wm_kn, wm_kin, wm_kL, wm_kI, wm_ksI, wm_ksL, wm_kJ, wm_ksJ, kg_t, kl_v, Option.bind_some, sh_x.1, sh_x.2.1, sh_x.2.2.2.1, sh_x.2.2.2.2.2.1, sh_x.2.2.2.2.2.2.1, s6.1, s2.1, mm_k hm2, a1, b1, e66, h66, if_false, if_neg one0]
    · intro J LJ hJ h0
      exact b4 J LJ hJ h0
end
