variable {Mb : SMem}
section
variable {N n p j pk c nb nt k : Nat} {T : Nat → Nat} {ts us : List kTk} {r : Nat → Int32} {t b q a : Nat} {I : kInts} {L : kLngs} {cs : List Nat}
theorem tx_TVs (h : tkW 3 ts) : TVs (txL ts).length (cT (txL ts)) 0 ts :=
  tk_all ts 3 0 0 h rfl (Nat.zero_add _).symm (fun i hi => by
    rw [Nat.zero_add]
    unfold cT
    rw [if_pos hi])
theorem mks_44 {m : Nat} (h : m ∈ mks) : 44 ≤ m := by
  simp only [mks, List.mem_cons, List.not_mem_nil, or_false] at h
  omega
theorem cx_load (hN : 1000 < N) (hk3 : tkW 3 ts) (h : Rd2 N ts r nb nt k) (hW : RW r nb nt) (hk : k ≤ 20) (hC : CT I (txL ts).length (cT (txL ts))) (hl : (txL ts).length ≤ 340) (hb : ∀ i, i < (txL ts).length → 1 ≤ (txL ts).getD i 0 ∧ (txL ts).getD i 0 < 128) (hNu : ∀ m, m ∈ mks → Nu I m) {nx : Nat} (hnx : nx < 8) (h126 : I 126 1 = nI nx) : ∃ I', F_X11_load N (wm Mb I L) 1 = some (0, wm Mb I' L) ∧ CI I' r nb nt ∧ I' 6 7 = -1 ∧ ∀ a j, 539 < a → I' a j = I a j := by
  have h5 := hW.1.nb5
  have h24 := hW.1.nt24
  have hO : okT (txL ts).length (cT (txL ts)) := by
    refine ⟨by omega, fun k => ?_⟩
    unfold cT
    split
    · rename_i z
      have := hb k z
      omega
    · omega
  have s2' : kt Mb 2 8 = true ∧ kR Mb 2 0 = 3 := s2
  have k44 : kt Mb 44 4 = true := (kt_of (n := (cellAt 44).2) 44 (by decide)).1
  have k126 : kt Mb 126 3 = true := (kt_of (n := (cellAt 126).2) 126 (by decide)).1
  obtain ⟨I1, c1, a1, a2, a3, a4, a5, a6⟩ := cx_begin (Mb := Mb) (L := L) hO hC hN
  have n85 : (85 : Nat) ∈ mks := by decide
  have n44 : (44 : Nat) ∈ mks := by decide
  have hS1 : CS I1 (txL ts).length (cT (txL ts)) c1 (.inl 0) := by
    refine ⟨⟨hO, ⟨(a6 _ _ (by omega)).trans hC.1, fun k hk => (a6 _ _ (by omega)).trans (hC.2 k hk)⟩, a2⟩, a3, Nat.zero_le _, a4, a5⟩
  have kp1 : ∀ m, m ∈ mks → Nu I1 m := fun m hm => (hNu m hm).kp (fun x j y1 y2 => a6 x j (by
    have := mks_44 hm
    omega))
  obtain ⟨I2, e1, s2, m2, f2⟩ := rd_end h hW hk hN Mb I1 L (tx_TVs hk3) hS1 (kp1 85 n85)
  have ok2 : I2 6 6 = 0 := s2.ok
  have er2 : I2 6 7 = -1 := s2.er.2
  have kp2 : ∀ m, m ∈ mks → Nu (up I2 2 1 0) m := fun m hm => by
    by_cases z : m = 85
    · subst z
      exact m2.nu.kp (fun x j y1 y2 => up_ne (Or.inl (by omega)))
    · have hm' := hm
      simp only [mks, List.mem_cons, List.not_mem_nil, or_false] at hm'
      exact (kp1 m hm).kp (fun x j y1 y2 => (up_ne (Or.inl (by omega))).trans (f2 x j (by omega) (by omega)))
  have hap : ap 44 85 := Or.inl (by omega)
  obtain ⟨I4, c4, r4, u4, f4⟩ := cx_copy (Mb := Mb) (N := N) (L := L) n44 n85 hap (by omega) (kp2 44 n44) (kp2 85 n85)
  have m3 : RM (up I2 2 1 0) 85 r nb nt := m2.cI h5 h24 (fun a j y1 y2 => up_ne (Or.inl (by omega)))
  have m4 := r4 r nb nt h5 h24 m3
  refine ⟨up (up (up I4 126 2 0) 457 0 0) 457 1 0, ?_, ⟨⟨hW.1, hW.2.1⟩, ?_, ?_, ?_, ?_⟩, ?_, ?_⟩
  · unfold F_X11_load F_X11_beginMarketOfText F_X3_forget
    simp only [wm_kR, wm_kt, wm_kn, wm_kin, wm_kL, wm_kI, wm_ksI, wm_ksL, wm_kJ, wm_ksJ, kg_t, kl_v, Option.bind_some, sh_x.1, sh_x.2, s6.1, s2.1, k44, k126, a1, e1, cx_failed, c4]
    have z6 : up I2 2 1 0 6 6 = 0 := (up_ne (Or.inl (by decide))).trans ok2
    rw [s2'.1, kg_t, if_pos (show (if up I2 2 1 0 6 6 = 0 then (0 : Int32) else 1) = 0 by rw [if_pos z6]), cx_unfill hN, Option.bind_some]
    simp only [wm_kR, wm_kt, wm_kI, kg_t, sh_x.1, sh_x.2, s6.1]
    have e6 : up (up (up I4 126 2 0) 457 0 0) 457 1 0 6 6 = 0 := by
      rw [up_ne (Or.inl (by decide)), up_ne (Or.inl (by decide)), up_ne (Or.inl (by decide)), f4 _ _ (by omega)]
      exact z6
    rw [e6]
  · exact m4.cI h5 h24 (fun a j y1 y2 => (up_ne (Or.inl (by omega))).trans ((up_ne (Or.inl (by omega))).trans (up_ne (Or.inl (by omega)))))
  · intro m hm
    have hs := mks_sep hm
    have h4 : Nu I4 m := by
      by_cases z : m = 44
      · rw [z]; exact u4
      · have hm' := hm
        simp only [mks, List.mem_cons, List.not_mem_nil, or_false] at hm'
        exact (kp2 m hm).kp (fun x j y1 y2 => f4 x j (by omega))
    exact h4.kp (fun x j y1 y2 => (up_ne (Or.inl (by omega))).trans ((up_ne (Or.inl (by omega))).trans (up_ne (Or.inl (by omega)))))
  · refine ⟨nx, 0, hnx, by omega, ?_, ?_⟩
    · rw [up_ne (Or.inl (by decide)), up_ne (Or.inl (by decide)), up_ne (Or.inr (by decide)), f4 _ _ (by omega), up_ne (Or.inl (by decide)), f2 _ _ (by omega) (by omega), a6 _ _ (by omega)]
      exact h126
    · rw [up_ne (Or.inl (by decide)), up_ne (Or.inl (by decide)), up_eq]
      rfl
  · refine ⟨0, by omega, ?_⟩
    rw [up_ne (Or.inl (by decide)), up_ne (Or.inl (by decide)), up_ne (Or.inl (by decide)), f4 _ _ (by omega), up_eq]
    rfl
  · rw [up_ne (Or.inl (by decide)), up_ne (Or.inl (by decide)), up_ne (Or.inl (by decide)), f4 _ _ (by omega), up_ne (Or.inl (by decide))]
    exact er2
  · intro a j ha
    rw [up_ne (Or.inl (by omega)), up_ne (Or.inl (by omega)), up_ne (Or.inl (by omega)), f4 _ _ (by omega), up_ne (Or.inl (by omega)), f2 _ _ (by omega) (by omega), a6 _ _ (by omega)]
end
