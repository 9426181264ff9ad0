/-! append: both answer alike -/
section
variable {N : Nat} {I : kInts} {L : kLngs} {n : Nat} {T : Nat → Nat} {p : Nat × (Nat → Nat)}
def ad5 (p : Nat × (Nat → Nat)) (a b c d e : Int32) : Nat × (Nat → Nat) := ad4 (ad4 (ad4 (ad4 (ad4 p a) b) c) d) e
def ct5 (a b c d e : Int32) : Nat := ct a + ct b + ct c + ct d + ct e
theorem cx_add5 {a b c d e : Int32} (h : CT I p.1 p.2) (hn : p.1 + ct5 a b c d e ≤ 800) (hN : 100 < N) : ∃ I1 I2 I3 I4 I5, (F_X8_addBytesOf N (wm Mb I L) 2 a = some (wm Mb I1 L) ∧ F_X8_addBytesOf N (wm Mb I1 L) 2 b = some (wm Mb I2 L) ∧ F_X8_addBytesOf N (wm Mb I2 L) 2 c = some (wm Mb I3 L) ∧ F_X8_addBytesOf N (wm Mb I3 L) 2 d = some (wm Mb I4 L) ∧ F_X8_addBytesOf N (wm Mb I4 L) 2 e = some (wm Mb I5 L)) ∧ CT I5 (ad5 p a b c d e).1 (ad5 p a b c d e).2 ∧ CFt I I5 := by
  unfold ct5 at hn
  obtain ⟨I1, a1, a2, a3⟩ := cx_adds (N := N) (L := L) (x := a) h (by omega) hN
  obtain ⟨I2, b1, b2, b3⟩ := cx_adds (N := N) (L := L) (x := b) a2 (by rw [ad4_n]; omega) hN
  obtain ⟨I3, c1, c2, c3⟩ := cx_adds (N := N) (L := L) (x := c) b2 (by rw [ad4_n, ad4_n]; omega) hN
  obtain ⟨I4, d1, d2, d3⟩ := cx_adds (N := N) (L := L) (x := d) c2 (by rw [ad4_n, ad4_n, ad4_n]; omega) hN
  obtain ⟨I5, e1, e2, e3⟩ := cx_adds (N := N) (L := L) (x := e) d2 (by rw [ad4_n, ad4_n, ad4_n, ad4_n]; omega) hN
  exact ⟨I1, I2, I3, I4, I5, ⟨a1, b1, c1, d1, e1⟩, e2, (((a3.trans b3).trans c3).trans d3).trans e3⟩
theorem rx_add5 {a b c d e : Int32} (h : RB I p.1 p.2) (hn : p.1 + ct5 a b c d e ≤ 800) (hN : 100 < N) : ∃ I1 I2 I3 I4 I5, (F_X12_four N (wm Mb I L) 540 a = some (wm Mb I1 L) ∧ F_X12_four N (wm Mb I1 L) 540 b = some (wm Mb I2 L) ∧ F_X12_four N (wm Mb I2 L) 540 c = some (wm Mb I3 L) ∧ F_X12_four N (wm Mb I3 L) 540 d = some (wm Mb I4 L) ∧ F_X12_four N (wm Mb I4 L) 540 e = some (wm Mb I5 L)) ∧ RB I5 (ad5 p a b c d e).1 (ad5 p a b c d e).2 ∧ RFt I I5 := by
  unfold ct5 at hn
  obtain ⟨I1, a1, a2, a3⟩ := rx_four (N := N) (L := L) (x := a) h (by omega) hN
  obtain ⟨I2, b1, b2, b3⟩ := rx_four (N := N) (L := L) (x := b) a2 (by rw [ad4_n]; omega) hN
  obtain ⟨I3, c1, c2, c3⟩ := rx_four (N := N) (L := L) (x := c) b2 (by rw [ad4_n, ad4_n]; omega) hN
  obtain ⟨I4, d1, d2, d3⟩ := rx_four (N := N) (L := L) (x := d) c2 (by rw [ad4_n, ad4_n, ad4_n]; omega) hN
  obtain ⟨I5, e1, e2, e3⟩ := rx_four (N := N) (L := L) (x := e) d2 (by rw [ad4_n, ad4_n, ad4_n, ad4_n]; omega) hN
  exact ⟨I1, I2, I3, I4, I5, ⟨a1, b1, c1, d1, e1⟩, e2, (((a3.trans b3).trans c3).trans d3).trans e3⟩
theorem sx_append (h : Rel I) (a b c d e : Int32) (hN : 100 < N) : SameX [(3, 1)] (fun M => F_X11_append N M 1 a b c d e) (fun M => F_X12_append N M 540 a b c d e) I := by
  obtain ⟨n, T, hO, hT, h10, hb⟩ := h.1
  have h800 := hO.1
  intro L
  have l1 := ct_le a
  have l2 := ct_le b
  have l3 := ct_le c
  have l4 := ct_le d
  have l5 := ct_le e
  have sumC : nI n + (nI (ct a) + nI (ct b) + nI (ct c) + nI (ct d) + nI (ct e)) = nI (n + ct5 a b c d e) := by
    rw [nI_add, nI_add, nI_add, nI_add, nI_add]
    rfl
  have sumR : nI n + nI (ct a) + nI (ct b) + nI (ct c) + nI (ct d) + nI (ct e) = nI (n + ct5 a b c d e) := by
    rw [nI_add, nI_add, nI_add, nI_add, nI_add]
    congr 1
    unfold ct5
    omega
  have hc5 : ct5 a b c d e ≤ 20 := by unfold ct5; omega
  have l800 : (800 < nI (n + ct5 a b c d e)) = (800 < n + ct5 a b c d e) := by
    rw [show (800 : Int32) = nI 800 from rfl]
    exact nI_ltP (by omega) (by omega)
  have e10 : tw6 I 0 540 10 = nI n := (tw_o (by omega)).trans h10
  by_cases hx : 800 < n + ct5 a b c d e
  · refine ⟨.inr 3, I, ?_, fun L' => ⟨0, tw6 I 1, L', ?_, h.tw, LF.rf', Or.inr ⟨3, 1, rfl, by simp, tw_6⟩⟩⟩
    · show F_X11_append N (wm Mb I L) 1 a b c d e = _
      unfold F_X11_append
      simp only [cx_bytes _ _ hN, Option.bind_some, kl_v, wm_kR, wm_kt, wm_kn, wm_kin, wm_kL, wm_kI, wm_ksI, wm_ksL, wm_kJ, wm_ksJ, kg_t, kl_v, Option.bind_some, x1_t.1, x1_t.2.2.2.1, s2.1, hT.1, sumC, l800, hx, if_true]
    · show F_X12_append N (wm Mb I L') 540 a b c d e = _
      unfold F_X12_append F_X12_append_53
      simp only [wm_kR, wm_kt, wm_kn, wm_kin, wm_kL, wm_kI, wm_ksI, wm_ksL, wm_kJ, wm_ksJ, kg_t, kl_v, Option.bind_some, sr_k, sr_0, sr_1, sr_2, sr_3, sr_4, sr_7, sr_8, sr_9, sr_26, sr_27, sr_28, tw_fd, rx_bytes _ _ _ hN, e10, sumR, l800, hx, if_true, rx_stopT one0 one0, if_neg one0]
  · obtain ⟨I1, I2, I3, I4, I5, ⟨a1, a2, a3, a4, a5⟩, a6, a7⟩ := cx_add5 (N := N) (L := L) (p := (n, T)) (a := a) (b := b) (c := c) (d := d) (e := e) hT (by show n + ct5 a b c d e ≤ 800; omega) hN
    refine ⟨.inl (nI (ad5 (n, T) a b c d e).1), I5, ?_, fun L' => ?_⟩
    · show F_X11_append N (wm Mb I L) 1 a b c d e = _
      unfold F_X11_append
      simp only [cx_bytes _ _ hN, Option.bind_some, kl_v, wm_kR, wm_kt, wm_kn, wm_kin, wm_kL, wm_kI, wm_ksI, wm_ksL, wm_kJ, wm_ksJ, kg_t, kl_v, Option.bind_some, x1_t.1, x1_t.2.2.2.1, s2.1, hT.1, sumC, l800, hx, if_false, a1, a2, a3, a4, a5, a6.1]
    · have hRB : RB (tw6 I5 0) n T := ⟨(tw_o (by omega)).trans ((a7 _ _ (by omega) (by omega)).trans h10), fun k hk => (tw_o (by omega)).trans ((a7 _ _ (by omega) (by omega)).trans (hb k hk))⟩
      obtain ⟨J1, J2, J3, J4, J5, ⟨b1, b2, b3, b4, b5⟩, b6, b7⟩ := rx_add5 (N := N) (L := L') (p := (n, T)) (a := a) (b := b) (c := c) (d := d) (e := e) hRB (by show n + ct5 a b c d e ≤ 800; omega) hN
      have e10' : tw6 I5 0 540 10 = nI n := hRB.1
      refine ⟨nI (ad5 (n, T) a b c d e).1, J5, L', ?_, h.txt (fun x j y1 y2 y3 y4 => (b7 x j (by omega) y3).trans ((tw_o (by omega)).trans (a7 x j y1 y2))) ⟨_, _, ⟨?_, ?_⟩, ⟨(b7 _ _ (by omega) (by omega)).trans ((tw_o (by omega)).trans a6.1), fun k hk => (b7 _ _ (by omega) (by omega)).trans ((tw_o (by omega)).trans (a6.2 k hk))⟩, b6.1, b6.2⟩, LF.rf', Or.inl ⟨rfl, (b7 _ _ (by omega) (by omega)).trans tw_6⟩⟩
      · show F_X12_append N (wm Mb I5 L') 540 a b c d e = _
        unfold F_X12_append F_X12_append_53
        simp only [wm_kR, wm_kt, wm_kn, wm_kin, wm_kL, wm_kI, wm_ksI, wm_ksL, wm_kJ, wm_ksJ, kg_t, kl_v, Option.bind_some, sr_k, sr_0, sr_1, sr_2, sr_3, sr_4, sr_7, sr_8, sr_9, sr_26, sr_27, sr_28, tw_fd, rx_bytes _ _ _ hN, e10', sumR, l800, hx, if_false, rx_stopF, if_true, b1, b2, b3, b4, b5, b6.1]
      · unfold ad5
        rw [ad4_n, ad4_n, ad4_n, ad4_n, ad4_n]
        unfold ct5 at hx
        show n + ct a + ct b + ct c + ct d + ct e ≤ 800
        omega
      · exact ad4_ok _ (ad4_ok _ (ad4_ok _ (ad4_ok _ (ad4_ok _ hO.2))))
end
