/-! the second pass of the reference -/
def QF (I I' : kInts) : Prop := ∀ a x, ¬ (a = 540 ∧ (12 ≤ x ∧ x ≤ 17 ∨ 22 ≤ x ∧ x ≤ 25)) → a ≠ 541 → a ≠ 546 → a ≠ 549 → a ≠ 550 → I' a x = I a x
/-- at token j, d brackets open, dn commands done, on row r; not over -/
def P2 (J : kInts) (L : kLngs) (n : Nat) (T : Nat → Nat) (j d dn : Nat) (r : Nat → Int32) : Prop := RS J L n T (.inl j) ∧ (¬ J 540 21 = 0 ∧ J 540 22 = 0) ∧ (J 540 24 = nI d ∧ J 540 25 = nI dn) ∧ J 541 = r
def OV (J : kInts) (L : kLngs) (n : Nat) (T : Nat → Nat) (dn : Nat) (r : Nat → Int32) : Prop := (∃ j, RS J L n T (.inl j)) ∧ ¬ J 540 22 = 0 ∧ J 540 25 = nI dn ∧ J 541 = r
section
variable {N : Nat} {I I' J : kInts} {L L' : kLngs} {n c i j k d q nb nt dn : Nat} {T : Nat → Nat} {r : Nat → Int32} {p : (Nat → Int32) × Nat}
theorem QF.rf' : QF I I := fun _ _ _ _ _ _ _ => rfl
theorem QF.trans {I1 I2 : kInts} (h : QF I I1) (h2 : QF I1 I2) : QF I I2 := fun a x y1 y2 y3 y4 y5 => (h2 a x y1 y2 y3 y4 y5).trans (h a x y1 y2 y3 y4 y5)
theorem SG_qf (h : SG I I') : QF I I' := fun a x y1 _ _ _ _ => h a x (by omega)
theorem rx_came0 (h : J 540 25 = nI dn) : F_X12_came N (wm Mb J L) 540 0 = some (wm Mb (up (up J 540 25 (nI dn)) 540 22 1) L) := by
  have e : nI dn + 0 = nI dn := by grind
  unfold F_X12_came F_X12_flag
  simp only [wm_kR, wm_kt, wm_kn, wm_kin, wm_kL, wm_kI, wm_ksI, wm_ksL, wm_kJ, wm_ksJ, kg_t, kl_v, Option.bind_some, sr_k, sr_0, sr_1, sr_2, sr_3, sr_4, sr_7, sr_8, sr_9, sr_26, sr_27, sr_28, h, if_true, e, hb01.1, Bool.and_self]
theorem rx_came1 (h : J 540 25 = nI dn) (hd : dn < 40) : F_X12_came N (wm Mb J L) 540 1 = some (wm Mb (up (up J 540 25 (nI (dn + 1))) 540 22 (if dn + 1 = 40 then 1 else 0)) L) := by
  have e25 : up J 540 25 (nI (dn + 1)) 540 25 = nI (dn + 1) := up_eq
  have e40 : (nI (dn + 1) = 40) = (dn + 1 = 40) := propext ⟨fun z => (nI_eq (b := 40) (by omega) (by decide)).mp z, fun z => by rw [z]; rfl⟩
  unfold F_X12_came F_X12_flag
  simp only [wm_kR, wm_kt, wm_kn, wm_kin, wm_kL, wm_kI, wm_ksI, wm_ksL, wm_kJ, wm_ksJ, kg_t, kl_v, Option.bind_some, sr_k, sr_0, sr_1, sr_2, sr_3, sr_4, sr_7, sr_8, sr_9, sr_26, sr_27, sr_28, h, if_neg one0, nI_1, e25, e40, hb01.1, hb01.2, Bool.and_self]
  by_cases z : dn + 1 = 40
  · simp only [if_pos z]
  · simp only [if_neg z]
/-- what follows the words of a command: its sign -/
theorem rx_tail {v25 v22 : Int32} {r' f' : Nat → Int32} {q : Nat} (h : RS J L n T (.inl q)) (hg : isG n T 59 q = true) (hN : 1000 < N) : ∃ J' L', F_X12_sign N (wm Mb (up (up (rf J r' f') 540 25 v25) 540 22 v22) L) 540 59 = some (wm Mb J' L') ∧ RS J' L' n T (.inl (q + 1)) ∧ QF J J' ∧ LF L L' ∧ (J' 540 24 = J 540 24 ∧ J' 540 25 = v25 ∧ J' 540 22 = v22 ∧ J' 541 = r') ∧ ∀ x, J' 549 x = J 549 x ∧ J' 550 x = J 550 x := by
  have h1 : RS (up (up (rf J r' f') 540 25 v25) 540 22 v22) L n T (.inl q) := (RS_rf h r' f').sg (fun a x y => (up_ne (by omega)).trans (up_ne (by omega))) rfl
  obtain ⟨J', L', a1, a2, a3, a4⟩ := rx_sgn (N := N) h1 (ch := 59) (by omega) hN
  rw [show nI 59 = 59 from rfl] at a1
  rw [stp_0 (by unfold cG; rw [if_pos hg])] at a2
  refine ⟨J', L', a1, a2, fun a x y1 y2 y3 y4 y5 => (a3 a x (by omega)).trans ((up_ne (by omega)).trans ((up_ne (by omega)).trans (rf_o x y2 y3))), a4, ⟨?_, ?_, ?_, ?_⟩, fun x => ⟨?_, ?_⟩⟩
  · exact (a3 _ _ (by omega)).trans ((up_ne (by omega)).trans ((up_ne (by omega)).trans (rf_o _ (by omega) (by omega))))
  · exact (a3 _ _ (by omega)).trans ((up_ne (by omega)).trans up_eq)
  · exact (a3 _ _ (by omega)).trans up_eq
  · exact funext fun x => (a3 _ _ (by omega)).trans ((up_ne (by omega)).trans (up_ne (by omega)))
  · exact (a3 _ _ (by omega)).trans ((up_ne (by omega)).trans ((up_ne (by omega)).trans (rf_o _ (by omega) (by omega))))
  · exact (a3 _ _ (by omega)).trans ((up_ne (by omega)).trans ((up_ne (by omega)).trans (rf_o _ (by omega) (by omega))))
theorem rx_ordF (h : RS J L n T (.inl j)) (hk : ¬ kdW n T j = 0) (h21 : ¬ J 540 21 = 0) : F_X12_order N (wm Mb J L) 540 = F_X12_order_45 N (wm Mb J L) 540 := by
  have hio := rx_isOrd (N := N) h
  rw [if_neg hk] at hio
  unfold F_X12_order
  simp only [wm_kR, wm_kt, wm_kn, wm_kin, wm_kL, wm_kI, wm_ksI, wm_ksL, wm_kJ, wm_ksJ, kg_t, kl_v, Option.bind_some, sr_k, sr_0, sr_1, sr_2, sr_3, sr_4, sr_7, sr_8, sr_9, sr_26, sr_27, sr_28, hio, rx_mustT, if_neg h21]
/-- a command in the second pass -/
theorem rx_cmd2 (hP : P2 J L n T j d dn p.1) (hh : hdO n T d j) (h8 : ¬ kdW n T j = 8) (hR : RI p.1 nb p.2) (hdn : dn < 40) (hN : 1000 < N) : ∃ J' L', F_X12_order N (wm Mb J L) 540 = some (wm Mb J' L') ∧ QF J J' ∧ LF L L' ∧ (∀ x, J' 549 x = J 549 x ∧ J' 550 x = J 550 x) ∧ RS J' L' n T (.inl (nxT n T j)) ∧ J' 540 24 = J 540 24 ∧ (exC N n T nb j p = none → OV J' L' n T dn p.1) ∧ ∀ p', exC N n T nb j p = some p' → RI p'.1 nb p'.2 ∧ J' 541 = p'.1 ∧ J' 540 25 = nI (dn + 1) ∧ J' 540 22 = if dn + 1 = 40 then 1 else 0 := by
  obtain ⟨h1, ⟨h21, h22⟩, ⟨h24, h25⟩, hr⟩ := hP
  obtain ⟨f1, -, f3⟩ := exC_eff hR hh h8 hN
  have ordE := rx_ordF (N := N) h1 hh.1 h21
  obtain ⟨I1, L1, a1, a2, a3, a4⟩ := rx_45a (nb := nb) (nt := p.2) h1 (by rw [hr]; exact hR) h8 hh h21 h22 hN
  have hnx := hh.nx
  rw [wlk_app] at hnx
  rw [wlk_len _ _ (okS_app hh.2)] at a1 hnx
  have eE : endC n T (kdW n T j) d = cG n T 59 := by unfold endC; rw [if_neg h8]
  rw [eE] at hnx
  have hg : isG n T 59 (j + 1 + (lsT n T (kdW n T j)).length) = true := by
    by_cases y : isG n T 59 (j + 1 + (lsT n T (kdW n T j)).length) = true
    · exact y
    · exfalso
      have e : wlk n T [cG n T 59] (.inl (j + 1 + (lsT n T (kdW n T j)).length)) = stp n T (.inl (j + 1 + (lsT n T (kdW n T j)).length)) (cG n T 59) := rfl
      rw [e, stp_e (by unfold cG; rw [if_neg y]; decide)] at hnx
      cases hnx
  have nx : nxT n T j = j + 1 + (lsT n T (kdW n T j)).length + 1 := by unfold nxT; omega
  have r1 : I1 541 = p.1 := (SG_s a2).trans hr
  have d1 : I1 540 25 = nI dn := (SG_21 a2 (by decide)).trans h25
  rw [hr] at a4
  obtain ⟨g1, g2⟩ := f3 I1 L1 r1
  cases hx : exC N n T nb j p with
  | none =>
    have e0 := g1 hx
    rw [rx_came0 d1] at e0
    have erf : rf I1 p.1 (I1 546) = I1 := j_rf r1
    obtain ⟨J', L', b1, b2, b3, b4, ⟨b5, b6, b7, b8⟩, b9⟩ := rx_tail (N := N) (v25 := nI dn) (v22 := 1) (r' := p.1) (f' := I1 546) a1 hg hN
    rw [erf] at b1
    refine ⟨J', L', ?_, (SG_qf a2).trans b3, a3.trans b4, fun x => ⟨(b9 x).1.trans (a2 _ _ (by omega)), (b9 x).2.trans (a2 _ _ (by omega))⟩, by rw [nx]; exact b2, b5.trans (SG_21 a2 (by decide)), fun _ => ⟨⟨_, b2⟩, by rw [b7]; decide, b6, b8⟩, (fun p' y => by cases y)⟩
    rw [ordE, a4, e0]
    simp only [wm_kR, wm_kt, wm_kn, wm_kin, wm_kL, wm_kI, wm_ksI, wm_ksL, wm_kJ, wm_ksJ, kg_t, kl_v, Option.bind_some, sr_k, sr_0, sr_1, sr_2, sr_3, sr_4, sr_7, sr_8, sr_9, sr_26, sr_27, sr_28, b1]
  | some p' =>
    obtain ⟨f', e0⟩ := g2 p' hx
    have d2 : rf I1 p'.1 f' 540 25 = nI dn := (rf_o _ (by omega) (by omega)).trans d1
    rw [rx_came1 d2 hdn] at e0
    obtain ⟨J', L', b1, b2, b3, b4, ⟨b5, b6, b7, b8⟩, b9⟩ := rx_tail (N := N) (v25 := nI (dn + 1)) (v22 := if dn + 1 = 40 then 1 else 0) (r' := p'.1) (f' := f') a1 hg hN
    refine ⟨J', L', ?_, (SG_qf a2).trans b3, a3.trans b4, fun x => ⟨(b9 x).1.trans (a2 _ _ (by omega)), (b9 x).2.trans (a2 _ _ (by omega))⟩, by rw [nx]; exact b2, b5.trans (SG_21 a2 (by decide)), (fun y => by cases y), fun q y => ?_⟩
    · rw [ordE, a4, e0]
      simp only [wm_kR, wm_kt, wm_kn, wm_kin, wm_kL, wm_kI, wm_ksI, wm_ksL, wm_kJ, wm_ksJ, kg_t, kl_v, Option.bind_some, sr_k, sr_0, sr_1, sr_2, sr_3, sr_4, sr_7, sr_8, sr_9, sr_26, sr_27, sr_28, b1]
    · cases y
      exact ⟨f1 _ hx, b8, b6, b7⟩
theorem sk_sk {x : Nat} : sk n T (sk n T x) = sk n T x := runs_stop (fun z => runs_end (k := 0) z)
/-- the end of a bracket in the second pass -/
theorem rx_clo2 {j0 s : Nat} (hP : P2 J L n T j (d + 1) dn r) (hd : d < 2) (hg : isG n T 41 j = true) (hs : s < 100) (h50 : J 549 d = nI (tS n T j0)) (h51 : J 550 d = nI (s + 1)) (hN : 1000 < N) : ∃ J' L', F_X12_closes N (wm Mb J L) 540 = (if s = 0 then F_X12_closes_81 N (wm Mb J' L') 540 else some (wm Mb J' L')) ∧ QF J J' ∧ LF L L' ∧ (∀ x, x ≠ d → J' 549 x = J 549 x ∧ J' 550 x = J 550 x) ∧ J' 549 d = nI (tS n T j0) ∧ J' 550 d = nI s ∧ P2 J' L' n T (if s = 0 then j else j0) (d + 1) dn r := by
  obtain ⟨h1, ⟨h21, h22⟩, ⟨h24, h25⟩, hr⟩ := hP
  have es : nI (d + 1) - 1 = nI d := pk_sub (a := d + 1) (b := 1) (by omega)
  have es2 : nI (s + 1) - 1 = nI s := pk_sub (a := s + 1) (b := 1) (by omega)
  let J1 := up J 550 d (nI s)
  have R1 : RS J1 L n T (.inl j) := h1.sg (fun a x y => up_ne (by omega)) rfl
  have e24 : J1 540 24 = nI (d + 1) := (up_ne (by omega)).trans h24
  have e21 : ¬ J1 540 21 = 0 := by rw [show J1 540 21 = J 540 21 from up_ne (by omega)]; exact h21
  have e51 : J1 550 d = nI s := up_eq
  have e50 : J1 549 d = nI (tS n T j0) := (up_ne (by omega)).trans h50
  have q1 : QF J J1 := fun a x y1 y2 y3 y4 y5 => up_ne (by omega)
  by_cases z : s = 0
  · rw [if_pos z]
    refine ⟨J1, L, ?_, q1, LF.rf', fun x hx => ⟨up_ne (by omega), up_ne (by omega)⟩, e50, e51, R1, ⟨e21, (up_ne (by omega)).trans h22⟩, ⟨e24, (up_ne (by omega)).trans h25⟩, funext fun x => (up_ne (by omega)).trans (by rw [hr])⟩
    have ns : ¬ (0 : Int32) < nI s := by rw [z]; decide
    unfold F_X12_closes F_X12_closes_13
    simp (disch := omega) only [wm_kR, wm_kt, wm_kn, wm_kin, wm_kL, wm_kI, wm_ksI, wm_ksL, wm_kJ, wm_ksJ, kg_t, kl_v, Option.bind_some, sr_k, sr_0, sr_1, sr_2, sr_3, sr_4, sr_7, sr_8, sr_9, sr_26, sr_27, sr_28, h24, nI_0lt, if_pos (show 0 < d + 1 by omega), rx_mustT, RS_ok h1, if_true, es, kin_nI s51r.1 s51r.2 (show d < 4 by omega) (by decide), kx_nI, h51, es2]
    rw [show up J 550 d (nI s) = J1 from rfl]
    simp (disch := omega) only [if_neg e21, e24, es, kin_nI s51r.1 s51r.2 (show d < 4 by omega) (by decide), kx_nI, wm_kR, wm_kt, wm_kn, wm_kin, wm_kL, wm_kI, wm_ksI, wm_ksL, wm_kJ, wm_ksJ, kg_t, kl_v, Option.bind_some, sr_k, sr_0, sr_1, sr_2, sr_3, sr_4, sr_7, sr_8, sr_9, sr_26, sr_27, sr_28, e51, if_neg (show ¬ 0 < s by omega), nI_0lt, if_pos z]
  · rw [if_neg z]
    let J2 := up J1 540 12 (nI (tS n T j0))
    have T2 : RT J2 n T := ⟨(up_ne (by omega)).trans R1.1.2.1, fun k hk => (up_ne (by omega)).trans (R1.1.2.2 k hk)⟩
    have hle := tS_le (n := n) (T := T) j0
    obtain ⟨J3, L3, b1, b2, b3, b4⟩ := rx_scan0 (N := N) (L := L) R1.1.1 j0 hN (n - tS n T j0) (tS n T j0) N J2 T2 up_eq (by omega) (by unfold tS; exact sk_sk) (by have := R1.1.1.1; omega)
    have b1' : F_X12_scan N (wm Mb J2 L) 540 = some (wm Mb J3 L3) := by
      unfold F_X12_scan
      exact b1
    have k3 : ∀ a x, ¬ (a = 540 ∧ 12 ≤ x ∧ x ≤ 15) → J3 a x = J1 a x := fun a x y => (b2 a x y).trans (up_ne (by omega))
    refine ⟨J3, L3, ?_, q1.trans (fun a x y1 y2 y3 y4 y5 => k3 a x (by omega)), b3, fun x hx => ⟨(k3 _ _ (by omega)).trans (up_ne (by omega)), (k3 _ _ (by omega)).trans (up_ne (by omega))⟩, (k3 _ _ (by omega)).trans e50, (k3 _ _ (by omega)).trans e51, ⟨⟨R1.1.1, ⟨(k3 _ _ (by omega)).trans R1.1.2.1, fun k hk => (k3 _ _ (by omega)).trans (R1.1.2.2 k hk)⟩⟩, b4, (k3 _ _ (by omega)).trans R1.2.2⟩, ⟨by rw [k3 _ _ (by omega)]; exact e21, (k3 _ _ (by omega)).trans ((up_ne (by omega)).trans h22)⟩, ⟨(k3 _ _ (by omega)).trans e24, (k3 _ _ (by omega)).trans ((up_ne (by omega)).trans h25)⟩, funext fun x => (k3 _ _ (by omega)).trans ((up_ne (by omega)).trans (by rw [hr]))⟩
    have ns : (0 : Int32) < nI s := nI_lt (a := 0) (by omega) (by omega)
    unfold F_X12_closes F_X12_closes_13
    simp (disch := omega) only [wm_kR, wm_kt, wm_kn, wm_kin, wm_kL, wm_kI, wm_ksI, wm_ksL, wm_kJ, wm_ksJ, kg_t, kl_v, Option.bind_some, sr_k, sr_0, sr_1, sr_2, sr_3, sr_4, sr_7, sr_8, sr_9, sr_26, sr_27, sr_28, h24, nI_0lt, if_pos (show 0 < d + 1 by omega), rx_mustT, RS_ok h1, if_true, es, kin_nI s51r.1 s51r.2 (show d < 4 by omega) (by decide), kx_nI, h51, es2]
    rw [show up J 550 d (nI s) = J1 from rfl]
    simp (disch := omega) only [if_neg e21, e24, es, kin_nI s51r.1 s51r.2 (show d < 4 by omega) (by decide), kin_nI s50r.1 s50r.2 (show d < 4 by omega) (by decide), kx_nI, wm_kR, wm_kt, wm_kn, wm_kin, wm_kL, wm_kI, wm_ksI, wm_ksL, wm_kJ, wm_ksJ, kg_t, kl_v, Option.bind_some, sr_k, sr_0, sr_1, sr_2, sr_3, sr_4, sr_7, sr_8, sr_9, sr_26, sr_27, sr_28, e51, e50, if_pos (show 0 < s by omega), nI_0lt, if_neg z]
    rw [show up J1 540 12 (nI (tS n T j0)) = J2 from rfl, b1']
    rfl
end
