/-! the reference: an order -/
def kcd (q : Nat) : Nat := if q = 1 then 343342 else if q = 2 then 2745 else if q = 3 then 12748485 else if q = 4 then 628108 else if q = 5 then 646192 else if q = 6 then 754917 else if q = 7 then 132915 else 609752116
/-- what is done once the words of a command at token j are read -/
def actQ (N : Nat) (n : Nat) (T : Nat → Nat) (r : Nat → Int32) (nt q j : Nat) : kMem → Option kMem :=
  if q = 1 then fun M => aJoin N M (nmc n T j) (nI (nuv n T (j + 1))) (nI (nuv n T (j + 2)))
  else if q = 2 then fun M => aBuy N M (rOf (fnd r nt (nmc n T j))) (nI (nuv n T (j + 1))) (sdV n T (.inl (j + 2)) * nI (nuv n T (j + 3)))
  else if q = 3 then fun M => aLeave N M (rOf (fnd r nt (nmc n T j)))
  else if q = 4 then fun M => aPair N M 1 (rOf (fnd r nt (nmc n T j))) (rOf (fnd r nt (nmc n T (j + 1)))) (nI (nuv n T (j + 2)))
  else if q = 5 then fun M => aPair N M 0 (rOf (fnd r nt (nmc n T j))) (rOf (fnd r nt (nmc n T (j + 1)))) 0
  else if q = 6 then fun M => aWhole N M 1 (nI (nuv n T j)) else fun M => aWhole N M 0 (nI (nuv n T j))
def OG (I I' : kInts) : Prop := ∀ a x, ¬ (a = 540 ∧ (12 ≤ x ∧ x ≤ 17 ∨ 22 ≤ x ∧ x ≤ 25)) → a ≠ 549 → a ≠ 550 → I' a x = I a x
section
variable {N : Nat} {I I' : kInts} {L L' : kLngs} {n c i j k d q nb nt : Nat} {T : Nat → Nat} {σ : sg}
theorem OG.rf' : OG I I := fun _ _ _ _ _ => rfl
theorem OG.trans {I1 I2 : kInts} (h : OG I I1) (h2 : OG I1 I2) : OG I I2 := fun a x y1 y2 y3 => (h2 a x y1 y2 y3).trans (h a x y1 y2 y3)
theorem SG_og (h : SG I I') : OG I I' := fun a x y1 _ _ => h a x (by omega)
theorem OG.u {x : Nat} {v : Int32} (h : OG I I') (hx : 22 ≤ x ∧ x ≤ 25) : OG I (up I' 540 x v) := fun a y y1 y2 y3 => (up_ne (by omega)).trans (h a y y1 y2 y3)
theorem OG.o {b x : Nat} {v : Int32} (h : OG I I') (hb : b = 549 ∨ b = 550) : OG I (up I' b x v) := fun a y y1 y2 y3 => (up_ne (Or.inl (by omega))).trans (h a y y1 y2 y3)
theorem OG.s (h : OG I I') : I' 541 = I 541 := funext fun j => h _ _ (by omega) (by omega) (by omega)
theorem rx_isOrd (h : RS I L n T (.inl j)) : F_X12_isOrder N (wm Mb I L) 540 = some (if kdW n T j = 0 then 0 else 1) := by
  have e1 : ∀ w : Nat, w < 1152921504606846976 → F_X12_isWord N (wm Mb I L) 540 (lN w) = some (if isW n T w j then 1 else 0) := fun w hw => rx_isW h hw
  have e343342 := e1 343342 (by decide)
  have e2745 := e1 2745 (by decide)
  have e12748485 := e1 12748485 (by decide)
  have e628108 := e1 628108 (by decide)
  have e646192 := e1 646192 (by decide)
  have e754917 := e1 754917 (by decide)
  have e132915 := e1 132915 (by decide)
  have e609752116 := e1 609752116 (by decide)
  unfold F_X12_isOrder
  unfold kdW
  rw [show lN 343342 = 343342 from rfl] at e343342
  rw [show lN 2745 = 2745 from rfl] at e2745
  rw [show lN 12748485 = 12748485 from rfl] at e12748485
  rw [show lN 628108 = 628108 from rfl] at e628108
  rw [show lN 646192 = 646192 from rfl] at e646192
  rw [show lN 754917 = 754917 from rfl] at e754917
  rw [show lN 132915 = 132915 from rfl] at e132915
  rw [show lN 609752116 = 609752116 from rfl] at e609752116
  simp only [wm_kR, wm_kt, wm_kn, wm_kin, wm_kL, wm_kI, wm_ksI, wm_ksL, wm_kJ, wm_ksJ, kg_t, kl_v, Option.bind_some, sr_k, sr_0, sr_1, sr_2, sr_3, sr_4, sr_7, sr_8, sr_9, sr_26, sr_27, sr_28, e343342, e2745, e12748485, e628108, e646192, e754917, e132915, e609752116]
  by_cases c1 : isW n T 343342 j = true
  · simp only [c1, if_true, if_neg one0]; rfl
  by_cases c2 : isW n T 2745 j = true
  · simp only [c1, c2, if_true, if_neg one0]; rfl
  by_cases c3 : isW n T 12748485 j = true
  · simp only [c1, c2, c3, if_true, if_neg one0]; rfl
  by_cases c4 : isW n T 628108 j = true
  · simp only [c1, c2, c3, c4, if_true, if_neg one0]; rfl
  by_cases c5 : isW n T 646192 j = true
  · simp only [c1, c2, c3, c4, c5, if_true, if_neg one0]; rfl
  by_cases c6 : isW n T 754917 j = true
  · simp only [c1, c2, c3, c4, c5, c6, if_true, if_neg one0]; rfl
  by_cases c7 : isW n T 132915 j = true
  · simp only [c1, c2, c3, c4, c5, c6, c7, if_true, if_neg one0]; rfl
  by_cases c8 : isW n T 609752116 j = true
  · simp only [c1, c2, c3, c4, c5, c6, c7, c8, if_true, if_neg one0]; rfl
  simp only [c1, c2, c3, c4, c5, c6, c7, c8, if_true]
  rfl
theorem isW_w {w : Nat} (h : isW n T w j = true) : wv T (tS n T j) (tL n T j) = w := by
  unfold isW at h
  rw [Bool.and_eq_true, Bool.and_eq_true] at h
  exact of_decide_eq_true h.2.2
theorem kcd_w (h : ¬ kdW n T j = 0) : wv T (tS n T j) (tL n T j) = kcd (kdW n T j) := by
  unfold kdW at h ⊢
  by_cases c1 : isW n T 343342 j = true
  · simp only [c1, if_true]; exact isW_w c1
  by_cases c2 : isW n T 2745 j = true
  · simp only [c1, c2, if_true]; exact isW_w c2
  by_cases c3 : isW n T 12748485 j = true
  · simp only [c1, c2, c3, if_true]; exact isW_w c3
  by_cases c4 : isW n T 628108 j = true
  · simp only [c1, c2, c3, c4, if_true]; exact isW_w c4
  by_cases c5 : isW n T 646192 j = true
  · simp only [c1, c2, c3, c4, c5, if_true]; exact isW_w c5
  by_cases c6 : isW n T 754917 j = true
  · simp only [c1, c2, c3, c4, c5, c6, if_true]; exact isW_w c6
  by_cases c7 : isW n T 132915 j = true
  · simp only [c1, c2, c3, c4, c5, c6, c7, if_true]; exact isW_w c7
  by_cases c8 : isW n T 609752116 j = true
  · simp only [c1, c2, c3, c4, c5, c6, c7, c8, if_true]; exact isW_w c8
  simp only [c1, c2, c3, c4, c5, c6, c7, c8] at h
  exact absurd rfl h
theorem rx_does (h : RS I L n T (.inl j)) (hR : RI (I 541) nb nt) (hq : 1 ≤ q ∧ q ≤ 7) (hN : 1000 < N) : RDW (F_X12_does N (wm Mb I L) 540 (lN (kcd q))) (actQ N n T (I 541) nt q j) I L n T q j := by
  have : q = 1 ∨ q = 2 ∨ q = 3 ∨ q = 4 ∨ q = 5 ∨ q = 6 ∨ q = 7 := by omega
  have fold : ∀ {F G : Option kMem} {A : kMem → Option kMem}, F = G → RDW G A I L n T q j → RDW F A I L n T q j := by
    rintro F G A rfl x
    exact x
  have bs : ∀ x : Option kMem, (x.bind fun M => some M) = x := fun x => by cases x <;> rfl
  rcases this with rfl | rfl | rfl | rfl | rfl | rfl | rfl
  · refine fold ?_ (rdw_1 h hN)
    unfold F_X12_does
    rw [show lN (kcd 1) = 343342 from rfl]
    simp only [wm_kR, wm_kt, wm_kn, wm_kin, wm_kL, wm_kI, wm_ksI, wm_ksL, wm_kJ, wm_ksJ, kg_t, kl_v, Option.bind_some, sr_k, sr_0, sr_1, sr_2, sr_3, sr_4, sr_7, sr_8, sr_9, sr_26, sr_27, sr_28, bs, show lg_cmp 343342 343342 = 0 by decide, if_true]
  · refine fold ?_ (rdw_2 h hR hN)
    unfold F_X12_does
    rw [show lN (kcd 2) = 2745 from rfl]
    simp only [wm_kR, wm_kt, wm_kn, wm_kin, wm_kL, wm_kI, wm_ksI, wm_ksL, wm_kJ, wm_ksJ, kg_t, kl_v, Option.bind_some, sr_k, sr_0, sr_1, sr_2, sr_3, sr_4, sr_7, sr_8, sr_9, sr_26, sr_27, sr_28, bs, show ¬ lg_cmp 2745 343342 = 0 by decide, show lg_cmp 2745 2745 = 0 by decide, if_true, if_false]
  · refine fold ?_ (rdw_3 h hR hN)
    unfold F_X12_does
    rw [show lN (kcd 3) = 12748485 from rfl]
    simp only [wm_kR, wm_kt, wm_kn, wm_kin, wm_kL, wm_kI, wm_ksI, wm_ksL, wm_kJ, wm_ksJ, kg_t, kl_v, Option.bind_some, sr_k, sr_0, sr_1, sr_2, sr_3, sr_4, sr_7, sr_8, sr_9, sr_26, sr_27, sr_28, bs, show ¬ lg_cmp 12748485 343342 = 0 by decide, show ¬ lg_cmp 12748485 2745 = 0 by decide, show lg_cmp 12748485 12748485 = 0 by decide, if_true, if_false]
  · refine fold ?_ (rdw_4 h hR hN)
    unfold F_X12_does F_X12_does_61
    rw [show lN (kcd 4) = 628108 from rfl]
    simp only [wm_kR, wm_kt, wm_kn, wm_kin, wm_kL, wm_kI, wm_ksI, wm_ksL, wm_kJ, wm_ksJ, kg_t, kl_v, Option.bind_some, sr_k, sr_0, sr_1, sr_2, sr_3, sr_4, sr_7, sr_8, sr_9, sr_26, sr_27, sr_28, bs, show ¬ lg_cmp 628108 343342 = 0 by decide, show ¬ lg_cmp 628108 2745 = 0 by decide, show ¬ lg_cmp 628108 12748485 = 0 by decide, show lg_cmp 628108 628108 = 0 by decide, if_true, if_false]
  · refine fold ?_ (rdw_5 h hR hN)
    unfold F_X12_does F_X12_does_61
    rw [show lN (kcd 5) = 646192 from rfl]
    simp only [wm_kR, wm_kt, wm_kn, wm_kin, wm_kL, wm_kI, wm_ksI, wm_ksL, wm_kJ, wm_ksJ, kg_t, kl_v, Option.bind_some, sr_k, sr_0, sr_1, sr_2, sr_3, sr_4, sr_7, sr_8, sr_9, sr_26, sr_27, sr_28, bs, show ¬ lg_cmp 646192 343342 = 0 by decide, show ¬ lg_cmp 646192 2745 = 0 by decide, show ¬ lg_cmp 646192 12748485 = 0 by decide, show ¬ lg_cmp 646192 628108 = 0 by decide, show lg_cmp 646192 646192 = 0 by decide, if_true, if_false]
  · refine fold ?_ (rdw_6 h hN)
    unfold F_X12_does
    rw [show lN (kcd 6) = 754917 from rfl]
    simp only [wm_kR, wm_kt, wm_kn, wm_kin, wm_kL, wm_kI, wm_ksI, wm_ksL, wm_kJ, wm_ksJ, kg_t, kl_v, Option.bind_some, sr_k, sr_0, sr_1, sr_2, sr_3, sr_4, sr_7, sr_8, sr_9, sr_26, sr_27, sr_28, bs, show ¬ lg_cmp 754917 343342 = 0 by decide, show ¬ lg_cmp 754917 2745 = 0 by decide, show ¬ lg_cmp 754917 12748485 = 0 by decide, show ¬ lg_cmp 754917 628108 = 0 by decide, show ¬ lg_cmp 754917 646192 = 0 by decide, show lg_cmp 754917 754917 = 0 by decide, if_true, if_false]
  · refine fold ?_ (rdw_7 h hN)
    unfold F_X12_does
    rw [show lN (kcd 7) = 132915 from rfl]
    simp only [wm_kR, wm_kt, wm_kn, wm_kin, wm_kL, wm_kI, wm_ksI, wm_ksL, wm_kJ, wm_ksJ, kg_t, kl_v, Option.bind_some, sr_k, sr_0, sr_1, sr_2, sr_3, sr_4, sr_7, sr_8, sr_9, sr_26, sr_27, sr_28, bs, show ¬ lg_cmp 132915 343342 = 0 by decide, show ¬ lg_cmp 132915 2745 = 0 by decide, show ¬ lg_cmp 132915 12748485 = 0 by decide, show ¬ lg_cmp 132915 628108 = 0 by decide, show ¬ lg_cmp 132915 646192 = 0 by decide, show ¬ lg_cmp 132915 754917 = 0 by decide, if_true, if_false]
theorem s50r : kt Mb 549 13 = true ∧ kn Mb 549 = 4 := kt_of 549 (by decide)
theorem s51r : kt Mb 550 13 = true ∧ kn Mb 550 = 4 := kt_of 550 (by decide)
end
