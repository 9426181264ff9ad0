/-! a text made of tokens, and where the class's scanner finds each: a token is its blanks before (0 or 1) and its letters -/
abbrev kTk : Type := Nat × List Nat
def tkB (t : kTk) : List Nat := (if t.1 = 0 then [] else [32]) ++ t.2
def txL : List kTk → List Nat
  | [] => []
  | t :: ts => tkB t ++ txL ts
def kdT (t : kTk) : Nat := kd (t.2.getD 0 0)
def tkOk (t : kTk) : Prop := 1 ≤ t.2.length ∧ kdT t ≠ 0 ∧ (kdT t = 3 → t.2.length = 1) ∧ ∀ i, i < t.2.length → kd (t.2.getD i 0) = kdT t
def tkW (pk : Nat) : List kTk → Prop
  | [] => True
  | t :: ts => (t.1 ≠ 0 ∨ pk = 3 ∨ pk ≠ kdT t) ∧ tkOk t ∧ tkW (kdT t) ts
def tkE (pk : Nat) : List kTk → Nat
  | [] => pk
  | t :: ts => tkE (kdT t) ts
/-- token j of T is t -/
def TV (n : Nat) (T : Nat → Nat) (j : Nat) (t : kTk) : Prop := tS n T j < n ∧ tK n T j = kdT t ∧ tL n T j = t.2.length ∧ ∀ i, i < t.2.length → T (tS n T j + i) = t.2.getD i 0
def TVs (n : Nat) (T : Nat → Nat) : Nat → List kTk → Prop
  | j, [] => tK n T j = 4
  | j, t :: ts => TV n T j t ∧ TVs n T (j + 1) ts
section
variable {n p j pk : Nat} {T : Nat → Nat} {t u : kTk} {ts us : List kTk}
theorem txL_app : ∀ (as bs : List kTk), txL (as ++ bs) = txL as ++ txL bs
  | [], _ => rfl
  | t :: as, bs => by
    show tkB t ++ txL (as ++ bs) = (tkB t ++ txL as) ++ txL bs
    rw [txL_app as bs, List.append_assoc]
theorem tkW_app : ∀ (pk : Nat) (as bs : List kTk), tkW pk as → tkW (tkE pk as) bs → tkW pk (as ++ bs)
  | _, [], _, _, h2 => h2
  | pk, t :: as, bs, h1, h2 => ⟨h1.1, h1.2.1, tkW_app (kdT t) as bs h1.2.2 h2⟩
theorem tkE_app : ∀ (pk : Nat) (as bs : List kTk), tkE pk (as ++ bs) = tkE (tkE pk as) bs
  | _, [], _ => rfl
  | pk, t :: as, bs => tkE_app (kdT t) as bs
theorem TVs.drop : ∀ (as : List kTk) {j : Nat} {bs : List kTk}, TVs n T j (as ++ bs) → TVs n T (j + as.length) bs
  | [], _, _, h => h
  | t :: as, j, bs, h => by
    have := TVs.drop as h.2
    rw [show j + (t :: as).length = j + 1 + as.length by simp; omega]
    exact this
theorem run_k {k : Nat} : ∀ (l p : Nat), (∀ i, i < l → p + i < n ∧ kd (T (p + i)) = k) → runs n T k p = runs n T k (p + l)
  | 0, _, _ => rfl
  | l + 1, p, h => by
    have h0 : p < n ∧ kd (T p) = k := h 0 (by omega)
    rw [runs_step h0.1 h0.2, run_k l (p + 1) (fun i hi => by
      have := h (i + 1) (by omega)
      rw [show p + 1 + i = p + (i + 1) by omega]
      exact this)]
    congr 1
    omega
theorem txL_hd : txL (u :: us) = tkB u ++ txL us := rfl
theorem tk_one (hT : ∀ i, i < (tkB t ++ txL ts).length → T (p + i) = (tkB t ++ txL ts).getD i 0) (hn : n = p + (tkB t ++ txL ts).length) (ok : tkOk t) (w : tkW (kdT t) ts) : ∃ s, sk n T p = s ∧ s < n ∧ kd (T s) = kdT t ∧ s + t.2.length = p + (tkB t).length ∧ tE n T p = s + t.2.length ∧ ∀ i, i < t.2.length → T (s + i) = t.2.getD i 0 := by
  obtain ⟨o1, o2, o3, o4⟩ := ok
  have hs : ∃ s, s + t.2.length = p + (tkB t).length ∧ p ≤ s ∧ (∀ i, i < s - p → p + i < n ∧ kd (T (p + i)) = 0) ∧ ∀ i, i < t.2.length → T (s + i) = t.2.getD i 0 := by
    by_cases c : t.1 = 0
    · have e : tkB t = t.2 := by unfold tkB; rw [if_pos c]; rfl
      rw [e] at hT ⊢
      refine ⟨p, rfl, Nat.le_refl _, fun i hi => absurd hi (by omega), fun i hi => ?_⟩
      rw [hT i (by rw [List.length_append]; omega), getD_app, if_pos hi]
    · have e : tkB t = 32 :: t.2 := by unfold tkB; rw [if_neg c]; rfl
      rw [e] at hT hn ⊢
      refine ⟨p + 1, by simp only [List.length_cons]; omega, by omega, fun i hi => ?_, fun i hi => ?_⟩
      · have e0 : i = 0 := by omega
        subst e0
        have := hT 0 (by simp)
        simp only [List.length_append, List.length_cons] at hn
        refine ⟨by omega, ?_⟩
        rw [this]
        rfl
      · have := hT (i + 1) (by simp only [List.length_append, List.length_cons]; omega)
        rw [show p + 1 + i = p + (i + 1) by omega, this]
        show (t.2 ++ txL ts).getD i 0 = _
        rw [getD_app, if_pos hi]
  obtain ⟨s, s1, s2, s3, s4⟩ := hs
  rw [List.length_append] at hn
  have h0 := s4 0 (by omega)
  have hk : kd (T s) = kdT t := by rw [← Nat.add_zero s, h0]; exact o4 0 (by omega)
  have hsk : sk n T p = s := by
    unfold sk
    rw [run_k (s - p) p s3, show p + (s - p) = s by omega]
    exact runs_stop (fun z => o2 (by rw [← hk]; exact z.2))
  have hsn : s < n := by omega
  refine ⟨s, hsk, hsn, hk, s1, ?_, s4⟩
  unfold tE
  rw [hsk, if_pos hsn, hk]
  by_cases c : kdT t = 3
  · rw [if_pos c, o3 c]
  · rw [if_neg c, run_k t.2.length s (fun i hi => ⟨by omega, by rw [s4 i hi]; exact o4 i hi⟩)]
    refine runs_stop (fun z => ?_)
    cases ts with
    | nil =>
      have : (txL ([] : List kTk)).length = 0 := rfl
      omega
    | cons u us =>
      obtain ⟨w1, w2, w3⟩ := w
      have hu := hT (tkB t).length (by
        have : 1 ≤ (tkB u).length := by unfold tkB; rw [List.length_append]; have := w2.1; omega
        simp only [List.length_append, txL_hd]; omega)
      rw [getD_app, if_neg (by omega), Nat.sub_self, txL_hd, ← s1] at hu
      rw [hu, getD_app] at z
      have l1 : 1 ≤ (tkB u).length := by unfold tkB; rw [List.length_append]; have := w2.1; omega
      rw [if_pos (by omega)] at z
      unfold tkB at z
      by_cases c2 : u.1 = 0
      · rw [if_pos c2] at z
        have e : kdT u = kdT t := z.2
        rcases w1 with w1 | w1 | w1
        · exact w1 c2
        · exact c w1
        · exact w1 e.symm
      · rw [if_neg c2] at z
        have e : kd 32 = kdT t := z.2
        exact o2 e.symm
theorem tk_all : ∀ (ts : List kTk) (pk j p : Nat), tkW pk ts → tP n T j = p → n = p + (txL ts).length → (∀ i, i < (txL ts).length → T (p + i) = (txL ts).getD i 0) → TVs n T j ts
  | [], pk, j, p, _, hp, hn, _ => by
    have hn' : n = p := hn
    show tK n T j = 4
    refine tK_4 (fun z => ?_)
    have := tS_le (n := n) (T := T) j
    unfold tS at z
    have := sk_ge (n := n) (T := T) (p := tP n T j)
    omega
  | t :: ts, pk, j, p, hw, hp, hn, hT => by
    obtain ⟨s, s1, s2, s3, s4, s5, s6⟩ := tk_one (ts := ts) hT hn hw.2.1 hw.2.2
    have e1 : tS n T j = s := by unfold tS; rw [hp]; exact s1
    have e2 : tP n T (j + 1) = s + t.2.length := by show tE n T (tP n T j) = _; rw [hp]; exact s5
    refine ⟨⟨by omega, ?_, ?_, ?_⟩, ?_⟩
    · rw [tK_kd (by omega), e1]; exact s3
    · unfold tL; omega
    · rw [e1]; exact s6
    · rw [txL_hd] at hn hT
      rw [List.length_append] at hn
      refine tk_all ts (kdT t) (j + 1) (p + (tkB t).length) hw.2.2 (by omega) (by omega) (fun i hi => ?_)
      have := hT ((tkB t).length + i) (by rw [List.length_append]; omega)
      rw [getD_app, if_neg (by omega), show (tkB t).length + i - (tkB t).length = i by omega] at this
      rw [show p + (tkB t).length + i = p + ((tkB t).length + i) by omega]
      exact this
/-! what a token says -/
theorem nv_cg {T' : Nat → Nat} {b b' : Nat} : ∀ (l : Nat), (∀ i, i < l → T (b + i) = T' (b' + i)) → nv T b l = nv T' b' l
  | 0, _ => rfl
  | l + 1, h => by
    show (if 999999 < nv T b l then nv T b l else 10 * nv T b l + (T (b + l) - 48)) = (if 999999 < nv T' b' l then nv T' b' l else 10 * nv T' b' l + (T' (b' + l) - 48))
    rw [nv_cg l (fun i hi => h i (by omega)), h l (by omega)]
theorem wv_cg {T' : Nat → Nat} {b b' : Nat} : ∀ (l : Nat), (∀ i, i < l → T (b + i) = T' (b' + i)) → wv T b l = wv T' b' l
  | 0, _ => rfl
  | l + 1, h => by
    rw [wv_s, wv_s, wv_cg l (fun i hi => h i (by omega)), h l (by omega)]
def wvL (l : List Nat) : Nat := wv (fun i => l.getD i 0) 0 l.length
theorem TV.wv (h : TV n T j t) : wv T (tS n T j) (tL n T j) = wvL t.2 := by
  rw [h.2.2.1]
  refine wv_cg _ (fun i hi => ?_)
  rw [h.2.2.2 i hi]
  show _ = t.2.getD (0 + i) 0
  rw [Nat.zero_add]
theorem TV.word (h : TV n T j t) (h1 : kdT t = 1) (hl : t.2.length < 12) (w : Nat) : isW n T w j = decide (wvL t.2 = w) := by
  unfold isW
  rw [h.2.1, h1, h.wv, h.2.2.1]
  simp [hl]
theorem TV.nword (h : TV n T j t) (h1 : kdT t ≠ 1) (w : Nat) : isW n T w j = false := by
  unfold isW
  rw [h.2.1]
  simp [h1]
theorem TV.sign (h : TV n T j (0, [59])) : isG n T 59 j = true := by
  unfold isG
  have h0 := h.2.2.2 0 (by decide)
  rw [Nat.add_zero] at h0
  rw [h.2.1, h0]
  decide
theorem nv_dgs : ∀ v, v < 1000 → nv (fun i => (dgs v).getD i 0) 0 (dgs v).length = v := by decide +kernel
theorem kd_dgs : ∀ v, v < 1000 → (decide (kd ((dgs v).getD 0 0) = 2) && ((List.range (dgs v).length).all (fun i => decide (kd ((dgs v).getD i 0) = 2)))) = true := by decide +kernel
theorem TV.num {v s : Nat} (h : TV n T j (s, dgs v)) (hv : v < 1000) : tK n T j = 2 ∧ nuv n T j = v := by
  have k := kd_dgs v hv
  simp only [Bool.and_eq_true, decide_eq_true_eq] at k
  refine ⟨h.2.1.trans k.1, ?_⟩
  unfold nuv
  rw [h.2.2.1]
  refine Eq.trans ?_ (nv_dgs v hv)
  refine nv_cg _ (fun i hi => ?_)
  rw [h.2.2.2 i hi]
  show _ = (dgs v).getD (0 + i) 0
  rw [Nat.zero_add]
theorem ok_dgs {v s : Nat} (hv : v < 1000) : tkOk (s, dgs v) ∧ kdT (s, dgs v) = 2 := by
  have k := kd_dgs v hv
  simp only [Bool.and_eq_true, decide_eq_true_eq, List.all_eq_true, List.mem_range] at k
  have hk : kdT (s, dgs v) = 2 := k.1
  refine ⟨⟨?_, by rw [hk]; decide, (fun (z : kdT (s, dgs v) = 3) => absurd (hk.symm.trans z) (by decide)), fun i hi => (k.2 i hi).trans hk.symm⟩, hk⟩
  show 1 ≤ (dgs v).length
  rw [dgs_len]
  split
  · omega
  · split <;> omega
end
