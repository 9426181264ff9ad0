/-! the law's texts are made of tokens -/
def TXo (ts : List kTk) : Prop := tkW 3 ts ∧ tkE 3 ts = 3 ∧ ∀ c, c ∈ txL ts → 1 ≤ c ∧ c < 128
section
variable {ts us : List kTk} {r : Nat → Int32}
theorem TXo.app (h : TXo ts) (h2 : TXo us) : TXo (ts ++ us) := by
  refine ⟨tkW_app 3 ts us h.1 (by rw [h.2.1]; exact h2.1), by rw [tkE_app, h.2.1]; exact h2.2.1, fun c hc => ?_⟩
  rw [txL_app, List.mem_append] at hc
  exact hc.elim (h.2.2 c) (h2.2.2 c)
theorem ok_wd {s k : Nat} (h9 : s < 9) (h3 : 3 ≤ s) : tkOk (k, pcs s) ∧ kdT (k, pcs s) = 1 := by
  obtain ⟨a1, a2, a3, a4⟩ := wd_ok s h9 h3
  simp only [List.all_eq_true, List.mem_range, decide_eq_true_eq] at a4
  have hk : kdT (k, pcs s) = 1 := a1
  exact ⟨⟨a3, by rw [hk]; decide, (fun (z : kdT (k, pcs s) = 3) => absurd (hk.symm.trans z) (by decide)), fun i hi => (a4 i hi).trans hk.symm⟩, hk⟩
theorem ok_end : tkOk (0, [59]) ∧ kdT (0, [59]) = 3 := by
  refine ⟨⟨by decide, by decide, fun _ => rfl, fun i hi => ?_⟩, by decide⟩
  have : i = 0 := by
    have : i < 1 := hi
    omega
  subst this
  rfl
theorem ok_nm {t : Nat} (ht : t < 24) : tkOk (1, [97 + t]) ∧ kdT (1, [97 + t]) = 1 := by
  have hk : kdT (1, [97 + t]) = 1 := nm_kd t (by omega)
  refine ⟨⟨by show 1 ≤ 1; omega, by rw [hk]; decide, (fun _ => rfl), fun i hi => ?_⟩, hk⟩
  have : i = 0 := by
    have : i < 1 := hi
    omega
  subst this
  rfl
theorem by_dgs {v : Nat} (hv : v < 1000) : ∀ c, c ∈ dgs v → 1 ≤ c ∧ c < 128 := by
  intro c hc
  unfold dgs at hc
  split at hc
  · simp only [List.mem_cons, List.not_mem_nil, or_false] at hc
    omega
  · split at hc
    · simp only [List.mem_cons, List.not_mem_nil, or_false] at hc
      omega
    · simp only [List.mem_cons, List.not_mem_nil, or_false] at hc
      omega
theorem by_pcs : ∀ s, s < 9 → 3 ≤ s → ∀ c, c ∈ pcs s → 1 ≤ c ∧ c < 128 := by decide +kernel
theorem by_tk {t : kTk} (h : ∀ c, c ∈ t.2 → 1 ≤ c ∧ c < 128) : ∀ c, c ∈ tkB t → 1 ≤ c ∧ c < 128 := by
  intro c hc
  unfold tkB at hc
  rw [List.mem_append] at hc
  rcases hc with z | z
  · split at z
    · cases z
    · simp only [List.mem_cons, List.not_mem_nil, or_false] at z
      omega
  · exact h c z
theorem by_cons {t : kTk} (h : ∀ c, c ∈ t.2 → 1 ≤ c ∧ c < 128) (h2 : ∀ c, c ∈ txL us → 1 ≤ c ∧ c < 128) : ∀ c, c ∈ txL (t :: us) → 1 ≤ c ∧ c < 128 := by
  intro c hc
  rw [txL_hd, List.mem_append] at hc
  exact hc.elim (by_tk h c) (h2 c)
theorem by_nil : ∀ c, c ∈ txL [] → 1 ≤ c ∧ c < 128 := fun c hc => absurd hc (by show ¬ c ∈ []; simp)
theorem by_end : ∀ c, c ∈ [59] → 1 ≤ c ∧ c < 128 := by decide
theorem by_nm {t : Nat} (ht : t < 24) : ∀ c, c ∈ [97 + t] → 1 ≤ c ∧ c < 128 := fun c hc => by
  simp only [List.mem_cons, List.not_mem_nil, or_false] at hc
  omega
theorem TXo_H {a b c d e f : Nat} (ha : a < 1000) (hb : b < 1000) (hc : c < 1000) (hd : d < 1000) (he : e < 1000) (hf : f < 1000) : TXo (mkH a b c d e f) := by
  refine ⟨⟨Or.inr (Or.inl rfl), (ok_wd (by decide) (by decide)).1, Or.inl (by show 1 ≠ 0; decide), (ok_dgs ha).1, Or.inl (by show 1 ≠ 0; decide), (ok_dgs hb).1, Or.inl (by show 1 ≠ 0; decide), (ok_dgs hc).1, Or.inl (by show 1 ≠ 0; decide), (ok_dgs hd).1, Or.inl (by show 1 ≠ 0; decide), (ok_dgs he).1, Or.inl (by show 1 ≠ 0; decide), (ok_dgs hf).1, Or.inr (Or.inr (by rw [(ok_dgs hf).2]; decide)), ok_end.1, trivial⟩, rfl, ?_⟩
  exact by_cons (by_pcs 3 (by decide) (by decide)) (by_cons (by_dgs ha) (by_cons (by_dgs hb) (by_cons (by_dgs hc) (by_cons (by_dgs hd) (by_cons (by_dgs he) (by_cons (by_dgs hf) (by_cons by_end by_nil)))))))
theorem TXo_B {a b c : Nat} (ha : a < 1000) (hb : b < 1000) (hc : c < 1000) : TXo (mkB a b c) := by
  refine ⟨⟨Or.inr (Or.inl rfl), (ok_wd (by decide) (by decide)).1, Or.inl (by show 1 ≠ 0; decide), (ok_dgs ha).1, Or.inl (by show 1 ≠ 0; decide), (ok_dgs hb).1, Or.inl (by show 1 ≠ 0; decide), (ok_dgs hc).1, Or.inr (Or.inr (by rw [(ok_dgs hc).2]; decide)), ok_end.1, trivial⟩, rfl, ?_⟩
  exact by_cons (by_pcs 4 (by decide) (by decide)) (by_cons (by_dgs ha) (by_cons (by_dgs hb) (by_cons (by_dgs hc) (by_cons by_end by_nil))))
theorem TXo_T {t a b c : Nat} (ht : t < 24) (ha : a < 1000) (hb : b < 1000) (hc : c < 1000) : TXo (mkT t a b c) := by
  refine ⟨⟨Or.inr (Or.inl rfl), (ok_wd (by decide) (by decide)).1, Or.inl (by show 1 ≠ 0; decide), (ok_nm ht).1, Or.inl (by show 1 ≠ 0; decide), (ok_dgs ha).1, Or.inl (by show 1 ≠ 0; decide), (ok_dgs hb).1, Or.inl (by show 1 ≠ 0; decide), (ok_dgs hc).1, Or.inr (Or.inr (by rw [(ok_dgs hc).2]; decide)), ok_end.1, trivial⟩, rfl, ?_⟩
  exact by_cons (by_pcs 5 (by decide) (by decide)) (by_cons (by_nm ht) (by_cons (by_dgs ha) (by_cons (by_dgs hb) (by_cons (by_dgs hc) (by_cons by_end by_nil)))))
theorem TXo_S {t b q : Nat} (ht : t < 24) (hb : b < 1000) (hq : q < 13) : TXo (mkS t b q) := by
  have hd : (if q < 6 then 6 - q else q - 6) < 1000 := by split <;> omega
  have h7 : (if q < 6 then 7 else 8) < 9 := by split <;> omega
  have h3 : 3 ≤ (if q < 6 then 7 else 8) := by split <;> omega
  refine ⟨⟨Or.inr (Or.inl rfl), (ok_wd (by decide) (by decide)).1, Or.inl (by show 1 ≠ 0; decide), (ok_nm ht).1, Or.inl (by show 1 ≠ 0; decide), (ok_dgs hb).1, Or.inl (by show 1 ≠ 0; decide), (ok_wd h7 h3).1, Or.inl (by show 1 ≠ 0; decide), (ok_dgs hd).1, Or.inr (Or.inr (by rw [(ok_dgs hd).2]; decide)), ok_end.1, trivial⟩, rfl, ?_⟩
  exact by_cons (by_pcs 6 (by decide) (by decide)) (by_cons (by_nm ht) (by_cons (by_dgs hb) (by_cons (by_pcs _ h7 h3) (by_cons (by_dgs hd) (by_cons by_end by_nil)))))
theorem TXo.by (h : TXo ts) : ∀ i, i < (txL ts).length → 1 ≤ (txL ts).getD i 0 ∧ (txL ts).getD i 0 < 128 := fun i hi => by
  refine h.2.2 _ ?_
  rw [List.getD_eq_getElem?_getD, List.getElem?_eq_getElem hi]
  exact List.getElem_mem hi
theorem len_S {t b q : Nat} (hb : b < 10) (hq : q < 13) : (txL (ts ++ mkS t b q)).length ≤ (txL ts).length + 17 := by
  rw [tx_S]
  have h1 := dgs_1 hb
  have h2 : (dgs (if q < 6 then 6 - q else q - 6)).length = 1 := dgs_1 (by split <;> omega)
  have h3 : (pcs (if q < 6 then 13 else 14)).length ≤ 7 := by
    split
    · have := pcs_ln.2.2.2.2.1; omega
    · have := pcs_ln.2.2.2.2.2; omega
  have h4 := pcs_ln.2.2.2.1
  simp only [List.length_append, List.length_cons, List.length_nil]
  omega
theorem len_T {t a b c : Nat} (ha : a < 100) (hb : b < 100) (hc : c < 100) : (txL (ts ++ mkT t a b c)).length ≤ (txL ts).length + 18 := by
  rw [tx_T]
  have h1 := dgs_2 ha
  have h2 := dgs_2 hb
  have h3 := dgs_2 hc
  have h4 := pcs_ln.2.2.1
  simp only [List.length_append, List.length_cons, List.length_nil]
  omega
theorem len_B {a b c : Nat} (ha : a < 10) (hb : b < 100) (hc : c < 100) : (txL (ts ++ mkB a b c)).length ≤ (txL ts).length + 14 := by
  rw [tx_B]
  have h1 := dgs_1 ha
  have h2 := dgs_2 hb
  have h3 := dgs_2 hc
  have h4 := pcs_ln.2.1
  simp only [List.length_append, List.length_cons, List.length_nil]
  omega
theorem len_H {a b c d e f : Nat} : (txL (mkH a b c d e f)).length ≤ 31 := by
  rw [tx_H]
  have h1 := dgs_3 a
  have h2 := dgs_3 b
  have h3 := dgs_3 c
  have h4 := dgs_3 d
  have h5 := dgs_3 e
  have h6 := dgs_3 f
  have h7 := pcs_ln.1
  simp only [List.length_append, List.length_cons, List.length_nil]
  omega
end
