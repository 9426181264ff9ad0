/-! names: letters and codes; who has a name -/
theorem code_div {f : Nat → Nat} {n : Nat} (h : f n < 32) : codeN f (n + 1) / 32 = codeN f n := by
  show (32 * codeN f n + f n) / 32 = _
  omega
theorem code_mod {f : Nat → Nat} {n : Nat} (h : f n < 32) : codeN f (n + 1) % 32 = f n := by
  show (32 * codeN f n + f n) % 32 = _
  omega
theorem code_cong {f g : Nat → Nat} : ∀ {n : Nat}, (∀ k, k < n → f k = g k) → codeN f n = codeN g n
  | 0, _ => rfl
  | n + 1, h => by
    show 32 * codeN f n + f n = 32 * codeN g n + g n
    rw [code_cong (fun k hk => h k (Nat.lt_succ_of_lt hk)), h n (Nat.lt_succ_self n)]
theorem code_ge {f : Nat → Nat} : ∀ {n : Nat}, 1 ≤ n → (∀ k, k < n → 1 ≤ f k ∧ f k ≤ 26) → 1 ≤ codeN f n
  | 0, h, _ => absurd h (by decide)
  | n + 1, _, h => by
    have := (h n (Nat.lt_succ_self n)).1
    show 1 ≤ 32 * codeN f n + f n
    omega
theorem code_lt {f : Nat → Nat} : ∀ {n : Nat}, (∀ k, k < n → 1 ≤ f k ∧ f k ≤ 26) → codeN f n < 32 ^ n
  | 0, _ => by show 0 < 32 ^ 0; decide
  | n + 1, h => by
    have h1 := (h n (Nat.lt_succ_self n)).2
    have h2 := code_lt (fun k hk => h k (Nat.lt_succ_of_lt hk))
    show 32 * codeN f n + f n < 32 ^ n * 32
    omega
theorem code_inj {f g : Nat → Nat} : ∀ {n m : Nat}, (∀ k, k < n → 1 ≤ f k ∧ f k ≤ 26) → (∀ k, k < m → 1 ≤ g k ∧ g k ≤ 26) → codeN f n = codeN g m → n = m ∧ ∀ k, k < n → f k = g k
  | 0, 0, _, _, _ => ⟨rfl, fun k hk => absurd hk (Nat.not_lt_zero _)⟩
  | 0, m + 1, _, hg, e => by
    have := code_ge (n := m + 1) (by omega) hg
    rw [← e] at this
    exact absurd this (by show ¬ 1 ≤ 0; decide)
  | n + 1, 0, hf, _, e => by
    have := code_ge (n := n + 1) (by omega) hf
    rw [e] at this
    exact absurd this (by show ¬ 1 ≤ 0; decide)
  | n + 1, m + 1, hf, hg, e => by
    have h1 := (hf n (Nat.lt_succ_self n)).2
    have h2 := (hg m (Nat.lt_succ_self m)).2
    have e1 : f n = g m := by rw [← code_mod (f := f) (n := n) (by omega), e, code_mod (by omega)]
    have e2 : codeN f n = codeN g m := by rw [← code_div (f := f) (n := n) (by omega), e, code_div (by omega)]
    obtain ⟨e3, e4⟩ := code_inj (fun k hk => hf k (Nat.lt_succ_of_lt hk)) (fun k hk => hg k (Nat.lt_succ_of_lt hk)) e2
    subst e3
    refine ⟨rfl, fun k hk => ?_⟩
    by_cases z : k = n
    · subst z; exact e1
    · exact e4 k (by omega)
theorem code_30 {f : Nat → Nat} {n : Nat} (h : n ≤ 6) (hf : ∀ k, k < n → 1 ≤ f k ∧ f k ≤ 26) : codeN f n < 1073741824 := by
  have h1 := code_lt hf
  have h2 : 32 ^ n ≤ 32 ^ 6 := Nat.pow_le_pow_right (by decide) h
  have h3 : 32 ^ 6 = 1073741824 := by decide
  omega
/-- the cells of a name -/
def NA (a b : Nat) : Prop := (kt Mb a 5 = true ∧ kR Mb a 0 = b) ∧ kt Mb b 13 = true ∧ kn Mb b = 6
/-- a name, perhaps empty, and its code -/
def nmQ (I : kInts) (a b : Nat) (c : Int32) : Prop := ∃ (n : Nat) (f : Nat → Nat), n ≤ 6 ∧ (∀ k, k < n → 1 ≤ f k ∧ f k ≤ 26) ∧ I a 1 = nI n ∧ (∀ k, k < n → I b k = nI (96 + f k)) ∧ c = nI (codeN f n)
def sameL (f g : Nat → Nat) : Nat → Nat → Bool
  | 0, _ => true
  | k + 1, i => f i == g i && sameL f g k (i + 1)
theorem sameL_iff {f g : Nat → Nat} : ∀ {k i : Nat}, sameL f g k i = true ↔ ∀ j, i ≤ j → j < i + k → f j = g j
  | 0, i => ⟨fun _ j h1 h2 => by omega, fun _ => rfl⟩
  | k + 1, i => by
    unfold sameL
    rw [Bool.and_eq_true, beq_iff_eq, sameL_iff]
    constructor
    · rintro ⟨h1, h2⟩ j h3 h4
      by_cases z : j = i
      · subst z; exact h1
      · exact h2 j (by omega) (by omega)
    · intro h
      exact ⟨h i (Nat.le_refl _) (by omega), fun j h1 h2 => h j (by omega) (by omega)⟩
def fndL (r : Nat → Int32) (c : Int32) : Nat → Nat → Option Nat
  | 0, _ => none
  | k + 1, i => if r (89 + 7 * i + 0) = c then some i else fndL r c k (i + 1)
def fnd (r : Nat → Int32) (nt : Nat) (c : Int32) : Option Nat := fndL r c nt 0
def rOf : Option Nat → Int32
  | none => -1
  | some t => nI t
def cOf (m : Nat) : Option Nat → Nat
  | none => 0
  | some t => tr m t
section
variable {N : Nat} {I : kInts} {L : kLngs} {r f : Nat → Int32} {nb nt m a b a2 b2 : Nat}
theorem nmR.q {c : Int32} (h : nmR I a b c) : nmQ I a b c := by
  obtain ⟨n, f, h1, h2, h3, h4, h5⟩ := h
  exact ⟨n, f, h1.2, h2, h3, h4, h5⟩
theorem NA_t (hm : m ∈ mks) {t : Nat} (ht : t < 24) : NA (nm m t) (lt m t) := ⟨⟨tt_nk hm ht, tt_l hm ht⟩, tt_lk hm ht, tt_ln hm ht⟩
theorem ofN6 : Int32.ofNat 6 = nI 6 := rfl
theorem cx_letAt (hA : NA a b) {n k : Nat} (hn : I a 1 = nI n) (h6 : n ≤ 6) (hk : k < n) : F_X5_letterAt N (wm Mb I L) a (nI k) = some (I b k) := by
  obtain ⟨⟨h1, h2⟩, h3, h4⟩ := hA
  unfold F_X5_letterAt
  simp (disch := omega) only [wm_kR, wm_kt, wm_kn, wm_kin, wm_kL, wm_kI, wm_ksI, wm_ksL, kg_t, kl_v, Option.bind_some, h1, h2, h3, h4, hn, ofNnI, nI_lt0, nI_ltP, if_false, kin_nI h3 h4 (show k < 6 by omega) (show 6 < 2147483648 by decide), kx_nI]
  rw [if_pos hk, if_pos (by omega)]
theorem cx_letOut (hA : NA a b) {n : Nat} (hn : I a 1 = nI n) {x : Int32} (hx : x < 0 ∨ nI n ≤ x) : F_X5_letterAt N (wm Mb I L) a x = some (-1) := by
  obtain ⟨⟨h1, h2⟩, h3, h4⟩ := hA
  unfold F_X5_letterAt
  by_cases h0 : x < 0
  · rw [if_pos h0]
  · rw [if_neg h0]
    simp only [wm_kR, wm_kt, wm_kn, wm_kin, wm_kL, wm_kI, wm_ksI, wm_ksL, kg_t, kl_v, Option.bind_some, h1, hn]
    rw [if_neg (Int32.not_lt.mpr (hx.resolve_left h0))]
theorem cx_matchL (hA : NA a b) (hA2 : NA a2 b2) {n : Nat} {f g : Nat → Nat} (h6 : n ≤ 6) (hn : I a 1 = nI n) (hn2 : I a2 1 = nI n) (hf : ∀ k, k < n → 1 ≤ f k ∧ f k ≤ 26) (hg : ∀ k, k < n → 1 ≤ g k ∧ g k ≤ 26) (hb : ∀ k, k < n → I b k = nI (96 + f k)) (hb2 : ∀ k, k < n → I b2 k = nI (96 + g k)) : ∀ (k i z : Nat), i + k = n → k < z → F_X5_matches_15 N (wm Mb I L) z a a2 (nI i) = some (if sameL f g k i then 1 else 0)
  | k, i, 0, _, h => absurd h (Nat.not_lt_zero _)
  | 0, i, z + 1, e, _ => by
    unfold F_X5_matches_15
    simp (disch := omega) only [wm_kR, wm_kt, wm_kn, wm_kin, wm_kL, wm_kI, wm_ksI, wm_ksL, kg_t, kl_v, Option.bind_some, hA.1.1, hn, nI_ltP]
    rw [if_neg (by omega)]
    rfl
  | k + 1, i, z + 1, e, hz => by
    have hi : i < n := by omega
    have ih := cx_matchL hA hA2 h6 hn hn2 hf hg hb hb2 k (i + 1) z (by omega) (by omega)
    have f1 := hf i hi
    have g1 := hg i hi
    unfold F_X5_matches_15 sameL
    simp (disch := omega) only [wm_kR, wm_kt, wm_kn, wm_kin, wm_kL, wm_kI, wm_ksI, wm_ksL, kg_t, kl_v, Option.bind_some, hA.1.1, hA2.1.1, hn, nI_ltP, cx_letAt hA hn h6 hi, cx_letAt hA2 hn2 h6 hi, hb i hi, hb2 i hi, nI_1]
    rw [if_pos hi]
    by_cases c : f i = g i
    · rw [if_pos (by rw [c]), ih, c]
      simp
    · rw [if_neg (by rw [nI_eq (by omega) (by omega)]; omega)]
      have : (f i == g i) = false := by simpa using c
      rw [this]
      rfl
theorem cx_match (hA : NA a b) (hA2 : NA a2 b2) {c c2 : Int32} (h1 : nmQ I a b c) (h2 : nmQ I a2 b2 c2) (hN : 100 < N) : F_X5_matches N (wm Mb I L) a a2 = some (if c = c2 then 1 else 0) := by
  obtain ⟨n, f, n6, hf, hn, hb, rfl⟩ := h1
  obtain ⟨n2, g, n62, hg, hn2, hb2, rfl⟩ := h2
  have k1 := code_30 n6 hf
  have k2 := code_30 n62 hg
  unfold F_X5_matches
  simp (disch := omega) only [wm_kR, wm_kt, wm_kn, wm_kin, wm_kL, wm_kI, wm_ksI, wm_ksL, kg_t, kl_v, Option.bind_some, hA.1.1, hA2.1.1, hn, hn2, nI_eqI]
  by_cases e : n = n2
  · subst e
    rw [if_pos rfl]
    have h := cx_matchL (N := N) (L := L) hA hA2 n6 hn hn2 hf hg hb hb2 n 0 N (by omega) (by omega)
    rw [show nI 0 = 0 from rfl] at h
    rw [h]
    congr 1
    by_cases c : sameL f g n 0 = true
    · have c2 := sameL_iff.mp c
      rw [if_pos c, if_pos (by rw [code_cong (fun k hk => c2 k (Nat.zero_le _) (by omega))])]
    · rw [if_neg c, if_neg (fun z => c (sameL_iff.mpr (fun j _ hj => (code_inj hf hg z).2 j (by omega))))]
  · rw [if_neg e, if_neg (fun z => e (code_inj hf hg z).1)]
theorem cx_namedL (hm : m ∈ mks) (hA : NA a b) {c : Int32} (hq : nmQ I a b c) (h24 : nt ≤ 24) (h8 : r 8 = nI nt) (htc : I m 12 = r 8) (hRn : RMn I m r nt) (hN : 100 < N) : ∀ (k i z : Nat), i + k = nt → k < z → F_X4_traderNamed_2 N (wm Mb I L) z m a (nI i) = some (cOf m (fndL r c k i))
  | k, i, 0, _, h => absurd h (Nat.not_lt_zero _)
  | 0, i, z + 1, e, _ => by
    unfold F_X4_traderNamed_2
    simp (disch := omega) only [wm_kR, wm_kt, wm_kn, wm_kin, wm_kL, wm_kI, wm_ksI, wm_ksL, kg_t, kl_v, Option.bind_some, mm_k hm, mm_bs hm, mm_bn hm, mm_ts hm, mm_tn hm, mm_e hm, mm_ek hm, htc, h8, nI_ltP]
    rw [if_neg (by omega)]
    rfl
  | k + 1, i, z + 1, e, hz => by
    have hi : i < nt := by omega
    have ht : i < 24 := by omega
    have ih := cx_namedL hm hA hq h24 h8 htc hRn hN k (i + 1) z (by omega) (by omega)
    have hmt := cx_match (N := N) (L := L) (NA_t hm ht) hA (hRn i hi).q hq hN
    unfold F_X4_traderNamed_2 fndL
    simp (disch := omega) only [wm_kR, wm_kt, wm_kn, wm_kin, wm_kL, wm_kI, wm_ksI, wm_ksL, kg_t, kl_v, Option.bind_some, mm_k hm, mm_bs hm, mm_bn hm, mm_ts hm, mm_tn hm, mm_e hm, mm_ek hm, tt_r hm ht, tt_k hm ht, tt_n hm ht, tt_nk hm ht, tt_l hm ht, tt_lk hm ht, tt_ln hm ht, htc, h8, nI_ltP, kin_t hm ht, kx_nI, hmt, nI_1]
    rw [if_pos hi]
    by_cases c1 : r (89 + 7 * i + 0) = c
    · simp only [if_pos c1, if_neg one0]
      rfl
    · simp only [if_neg c1, if_true]
      exact ih
theorem cx_named (hm : m ∈ mks) (hA : NA a b) {c : Int32} (hq : nmQ I a b c) (h24 : nt ≤ 24) (h8 : r 8 = nI nt) (htc : I m 12 = r 8) (hRn : RMn I m r nt) (hN : 100 < N) : F_X4_traderNamed N (wm Mb I L) m a = some (cOf m (fnd r nt c)) := by
  unfold F_X4_traderNamed
  exact cx_namedL hm hA hq h24 h8 htc hRn hN nt 0 N (by omega) (by omega)
theorem rx_namedL (h24 : nt ≤ 24) (h8 : r 8 = nI nt) (c : Int32) : ∀ (k i z : Nat), i + k = nt → k < z → F_X12_traderNamed_2 N (wm Mb (rf I r f) L) z 1241 c (nI i) = some (rOf (fndL r c k i))
  | k, i, 0, _, h => absurd h (Nat.not_lt_zero _)
  | 0, i, z + 1, e, _ => by
    unfold F_X12_traderNamed_2
    simp (disch := omega) only [wm_kR, wm_kt, wm_kn, wm_kin, wm_kL, wm_kI, wm_ksI, wm_ksL, kg_t, kl_v, Option.bind_some, sr_k, sr_0, sr_1, sr_2, sr_3, sr_4, sr_7, sr_8, sr_9, sr_26, sr_27, sr_28, kl_0, kl_1, kl_2, kl_3, kl_4, kl_5, kl_6, kl_7, kl_8, kl_9, kl_10, kl_11, kl_12, kl_13, kx_l0, kx_l1, kx_l2, kx_l3, kx_l4, kx_l5, kx_l6, kx_l7, kx_l8, kx_l9, kx_l10, kx_l11, kx_l12, kx_l13, rf_s, h8, nI_ltP]
    rw [if_neg (by omega)]
    rfl
  | k + 1, i, z + 1, e, hz => by
    have ih := rx_namedL h24 h8 c k (i + 1) z (by omega) (by omega)
    unfold F_X12_traderNamed_2 fndL
    simp (disch := omega) only [wm_kR, wm_kt, wm_kn, wm_kin, wm_kL, wm_kI, wm_ksI, wm_ksL, kg_t, kl_v, Option.bind_some, sr_k, sr_0, sr_1, sr_2, sr_3, sr_4, sr_7, sr_8, sr_9, sr_26, sr_27, sr_28, kl_0, kl_1, kl_2, kl_3, kl_4, kl_5, kl_6, kl_7, kl_8, kl_9, kl_10, kl_11, kl_12, kl_13, kx_l0, kx_l1, kx_l2, kx_l3, kx_l4, kx_l5, kx_l6, kx_l7, kx_l8, kx_l9, kx_l10, kx_l11, kx_l12, kx_l13, rf_s, h8, nI_ltP, rx_has0 (show i < 24 by omega), nI_1]
    rw [if_pos (by omega)]
    split
    · rfl
    · exact ih
theorem rx_named (h24 : nt ≤ 24) (h8 : r 8 = nI nt) (c : Int32) (hN : 100 < N) : F_X12_traderNamed N (wm Mb (rf I r f) L) 1241 c = some (rOf (fnd r nt c)) := by
  unfold F_X12_traderNamed
  exact rx_namedL h24 h8 c nt 0 N (by omega) (by omega)
theorem fndL_lt {c : Int32} : ∀ {k i t : Nat}, fndL r c k i = some t → t < i + k ∧ r (89 + 7 * t + 0) = c
  | 0, i, t, h => by cases h
  | k + 1, i, t, h => by
    unfold fndL at h
    by_cases e : r (89 + 7 * i + 0) = c
    · rw [if_pos e] at h
      cases h
      exact ⟨by omega, e⟩
    · rw [if_neg e] at h
      obtain ⟨h1, h2⟩ := fndL_lt h
      exact ⟨by omega, h2⟩
theorem fnd_lt {c : Int32} {t : Nat} (h : fnd r nt c = some t) : t < nt := by
  have := (fndL_lt h).1
  omega
theorem rOf_ne {t : Nat} (h : t < 24) : ¬ rOf (some t) = -1 := nI_ne1 (by omega)
theorem rOf_none : rOf none = -1 := rfl
/-! the letters out of a code -/
theorem rx_letsL (M : kMem) {f : Nat → Nat} : ∀ (n z : Nat) (x : Nat), n ≤ 6 → (∀ k, k < n → 1 ≤ f k ∧ f k ≤ 26) → n < z → x + n < 100 → F_X12_lettersOf_4 N M z (nI x) (nI (codeN f n)) = some (nI (x + n))
  | n, 0, x, _, _, h, _ => absurd h (Nat.not_lt_zero _)
  | 0, z + 1, x, _, _, _, _ => by
    unfold F_X12_lettersOf_4
    have e0 : codeN f 0 = 0 := rfl
    rw [e0, if_neg (show ¬ 0 < nI 0 by decide)]
    rfl
  | n + 1, z + 1, x, h6, hf, hz, hx => by
    have h30 := code_30 h6 hf
    have h1 := code_ge (n := n + 1) (by omega) hf
    have h2 := (hf n (Nat.lt_succ_self n)).2
    have ih := rx_letsL M n z (x + 1) (by omega) (fun k hk => hf k (Nat.lt_succ_of_lt hk)) (by omega) (by omega)
    have hs : nI (codeN f (n + 1)) >>> ((5 : Int32) &&& 31) = nI (codeN f n) := by
      rw [pk_shrN (by omega) _ 5 (by decide), ← code_div (f := f) (n := n) (by omega)]
    unfold F_X12_lettersOf_4
    rw [if_pos (show 0 < nI (codeN f (n + 1)) from nI_lt (a := 0) (by omega) (by omega))]
    simp only [kl_v, nI_1, hs]
    rw [ih]
    congr 2
    omega
theorem rx_lets (M : kMem) {f : Nat → Nat} {n : Nat} (h6 : n ≤ 6) (hf : ∀ k, k < n → 1 ≤ f k ∧ f k ≤ 26) (hN : 100 < N) : F_X12_lettersOf N M (nI (codeN f n)) = some (nI n) := by
  unfold F_X12_lettersOf
  have := rx_letsL (N := N) M n N 0 h6 hf (by omega) (by omega)
  rw [Nat.zero_add] at this
  exact this
theorem code_at {f : Nat → Nat} : ∀ {n i : Nat}, i < n → (∀ k, k < n → 1 ≤ f k ∧ f k ≤ 26) → codeN f n / 2 ^ (5 * (n - 1 - i)) % 32 = f i
  | 0, i, h, _ => absurd h (Nat.not_lt_zero _)
  | n + 1, i, h, hf => by
    have h2 := (hf n (Nat.lt_succ_self n)).2
    by_cases e : i = n
    · subst e
      rw [show i + 1 - 1 - i = 0 by omega]
      simp only [Nat.mul_zero, Nat.pow_zero, Nat.div_one]
      exact code_mod (by omega)
    · have ih := code_at (f := f) (n := n) (i := i) (by omega) (fun k hk => hf k (Nat.lt_succ_of_lt hk))
      have e1 : 5 * (n + 1 - 1 - i) = 5 + 5 * (n - 1 - i) := by omega
      rw [e1, Nat.pow_add, ← Nat.div_div_eq_div_mul, show 2 ^ 5 = 32 from rfl, code_div (by omega)]
      exact ih
theorem lgc (a b : Int32) : lg_cmp a.toInt64 b.toInt64 = if b < a then 1 else if a = b then 0 else -1 := by
  have wl : ∀ a b : Int32, (a.toInt64 < b.toInt64) = (a < b) := fun a b => by rw [Int64.lt_iff_toInt_lt, Int32.lt_iff_toInt_lt, Int32.toInt_toInt64, Int32.toInt_toInt64]
  have we : ∀ a b : Int32, (a.toInt64 = b.toInt64) = (a = b) := fun a b => by rw [← Int64.toInt_inj, Int32.toInt_toInt64, Int32.toInt_toInt64, Int32.toInt_inj]
  unfold lg_cmp
  simp only [gt_iff_lt, wl, we]
theorem lgc_lt (a b : Int32) : (lg_cmp a.toInt64 b.toInt64 < 0) = (a < b) := by
  rw [lgc]
  apply propext
  by_cases c1 : b < a
  · rw [if_pos c1]
    exact ⟨fun h => absurd h (by decide), fun h => by grind⟩
  · rw [if_neg c1]
    by_cases c2 : a = b
    · rw [if_pos c2]
      exact ⟨fun h => absurd h (by decide), fun h => by grind⟩
    · rw [if_neg c2]
      exact ⟨fun _ => by grind, fun _ => by decide⟩
theorem lgc_gt (a b : Int32) : (0 < lg_cmp a.toInt64 b.toInt64) = (b < a) := by
  rw [lgc]
  apply propext
  by_cases c1 : b < a
  · rw [if_pos c1]
    exact ⟨fun _ => c1, fun _ => by decide⟩
  · rw [if_neg c1]
    by_cases c2 : a = b
    · rw [if_pos c2]
      exact ⟨fun h => absurd h (by decide), fun h => absurd h c1⟩
    · rw [if_neg c2]
      exact ⟨fun h => absurd h (by decide), fun h => absurd h c1⟩
theorem in_ok (M : kMem) (x lo hi : Int32) : F_X12_in N M x.toInt64 lo.toInt64 hi.toInt64 = some (if x < lo then 0 else if hi < x then 0 else 1) := by
  unfold F_X12_in
  simp only [lgc_lt, lgc_gt]
  split
  · rfl
  · split <;> rfl
theorem rx_letter (M : kMem) {f : Nat → Nat} {n : Nat} (h1 : 1 ≤ n) (h6 : n ≤ 6) (hf : ∀ k, k < n → 1 ≤ f k ∧ f k ≤ 26) (x : Int32) (hN : 100 < N) : F_X12_letterOf N M (nI (codeN f n)) x = some (if x < 0 ∨ nI n ≤ x then -1 else nI (96 + f (kx x))) := by
  unfold F_X12_letterOf
  have h30 := code_30 h6 hf
  simp only [rx_lets M h6 hf hN, Option.bind_some]
  have e1 : nI n - 1 = nI (n - 1) := pk_sub (b := 1) h1
  have e0 : (0 : Int64) = (0 : Int32).toInt64 := rfl
  rw [e1, e0, in_ok]
  simp only [Option.bind_some]
  rcases pk_ix x (n := n) (by omega) with c | c | ⟨j, hj, rfl⟩
  · rw [if_pos c, if_pos rfl, if_pos (Or.inl c)]
  · by_cases c0 : x < 0
    · rw [if_pos c0, if_pos rfl, if_pos (Or.inl c0)]
    · have h9 : nI (n - 1) < x := by
        have : nI (n - 1) < nI n := nI_lt (by omega) (by omega)
        grind
      rw [if_neg c0, if_pos h9, if_pos rfl, if_pos (Or.inr c)]
  · have h9 : ¬ nI (n - 1) < nI j := nI_nlt (by omega) (by omega)
    have h8 : ¬ (nI j < 0 ∨ nI n ≤ nI j) := by
      rintro (z | z)
      · exact nI_pos (by omega) z
      · rw [nI_leI (by omega) (by omega)] at z; omega
    rw [if_neg (nI_pos (by omega)), if_neg h9, if_neg one0, if_neg h8, kx_nI (by omega)]
    have e2 : 5 * (nI (n - 1) - nI j) &&& 31 = nI (5 * (n - 1 - j)) := by
      rw [pk_sub (by omega), show (5 : Int32) = nI 5 from rfl, pk_mul, pk_andN (by omega) 5 (by decide), Nat.mod_eq_of_lt (by omega)]
    rw [e2, pk_shrN (by omega) _ (5 * (n - 1 - j)) (by
      have : ∀ z, z < 32 → ((nI z).toBitVec.smod 32).toNat = z := by decide
      exact this _ (by omega)), pk_andN (by
        have := Nat.div_le_self (codeN f n) (2 ^ (5 * (n - 1 - j)))
        omega) 5 (by decide), code_at hj hf, show (96 : Int32) = nI 96 from rfl, nI_add]
    congr 2
    omega
end
