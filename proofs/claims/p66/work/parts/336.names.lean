variable {Mb : SMem}
theorem code_div {f : Nat → Nat} {n : Nat} (h : f n < 32) : codeN f (n + 1) / 32 = codeN f n := by
  show (32 * codeN f n + f n) / 32 = _
  omega
theorem code_mod {f : Nat → Nat} {n : Nat} (h : f n < 32) : codeN f (n + 1) % 32 = f n := by
  show (32 * codeN f n + f n) % 32 = _
  omega
theorem code_cong {f g : Nat → Nat} : ∀ {n : Nat}, (∀ k, k < n → f k = g k) → codeN f n = codeN g n
  | 0, _ => rfl
  | n + 1, h => by
    show 32 * codeN f n + f n = 32 * codeN g n + g n
    rw [code_cong (fun k hk => h k (Nat.lt_succ_of_lt hk)), h n (Nat.lt_succ_self n)]
theorem code_ge {f : Nat → Nat} : ∀ {n : Nat}, 1 ≤ n → (∀ k, k < n → 1 ≤ f k ∧ f k ≤ 26) → 1 ≤ codeN f n
  | 0, h, _ => absurd h (by decide)
  | n + 1, _, h => by
    have := (h n (Nat.lt_succ_self n)).1
    show 1 ≤ 32 * codeN f n + f n
    omega
theorem code_lt {f : Nat → Nat} : ∀ {n : Nat}, (∀ k, k < n → 1 ≤ f k ∧ f k ≤ 26) → codeN f n < 32 ^ n
  | 0, _ => by show 0 < 32 ^ 0; decide
  | n + 1, h => by
    have h1 := (h n (Nat.lt_succ_self n)).2
    have h2 := code_lt (fun k hk => h k (Nat.lt_succ_of_lt hk))
    show 32 * codeN f n + f n < 32 ^ n * 32
    omega
theorem code_inj {f g : Nat → Nat} : ∀ {n m : Nat}, (∀ k, k < n → 1 ≤ f k ∧ f k ≤ 26) → (∀ k, k < m → 1 ≤ g k ∧ g k ≤ 26) → codeN f n = codeN g m → n = m ∧ ∀ k, k < n → f k = g k
  | 0, 0, _, _, _ => ⟨rfl, fun k hk => absurd hk (Nat.not_lt_zero _)⟩
  | 0, m + 1, _, hg, e => by
    have := code_ge (n := m + 1) (by omega) hg
    rw [← e] at this
    exact absurd this (by show ¬ 1 ≤ 0; decide)
  | n + 1, 0, hf, _, e => by
    have := code_ge (n := n + 1) (by omega) hf
    rw [e] at this
    exact absurd this (by show ¬ 1 ≤ 0; decide)
  | n + 1, m + 1, hf, hg, e => by
    have h1 := (hf n (Nat.lt_succ_self n)).2
    have h2 := (hg m (Nat.lt_succ_self m)).2
    have e1 : f n = g m := by rw [← code_mod (f := f) (n := n) (by omega), e, code_mod (by omega)]
    have e2 : codeN f n = codeN g m := by rw [← code_div (f := f) (n := n) (by omega), e, code_div (by omega)]
    obtain ⟨e3, e4⟩ := code_inj (fun k hk => hf k (Nat.lt_succ_of_lt hk)) (fun k hk => hg k (Nat.lt_succ_of_lt hk)) e2
    subst e3
    refine ⟨rfl, fun k hk => ?_⟩
    by_cases z : k = n
    · subst z; exact e1
    · exact e4 k (by omega)
theorem code_30 {f : Nat → Nat} {n : Nat} (h : n ≤ 6) (hf : ∀ k, k < n → 1 ≤ f k ∧ f k ≤ 26) : codeN f n < 1073741824 := by
  have h1 := code_lt hf
  have h2 : 32 ^ n ≤ 32 ^ 6 := Nat.pow_le_pow_right (by decide) h
  have h3 : 32 ^ 6 = 1073741824 := by decide
  omega
theorem lN_bv (n : Nat) : (lN n).toBitVec = BitVec.ofNat 64 n := rfl
theorem nI_bv (n : Nat) : (nI n).toBitVec = BitVec.ofNat 32 n := rfl
theorem lN_inj {a b : Nat} (ha : a < 2 ^ 64) (hb : b < 2 ^ 64) : lN a = lN b ↔ a = b := by
  constructor
  · intro h
    have h1 := congrArg (fun x => x.toBitVec.toNat) h
    simp only [lN_bv, BitVec.toNat_ofNat] at h1
    omega
  · intro h; rw [h]
theorem pkN_byte (P s : Nat) (hP : P < 2 ^ 64) (hs : s < 64) : (((lN P).toUInt64 >>> UInt64.ofNat s).toInt64 &&& 255).toInt32 = nI (P / 2 ^ s % 256) := by
  apply Int32.toBitVec_inj.mp
  rw [Int64.toBitVec_toInt32, Int64.toBitVec_and, nI_bv]
  have e1 : ((lN P).toUInt64 >>> UInt64.ofNat s).toInt64.toBitVec = BitVec.ofNat 64 P >>> s := by
    show ((lN P).toUInt64 >>> UInt64.ofNat s).toBitVec = _
    rw [UInt64.toBitVec_shiftRight]
    show BitVec.ofNat 64 P >>> ((BitVec.ofNat 64 s) % 64) = _
    apply BitVec.eq_of_toNat_eq
    simp [Nat.mod_eq_of_lt hP, Nat.mod_eq_of_lt hs]
  have e2 : ((255 : Int64).toBitVec) = BitVec.ofNat 64 255 := rfl
  rw [e1, e2]
  have e3 : (BitVec.ofNat 64 P >>> s &&& BitVec.ofNat 64 255) = BitVec.ofNat 64 (P / 2 ^ s % 256) := by
    apply BitVec.eq_of_toNat_eq
    simp only [BitVec.toNat_and, BitVec.toNat_ushiftRight, BitVec.toNat_ofNat]
    rw [Nat.mod_eq_of_lt hP, Nat.shiftRight_eq_div_pow, show 255 % 2 ^ 64 = 2 ^ 8 - 1 by decide, Nat.and_two_pow_sub_one_eq_mod]
    have : P / 2 ^ s % 2 ^ 8 < 2 ^ 8 := Nat.mod_lt _ (by decide)
    omega
  rw [e3]
  generalize hx : P / 2 ^ s % 256 = x
  have hx2 : x < 256 := by omega
  clear hx e1 e3
  have h : ∀ x, x < 256 → BitVec.signExtend 32 (BitVec.ofNat 64 x) = BitVec.ofNat 32 x := by decide +kernel
  exact h x hx2
theorem pkN_shl (P c : Nat) (hP : P < 2 ^ 55) (hc : c < 256) : (lN P <<< (((8 : Int32).toInt64) &&& 63)) ||| (nI c).toInt64 = lN (256 * P + c) := by
  rw [show ((8 : Int32).toInt64) &&& 63 = (8 : Int64) from by decide]
  apply Int64.toBitVec_inj.mp
  apply BitVec.eq_of_toNat_eq
  have e1 : (nI c).toInt64 = lN c := by
    have h : ∀ c, c < 256 → (nI c).toInt64 = lN c := by decide +kernel
    exact h c hc
  rw [e1]
  have e2 : (lN P <<< (8 : Int64)).toBitVec = BitVec.ofNat 64 P <<< 8 := by
    rw [Int64.toBitVec_shiftLeft]
    rfl
  rw [Int64.toBitVec_or, e2, lN_bv, lN_bv]
  simp only [BitVec.toNat_or, BitVec.toNat_shiftLeft, BitVec.toNat_ofNat]
  have h1 : P % 2 ^ 64 = P := Nat.mod_eq_of_lt (by omega)
  have h2 : c % 2 ^ 64 = c := Nat.mod_eq_of_lt (by omega)
  have h3 : P <<< 8 % 2 ^ 64 = P <<< 8 := Nat.mod_eq_of_lt (by rw [Nat.shiftLeft_eq]; omega)
  rw [h1, h2, h3, ← Nat.shiftLeft_add_eq_or_of_lt (by omega : c < 2 ^ 8), Nat.shiftLeft_eq]
  omega
theorem pkN_s (f : Nat → Nat) (k i : Nat) : pkN f (k + 1) i = (96 + f i) + 256 * pkN f k (i + 1) := rfl
theorem pkN_lt {f : Nat → Nat} : ∀ {k i : Nat}, (∀ j, i ≤ j → j < i + k → 1 ≤ f j ∧ f j ≤ 26) → pkN f k i < 256 ^ k
  | 0, i, _ => by show 0 < 256 ^ 0; decide
  | k + 1, i, h => by
    have h1 := (h i (Nat.le_refl _) (by omega)).2
    have h2 := pkN_lt (f := f) (k := k) (i := i + 1) (fun j a b => h j (by omega) (by omega))
    rw [pkN_s, Nat.pow_succ]
    omega
theorem pkN_48 {f : Nat → Nat} {k i : Nat} (h6 : k ≤ 6) (h : ∀ j, i ≤ j → j < i + k → 1 ≤ f j ∧ f j ≤ 26) : pkN f k i < 2 ^ 48 := by
  have h1 := pkN_lt h
  have h2 : 256 ^ k ≤ 256 ^ 6 := Nat.pow_le_pow_right (by decide) h6
  have h3 : 256 ^ 6 = 2 ^ 48 := by decide
  omega
theorem pkN_inj {f g : Nat → Nat} : ∀ {n m i j : Nat}, (∀ q, i ≤ q → q < i + n → 1 ≤ f q ∧ f q ≤ 26) → (∀ q, j ≤ q → q < j + m → 1 ≤ g q ∧ g q ≤ 26) → pkN f n i = pkN g m j → n = m ∧ ∀ q, q < n → f (i + q) = g (j + q)
  | 0, 0, _, _, _, _, _ => ⟨rfl, fun k hk => absurd hk (Nat.not_lt_zero _)⟩
  | 0, m + 1, i, j, _, hg, e => by
    rw [pkN_s] at e
    have e0 : pkN f 0 i = 0 := rfl
    omega
  | n + 1, 0, i, j, hf, _, e => by
    rw [pkN_s] at e
    have e0 : pkN g 0 j = 0 := rfl
    omega
  | n + 1, m + 1, i, j, hf, hg, e => by
    rw [pkN_s, pkN_s] at e
    have h1 := (hf i (Nat.le_refl _) (by omega)).2
    have h2 := (hg j (Nat.le_refl _) (by omega)).2
    have e1 : f i = g j := by omega
    have e2 : pkN f n (i + 1) = pkN g m (j + 1) := by omega
    obtain ⟨e3, e4⟩ := pkN_inj (fun q a b => hf q (by omega) (by omega)) (fun q a b => hg q (by omega) (by omega)) e2
    refine ⟨by omega, fun q hq => ?_⟩
    cases q with
    | zero => exact e1
    | succ q =>
      have := e4 q (by omega)
      rw [show i + (q + 1) = i + 1 + q by omega, show j + (q + 1) = j + 1 + q by omega]
      exact this
theorem pkN_cong {f g : Nat → Nat} : ∀ {k i : Nat}, (∀ j, i ≤ j → j < i + k → f j = g j) → pkN f k i = pkN g k i
  | 0, _, _ => rfl
  | k + 1, i, h => by
    rw [pkN_s, pkN_s, h i (Nat.le_refl _) (by omega), pkN_cong (fun j a b => h j (by omega) (by omega))]
theorem pkN_at {f : Nat → Nat} : ∀ {n i k : Nat}, k < n → (∀ j, i ≤ j → j < i + n → 1 ≤ f j ∧ f j ≤ 26) → pkN f n i / 2 ^ (8 * k) % 256 = 96 + f (i + k)
  | 0, i, k, h, _ => absurd h (Nat.not_lt_zero _)
  | n + 1, i, k, h, hf => by
    have h2 := (hf i (Nat.le_refl _) (by omega)).2
    cases k with
    | zero =>
      rw [pkN_s]
      simp only [Nat.mul_zero, Nat.pow_zero, Nat.div_one, Nat.add_zero]
      omega
    | succ k =>
      have ih := pkN_at (f := f) (n := n) (i := i + 1) (k := k) (by omega) (fun j a b => hf j (by omega) (by omega))
      rw [show 8 * (k + 1) = 8 + 8 * k by omega, Nat.pow_add, ← Nat.div_div_eq_div_mul, show 2 ^ 8 = 256 from rfl, pkN_s, show (96 + f i + 256 * pkN f n (i + 1)) / 256 = pkN f n (i + 1) by omega, ih, show i + 1 + k = i + (k + 1) by omega]
theorem pkN_end {f : Nat → Nat} {n i k : Nat} (h : n ≤ k) (hf : ∀ j, i ≤ j → j < i + n → 1 ≤ f j ∧ f j ≤ 26) : pkN f n i / 2 ^ (8 * k) % 256 = 0 := by
  have h1 := pkN_lt hf
  have h2 : (256 : Nat) ^ n ≤ 2 ^ (8 * k) := by
    rw [show (256 : Nat) = 2 ^ 8 from rfl, ← Nat.pow_mul]
    exact Nat.pow_le_pow_right (by decide) (by omega)
  rw [Nat.div_eq_of_lt (by omega)]
def nmZ (v : Int64) (c : Int32) : Prop := ∃ (n : Nat) (f : Nat → Nat), n ≤ 6 ∧ (∀ k, k < n → 1 ≤ f k ∧ f k ≤ 26) ∧ v = lN (pkN f n 0) ∧ c = nI (codeN f n)
theorem nmV.z {v : Int64} {c : Int32} (h : nmV v c) : nmZ v c := by
  obtain ⟨n, f, h1, h2, h3, h4⟩ := h
  exact ⟨n, f, h1.2, h2, h3, h4⟩
theorem nmZ_0 : nmZ 0 0 := ⟨0, fun _ => 0, by decide, fun k hk => absurd hk (Nat.not_lt_zero _), rfl, rfl⟩
theorem nmZ.eq {v v2 : Int64} {c c2 : Int32} (h : nmZ v c) (h2 : nmZ v2 c2) : (v = v2) = (c = c2) := by
  obtain ⟨n, f, a1, a2, rfl, rfl⟩ := h
  obtain ⟨m, g, b1, b2, rfl, rfl⟩ := h2
  have p1 := pkN_48 (f := f) (i := 0) a1 (fun j _ hj => a2 j (by omega))
  have p2 := pkN_48 (f := g) (i := 0) b1 (fun j _ hj => b2 j (by omega))
  have k1 := code_30 a1 a2
  have k2 := code_30 b1 b2
  apply propext
  rw [lN_inj (by omega) (by omega), nI_eq (by omega) (by omega)]
  constructor
  · intro e
    obtain ⟨rfl, e2⟩ := pkN_inj (fun j _ hj => a2 j (by omega)) (fun j _ hj => b2 j (by omega)) e
    exact code_cong (fun k hk => by have := e2 k hk; rwa [Nat.zero_add] at this)
  · intro e
    obtain ⟨rfl, e2⟩ := code_inj a2 b2 e
    exact pkN_cong (fun j _ hj => e2 j (by omega))
theorem nmV.ne {v : Int64} {c : Int32} (h : nmV v c) : ¬ v = 0 := by
  rw [h.z.eq nmZ_0]
  obtain ⟨n, f, h1, h2, -, rfl⟩ := h
  have k1 := code_30 h1.2 h2
  have k2 := code_ge h1.1 h2
  exact nI_ne0 (by omega) (by omega)
theorem lgc0 (x y : Int64) : (lg_cmp x y = 0) = (x = y) := by
  unfold lg_cmp
  apply propext
  by_cases c1 : x = y
  · subst c1
    have c2 : ¬ x < x := Int64.lt_irrefl
    simp
  · by_cases c2 : y < x
    · simp [c1, c2]
    · simp [c1, c2]
def sameL (f g : Nat → Nat) : Nat → Nat → Bool
  | 0, _ => true
  | k + 1, i => f i == g i && sameL f g k (i + 1)
theorem sameL_iff {f g : Nat → Nat} : ∀ {k i : Nat}, sameL f g k i = true ↔ ∀ j, i ≤ j → j < i + k → f j = g j
  | 0, i => ⟨fun _ j h1 h2 => by omega, fun _ => rfl⟩
  | k + 1, i => by
    unfold sameL
    rw [Bool.and_eq_true, beq_iff_eq, sameL_iff]
    constructor
    · rintro ⟨h1, h2⟩ j h3 h4
      by_cases z : j = i
      · subst z; exact h1
      · exact h2 j (by omega) (by omega)
    · intro h
      exact ⟨h i (Nat.le_refl _) (by omega), fun j h1 h2 => h j (by omega) (by omega)⟩
def fndL (r : Nat → Int32) (c : Int32) : Nat → Nat → Option Nat
  | 0, _ => none
  | k + 1, i => if r (89 + 7 * i + 0) = c then some i else fndL r c k (i + 1)
def fnd (r : Nat → Int32) (nt : Nat) (c : Int32) : Option Nat := fndL r c nt 0
def rOf : Option Nat → Int32
  | none => -1
  | some t => nI t
def cOf (m : Nat) : Option Nat → Nat
  | none => 0
  | some t => tr m t
section
variable {N : Nat} {I : kInts} {L : kLngs} {r f : Nat → Int32} {nb nt m a b a2 b2 : Nat}
theorem ofN6 : Int32.ofNat 6 = nI 6 := rfl
theorem cx_namedL (hm : m ∈ mks) {v : Int64} {c : Int32} (hq : nmZ v c) (h24 : nt ≤ 24) (h8 : r 8 = nI nt) (htc : I m 12 = r 8) (hRn : RMn I m r nt) : ∀ (k i z : Nat), i + k = nt → k < z → F_X4_traderNamed_2 N (wm Mb I L) z m v (nI i) = some (cOf m (fndL r c k i))
  | k, i, 0, _, h => absurd h (Nat.not_lt_zero _)
  | 0, i, z + 1, e, _ => by
    unfold F_X4_traderNamed_2
    simp (disch := omega) only [wm_kR, wm_kt, wm_kn, wm_kin, wm_kL, wm_kI, wm_ksI, wm_ksL, wm_kJ, wm_ksJ, kg_t, kl_v, Option.bind_some, mm_k hm, mm_bs hm, mm_bn hm, mm_ts hm, mm_tn hm, mm_e hm, mm_ek hm, htc, h8, nI_ltP]
    rw [if_neg (by omega)]
    rfl
  | k + 1, i, z + 1, e, hz => by
    have hi : i < nt := by omega
    have ht : i < 24 := by omega
    have ih := cx_namedL hm hq h24 h8 htc hRn k (i + 1) z (by omega) (by omega)
    unfold F_X4_traderNamed_2 fndL
    simp (disch := omega) only [wm_kR, wm_kt, wm_kn, wm_kin, wm_kL, wm_kI, wm_ksI, wm_ksL, wm_kJ, wm_ksJ, kg_t, kl_v, Option.bind_some, mm_k hm, mm_bs hm, mm_bn hm, mm_ts hm, mm_tn hm, mm_e hm, mm_ek hm, tt_r hm ht, tt_k hm ht, htc, h8, nI_ltP, kin_t hm ht, kx_nI, lgc0, (hRn i hi).z.eq hq, nI_1]
    rw [if_pos hi]
    by_cases c1 : r (89 + 7 * i + 0) = c
    · simp only [if_pos c1]
      rfl
    · simp only [if_neg c1]
      exact ih
theorem cx_named (hm : m ∈ mks) {v : Int64} {c : Int32} (hq : nmZ v c) (h24 : nt ≤ 24) (h8 : r 8 = nI nt) (htc : I m 12 = r 8) (hRn : RMn I m r nt) (hN : 100 < N) : F_X4_traderNamed N (wm Mb I L) m v = some (cOf m (fnd r nt c)) := by
  unfold F_X4_traderNamed
  exact cx_namedL hm hq h24 h8 htc hRn nt 0 N (by omega) (by omega)
theorem fndL_lt {c : Int32} : ∀ {k i t : Nat}, fndL r c k i = some t → t < i + k ∧ r (89 + 7 * t + 0) = c
  | 0, i, t, h => by cases h
  | k + 1, i, t, h => by
    unfold fndL at h
    by_cases e : r (89 + 7 * i + 0) = c
    · rw [if_pos e] at h
      cases h
      exact ⟨by omega, e⟩
    · rw [if_neg e] at h
      obtain ⟨h1, h2⟩ := fndL_lt h
      exact ⟨by omega, h2⟩
theorem fnd_lt {c : Int32} {t : Nat} (h : fnd r nt c = some t) : t < nt := by
  have := (fndL_lt h).1
  omega
theorem rOf_ne {t : Nat} (h : t < 24) : ¬ rOf (some t) = -1 := nI_ne1 (by omega)
theorem rOf_none : rOf none = -1 := rfl
theorem code_at {f : Nat → Nat} : ∀ {n i : Nat}, i < n → (∀ k, k < n → 1 ≤ f k ∧ f k ≤ 26) → codeN f n / 2 ^ (5 * (n - 1 - i)) % 32 = f i
  | 0, i, h, _ => absurd h (Nat.not_lt_zero _)
  | n + 1, i, h, hf => by
    have h2 := (hf n (Nat.lt_succ_self n)).2
    by_cases e : i = n
    · subst e
      rw [show i + 1 - 1 - i = 0 by omega]
      simp only [Nat.mul_zero, Nat.pow_zero, Nat.div_one]
      exact code_mod (by omega)
    · have ih := code_at (f := f) (n := n) (i := i) (by omega) (fun k hk => hf k (Nat.lt_succ_of_lt hk))
      have e1 : 5 * (n + 1 - 1 - i) = 5 + 5 * (n - 1 - i) := by omega
      rw [e1, Nat.pow_add, ← Nat.div_div_eq_div_mul, show 2 ^ 5 = 32 from rfl, code_div (by omega)]
      exact ih
theorem lgc (a b : Int32) : lg_cmp a.toInt64 b.toInt64 = if b < a then 1 else if a = b then 0 else -1 := by
  have wl : ∀ a b : Int32, (a.toInt64 < b.toInt64) = (a < b) := fun a b => by rw [Int64.lt_iff_toInt_lt, Int32.lt_iff_toInt_lt, Int32.toInt_toInt64, Int32.toInt_toInt64]
  have we : ∀ a b : Int32, (a.toInt64 = b.toInt64) = (a = b) := fun a b => by rw [← Int64.toInt_inj, Int32.toInt_toInt64, Int32.toInt_toInt64, Int32.toInt_inj]
  unfold lg_cmp
  simp only [gt_iff_lt, wl, we]
theorem lgc_lt (a b : Int32) : (lg_cmp a.toInt64 b.toInt64 < 0) = (a < b) := by
  rw [lgc]
  apply propext
  by_cases c1 : b < a
  · rw [if_pos c1]
    exact ⟨fun h => absurd h (by decide), fun h => by grind⟩
  · rw [if_neg c1]
    by_cases c2 : a = b
    · rw [if_pos c2]
      exact ⟨fun h => absurd h (by decide), fun h => by grind⟩
    · rw [if_neg c2]
      exact ⟨fun _ => by grind, fun _ => by decide⟩
theorem lgc_gt (a b : Int32) : (0 < lg_cmp a.toInt64 b.toInt64) = (b < a) := by
  rw [lgc]
  apply propext
  by_cases c1 : b < a
  · rw [if_pos c1]
    exact ⟨fun _ => c1, fun _ => by decide⟩
  · rw [if_neg c1]
    by_cases c2 : a = b
    · rw [if_pos c2]
      exact ⟨fun h => absurd h (by decide), fun h => absurd h c1⟩
    · rw [if_neg c2]
      exact ⟨fun h => absurd h (by decide), fun h => absurd h c1⟩
end
