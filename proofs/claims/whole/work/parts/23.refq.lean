/-! sums; positions; the invariant of a row; what the reference asks of it -/
def sumI (f : Nat → Int32) : Nat → Int32
  | 0 => 0
  | n + 1 => sumI f n + f n
theorem sumI_zero {f : Nat → Int32} : ∀ {n : Nat}, (∀ i, i < n → f i = 0) → sumI f n = 0
  | 0, _ => rfl
  | n + 1, h => by
    show sumI f n + f n = 0
    rw [sumI_zero (fun i hi => h i (Nat.lt_succ_of_lt hi)), h n (Nat.lt_succ_self n)]
    rfl
theorem sumI_congr {f g : Nat → Int32} : ∀ {n : Nat}, (∀ i, i < n → f i = g i) → sumI f n = sumI g n
  | 0, _ => rfl
  | n + 1, h => by
    show sumI f n + f n = sumI g n + g n
    rw [sumI_congr (fun i hi => h i (Nat.lt_succ_of_lt hi)), h n (Nat.lt_succ_self n)]
theorem sumI_one {f : Nat → Int32} (i0 : Nat) : ∀ {n : Nat}, i0 < n → (∀ i, i < n → i ≠ i0 → f i = 0) → sumI f n = f i0
  | 0, h, _ => absurd h (Nat.not_lt_zero _)
  | n + 1, h, h2 => by
    show sumI f n + f n = f i0
    by_cases e : i0 = n
    · subst e
      rw [sumI_zero (fun i hi => h2 i (Nat.lt_succ_of_lt hi) (Nat.ne_of_lt hi)), Int32.zero_add]
    · rw [sumI_one i0 (by omega) (fun i hi => h2 i (Nat.lt_succ_of_lt hi)), h2 n (Nat.lt_succ_self n) (fun q => e q.symm), Int32.add_zero]
theorem sumI_add (f g : Nat → Int32) : ∀ n : Nat, sumI (fun i => f i + g i) n = sumI f n + sumI g n
  | 0 => rfl
  | n + 1 => by
    show sumI (fun i => f i + g i) n + (f n + g n) = (sumI f n + f n) + (sumI g n + g n)
    rw [sumI_add f g n]
    grind
theorem sumI_swap (f : Nat → Nat → Int32) (m : Nat) : ∀ n : Nat, sumI (fun i => sumI (fun j => f i j) m) n = sumI (fun j => sumI (fun i => f i j) n) m
  | 0 => (sumI_zero (fun _ _ => rfl)).symm
  | n + 1 => by
    show sumI (fun i => sumI (fun j => f i j) m) n + sumI (fun j => f n j) m = sumI (fun j => sumI (fun i => f i j) n + f n j) m
    rw [sumI_swap f m n, sumI_add]
theorem sumI_front (f : Nat → Int32) : ∀ n : Nat, sumI f (n + 1) = f 0 + sumI (fun i => f (i + 1)) n
  | 0 => by show 0 + f 0 = f 0 + 0; rw [Int32.zero_add, Int32.add_zero]
  | n + 1 => by
    show sumI f (n + 1) + f (n + 1) = f 0 + (sumI (fun i => f (i + 1)) n + f (n + 1))
    rw [sumI_front f n]
    grind
/-! positions: place q of 13, 6 is the middle -/
theorem pz_ne {q : Nat} (h : q < 100) (h6 : q ≠ 6) : pz q ≠ 0 := fun e => by
  have h1 : nI q = nI 6 := by unfold pz at e; have h6 : nI 6 = 6 := rfl; grind
  exact h6 ((nI_eq (by omega) (by omega)).mp h1)
theorem pz_lt {p q : Nat} (hp : p < 100) (hq : q < 100) : pz p < pz q ↔ p < q := by
  have h : ∀ p, p < 100 → (pz p).toInt = (p : Int) - 6 := by decide
  rw [Int32.lt_iff_toInt_lt, h p hp, h q hq]
  omega
theorem pz_eq {p q : Nat} (hp : p < 100) (hq : q < 100) : pz p = pz q ↔ p = q := by
  constructor
  · intro e
    have h1 : nI p = nI q := by unfold pz at e; grind
    exact (nI_eq (by omega) (by omega)).mp h1
  · intro e; rw [e]
theorem pz_6 : pz 6 = 0 := by decide
theorem pz_lt0 {q : Nat} (h : q < 100) : pz q < 0 ↔ q < 6 := by rw [← pz_6]; exact pz_lt h (by decide)
theorem pz_eq0 {q : Nat} (h : q < 100) : pz q = 0 ↔ q = 6 := by rw [← pz_6]; exact pz_eq h (by decide)
theorem pz_s (q : Nat) : pz q + 1 = pz (q + 1) := by unfold pz; rw [nI_succ]; grind
theorem pz_a {a : Nat} : nI a = pz (6 + a) := by
  unfold pz
  rw [← nI_add]
  have h6 : nI 6 = 6 := rfl
  grind
theorem pz_na {a : Nat} (h : a ≤ 6) : -nI a = pz (6 - a) := by
  unfold pz
  have h1 : nI (6 - a) + nI a = nI 6 := by rw [nI_add]; congr 1; omega
  have h6 : nI 6 = 6 := rfl
  grind
/-- the place of a seat in the row -/
def si (b q : Nat) : Nat := 17 + 15 * b + (if q < 6 then q else q - 1)
theorem si_lt {b q : Nat} (hb : b < 5) (hq : q < 13) : si b q < 89 := by unfold si; split <;> omega
theorem si_inj {b q b2 q2 : Nat} (h1 : q < 13) (h2 : q ≠ 6) (h3 : q2 < 13) (h4 : q2 ≠ 6) : si b q = si b2 q2 ↔ b = b2 ∧ q = q2 := by
  unfold si
  constructor
  · intro h; split at h <;> split at h <;> omega
  · rintro ⟨rfl, rfl⟩; rfl
section
variable {N : Nat} {I : kInts} {L : kLngs} {r f : Nat → Int32}
theorem rx_atS (M : kMem) {b q : Nat} (hq : q < 13) (h6 : q ≠ 6) : F_X12_atSeat N M (nI b) (pz q) = some (nI (si b q)) := by
  unfold F_X12_atSeat F_X12_atBoard si
  have h14 : nI 14 = 14 := rfl
  have h15 : nI 15 = 15 := rfl
  have h3 : nI 3 = 3 := rfl
  by_cases h : q < 6
  · rw [if_pos ((pz_lt0 (by omega)).mpr h), if_pos h]
    have e : 14 + 15 * nI b + (3 + pz q + 6) = nI (17 + 15 * b + q) := by
      have h2 := rx_at 14 15 b (3 + q)
      rw [show 14 + 15 * b + (3 + q) = 17 + 15 * b + q by omega, ← nI_add 3 q] at h2
      rw [← h2]
      unfold pz
      grind
    rw [e]; rfl
  · rw [if_neg (fun z => h ((pz_lt0 (by omega)).mp z)), if_neg h]
    have e : 14 + 15 * nI b + (3 + pz q + 5) = nI (17 + 15 * b + (q - 1)) := by
      have h2 := rx_at 14 15 b (3 + (q - 1))
      have h5 : nI (q - 1) + 1 = nI q := by rw [nI_1]; congr 1; omega
      rw [show 14 + 15 * b + (3 + (q - 1)) = 17 + 15 * b + (q - 1) by omega, ← nI_add 3 (q - 1)] at h2
      rw [← h2]
      unfold pz
      grind
    rw [e]; rfl
theorem rx_onS {b q : Nat} (hb : b < 5) (hq : q < 13) (h6 : q ≠ 6) : F_X12_onSeat N (wm Mb (rf I r f) L) 540 (nI b) (pz q) = some (r (si b q) - 1) := by
  have h := si_lt hb hq
  unfold F_X12_onSeat
  simp (disch := omega) only [rx_atS _ hq h6, wm_kR, wm_kt, wm_kn, wm_kin, wm_kL, wm_kI, wm_ksI, wm_ksL, wm_kJ, wm_ksJ, kg_t, kl_v, Option.bind_some, sr_k, sr_0, sr_1, sr_2, sr_3, sr_4, sr_7, sr_8, sr_9, sr_26, sr_27, sr_28, kin_s, kx_nI, rf_s]
theorem rx_lesser (M : kMem) (x y : Int32) : F_X12_lesser N M x y = some (kmin x y) := by
  unfold F_X12_lesser kmin
  split <;> split <;> first | rfl | grind
theorem rx_greater (M : kMem) (x y : Int32) : F_X12_greater N M x y = some (kmax x y) := by
  unfold F_X12_greater kmax
  split <;> split <;> first | rfl | grind
theorem rx_bare (M : kMem) (x : Int32) : F_X12_bare N M x = some (kabs x) := by
  unfold F_X12_bare kabs
  split <;> split <;> first | rfl | grind
theorem rx_flag (M : kMem) (x : Int32) : F_X12_flag N M x = some (if x = 0 then 0 else 1) := by
  unfold F_X12_flag
  split <;> rfl
/-- what a seat gives to the torque -/
def gq (r : Nat → Int32) (b q : Nat) : Int32 := if q = 6 then 0 else if r (si b q) = 0 then 0 else pz q * r (89 + 7 * (kx (r (si b q)) - 1) + 1)
theorem rx_tqL {b a : Nat} (hb : b < 5) (ha : r (14 + 15 * b + 0) = nI a) (ha6 : a ≤ 6) (hw : ∀ q, q < 13 → q ≠ 6 → r (si b q) = 0 ∨ ∃ t, t < 24 ∧ r (si b q) = nI (t + 1)) : ∀ (k q n : Nat) (acc : Int32), q + k = 7 + a → k < n → F_X12_torqueOf_10 N (wm Mb (rf I r f) L) n 540 (nI b) acc (pz q) = some (acc + sumI (fun i => gq r b (q + i)) k)
  | k, q, 0, acc, _, h => absurd h (Nat.not_lt_zero _)
  | 0, q, n + 1, acc, h1, h2 => by
    unfold F_X12_torqueOf_10
    simp only [wm_kR, wm_kt, wm_kn, wm_kin, wm_kL, wm_kI, wm_ksI, wm_ksL, wm_kJ, wm_ksJ, kg_t, kl_v, Option.bind_some, sr_k, sr_0, sr_1, sr_2, sr_3, sr_4, sr_7, sr_8, sr_9, sr_26, sr_27, sr_28, rx_ofB0 hb, ha]
    rw [if_pos (by rw [pz_a]; exact (pz_lt (by omega) (by omega)).mpr (by omega))]
    show some acc = some (acc + 0)
    rw [Int32.add_zero]
  | k + 1, q, n + 1, acc, h1, h2 => by
    unfold F_X12_torqueOf_10
    simp only [wm_kR, wm_kt, wm_kn, wm_kin, wm_kL, wm_kI, wm_ksI, wm_ksL, wm_kJ, wm_ksJ, kg_t, kl_v, Option.bind_some, sr_k, sr_0, sr_1, sr_2, sr_3, sr_4, sr_7, sr_8, sr_9, sr_26, sr_27, sr_28, rx_ofB0 hb, ha]
    rw [if_neg (by rw [pz_a, pz_lt (by omega) (by omega)]; omega), sumI_front]
    have ih := fun acc => rx_tqL hb ha ha6 hw k (q + 1) n acc (by omega) (by omega)
    have e9 : (fun i => gq r b (q + (i + 1))) = (fun i => gq r b (q + 1 + i)) := by funext i; congr 1; omega
    rw [e9, Nat.add_zero]
    by_cases h6 : q = 6
    · rw [if_pos ((pz_eq0 (by omega)).mpr h6), pz_s, ih]
      unfold gq
      rw [if_pos h6, Int32.zero_add]
    · rw [if_neg (fun z => h6 ((pz_eq0 (by omega)).mp z))]
      simp only [rx_onS hb (show q < 13 by omega) h6, wm_kR, wm_kt, wm_kn, wm_kin, wm_kL, wm_kI, wm_ksI, wm_ksL, wm_kJ, wm_ksJ, kg_t, kl_v, Option.bind_some]
      unfold gq
      rw [if_neg h6]
      rcases hw q (by omega) h6 with e | ⟨t, ht, e⟩
      · rw [if_pos (by rw [e]; decide), pz_s, ih, if_pos e, Int32.zero_add]
        rfl
      · have hne : ¬ r (si b q) = 0 := by rw [e]; exact nI_ne0 (by omega) (by omega)
        rw [if_neg hne, if_neg (by rw [e, nI_pred]; exact nI_ne1 (by omega))]
        rw [e, nI_pred, kx_nI (by omega)]
        simp only [rx_has1 ht, wm_kR, wm_kt, wm_kn, wm_kin, wm_kL, wm_kI, wm_ksI, wm_ksL, wm_kJ, wm_ksJ, kg_t, kl_v, Option.bind_some, pz_s, ih]
        rw [Int32.add_assoc]
        rfl
theorem rx_tq {b a : Nat} (hb : b < 5) (ha : r (14 + 15 * b + 0) = nI a) (ha6 : a ≤ 6) (hw : ∀ q, q < 13 → q ≠ 6 → r (si b q) = 0 ∨ ∃ t, t < 24 ∧ r (si b q) = nI (t + 1)) (hN : 100 < N) : F_X12_torqueOf N (wm Mb (rf I r f) L) 540 (nI b) = some (sumI (fun i => gq r b (6 - a + i)) (2 * a + 1)) := by
  unfold F_X12_torqueOf
  simp only [wm_kR, wm_kt, wm_kn, wm_kin, wm_kL, wm_kI, wm_ksI, wm_ksL, wm_kJ, wm_ksJ, kg_t, kl_v, Option.bind_some, sr_k, sr_0, sr_1, sr_2, sr_3, sr_4, sr_7, sr_8, sr_9, sr_26, sr_27, sr_28, rx_ofB0 hb, ha]
  rw [pz_na ha6, rx_tqL hb ha ha6 hw (2 * a + 1) (6 - a) N 0 (by omega) (by omega), Int32.zero_add]
end
