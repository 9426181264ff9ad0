variable {Mb : SMem}
def sumI (f : Nat → Int32) : Nat → Int32
  | 0 => 0
  | n + 1 => sumI f n + f n
theorem sumI_zero {f : Nat → Int32} : ∀ {n : Nat}, (∀ i, i < n → f i = 0) → sumI f n = 0
  | 0, _ => rfl
  | n + 1, h => by
    show sumI f n + f n = 0
    rw [sumI_zero (fun i hi => h i (Nat.lt_succ_of_lt hi)), h n (Nat.lt_succ_self n)]
    rfl
theorem sumI_congr {f g : Nat → Int32} : ∀ {n : Nat}, (∀ i, i < n → f i = g i) → sumI f n = sumI g n
  | 0, _ => rfl
  | n + 1, h => by
    show sumI f n + f n = sumI g n + g n
    rw [sumI_congr (fun i hi => h i (Nat.lt_succ_of_lt hi)), h n (Nat.lt_succ_self n)]
theorem sumI_one {f : Nat → Int32} (i0 : Nat) : ∀ {n : Nat}, i0 < n → (∀ i, i < n → i ≠ i0 → f i = 0) → sumI f n = f i0
  | 0, h, _ => absurd h (Nat.not_lt_zero _)
  | n + 1, h, h2 => by
    show sumI f n + f n = f i0
    by_cases e : i0 = n
    · subst e
      rw [sumI_zero (fun i hi => h2 i (Nat.lt_succ_of_lt hi) (Nat.ne_of_lt hi)), Int32.zero_add]
    · rw [sumI_one i0 (by omega) (fun i hi => h2 i (Nat.lt_succ_of_lt hi)), h2 n (Nat.lt_succ_self n) (fun q => e q.symm), Int32.add_zero]
theorem sumI_add (f g : Nat → Int32) : ∀ n : Nat, sumI (fun i => f i + g i) n = sumI f n + sumI g n
  | 0 => rfl
  | n + 1 => by
    show sumI (fun i => f i + g i) n + (f n + g n) = (sumI f n + f n) + (sumI g n + g n)
    rw [sumI_add f g n]
    grind
theorem sumI_swap (f : Nat → Nat → Int32) (m : Nat) : ∀ n : Nat, sumI (fun i => sumI (fun j => f i j) m) n = sumI (fun j => sumI (fun i => f i j) n) m
  | 0 => (sumI_zero (fun _ _ => rfl)).symm
  | n + 1 => by
    show sumI (fun i => sumI (fun j => f i j) m) n + sumI (fun j => f n j) m = sumI (fun j => sumI (fun i => f i j) n + f n j) m
    rw [sumI_swap f m n, sumI_add]
theorem sumI_front (f : Nat → Int32) : ∀ n : Nat, sumI f (n + 1) = f 0 + sumI (fun i => f (i + 1)) n
  | 0 => by show 0 + f 0 = f 0 + 0; rw [Int32.zero_add, Int32.add_zero]
  | n + 1 => by
    show sumI f (n + 1) + f (n + 1) = f 0 + (sumI (fun i => f (i + 1)) n + f (n + 1))
    rw [sumI_front f n]
    grind
theorem pz_ne {q : Nat} (h : q < 100) (h6 : q ≠ 6) : pz q ≠ 0 := fun e => by
  have h1 : nI q = nI 6 := by unfold pz at e; have h6 : nI 6 = 6 := rfl; grind
  exact h6 ((nI_eq (by omega) (by omega)).mp h1)
theorem pz_lt {p q : Nat} (hp : p < 100) (hq : q < 100) : pz p < pz q ↔ p < q := by
  have h : ∀ p, p < 100 → (pz p).toInt = (p : Int) - 6 := by decide
  rw [Int32.lt_iff_toInt_lt, h p hp, h q hq]
  omega
theorem pz_eq {p q : Nat} (hp : p < 100) (hq : q < 100) : pz p = pz q ↔ p = q := by
  constructor
  · intro e
    have h1 : nI p = nI q := by unfold pz at e; grind
    exact (nI_eq (by omega) (by omega)).mp h1
  · intro e; rw [e]
theorem pz_6 : pz 6 = 0 := by decide
theorem pz_lt0 {q : Nat} (h : q < 100) : pz q < 0 ↔ q < 6 := by rw [← pz_6]; exact pz_lt h (by decide)
theorem pz_eq0 {q : Nat} (h : q < 100) : pz q = 0 ↔ q = 6 := by rw [← pz_6]; exact pz_eq h (by decide)
theorem pz_s (q : Nat) : pz q + 1 = pz (q + 1) := by unfold pz; rw [nI_succ]; grind
theorem pz_a {a : Nat} : nI a = pz (6 + a) := by
  unfold pz
  rw [← nI_add]
  have h6 : nI 6 = 6 := rfl
  grind
theorem pz_na {a : Nat} (h : a ≤ 6) : -nI a = pz (6 - a) := by
  unfold pz
  have h1 : nI (6 - a) + nI a = nI 6 := by rw [nI_add]; congr 1; omega
  have h6 : nI 6 = 6 := rfl
  grind
def si (b q : Nat) : Nat := 17 + 15 * b + (if q < 6 then q else q - 1)
theorem si_lt {b q : Nat} (hb : b < 5) (hq : q < 13) : si b q < 89 := by unfold si; split <;> omega
theorem si_inj {b q b2 q2 : Nat} (h1 : q < 13) (h2 : q ≠ 6) (h3 : q2 < 13) (h4 : q2 ≠ 6) : si b q = si b2 q2 ↔ b = b2 ∧ q = q2 := by
  unfold si
  constructor
  · intro h; split at h <;> split at h <;> omega
  · rintro ⟨rfl, rfl⟩; rfl
section
variable {N : Nat} {I : kInts} {L : kLngs} {r f : Nat → Int32}
def gq (r : Nat → Int32) (b q : Nat) : Int32 := if q = 6 then 0 else if r (si b q) = 0 then 0 else pz q * r (89 + 7 * (kx (r (si b q)) - 1) + 1)
end
