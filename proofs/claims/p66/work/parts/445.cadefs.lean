/-! the constructors as functions -/
def ksl (L : Nat) (M : kMem) : Nat := ((M.1.drop L).map Prod.snd).sum
theorem ksl_new {L : Nat} {M : kMem} {t n : Nat} (h : L ≤ M.1.length) : ksl L (kNew M t n) = ksl L M + n := by
  unfold ksl kNew
  simp only
  rw [List.drop_append_of_le_length h]
  simp
theorem klen_new {L : Nat} {M : kMem} {t n : Nat} (h : L ≤ M.1.length) : (kNew M t n).1.length - L = M.1.length - L + 1 := by
  unfold kNew
  simp only [List.length_append, List.length_cons, List.length_nil]
  omega
def krm (L mc ms : Nat) (M : kMem) (n : Nat) : Bool := decide (L ≤ M.1.length) && (decide (M.1.length - L + 1 ≤ mc) && decide (ksl L M + n ≤ ms))
theorem krm_spec {L mc ms : Nat} {M : kMem} {n : Nat} (h : krm L mc ms M n = true) : L ≤ M.1.length ∧ M.1.length - L + 1 ≤ mc ∧ ksl L M + n ≤ ms := by
  unfold krm at h
  simpa using h
def kok (L mc9 ms9 : Nat) (M : kMem) (mc ms : Nat) : Bool := decide (L ≤ M.1.length) && (decide (M.1.length - L + mc ≤ mc9) && decide (ksl L M + ms ≤ ms9))
theorem kok_spec {L mc9 ms9 : Nat} {M : kMem} {mc ms : Nat} (h : kok L mc9 ms9 M mc ms = true) : L ≤ M.1.length ∧ M.1.length - L + mc ≤ mc9 ∧ ksl L M + ms ≤ ms9 := by
  unfold kok at h
  simpa using h
def kgr (L : Nat) (M M1 : kMem) (mc ms : Nat) : Bool := decide (M1.1.length - L = M.1.length - L + mc) && decide (ksl L M1 = ksl L M + ms)
theorem kgr_spec {L : Nat} {M M1 : kMem} {mc ms : Nat} (h : kgr L M M1 mc ms = true) : M1.1.length - L = M.1.length - L + mc ∧ ksl L M1 = ksl L M + ms := by
  unfold kgr at h
  simpa using h
def kend (L mc ms : Nat) (M : kMem) : Bool := decide (L ≤ M.1.length) && (decide (M.1.length - L ≤ mc) && decide (ksl L M ≤ ms))
theorem kend_spec {L mc ms : Nat} {M : kMem} (h : kend L mc ms M = true) : L ≤ M.1.length ∧ M.1.length - L ≤ mc ∧ ksl L M ≤ ms := by
  unfold kend at h
  simpa using h
def F_X8_init_b (N L : Nat) (M : kMem) (a0 : Nat) : Option kMem :=
    kg (decide (a0 ≠ 0)) <|
    kg (krm L 1 800 M (800 : Int32).toNatClampNeg) <| kl (kNew M 13 (800 : Int32).toNatClampNeg) fun M1 =>
    kl (M.1.length + 1) fun w2 =>
    kg (kt M1 a0 8) <| kl (ksR M1 a0 0 w2) fun M3 =>
    kg (kend L 1 800 M3) <| some M3
def F_X8_init (N : Nat) (M : kMem) (a0 : Nat) : Option kMem := F_X8_init_b N M.1.length M a0
def F_X0_init_b (N L : Nat) (M : kMem) (a0 : Nat) (x1 : Int32) : Option kMem :=
    kg (decide (a0 ≠ 0)) <|
    kg (krm L 1 13 M (13 : Int32).toNatClampNeg) <| kl (kNew M 13 (13 : Int32).toNatClampNeg) fun M1 =>
    kl (M.1.length + 1) fun w2 =>
    kg (kt M1 a0 0) <| kl (ksR M1 a0 4 w2) fun M3 =>
    kg (kt M3 a0 0) <| kl (ksI M3 a0 0 x1) fun M4 =>
    kg (kend L 1 13 M4) <| some M4
def F_X0_init (N : Nat) (M : kMem) (a0 : Nat) (x1 : Int32) : Option kMem := F_X0_init_b N M.1.length M a0 x1
def F_X2_init_b (N L : Nat) (M : kMem) (a0 : Nat) : Option kMem :=
    kg (decide (a0 ≠ 0)) <|
    kg (krm L 3 36 M (12 : Int32).toNatClampNeg) <| kl (kNew M 13 (12 : Int32).toNatClampNeg) fun M1 =>
    kl (M.1.length + 1) fun w2 =>
    kg (kt M1 a0 2) <| kl (ksR M1 a0 0 w2) fun M3 =>
    kg (krm L 3 36 M3 (12 : Int32).toNatClampNeg) <| kl (kNew M3 13 (12 : Int32).toNatClampNeg) fun M4 =>
    kl (M3.1.length + 1) fun w5 =>
    kg (kt M4 a0 2) <| kl (ksR M4 a0 1 w5) fun M6 =>
    kg (krm L 3 36 M6 (12 : Int32).toNatClampNeg) <| kl (kNew M6 13 (12 : Int32).toNatClampNeg) fun M7 =>
    kl (M6.1.length + 1) fun w8 =>
    kg (kt M7 a0 2) <| kl (ksR M7 a0 2 w8) fun M9 =>
    kg (kend L 3 36 M9) <| some M9
def F_X2_init (N : Nat) (M : kMem) (a0 : Nat) : Option kMem := F_X2_init_b N M.1.length M a0
def F_X10_init_b (N L : Nat) (M : kMem) (a0 : Nat) (x1 : Int32) : Option kMem :=
    kg (decide (a0 ≠ 0)) <|
    kg (kt M a0 10) <| kl (ksI M a0 0 x1) fun M1 =>
    kg (kend L 0 0 M1) <| some M1
def F_X10_init (N : Nat) (M : kMem) (a0 : Nat) (x1 : Int32) : Option kMem := F_X10_init_b N M.1.length M a0 x1
def F_X9_init_b (N L : Nat) (M : kMem) (a0 : Nat) (a1 : Nat) : Option kMem :=
    kg (decide (a0 ≠ 0)) <|
    kg (krm L 3 2403 M (801 : Int32).toNatClampNeg) <| kl (kNew M 13 (801 : Int32).toNatClampNeg) fun M1 =>
    kl (M.1.length + 1) fun w2 =>
    kg (kt M1 a0 9) <| kl (ksR M1 a0 1 w2) fun M3 =>
    kg (krm L 3 2403 M3 (801 : Int32).toNatClampNeg) <| kl (kNew M3 13 (801 : Int32).toNatClampNeg) fun M4 =>
    kl (M3.1.length + 1) fun w5 =>
    kg (kt M4 a0 9) <| kl (ksR M4 a0 2 w5) fun M6 =>
    kg (krm L 3 2403 M6 (801 : Int32).toNatClampNeg) <| kl (kNew M6 13 (801 : Int32).toNatClampNeg) fun M7 =>
    kl (M6.1.length + 1) fun w8 =>
    kg (kt M7 a0 9) <| kl (ksR M7 a0 3 w8) fun M9 =>
    kg (kt M9 a0 9) <| kl (ksI M9 a0 7 (-1)) fun M10 =>
    kg (kt M10 a0 9) <| kl (ksR M10 a0 0 a1) fun M11 =>
    kg (kend L 3 2403 M11) <| some M11
def F_X9_init (N : Nat) (M : kMem) (a0 : Nat) (a1 : Nat) : Option kMem := F_X9_init_b N M.1.length M a0 a1
def F_X1_init_b (N L : Nat) (M : kMem) (a0 : Nat) : Option kMem :=
    kg (decide (a0 ≠ 0)) <|
    kg (kend L 0 0 M) <| some M
def F_X1_init (N : Nat) (M : kMem) (a0 : Nat) : Option kMem := F_X1_init_b N M.1.length M a0
def F_X6_init_30 (N L : Nat)  : Nat → kMem → Nat → Int32 → Option (kMem)
  | 0, _, _, _ => none
  | n + 1, M, a0, x1 =>
    kg (kt M a0 6) <|
    kg (kt M (kR M a0 0) 19) <|
    if x1 < (Int32.ofNat (kn M (kR M a0 0))) then (
      kg (kt M a0 6) <|
      kg (krm L 33 282 M 7) <| kl (kNew M 1 7) fun M10 =>
      kl (M.1.length + 1) fun w11 =>
      kg (kok L 33 282 M10 0 0) <| (F_X1_init N M10 w11).bind fun M12 => kg (kgr L M10 M12 0 0) <|
      kg (kin M12 (kR M a0 0) 19 x1 && kt M12 w11 1) <| kl (ksR M12 (kR M a0 0) (kx x1) w11) fun M13 =>
      kl (x1 + 1) fun v14 =>
      F_X6_init_30 N L n M13 a0 v14) else
    kg (kend L 33 282 M) <| some M
def F_X6_init_b (N L : Nat) (M : kMem) (a0 : Nat) : Option kMem :=
    kg (decide (a0 ≠ 0)) <|
    kg (krm L 33 282 M (30 : Int32).toNatClampNeg) <| kl (kNew M 19 (30 : Int32).toNatClampNeg) fun M1 =>
    kl (M.1.length + 1) fun w2 =>
    kg (kt M1 a0 6) <| kl (ksR M1 a0 0 w2) fun M3 =>
    kg (krm L 33 282 M3 (2 : Int32).toNatClampNeg) <| kl (kNew M3 13 (2 : Int32).toNatClampNeg) fun M4 =>
    kl (M3.1.length + 1) fun w5 =>
    kg (kt M4 a0 6) <| kl (ksR M4 a0 2 w5) fun M6 =>
    kg (krm L 33 282 M6 (40 : Int32).toNatClampNeg) <| kl (kNew M6 13 (40 : Int32).toNatClampNeg) fun M7 =>
    kl (M6.1.length + 1) fun w8 =>
    kg (kt M7 a0 6) <| kl (ksR M7 a0 4 w8) fun M9 =>
    F_X6_init_30 N L N M9 a0 0
def F_X6_init (N : Nat) (M : kMem) (a0 : Nat) : Option kMem := F_X6_init_b N M.1.length M a0
def F_X4_init_65 (N L : Nat)  : Nat → kMem → Nat → Int32 → Option (kMem)
  | 0, _, _, _ => none
  | n + 1, M, a0, x1 =>
    kg (kt M a0 4) <|
    kg (kt M (kR M a0 14) 17) <|
    if x1 < (Int32.ofNat (kn M (kR M a0 14))) then (
      kg (kt M a0 4) <|
      kg (krm L 40 351 M 8) <| kl (kNew M 10 8) fun M11 =>
      kl (M.1.length + 1) fun w12 =>
      kg (kok L 40 351 M11 0 0) <| (F_X10_init N M11 w12 x1).bind fun M13 => kg (kgr L M11 M13 0 0) <|
      kg (kin M13 (kR M a0 14) 17 x1 && kt M13 w12 10) <| kl (ksR M13 (kR M a0 14) (kx x1) w12) fun M14 =>
      kl (x1 + 1) fun v15 =>
      F_X4_init_65 N L n M14 a0 v15) else
    kg (kend L 40 351 M) <| some M
def F_X4_init_34 (N L : Nat)  : Nat → kMem → Nat → Int32 → Option (kMem)
  | 0, _, _, _ => none
  | n + 1, M, a0, x1 =>
    kg (kt M a0 4) <|
    kg (kt M (kR M a0 13) 16) <|
    if x1 < (Int32.ofNat (kn M (kR M a0 13))) then (
      kg (kt M a0 4) <|
      kg (krm L 40 351 M 5) <| kl (kNew M 0 5) fun M16 =>
      kl (M.1.length + 1) fun w17 =>
      kg (kok L 40 351 M16 1 13) <| (F_X0_init N M16 w17 x1).bind fun M18 => kg (kgr L M16 M18 1 13) <|
      kg (kin M18 (kR M a0 13) 16 x1 && kt M18 w17 0) <| kl (ksR M18 (kR M a0 13) (kx x1) w17) fun M19 =>
      kl (x1 + 1) fun v20 =>
      F_X4_init_34 N L n M19 a0 v20) else
    F_X4_init_65 N L N M a0 0
def F_X4_init_b (N L : Nat) (M : kMem) (a0 : Nat) : Option kMem :=
    kg (decide (a0 ≠ 0)) <|
    kg (krm L 40 351 M (5 : Int32).toNatClampNeg) <| kl (kNew M 16 (5 : Int32).toNatClampNeg) fun M1 =>
    kl (M.1.length + 1) fun w2 =>
    kg (kt M1 a0 4) <| kl (ksR M1 a0 13 w2) fun M3 =>
    kg (krm L 40 351 M3 (24 : Int32).toNatClampNeg) <| kl (kNew M3 17 (24 : Int32).toNatClampNeg) fun M4 =>
    kl (M3.1.length + 1) fun w5 =>
    kg (kt M4 a0 4) <| kl (ksR M4 a0 14 w5) fun M6 =>
    kg (krm L 40 351 M6 4) <| kl (kNew M6 2 4) fun M7 =>
    kl (M6.1.length + 1) fun w8 =>
    kg (kok L 40 351 M7 3 36) <| (F_X2_init N M7 w8).bind fun M9 => kg (kgr L M7 M9 3 36) <|
    kg (kt M9 a0 4) <| kl (ksR M9 a0 15 w8) fun M10 =>
    F_X4_init_34 N L N M10 a0 0
def F_X4_init (N : Nat) (M : kMem) (a0 : Nat) : Option kMem := F_X4_init_b N M.1.length M a0
def F_X3_init_15 (N L : Nat)  : Nat → kMem → Nat → Int32 → Option (kMem)
  | 0, _, _, _ => none
  | n + 1, M, a0, x1 =>
    kg (kt M a0 3) <|
    kg (kt M (kR M a0 0) 18) <|
    if x1 < (Int32.ofNat (kn M (kR M a0 0))) then (
      kg (kt M a0 3) <|
      kg (krm L 329 2944 M 16) <| kl (kNew M 4 16) fun M4 =>
      kl (M.1.length + 1) fun w5 =>
      kg (kok L 329 2944 M4 40 351) <| (F_X4_init N M4 w5).bind fun M6 => kg (kgr L M4 M6 40 351) <|
      kg (kin M6 (kR M a0 0) 18 x1 && kt M6 w5 4) <| kl (ksR M6 (kR M a0 0) (kx x1) w5) fun M7 =>
      kl (x1 + 1) fun v8 =>
      F_X3_init_15 N L n M7 a0 v8) else
    kg (kend L 329 2944 M) <| some M
def F_X3_init_b (N L : Nat) (M : kMem) (a0 : Nat) : Option kMem :=
    kg (decide (a0 ≠ 0)) <|
    kg (krm L 329 2944 M (8 : Int32).toNatClampNeg) <| kl (kNew M 18 (8 : Int32).toNatClampNeg) fun M1 =>
    kl (M.1.length + 1) fun w2 =>
    kg (kt M1 a0 3) <| kl (ksR M1 a0 0 w2) fun M3 =>
    F_X3_init_15 N L N M3 a0 0
def F_X3_init (N : Nat) (M : kMem) (a0 : Nat) : Option kMem := F_X3_init_b N M.1.length M a0
def F_X11_init_102 (N L : Nat)  : Nat → kMem → Nat → Int32 → Option (kMem)
  | 0, _, _, _ => none
  | n + 1, M, a0, x1 =>
    kg (kt M a0 11) <|
    kg (kt M (kR M a0 7) 18) <|
    if x1 < (Int32.ofNat (kn M (kR M a0 7))) then (
      kg (kt M a0 11) <|
      kg (krm L 538 8722 M 16) <| kl (kNew M 4 16) fun M39 =>
      kl (M.1.length + 1) fun w40 =>
      kg (kok L 538 8722 M39 40 351) <| (F_X4_init N M39 w40).bind fun M41 => kg (kgr L M39 M41 40 351) <|
      kg (kin M41 (kR M a0 7) 18 x1 && kt M41 w40 4) <| kl (ksR M41 (kR M a0 7) (kx x1) w40) fun M42 =>
      kl (x1 + 1) fun v43 =>
      F_X11_init_102 N L n M42 a0 v43) else
    kg (kt M a0 11) <|
    kg (kend L 538 8722 M) <|
    kg (kt M (kR M a0 0) 8) <| (F_X8_addAll N M (kR M a0 0) 0).bind fun M35 =>
    kg (kgr L M M35 0 0) <|
    kg (kt M35 a0 11) <|
    kg (kend L 538 8722 M35) <|
    kg (kt M35 (kR M35 a0 0) 8) <| (F_X8_addAll N M35 (kR M35 a0 0) 1).bind fun M36 =>
    kg (kgr L M35 M36 0 0) <|
    kg (kt M36 a0 11) <|
    kg (kend L 538 8722 M36) <|
    kg (kt M36 (kR M36 a0 0) 8) <| (F_X8_addAll N M36 (kR M36 a0 0) 2).bind fun M37 =>
    kg (kgr L M36 M37 0 0) <|
    kg (kend L 538 8722 M37) <|
    kg (kt M37 a0 11) <| (F_X11_beginMarketOfText N M37 a0).bind fun M38 =>
    kg (kgr L M37 M38 0 0) <|
    kg (kend L 538 8722 M38) <| some M38
def F_X11_init_b (N L : Nat) (M : kMem) (a0 : Nat) : Option kMem :=
    kg (decide (a0 ≠ 0)) <|
    kg (krm L 538 8722 M 2) <| kl (kNew M 8 2) fun M1 =>
    kl (M.1.length + 1) fun w2 =>
    kg (kok L 538 8722 M1 1 800) <| (F_X8_init N M1 w2).bind fun M3 => kg (kgr L M1 M3 1 800) <|
    kg (kt M3 a0 11) <| kl (ksR M3 a0 0 w2) fun M4 =>
    kg (krm L 538 8722 M4 2) <| kl (kNew M4 8 2) fun M5 =>
    kl (M4.1.length + 1) fun w6 =>
    kg (kok L 538 8722 M5 1 800) <| (F_X8_init N M5 w6).bind fun M7 => kg (kgr L M5 M7 1 800) <|
    kg (kt M7 a0 11) <| kl (ksR M7 a0 1 w6) fun M8 =>
    kg (krm L 538 8722 M8 8) <| kl (kNew M8 9 8) fun M9 =>
    kl (M8.1.length + 1) fun w10 =>
    kg (kt M9 a0 11) <|
    kg (kok L 538 8722 M9 3 2403) <| (F_X9_init N M9 w10 (kR M9 a0 0)).bind fun M11 => kg (kgr L M9 M11 3 2403) <|
    kg (kt M11 a0 11) <| kl (ksR M11 a0 2 w10) fun M12 =>
    kg (krm L 538 8722 M12 6) <| kl (kNew M12 6 6) fun M13 =>
    kl (M12.1.length + 1) fun w14 =>
    kg (kok L 538 8722 M13 33 282) <| (F_X6_init N M13 w14).bind fun M15 => kg (kgr L M13 M15 33 282) <|
    kg (kt M15 a0 11) <| kl (ksR M15 a0 3 w14) fun M16 =>
    kg (krm L 538 8722 M16 16) <| kl (kNew M16 4 16) fun M17 =>
    kl (M16.1.length + 1) fun w18 =>
    kg (kok L 538 8722 M17 40 351) <| (F_X4_init N M17 w18).bind fun M19 => kg (kgr L M17 M19 40 351) <|
    kg (kt M19 a0 11) <| kl (ksR M19 a0 4 w18) fun M20 =>
    kg (krm L 538 8722 M20 16) <| kl (kNew M20 4 16) fun M21 =>
    kl (M20.1.length + 1) fun w22 =>
    kg (kok L 538 8722 M21 40 351) <| (F_X4_init N M21 w22).bind fun M23 => kg (kgr L M21 M23 40 351) <|
    kg (kt M23 a0 11) <| kl (ksR M23 a0 5 w22) fun M24 =>
    kg (krm L 538 8722 M24 3) <| kl (kNew M24 3 3) fun M25 =>
    kl (M24.1.length + 1) fun w26 =>
    kg (kok L 538 8722 M25 329 2944) <| (F_X3_init N M25 w26).bind fun M27 => kg (kgr L M25 M27 329 2944) <|
    kg (kt M27 a0 11) <| kl (ksR M27 a0 6 w26) fun M28 =>
    kg (krm L 538 8722 M28 (2 : Int32).toNatClampNeg) <| kl (kNew M28 18 (2 : Int32).toNatClampNeg) fun M29 =>
    kl (M28.1.length + 1) fun w30 =>
    kg (kt M29 a0 11) <| kl (ksR M29 a0 7 w30) fun M31 =>
    kg (krm L 538 8722 M31 (2 : Int32).toNatClampNeg) <| kl (kNew M31 14 (2 : Int32).toNatClampNeg) fun M32 =>
    kl (M31.1.length + 1) fun w33 =>
    kg (kt M32 a0 11) <| kl (ksR M32 a0 8 w33) fun M34 =>
    F_X11_init_102 N L N M34 a0 0
def F_X11_init (N : Nat) (M : kMem) (a0 : Nat) : Option kMem := F_X11_init_b N M.1.length M a0
def refC (a j : Nat) : Nat := if a ≤ 539 then refB a j else 0
def cellsC : List (Nat × Nat) := (List.range 539).map (fun k => cellAt (k + 1))
def Mc : kMem := (cellsC, fun _ _ => 0, refC, fun _ _ => 0)
theorem Mc1 : Mc.1 = cellsC := by
  unfold Mc
  with_reducible rfl
theorem cC {a : Nat} (h1 : 1 ≤ a) (h2 : a ≤ 539) : kcell Mc a = some (cellAt a) := by
  obtain ⟨k, rfl⟩ : ∃ k, a = k + 1 := ⟨a - 1, by omega⟩
  rw [kcell_s, Mc1]
  unfold cellsC
  rw [List.getElem?_map, List.getElem?_range (by omega)]
  exact Option.map_some _ _
