def F_X0_build_18 (N : Nat) : Nat → kMem → Nat → Int32 → Option (kMem)
  | 0, _, _, _ => none
  | n + 1, M, a0, x4 =>
    kg (kt M a0 0) <|
    kg (kt M (kR M a0 4) 13) <|
    if x4 < (Int32.ofNat (kn M (kR M a0 4))) then (
      kg (kt M a0 0) <|
      kg (kin M (kR M a0 4) 13 x4) <| kl (ksI M (kR M a0 4) (kx x4) (-1)) fun M4 =>
      kl (x4 + 1) fun v5 =>
      F_X0_build_18 N n M4 a0 v5) else
    some M
def F_X0_build (N : Nat) (M : kMem) (a0 : Nat) (x1 : Int32) (x2 : Int32) (x3 : Int32) : Option (kMem) :=
    kg (kt M a0 0) <| kl (ksI M a0 1 x1) fun M1 =>
    kg (kt M1 a0 0) <| kl (ksI M1 a0 2 x2) fun M2 =>
    kg (kt M2 a0 0) <| kl (ksI M2 a0 3 x3) fun M3 =>
    F_X0_build_18 N N M3 a0 0
def F_X0_hasSeat (N : Nat) (M : kMem) (a0 : Nat) (x1 : Int32) : Option (Int32) :=
    if x1 = 0 then (
      some 0) else
    kg (kt M a0 0) <|
    if x1 < (-(kI M a0 1)) then (
      some 0) else
    kg (kt M a0 0) <|
    if (kI M a0 1) < x1 then (
      some 0) else
    some 1
def F_X0_ownerAt (N : Nat) (M : kMem) (a0 : Nat) (x1 : Int32) : Option (Int32) :=
    kl (x1 + 6) fun v1 =>
    if v1 < 0 then (
      some (-1)) else
    kg (kt M a0 0) <|
    kg (kt M (kR M a0 4) 13) <|
    if v1 < (Int32.ofNat (kn M (kR M a0 4))) then (
      kg (kt M a0 0) <|
      kg (kin M (kR M a0 4) 13 v1) <|
      some (kI M (kR M a0 4) (kx v1))) else
    some (-1)
def F_X0_setOwner (N : Nat) (M : kMem) (a0 : Nat) (x1 : Int32) (x2 : Int32) : Option (kMem) :=
    kl (x1 + 6) fun v1 =>
    if v1 < 0 then (
      some M) else
    kg (kt M a0 0) <|
    kg (kt M (kR M a0 4) 13) <|
    if v1 < (Int32.ofNat (kn M (kR M a0 4))) then (
      kg (kt M a0 0) <|
      kg (kin M (kR M a0 4) 13 v1) <| kl (ksI M (kR M a0 4) (kx v1) x2) fun M2 =>
      some M2) else
    some M
def F_X0_isFree (N : Nat) (M : kMem) (a0 : Nat) (x1 : Int32) : Option (Int32) :=
    kg (kt M a0 0) <| (F_X0_hasSeat N M a0 x1).bind fun r1 =>
    if r1 = 0 then (
      some 0) else
    kg (kt M a0 0) <| (F_X0_ownerAt N M a0 x1).bind fun r2 =>
    if r2 = (-1) then (
      some 1) else
    some 0
def F_X0_tipsUnder (N : Nat) (M : kMem) (a0 : Nat) (x1 : Int32) : Option (Int32) :=
    kg (kt M a0 0) <|
    if (kI M a0 3) < (kabs x1) then (
      some 1) else
    some 0
def F_X0_tiltUnder (N : Nat) (M : kMem) (a0 : Nat) (x1 : Int32) : Option (Int32) :=
    kg (kt M a0 0) <|
    if (kI M a0 2) < 1 then (
      some 0) else
    kg (kt M a0 0) <|
    kg (!((kI M a0 2) == 0)) <|
    some (kmax (-9) (kmin 9 (x1 / (kI M a0 2))))
def F_X0_copyFrom (N : Nat) (M : kMem) (a0 : Nat) (a1 : Nat) : Option (kMem) :=
    kg (kt M a1 0) <|
    kg (kt M a0 0) <| kl (ksI M a0 1 (kI M a1 1)) fun M1 =>
    kg (kt M1 a1 0) <|
    kg (kt M1 a0 0) <| kl (ksI M1 a0 2 (kI M1 a1 2)) fun M2 =>
    kg (kt M2 a1 0) <|
    kg (kt M2 a0 0) <| kl (ksI M2 a0 3 (kI M2 a1 3)) fun M3 =>
    kg (kt M3 a1 0) <|
    kg (kt M3 a0 0) <|
    kg (kt M3 a0 0) <|
    kg (kt M3 (kR M3 a0 4) 13) <|
    kg (kcpOk M3 (kR M3 a1 4) 0 (kR M3 a0 4) 0 (Int32.ofNat (kn M3 (kR M3 a0 4)))) <| kl (kcp M3 (kR M3 a1 4) 0 (kR M3 a0 4) 0 (Int32.ofNat (kn M3 (kR M3 a0 4)))) fun M4 =>
    some M4
def F_X2_add_4 (N : Nat) : Nat → kMem → Nat → Int32 → Int32 → Int32 → Int32 → Option (kMem)
  | 0, _, _, _, _, _, _ => none
  | n + 1, M, a0, x1, x2, x3, x4 =>
    if (0 : Int32) < x4 then (
      kg (kt M a0 2) <|
      kg (kt M a0 2) <|
      kg (kin M (kR M a0 0) 13 (x4 - 1)) <|
      kg (kin M (kR M a0 0) 13 x4) <| kl (ksI M (kR M a0 0) (kx x4) (kI M (kR M a0 0) (kx (x4 - 1)))) fun M5 =>
      kg (kt M5 a0 2) <|
      kg (kt M5 a0 2) <|
      kg (kin M5 (kR M5 a0 1) 13 (x4 - 1)) <|
      kg (kin M5 (kR M5 a0 1) 13 x4) <| kl (ksI M5 (kR M5 a0 1) (kx x4) (kI M5 (kR M5 a0 1) (kx (x4 - 1)))) fun M6 =>
      kg (kt M6 a0 2) <|
      kg (kt M6 a0 2) <|
      kg (kin M6 (kR M6 a0 2) 13 (x4 - 1)) <|
      kg (kin M6 (kR M6 a0 2) 13 x4) <| kl (ksI M6 (kR M6 a0 2) (kx x4) (kI M6 (kR M6 a0 2) (kx (x4 - 1)))) fun M7 =>
      kl (x4 + (-1)) fun v8 =>
      F_X2_add_4 N n M7 a0 x1 x2 x3 v8) else
    kg (kt M a0 2) <|
    kg (kin M (kR M a0 0) 13 0) <| kl (ksI M (kR M a0 0) (kx 0) x1) fun M1 =>
    kg (kt M1 a0 2) <|
    kg (kin M1 (kR M1 a0 1) 13 0) <| kl (ksI M1 (kR M1 a0 1) (kx 0) x2) fun M2 =>
    kg (kt M2 a0 2) <|
    kg (kin M2 (kR M2 a0 2) 13 0) <| kl (ksI M2 (kR M2 a0 2) (kx 0) x3) fun M3 =>
    kg (kt M3 a0 2) <|
    kg (kt M3 a0 2) <| kl (ksI M3 a0 3 (kmin ((kI M3 a0 3) + 1) 12)) fun M4 =>
    some M4
def F_X2_add (N : Nat) (M : kMem) (a0 : Nat) (x1 : Int32) (x2 : Int32) (x3 : Int32) : Option (kMem) :=
    F_X2_add_4 N N M a0 x1 x2 x3 11
def F_X2_copyFrom (N : Nat) (M : kMem) (a0 : Nat) (a1 : Nat) : Option (kMem) :=
    kg (kt M a1 2) <|
    kg (kt M a0 2) <| kl (ksI M a0 3 (kI M a1 3)) fun M1 =>
    kg (kt M1 a1 2) <|
    kg (kt M1 a0 2) <|
    kg (kt M1 a0 2) <|
    kg (kt M1 (kR M1 a0 0) 13) <|
    kg (kcpOk M1 (kR M1 a1 0) 0 (kR M1 a0 0) 0 (Int32.ofNat (kn M1 (kR M1 a0 0)))) <| kl (kcp M1 (kR M1 a1 0) 0 (kR M1 a0 0) 0 (Int32.ofNat (kn M1 (kR M1 a0 0)))) fun M2 =>
    kg (kt M2 a1 2) <|
    kg (kt M2 a0 2) <|
    kg (kt M2 a0 2) <|
    kg (kt M2 (kR M2 a0 1) 13) <|
    kg (kcpOk M2 (kR M2 a1 1) 0 (kR M2 a0 1) 0 (Int32.ofNat (kn M2 (kR M2 a0 1)))) <| kl (kcp M2 (kR M2 a1 1) 0 (kR M2 a0 1) 0 (Int32.ofNat (kn M2 (kR M2 a0 1)))) fun M3 =>
    kg (kt M3 a1 2) <|
    kg (kt M3 a0 2) <|
    kg (kt M3 a0 2) <|
    kg (kt M3 (kR M3 a0 2) 13) <|
    kg (kcpOk M3 (kR M3 a1 2) 0 (kR M3 a0 2) 0 (Int32.ofNat (kn M3 (kR M3 a0 2)))) <| kl (kcp M3 (kR M3 a1 2) 0 (kR M3 a0 2) 0 (Int32.ofNat (kn M3 (kR M3 a0 2)))) fun M4 =>
    some M4
def F_X10_isSeated (N : Nat) (M : kMem) (a0 : Nat) : Option (Int32) :=
    kg (kt M a0 10) <|
    if (kI M a0 6) = (-1) then (
      some 0) else
    some 1
def F_X10_copyFrom (N : Nat) (M : kMem) (a0 : Nat) (a1 : Nat) : Option (kMem) :=
    kg (kt M a1 10) <|
    kg (kt M a0 10) <| kl (ksJ M a0 1 (kJ M a1 1)) fun M1 =>
    kg (kt M1 a1 10) <|
    kg (kt M1 a0 10) <| kl (ksI M1 a0 2 (kI M1 a1 2)) fun M2 =>
    kg (kt M2 a1 10) <|
    kg (kt M2 a0 10) <| kl (ksI M2 a0 3 (kI M2 a1 3)) fun M3 =>
    kg (kt M3 a1 10) <|
    kg (kt M3 a0 10) <| kl (ksI M3 a0 4 (kI M3 a1 4)) fun M4 =>
    kg (kt M4 a1 10) <|
    kg (kt M4 a0 10 && ((kI M4 a1 5) == 0 || (kI M4 a1 5) == 1)) <| kl (ksI M4 a0 5 (kI M4 a1 5)) fun M5 =>
    kg (kt M5 a1 10) <|
    kg (kt M5 a0 10) <| kl (ksI M5 a0 6 (kI M5 a1 6)) fun M6 =>
    kg (kt M6 a1 10) <|
    kg (kt M6 a0 10) <| kl (ksI M6 a0 7 (kI M6 a1 7)) fun M7 =>
    some M7
def F_X8_byteAt (N : Nat) (M : kMem) (a0 : Nat) (x1 : Int32) : Option (Int32) :=
    if x1 < 0 then (
      some (-1)) else
    kg (kt M a0 8) <|
    if x1 < (kI M a0 1) then (
      kg (kt M a0 8) <|
      kg (kt M (kR M a0 0) 13) <|
      if x1 < (Int32.ofNat (kn M (kR M a0 0))) then (
        kg (kt M a0 8) <|
        kg (kin M (kR M a0 0) 13 x1) <|
        some (kI M (kR M a0 0) (kx x1))) else
      some (-1)) else
    some (-1)
def F_X8_add (N : Nat) (M : kMem) (a0 : Nat) (x1 : Int32) : Option (kMem) :=
    kg (kt M a0 8) <|
    if (kI M a0 1) < 0 then (
      some M) else
    kg (kt M a0 8) <|
    kg (kt M a0 8) <|
    kg (kt M (kR M a0 0) 13) <|
    if (kI M a0 1) < (Int32.ofNat (kn M (kR M a0 0))) then (
      kg (kt M a0 8) <|
      kg (kt M a0 8) <|
      kg (kin M (kR M a0 0) 13 (kI M a0 1)) <| kl (ksI M (kR M a0 0) (kx (kI M a0 1)) x1) fun M1 =>
      kg (kt M1 a0 8) <|
      kg (kt M1 a0 8) <| kl (ksI M1 a0 1 ((kI M1 a0 1) + 1)) fun M2 =>
      some M2) else
    some M
def F_X8_addBytesOf_3 (N : Nat) : Nat → kMem → Nat → Int32 → Int32 → Option (kMem)
  | 0, _, _, _, _ => none
  | n + 1, M, a0, x1, x2 =>
    if x2 < 0 then (
      some M) else
    kl (((x1.toUInt32 >>> (x2.toUInt32 &&& Int32.toUInt32 31)).toInt32) &&& 255) fun v1 =>
    if v1 = 0 then (
      kl (x2 + (-8)) fun v2 =>
      F_X8_addBytesOf_3 N n M a0 x1 v2) else
    kg (kt M a0 8) <| (F_X8_add N M a0 v1).bind fun M3 =>
    kl (x2 + (-8)) fun v4 =>
    F_X8_addBytesOf_3 N n M3 a0 x1 v4
def F_X8_addBytesOf (N : Nat) (M : kMem) (a0 : Nat) (x1 : Int32) : Option (kMem) :=
    F_X8_addBytesOf_3 N N M a0 x1 24
def F_X11_isLetter (N : Nat) (M : kMem) (x0 : Int32) : Option (Int32) :=
    if x0 < 97 then (
      some 0) else
    if (122 : Int32) < x0 then (
      some 0) else
    some 1
def F_X8_nameBetween_17 (N : Nat) (M : kMem) : Nat → Nat → Int32 → Int64 → Int32 → Option (Int64)
  | 0, _, _, _, _ => none
  | n + 1, a0, x1, x3, x5 =>
    if x5 < x1 then (
      some x3) else
    kg (kt M a0 8) <| (F_X8_byteAt N M a0 x5).bind fun r2 =>
    (F_X11_isLetter N M r2).bind fun r3 =>
    if r3 = 0 then (
      some 0) else
    kl ((x3 <<< ((8 : Int32).toInt64 &&& 63)) ||| r2.toInt64) fun v4 =>
    kl (x5 + (-1)) fun v5 =>
    F_X8_nameBetween_17 N M n a0 x1 v4 v5
def F_X8_nameBetween (N : Nat) (M : kMem) (a0 : Nat) (x1 : Int32) (x2 : Int32) : Option (Int64) :=
    if (6 : Int32) < (x2 - x1) then (
      some 0) else
    kl (x2 - 1) fun v1 =>
    F_X8_nameBetween_17 N M N a0 x1 0 v1
def F_X4_clear (N : Nat) (M : kMem) (a0 : Nat) : Option (kMem) :=
    kg (kt M a0 4) <| kl (ksI M a0 0 0) fun M1 =>
    kg (kt M1 a0 4) <| kl (ksI M1 a0 8 0) fun M2 =>
    kg (kt M2 a0 4) <| kl (ksI M2 a0 9 0) fun M3 =>
    kg (kt M3 a0 4) <| kl (ksI M3 a0 10 0) fun M4 =>
    kg (kt M4 a0 4) <| kl (ksI M4 a0 11 0) fun M5 =>
    kg (kt M5 a0 4) <| kl (ksI M5 a0 12 0) fun M6 =>
    kg (kt M6 a0 4) <|
    kg (kt M6 (kR M6 a0 15) 2) <| kl (ksI M6 (kR M6 a0 15) 3 0) fun M7 =>
    some M7
def F_X4_copyFrom_138 (N : Nat) : Nat → kMem → Nat → Nat → Int32 → Option (kMem)
  | 0, _, _, _, _ => none
  | n + 1, M, a0, a1, x2 =>
    kg (kt M a0 4) <|
    kg (kt M (kR M a0 14) 17) <|
    if x2 < (Int32.ofNat (kn M (kR M a0 14))) then (
      kg (kt M a0 4) <|
      kg (kin M (kR M a0 14) 17 x2) <|
      kg (kt M a1 4) <|
      kg (kin M (kR M a1 14) 17 x2) <|
      kg (kt M (kR M (kR M a0 14) (kx x2)) 10) <| (F_X10_copyFrom N M (kR M (kR M a0 14) (kx x2)) (kR M (kR M a1 14) (kx x2))).bind fun M15 =>
      kl (x2 + 1) fun v16 =>
      F_X4_copyFrom_138 N n M15 a0 a1 v16) else
    kg (kt M a0 4) <|
    kg (kt M a1 4) <|
    kg (kt M (kR M a0 15) 2) <| (F_X2_copyFrom N M (kR M a0 15) (kR M a1 15)).bind fun M14 =>
    some M14
def F_X4_copyFrom_106 (N : Nat) : Nat → kMem → Nat → Nat → Int32 → Option (kMem)
  | 0, _, _, _, _ => none
  | n + 1, M, a0, a1, x2 =>
    kg (kt M a0 4) <|
    kg (kt M (kR M a0 13) 16) <|
    if x2 < (Int32.ofNat (kn M (kR M a0 13))) then (
      kg (kt M a0 4) <|
      kg (kin M (kR M a0 13) 16 x2) <|
      kg (kt M a1 4) <|
      kg (kin M (kR M a1 13) 16 x2) <|
      kg (kt M (kR M (kR M a0 13) (kx x2)) 0) <| (F_X0_copyFrom N M (kR M (kR M a0 13) (kx x2)) (kR M (kR M a1 13) (kx x2))).bind fun M17 =>
      kl (x2 + 1) fun v18 =>
      F_X4_copyFrom_106 N n M17 a0 a1 v18) else
    F_X4_copyFrom_138 N N M a0 a1 0
def F_X4_copyFrom (N : Nat) (M : kMem) (a0 : Nat) (a1 : Nat) : Option (kMem) :=
    kg (kt M a1 4) <|
    kg (kt M a0 4) <| kl (ksI M a0 0 (kI M a1 0)) fun M1 =>
    kg (kt M1 a1 4) <|
    kg (kt M1 a0 4) <| kl (ksI M1 a0 1 (kI M1 a1 1)) fun M2 =>
    kg (kt M2 a1 4) <|
    kg (kt M2 a0 4) <| kl (ksI M2 a0 2 (kI M2 a1 2)) fun M3 =>
    kg (kt M3 a1 4) <|
    kg (kt M3 a0 4) <| kl (ksI M3 a0 3 (kI M3 a1 3)) fun M4 =>
    kg (kt M4 a1 4) <|
    kg (kt M4 a0 4) <| kl (ksI M4 a0 4 (kI M4 a1 4)) fun M5 =>
    kg (kt M5 a1 4) <|
    kg (kt M5 a0 4) <| kl (ksI M5 a0 5 (kI M5 a1 5)) fun M6 =>
    kg (kt M6 a1 4) <|
    kg (kt M6 a0 4) <| kl (ksI M6 a0 6 (kI M6 a1 6)) fun M7 =>
    kg (kt M7 a1 4) <|
    kg (kt M7 a0 4) <| kl (ksI M7 a0 7 (kI M7 a1 7)) fun M8 =>
    kg (kt M8 a1 4) <|
    kg (kt M8 a0 4) <| kl (ksI M8 a0 8 (kI M8 a1 8)) fun M9 =>
    kg (kt M9 a1 4) <|
    kg (kt M9 a0 4) <| kl (ksI M9 a0 9 (kI M9 a1 9)) fun M10 =>
    kg (kt M10 a1 4) <|
    kg (kt M10 a0 4) <| kl (ksI M10 a0 10 (kI M10 a1 10)) fun M11 =>
    kg (kt M11 a1 4) <|
    kg (kt M11 a0 4) <| kl (ksI M11 a0 11 (kI M11 a1 11)) fun M12 =>
    kg (kt M12 a1 4) <|
    kg (kt M12 a0 4) <| kl (ksI M12 a0 12 (kI M12 a1 12)) fun M13 =>
    F_X4_copyFrom_106 N N M13 a0 a1 0
def F_X4_boardNumbered (N : Nat) (M : kMem) (a0 : Nat) (x1 : Int32) : Option (Nat) :=
    if x1 < 0 then (
      some 0) else
    kg (kt M a0 4) <|
    if x1 < (kI M a0 11) then (
      kg (kt M a0 4) <|
      kg (kt M (kR M a0 13) 16) <|
      if x1 < (Int32.ofNat (kn M (kR M a0 13))) then (
        kg (kt M a0 4) <|
        kg (kin M (kR M a0 13) 16 x1) <|
        some (kR M (kR M a0 13) (kx x1))) else
      some 0) else
    some 0
def F_X4_traderNumbered (N : Nat) (M : kMem) (a0 : Nat) (x1 : Int32) : Option (Nat) :=
    if x1 < 0 then (
      some 0) else
    kg (kt M a0 4) <|
    if x1 < (kI M a0 12) then (
      kg (kt M a0 4) <|
      kg (kt M (kR M a0 14) 17) <|
      if x1 < (Int32.ofNat (kn M (kR M a0 14))) then (
        kg (kt M a0 4) <|
        kg (kin M (kR M a0 14) 17 x1) <|
        some (kR M (kR M a0 14) (kx x1))) else
      some 0) else
    some 0
def F_X4_traderNamed_2 (N : Nat) (M : kMem) : Nat → Nat → Int64 → Int32 → Option (Nat)
  | 0, _, _, _ => none
  | n + 1, a0, x1, x3 =>
    kg (kt M a0 4) <|
    if x3 < (kI M a0 12) then (
      kg (kt M a0 4) <|
      kg (kin M (kR M a0 14) 17 x3) <|
      kg (kt M (kR M (kR M a0 14) (kx x3)) 10) <|
      if (lg_cmp (kJ M (kR M (kR M a0 14) (kx x3)) 1) x1) = 0 then (
        kg (kt M a0 4) <|
        kg (kin M (kR M a0 14) 17 x3) <|
        some (kR M (kR M a0 14) (kx x3))) else
      kl (x3 + 1) fun v1 =>
      F_X4_traderNamed_2 N M n a0 x1 v1) else
    some 0
def F_X4_traderNamed (N : Nat) (M : kMem) (a0 : Nat) (x1 : Int64) : Option (Nat) :=
    F_X4_traderNamed_2 N M N a0 x1 0
def F_X4_addBoard (N : Nat) (M : kMem) (a0 : Nat) (x1 : Int32) (x2 : Int32) (x3 : Int32) : Option (kMem) :=
    kg (kt M a0 4) <|
    kg (kt M a0 4) <|
    kg (kt M (kR M a0 13) 16) <|
    if (kI M a0 11) < (Int32.ofNat (kn M (kR M a0 13))) then (
      kg (kt M a0 4) <|
      kg (kt M a0 4) <|
      kg (kin M (kR M a0 13) 16 (kI M a0 11)) <|
      kg (kt M (kR M (kR M a0 13) (kx (kI M a0 11))) 0) <| (F_X0_build N M (kR M (kR M a0 13) (kx (kI M a0 11))) x1 x2 x3).bind fun M1 =>
      kg (kt M1 a0 4) <|
      kg (kt M1 a0 4) <| kl (ksI M1 a0 11 ((kI M1 a0 11) + 1)) fun M2 =>
      some M2) else
    some M
def F_X4_admit (N : Nat) (M : kMem) (a0 : Nat) (x1 : Int64) (x3 : Int32) (x4 : Int32) (x5 : Int32) : Option (Int32 × kMem) :=
    kg (kt M a0 4) <|
    kg (kt M a0 4) <|
    kg (kt M (kR M a0 14) 17) <|
    if (kI M a0 12) < (Int32.ofNat (kn M (kR M a0 14))) then (
      kg (kt M a0 4) <|
      kg (kt M a0 4) <|
      kg (kin M (kR M a0 14) 17 (kI M a0 12)) <|
      kl (kR M (kR M a0 14) (kx (kI M a0 12))) fun w1 =>
      kg (kt M a0 4) <|
      kg (kt M a0 4) <| kl (ksI M a0 12 ((kI M a0 12) + 1)) fun M2 =>
      kg (kt M2 w1 10) <| kl (ksJ M2 w1 1 x1) fun M3 =>
      kg (kt M3 w1 10) <| kl (ksI M3 w1 2 x3) fun M4 =>
      kg (kt M4 w1 10) <| kl (ksI M4 w1 3 x4) fun M5 =>
      kg (kt M5 w1 10) <| kl (ksI M5 w1 4 x5) fun M6 =>
      kg (kt M6 w1 10 && ((1 : Int32) == 0 || (1 : Int32) == 1)) <| kl (ksI M6 w1 5 1) fun M7 =>
      kg (kt M7 w1 10) <| kl (ksI M7 w1 6 (-1)) fun M8 =>
      kg (kt M8 w1 10) <| kl (ksI M8 w1 7 0) fun M9 =>
      kg (kt M9 a0 4) <|
      kg (kt M9 a0 4) <| kl (ksI M9 a0 7 ((kI M9 a0 7) + x4)) fun M10 =>
      kg (kt M10 w1 10) <|
      some (kI M10 w1 0, M10)) else
    some ((-1), M)
def F_X4_torqueOn_4 (N : Nat) (M : kMem) : Nat → Nat → Nat → Int32 → Int32 → Option (Int32)
  | 0, _, _, _, _ => none
  | n + 1, a0, a1, x2, x3 =>
    kg (kt M a0 4) <|
    if x3 < (kI M a0 12) then (
      kg (kt M a0 4) <|
      kg (kin M (kR M a0 14) 17 x3) <|
      kl (kR M (kR M a0 14) (kx x3)) fun w1 =>
      kg (kt M w1 10) <|
      kg (kt M a1 0) <|
      if (kI M w1 6) = (kI M a1 0) then (
        kg (kt M w1 10) <|
        kg (kt M w1 10) <|
        kl (x2 + ((kI M w1 7) * (kI M w1 2))) fun v3 =>
        kl (x3 + 1) fun v4 =>
        F_X4_torqueOn_4 N M n a0 a1 v3 v4) else
      kl (x3 + 1) fun v2 =>
      F_X4_torqueOn_4 N M n a0 a1 x2 v2) else
    some x2
def F_X4_torqueOn (N : Nat) (M : kMem) (a0 : Nat) (a1 : Nat) : Option (Int32) :=
    F_X4_torqueOn_4 N M N a0 a1 0 0
def F_X4_heightOn (N : Nat) (M : kMem) (a0 : Nat) (a1 : Nat) (x2 : Int32) : Option (Int32) :=
    kg (kt M a0 4) <| (F_X4_torqueOn N M a0 a1).bind fun r1 =>
    kg (kt M a1 0) <| (F_X0_tiltUnder N M a1 r1).bind fun r2 =>
    some ((-x2) * r2)
def F_X4_priceOn (N : Nat) (M : kMem) (a0 : Nat) (a1 : Nat) (x2 : Int32) : Option (Int32) :=
    kg (kt M a0 4) <|
    kg (kt M a0 4) <| (F_X4_heightOn N M a0 a1 x2).bind fun r1 =>
    some (((kI M a0 3) + (kabs x2)) + (kmax 0 r1))
def F_X4_heightUnder (N : Nat) (M : kMem) (a0 : Nat) (a1 : Nat) : Option (Int32) :=
    kg (kt M a1 10) <|
    kg (kt M a0 4) <| (F_X4_boardNumbered N M a0 (kI M a1 6)).bind fun r1 =>
    if r1 = 0 then (
      some 0) else
    kg (kt M a1 10) <|
    kg (kt M a0 4) <| (F_X4_torqueOn N M a0 r1).bind fun r2 =>
    kg (kt M r1 0) <| (F_X0_tiltUnder N M r1 r2).bind fun r3 =>
    some ((-(kI M a1 7)) * r3)
def F_X4_incomeFor (N : Nat) (M : kMem) (a0 : Nat) (a1 : Nat) : Option (Int32) :=
    kg (kt M a1 10) <| (F_X10_isSeated N M a1).bind fun r1 =>
    if r1 = 0 then (
      some 0) else
    kg (kt M a0 4) <|
    kg (kt M a0 4) <| (F_X4_heightUnder N M a0 a1).bind fun r2 =>
    some ((kI M a0 2) + r2)
def F_X4_unitPrice (N : Nat) (M : kMem) (a0 : Nat) (a1 : Nat) (a2 : Nat) : Option (Int32) :=
    kg (kt M a0 4) <|
    kg (kt M a0 4) <| (F_X4_heightUnder N M a0 a2).bind fun r1 =>
    kg (kt M a0 4) <| (F_X4_heightUnder N M a0 a1).bind fun r2 =>
    some (kmax 1 (((kI M a0 4) + r1) - r2))
def F_X4_torqueAfterMove (N : Nat) (M : kMem) (a0 : Nat) (a1 : Nat) (a2 : Nat) (x3 : Int32) : Option (Int32) :=
    kg (kt M a0 4) <| (F_X4_torqueOn N M a0 a2).bind fun r1 =>
    kg (kt M a1 10) <|
    kl (r1 + (x3 * (kI M a1 2))) fun v2 =>
    kg (kt M a1 10) <|
    kg (kt M a2 0) <|
    if (kI M a1 6) = (kI M a2 0) then (
      kg (kt M a1 10) <|
      kg (kt M a1 10) <|
      some (v2 - ((kI M a1 7) * (kI M a1 2)))) else
    some v2
def F_X4_whyNotSeat (N : Nat) (M : kMem) (a0 : Nat) (a1 : Nat) (a2 : Nat) (x3 : Int32) : Option (Int32) :=
    kg (kt M a1 10) <|
    if (kI M a1 5) = 0 then (
      some 1) else
    kg (kt M a2 0) <| (F_X0_isFree N M a2 x3).bind fun r1 =>
    if r1 = 0 then (
      some 2) else
    kg (kt M a1 10) <|
    kg (kt M a0 4) <| (F_X4_priceOn N M a0 a2 x3).bind fun r2 =>
    if (kI M a1 3) < r2 then (
      some 3) else
    kg (kt M a0 4) <| (F_X4_torqueAfterMove N M a0 a1 a2 x3).bind fun r3 =>
    kg (kt M a2 0) <| (F_X0_tipsUnder N M a2 r3).bind fun r4 =>
    if r4 = 0 then (
      some 0) else
    some 4
def F_X4_whyNotSale (N : Nat) (M : kMem) (a0 : Nat) (a1 : Nat) (a2 : Nat) (x3 : Int32) : Option (Int32) :=
    kg (kt M a1 10) <|
    kg (kt M a0 4) <| (F_X4_boardNumbered N M a0 (kI M a1 6)).bind fun r1 =>
    if r1 = 0 then (
      some 5) else
    kg (kt M a2 10) <| (F_X10_isSeated N M a2).bind fun r2 =>
    if r2 = 0 then (
      some 5) else
    kg (kt M a1 10) <|
    kg (kt M a2 10) <|
    if (kI M a1 6) = (kI M a2 6) then (
      kg (kt M a1 10) <|
      if ((kI M a1 2) - x3) < 1 then (
        some 7) else
      kg (kt M a2 10) <|
      if (99 : Int32) < ((kI M a2 2) + x3) then (
        some 7) else
      kg (kt M a2 10) <|
      kg (kt M a0 4) <| (F_X4_unitPrice N M a0 a1 a2).bind fun r3 =>
      if (kI M a2 3) < (x3 * r3) then (
        some 3) else
      kg (kt M a0 4) <| (F_X4_torqueOn N M a0 r1).bind fun r4 =>
      kg (kt M a2 10) <|
      kg (kt M a1 10) <|
      kl (r4 + (x3 * ((kI M a2 7) - (kI M a1 7)))) fun v5 =>
      kg (kt M r1 0) <| (F_X0_tipsUnder N M r1 v5).bind fun r6 =>
      if r6 = 0 then (
        some 0) else
      some 4) else
    some 6
def F_X4_tipsAfterSwap_37 (N : Nat) (M : kMem) (a1 : Nat) (a2 : Nat) (a3 : Nat) (x4 : Int32) : Option (Int32) :=
    kg (kt M a3 10) <|
    kg (kt M a1 0) <|
    if (kI M a3 6) = (kI M a1 0) then (
      kg (kt M a3 10) <|
      kg (kt M a2 10) <|
      kg (kt M a3 10) <|
      kl (x4 + ((kI M a3 7) * ((kI M a2 2) - (kI M a3 2)))) fun v3 =>
      kg (kt M a1 0) <| (F_X0_tipsUnder N M a1 v3).bind fun r4 =>
      kg (r4 == 0 || r4 == 1) <| some r4) else
    kg (kt M a1 0) <| (F_X0_tipsUnder N M a1 x4).bind fun r2 =>
    kg (r2 == 0 || r2 == 1) <| some r2
def F_X4_tipsAfterSwap (N : Nat) (M : kMem) (a0 : Nat) (a1 : Nat) (a2 : Nat) (a3 : Nat) : Option (Int32) :=
    kg (kt M a0 4) <| (F_X4_torqueOn N M a0 a1).bind fun r1 =>
    kg (kt M a2 10) <|
    kg (kt M a1 0) <|
    if (kI M a2 6) = (kI M a1 0) then (
      kg (kt M a2 10) <|
      kg (kt M a3 10) <|
      kg (kt M a2 10) <|
      kl (r1 + ((kI M a2 7) * ((kI M a3 2) - (kI M a2 2)))) fun v5 =>
      F_X4_tipsAfterSwap_37 N M a1 a2 a3 v5) else
    F_X4_tipsAfterSwap_37 N M a1 a2 a3 r1
def F_X4_whyNotSwap (N : Nat) (M : kMem) (a0 : Nat) (a1 : Nat) (a2 : Nat) : Option (Int32) :=
    kg (kt M a1 10) <|
    kg (kt M a0 4) <| (F_X4_boardNumbered N M a0 (kI M a1 6)).bind fun r1 =>
    kg (kt M a2 10) <|
    kg (kt M a0 4) <| (F_X4_boardNumbered N M a0 (kI M a2 6)).bind fun r2 =>
    if r1 = 0 then (
      some 5) else
    if r2 = 0 then (
      some 5) else
    kg (kt M a0 4) <| (F_X4_heightUnder N M a0 a2).bind fun r3 =>
    kg (kt M a0 4) <| (F_X4_heightUnder N M a0 a1).bind fun r4 =>
    kl (r3 - r4) fun v5 =>
    kg (kt M a1 10) <|
    if (kI M a1 3) < v5 then (
      some 3) else
    kg (kt M a2 10) <|
    if (kI M a2 3) < (-v5) then (
      some 3) else
    kg (kt M a0 4) <| (F_X4_tipsAfterSwap N M a0 r1 a1 a2).bind fun r6 =>
    if r6 = 0 then (
      kg (kt M a0 4) <| (F_X4_tipsAfterSwap N M a0 r2 a1 a2).bind fun r7 =>
      if r7 = 0 then (
        some 0) else
      some 4) else
    some 4
def F_X4_seat (N : Nat) (M : kMem) (a0 : Nat) (a1 : Nat) (a2 : Nat) (x3 : Int32) : Option (kMem) :=
    kg (kt M a2 0) <|
    kg (kt M a1 10) <| kl (ksI M a1 6 (kI M a2 0)) fun M1 =>
    kg (kt M1 a1 10) <| kl (ksI M1 a1 7 x3) fun M2 =>
    kg (kt M2 a1 10) <|
    kg (kt M2 a2 0) <| (F_X0_setOwner N M2 a2 x3 (kI M2 a1 0)).bind fun M3 =>
    some M3
def F_X4_unseat (N : Nat) (M : kMem) (a0 : Nat) (a1 : Nat) : Option (kMem) :=
    kg (kt M a1 10) <|
    kg (kt M a0 4) <| (F_X4_boardNumbered N M a0 (kI M a1 6)).bind fun r1 =>
    if r1 = 0 then (
      kg (kt M a1 10) <| kl (ksI M a1 6 (-1)) fun M2 =>
      kg (kt M2 a1 10) <| kl (ksI M2 a1 7 0) fun M3 =>
      some M3) else
    kg (kt M a1 10) <|
    kg (kt M r1 0) <| (F_X0_setOwner N M r1 (kI M a1 7) (-1)).bind fun M4 =>
    kg (kt M4 a1 10) <| kl (ksI M4 a1 6 (-1)) fun M5 =>
    kg (kt M5 a1 10) <| kl (ksI M5 a1 7 0) fun M6 =>
    some M6
def F_X4_sellSeat (N : Nat) (M : kMem) (a0 : Nat) (a1 : Nat) (a2 : Nat) (x3 : Int32) : Option (Int32 × kMem) :=
    kg (kt M a0 4) <| (F_X4_priceOn N M a0 a2 x3).bind fun r1 =>
    kg (kt M a1 10) <|
    kg (kt M a1 10) <| kl (ksI M a1 3 ((kI M a1 3) - r1)) fun M2 =>
    kg (kt M2 a0 4) <|
    kg (kt M2 a0 4) <| kl (ksI M2 a0 1 ((kI M2 a0 1) + r1)) fun M3 =>
    kg (kt M3 a0 4) <| (F_X4_unseat N M3 a0 a1).bind fun M4 =>
    kg (kt M4 a0 4) <| (F_X4_seat N M4 a0 a1 a2 x3).bind fun M5 =>
    kg (kt M5 a0 4) <|
    kg (kt M5 a0 4) <| kl (ksI M5 a0 8 ((kI M5 a0 8) + 1)) fun M6 =>
    some (r1, M6)
def F_X4_moveWeight (N : Nat) (M : kMem) (a0 : Nat) (a1 : Nat) (a2 : Nat) (x3 : Int32) : Option (Int32 × kMem) :=
    kg (kt M a0 4) <| (F_X4_unitPrice N M a0 a1 a2).bind fun r1 =>
    kl (x3 * r1) fun v2 =>
    kg (kt M a2 10) <|
    kg (kt M a2 10) <| kl (ksI M a2 3 ((kI M a2 3) - v2)) fun M3 =>
    kg (kt M3 a1 10) <|
    kg (kt M3 a1 10) <| kl (ksI M3 a1 3 ((kI M3 a1 3) + v2)) fun M4 =>
    kg (kt M4 a1 10) <|
    kg (kt M4 a1 10) <| kl (ksI M4 a1 2 ((kI M4 a1 2) - x3)) fun M5 =>
    kg (kt M5 a2 10) <|
    kg (kt M5 a2 10) <| kl (ksI M5 a2 2 ((kI M5 a2 2) + x3)) fun M6 =>
    kg (kt M6 a0 4) <|
    kg (kt M6 a0 4) <| kl (ksI M6 a0 9 ((kI M6 a0 9) + x3)) fun M7 =>
    some (v2, M7)
def F_X4_exchangeSeats (N : Nat) (M : kMem) (a0 : Nat) (a1 : Nat) (a2 : Nat) : Option (Int32 × kMem) :=
    kg (kt M a1 10) <|
    kg (kt M a0 4) <| (F_X4_boardNumbered N M a0 (kI M a1 6)).bind fun r1 =>
    kg (kt M a2 10) <|
    kg (kt M a0 4) <| (F_X4_boardNumbered N M a0 (kI M a2 6)).bind fun r2 =>
    if r1 = 0 then (
      some (0, M)) else
    if r2 = 0 then (
      some (0, M)) else
    kg (kt M a0 4) <| (F_X4_heightUnder N M a0 a2).bind fun r3 =>
    kg (kt M a0 4) <| (F_X4_heightUnder N M a0 a1).bind fun r4 =>
    kl (r3 - r4) fun v5 =>
    kg (kt M a1 10) <|
    kl (kI M a1 7) fun v6 =>
    kg (kt M a1 10) <|
    kg (kt M a1 10) <| kl (ksI M a1 3 ((kI M a1 3) - v5)) fun M7 =>
    kg (kt M7 a2 10) <|
    kg (kt M7 a2 10) <| kl (ksI M7 a2 3 ((kI M7 a2 3) + v5)) fun M8 =>
    kg (kt M8 a2 10) <|
    kg (kt M8 a0 4) <| (F_X4_seat N M8 a0 a1 r2 (kI M8 a2 7)).bind fun M9 =>
    kg (kt M9 a0 4) <| (F_X4_seat N M9 a0 a2 r1 v6).bind fun M10 =>
    some (v5, M10)
def F_X4_allowsDays (N : Nat) (M : kMem) (a0 : Nat) (x1 : Int32) : Option (Int32) :=
    kg (kt M a0 4) <|
    if (9999 : Int32) < ((kI M a0 0) + x1) then (
      some 0) else
    some 1
def F_X4_payToBank (N : Nat) (M : kMem) (a0 : Nat) (a1 : Nat) (x2 : Int32) : Option (kMem) :=
    kg (kt M a1 10) <|
    kl (kmin x2 (kI M a1 3)) fun v1 =>
    kg (kt M a1 10) <|
    kg (kt M a1 10) <| kl (ksI M a1 3 ((kI M a1 3) - v1)) fun M2 =>
    kg (kt M2 a0 4) <|
    kg (kt M2 a0 4) <| kl (ksI M2 a0 1 ((kI M2 a0 1) + v1)) fun M3 =>
    some M3
def F_X4_retire (N : Nat) (M : kMem) (a0 : Nat) (a1 : Nat) : Option (kMem) :=
    kg (kt M a0 4) <| (F_X4_unseat N M a0 a1).bind fun M1 =>
    kg (kt M1 a1 10) <|
    kg (kt M1 a0 4) <| (F_X4_payToBank N M1 a0 a1 (kI M1 a1 3)).bind fun M2 =>
    kg (kt M2 a1 10 && ((0 : Int32) == 0 || (0 : Int32) == 1)) <| kl (ksI M2 a1 5 0) fun M3 =>
    kg (kt M3 a0 4) <|
    kg (kt M3 a1 10) <|
    kg (kt M3 a0 4) <|
    kg (kt M3 (kR M3 a0 15) 2) <| (F_X2_add N M3 (kR M3 a0 15) 2 (kI M3 a1 0) (kI M3 a0 0)).bind fun M4 =>
    some M4
def F_X4_ageTraders_2 (N : Nat) : Nat → kMem → Nat → Int32 → Option (kMem)
  | 0, _, _, _ => none
  | n + 1, M, a0, x1 =>
    kg (kt M a0 4) <|
    if x1 < (kI M a0 12) then (
      kg (kt M a0 4) <|
      kg (kin M (kR M a0 14) 17 x1) <|
      kl (kR M (kR M a0 14) (kx x1)) fun w1 =>
      kg (kt M w1 10) <|
      if (kI M w1 5) = 0 then (
        kl (x1 + 1) fun v2 =>
        F_X4_ageTraders_2 N n M a0 v2) else
      kg (kt M w1 10) <|
      kg (kt M w1 10) <| kl (ksI M w1 4 ((kI M w1 4) + 1)) fun M3 =>
      kg (kt M3 w1 10) <|
      kg (kt M3 a0 4) <|
      if (kI M3 a0 5) < (kI M3 w1 4) then (
        kg (kt M3 a0 4) <| (F_X4_retire N M3 a0 w1).bind fun M5 =>
        kl (x1 + 1) fun v6 =>
        F_X4_ageTraders_2 N n M5 a0 v6) else
      kl (x1 + 1) fun v4 =>
      F_X4_ageTraders_2 N n M3 a0 v4) else
    some M
def F_X4_ageTraders (N : Nat) (M : kMem) (a0 : Nat) : Option (kMem) :=
    F_X4_ageTraders_2 N N M a0 0
def F_X4_payIncomes_48 (N : Nat) (k2 : kMem → Nat → Int32 → Option (kMem)) (M : kMem) (a0 : Nat) (x1 : Int32) (a2 : Nat) (y0 : Int32) : Option (kMem) :=
    kg (kt M a0 4) <|
    kg (kt M a0 4) <| kl (ksI M a0 1 ((kI M a0 1) - y0)) fun M3 =>
    kg (kt M3 a2 10) <|
    kg (kt M3 a2 10) <| kl (ksI M3 a2 3 ((kI M3 a2 3) + y0)) fun M4 =>
    kl (x1 + 1) fun v5 =>
    k2 M4 a0 v5
def F_X4_payIncomes_2 (N : Nat) : Nat → kMem → Nat → Int32 → Option (kMem)
  | 0, _, _, _ => none
  | n + 1, M, a0, x1 =>
    kg (kt M a0 4) <|
    if x1 < (kI M a0 12) then (
      kg (kt M a0 4) <|
      kg (kin M (kR M a0 14) 17 x1) <|
      kl (kR M (kR M a0 14) (kx x1)) fun w1 =>
      kg (kt M a0 4) <| (F_X4_incomeFor N M a0 w1).bind fun r2 =>
      if (0 : Int32) < r2 then (
        kg (kt M a0 4) <|
        F_X4_payIncomes_48 N (fun M a0 x1 => F_X4_payIncomes_2 N n M a0 x1) M a0 x1 w1 (kmin r2 (kI M a0 1))) else
      kg (kt M w1 10) <|
      F_X4_payIncomes_48 N (fun M a0 x1 => F_X4_payIncomes_2 N n M a0 x1) M a0 x1 w1 (-(kmin (-r2) (kI M w1 3)))) else
    some M
def F_X4_payIncomes (N : Nat) (M : kMem) (a0 : Nat) : Option (kMem) :=
    F_X4_payIncomes_2 N N M a0 0
def F_X4_dropFarthest_5 (N : Nat) : Nat → kMem → Nat → Nat → Int32 → Int32 → Option (kMem)
  | 0, _, _, _, _, _ => none
  | n + 1, M, a0, a1, x2, x3 =>
    if x3 < 1 then (
      some M) else
    kg (kt M a1 0) <| (F_X0_ownerAt N M a1 (x2 * x3)).bind fun r2 =>
    kg (kt M a0 4) <| (F_X4_traderNumbered N M a0 r2).bind fun r3 =>
    if r3 = 0 then (
      kl (x3 + (-1)) fun v4 =>
      F_X4_dropFarthest_5 N n M a0 a1 x2 v4) else
    kg (kt M a0 4) <| (F_X4_unseat N M a0 r3).bind fun M5 =>
    kg (kt M5 a0 4) <|
    kg (kt M5 a0 4) <| (F_X4_payToBank N M5 a0 r3 (kI M5 a0 6)).bind fun M6 =>
    kg (kt M6 a0 4) <|
    kg (kt M6 r3 10) <|
    kg (kt M6 a0 4) <|
    kg (kt M6 (kR M6 a0 15) 2) <| (F_X2_add N M6 (kR M6 a0 15) 1 (kI M6 r3 0) (kI M6 a0 0)).bind fun M7 =>
    some M7
def F_X4_dropFarthest (N : Nat) (M : kMem) (a0 : Nat) (a1 : Nat) (x2 : Int32) : Option (kMem) :=
    kg (kt M a1 0) <|
    kl (kI M a1 1) fun v1 =>
    F_X4_dropFarthest_5 N N M a0 a1 x2 v1
def F_X4_tipBoards_29 (N : Nat) (k4 : kMem → Nat → Int32 → Int32 → Option (Int32 × kMem)) : Nat → kMem → Nat → Int32 → Int32 → Nat → Int32 → Int32 → Option (Int32 × kMem)
  | 0, _, _, _, _, _, _, _ => none
  | n + 1, M, a0, x1, x2, a3, x4, x5 =>
    if x5 < 12 then (
      kg (kt M a3 0) <| (F_X0_tipsUnder N M a3 x4).bind fun r5 =>
      if r5 = 0 then (
        kl (x2 + 1) fun v6 =>
        k4 M a0 x1 v6) else
      if (0 : Int32) < x4 then (
        kg (kt M a0 4) <| (F_X4_dropFarthest N M a0 a3 1).bind fun M11 =>
        kl (x1 + 1) fun v12 =>
        kg (kt M11 a0 4) <| (F_X4_torqueOn N M11 a0 a3).bind fun r13 =>
        kl (x5 + 1) fun v14 =>
        F_X4_tipBoards_29 N k4 n M11 a0 v12 x2 a3 r13 v14) else
      kg (kt M a0 4) <| (F_X4_dropFarthest N M a0 a3 (-1)).bind fun M7 =>
      kl (x1 + 1) fun v8 =>
      kg (kt M7 a0 4) <| (F_X4_torqueOn N M7 a0 a3).bind fun r9 =>
      kl (x5 + 1) fun v10 =>
      F_X4_tipBoards_29 N k4 n M7 a0 v8 x2 a3 r9 v10) else
    kl (x2 + 1) fun v4 =>
    k4 M a0 x1 v4
def F_X4_tipBoards_4 (N : Nat) : Nat → kMem → Nat → Int32 → Int32 → Option (Int32 × kMem)
  | 0, _, _, _, _ => none
  | n + 1, M, a0, x1, x2 =>
    kg (kt M a0 4) <|
    if x2 < (kI M a0 11) then (
      kg (kt M a0 4) <|
      kg (kin M (kR M a0 13) 16 x2) <|
      kl (kR M (kR M a0 13) (kx x2)) fun w2 =>
      kg (kt M a0 4) <| (F_X4_torqueOn N M a0 w2).bind fun r3 =>
      F_X4_tipBoards_29 N (fun M a0 x1 x2 => F_X4_tipBoards_4 N n M a0 x1 x2) N M a0 x1 x2 w2 r3 0) else
    kg (kt M a0 4) <|
    kg (kt M a0 4) <| kl (ksI M a0 10 ((kI M a0 10) + x1)) fun M1 =>
    some (x1, M1)
def F_X4_tipBoards (N : Nat) (M : kMem) (a0 : Nat) : Option (Int32 × kMem) :=
    F_X4_tipBoards_4 N N M a0 0 0
def F_X4_passDays_4 (N : Nat) : Nat → kMem → Nat → Int32 → Int32 → Int32 → Option (Int32 × kMem)
  | 0, _, _, _, _, _ => none
  | n + 1, M, a0, x1, x2, x3 =>
    if x3 < x1 then (
      kg (kt M a0 4) <|
      kg (kt M a0 4) <| kl (ksI M a0 0 ((kI M a0 0) + 1)) fun M1 =>
      kg (kt M1 a0 4) <| (F_X4_payIncomes N M1 a0).bind fun M2 =>
      kg (kt M2 a0 4) <| (F_X4_ageTraders N M2 a0).bind fun M3 =>
      kg (kt M3 a0 4) <| (F_X4_tipBoards N M3 a0).bind fun r4 =>
      kl (x2 + r4.1) fun v5 =>
      kl (x3 + 1) fun v6 =>
      F_X4_passDays_4 N n r4.2 a0 x1 v5 v6) else
    some (x2, M)
def F_X4_passDays (N : Nat) (M : kMem) (a0 : Nat) (x1 : Int32) : Option (Int32 × kMem) :=
    F_X4_passDays_4 N N M a0 x1 0 0
def F_X4_coinsInPurses_4 (N : Nat) (M : kMem) : Nat → Nat → Int32 → Int32 → Option (Int32)
  | 0, _, _, _ => none
  | n + 1, a0, x1, x2 =>
    kg (kt M a0 4) <|
    if x2 < (kI M a0 12) then (
      kg (kt M a0 4) <|
      kg (kin M (kR M a0 14) 17 x2) <|
      kg (kt M (kR M (kR M a0 14) (kx x2)) 10) <|
      kl (x1 + (kI M (kR M (kR M a0 14) (kx x2)) 3)) fun v1 =>
      kl (x2 + 1) fun v2 =>
      F_X4_coinsInPurses_4 N M n a0 v1 v2) else
    some x1
def F_X4_coinsInPurses (N : Nat) (M : kMem) (a0 : Nat) : Option (Int32) :=
    F_X4_coinsInPurses_4 N M N a0 0 0
def F_X4_weightOn (N : Nat) (M : kMem) (a0 : Nat) (a1 : Nat) (x2 : Int32) : Option (Int32) :=
    kg (kt M a1 0) <| (F_X0_ownerAt N M a1 x2).bind fun r1 =>
    kg (kt M a0 4) <| (F_X4_traderNumbered N M a0 r1).bind fun r2 =>
    if r2 = 0 then (
      some 0) else
    kg (kt M r2 10) <|
    some (kI M r2 2)
def F_X4_torqueByDistances_15 (N : Nat) (M : kMem) (k4 : Nat → Nat → Int32 → Int32 → Option (Int32)) : Nat → Nat → Nat → Int32 → Int32 → Int32 → Option (Int32)
  | 0, _, _, _, _, _ => none
  | n + 1, a0, a1, x2, x3, x4 =>
    kg (kt M a1 0) <|
    if (kI M a1 1) < x4 then (
      kl (x3 + 1) fun v1 =>
      k4 a0 a1 x2 v1) else
    kg (kt M a0 4) <| (F_X4_weightOn N M a0 a1 x4).bind fun r2 =>
    kg (kt M a0 4) <| (F_X4_weightOn N M a0 a1 (-x4)).bind fun r3 =>
    kl (x2 + (r2 - r3)) fun v4 =>
    kl (x4 + 1) fun v5 =>
    F_X4_torqueByDistances_15 N M k4 n a0 a1 v4 x3 v5
def F_X4_torqueByDistances_4 (N : Nat) (M : kMem) : Nat → Nat → Nat → Int32 → Int32 → Option (Int32)
  | 0, _, _, _, _ => none
  | n + 1, a0, a1, x2, x3 =>
    kg (kt M a1 0) <|
    if (kI M a1 1) < x3 then (
      some x2) else
    F_X4_torqueByDistances_15 N M (fun a0 a1 x2 x3 => F_X4_torqueByDistances_4 N M n a0 a1 x2 x3) N a0 a1 x2 x3 x3
def F_X4_torqueByDistances (N : Nat) (M : kMem) (a0 : Nat) (a1 : Nat) : Option (Int32) :=
    F_X4_torqueByDistances_4 N M N a0 a1 0 1
def F_X4_wrongSeats_8 (N : Nat) (M : kMem) : Nat → Nat → Nat → Int32 → Int32 → Option (Int32)
  | 0, _, _, _, _ => none
  | n + 1, a0, a1, x2, x3 =>
    kg (kt M a1 0) <|
    if (kI M a1 1) < x3 then (
      some x2) else
    kg (kt M a1 0) <| (F_X0_ownerAt N M a1 x3).bind fun r2 =>
    kg (kt M a0 4) <| (F_X4_traderNumbered N M a0 r2).bind fun r3 =>
    if r3 = 0 then (
      kl (x3 + 1) fun v4 =>
      F_X4_wrongSeats_8 N M n a0 a1 x2 v4) else
    kg (kt M r3 10) <|
    kg (kt M a1 0) <|
    if (kI M r3 6) = (kI M a1 0) then (
      kg (kt M r3 10) <|
      if (kI M r3 7) = x3 then (
        kl (x3 + 1) fun v7 =>
        F_X4_wrongSeats_8 N M n a0 a1 x2 v7) else
      kl (x2 + 1) fun v8 =>
      kl (x3 + 1) fun v9 =>
      F_X4_wrongSeats_8 N M n a0 a1 v8 v9) else
    kl (x2 + 1) fun v5 =>
    kl (x3 + 1) fun v6 =>
    F_X4_wrongSeats_8 N M n a0 a1 v5 v6
def F_X4_wrongSeats (N : Nat) (M : kMem) (a0 : Nat) (a1 : Nat) : Option (Int32) :=
    kg (kt M a1 0) <|
    kl (-(kI M a1 1)) fun v1 =>
    F_X4_wrongSeats_8 N M N a0 a1 0 v1
def F_X4_countContradictions_20 (N : Nat) (M : kMem) : Nat → Nat → Int32 → Int32 → Option (Int32)
  | 0, _, _, _ => none
  | n + 1, a0, x1, x2 =>
    kg (kt M a0 4) <|
    if x2 < (kI M a0 11) then (
      kg (kt M a0 4) <|
      kg (kin M (kR M a0 13) 16 x2) <|
      kl (kR M (kR M a0 13) (kx x2)) fun w3 =>
      kg (kt M a0 4) <| (F_X4_torqueOn N M a0 w3).bind fun r4 =>
      kg (kt M a0 4) <| (F_X4_torqueByDistances N M a0 w3).bind fun r5 =>
      kl (x1 + (kabs (r4 - r5))) fun v6 =>
      kg (kt M a0 4) <| (F_X4_wrongSeats N M a0 w3).bind fun r7 =>
      kl (v6 + r7) fun v8 =>
      kl (x2 + 1) fun v9 =>
      F_X4_countContradictions_20 N M n a0 v8 v9) else
    some x1
def F_X4_countContradictions (N : Nat) (M : kMem) (a0 : Nat) : Option (Int32) :=
    kg (kt M a0 4) <|
    kg (kt M a0 4) <| (F_X4_coinsInPurses N M a0).bind fun r1 =>
    kg (kt M a0 4) <|
    kl (kabs (((kI M a0 7) - r1) - (kI M a0 1))) fun v2 =>
    F_X4_countContradictions_20 N M N a0 v2 0
def F_X3_record (N : Nat) (M : kMem) (a0 : Nat) (a1 : Nat) : Option (kMem) :=
    kg (kt M a0 3) <|
    kg (kt M a0 3) <|
    kg (kin M (kR M a0 0) 18 (kI M a0 1)) <|
    kg (kt M (kR M (kR M a0 0) (kx (kI M a0 1))) 4) <| (F_X4_copyFrom N M (kR M (kR M a0 0) (kx (kI M a0 1))) a1).bind fun M1 =>
    kg (kt M1 a0 3) <|
    kg (!((8 : Int32) == 0)) <|
    kg (kt M1 a0 3) <| kl (ksI M1 a0 1 (((kI M1 a0 1) + 1) - (((kI M1 a0 1) + 1) / 8) * 8)) fun M2 =>
    kg (kt M2 a0 3) <|
    kg (kt M2 a0 3) <| kl (ksI M2 a0 2 (kmin ((kI M2 a0 2) + 1) 8)) fun M3 =>
    some M3
def F_X3_forget (N : Nat) (M : kMem) (a0 : Nat) : Option (kMem) :=
    kg (kt M a0 3) <| kl (ksI M a0 2 0) fun M1 =>
    some M1
def F_X9_add (N : Nat) (M : kMem) (a0 : Nat) (x1 : Int32) (x2 : Int32) (x3 : Int32) : Option (kMem) :=
    kg (kt M a0 9) <|
    kg (kt M a0 9) <|
    kg (kt M (kR M a0 1) 13) <|
    if (kI M a0 4) < (Int32.ofNat (kn M (kR M a0 1))) then (
      kg (kt M a0 9) <|
      kg (kt M a0 9) <|
      kg (kin M (kR M a0 1) 13 (kI M a0 4)) <| kl (ksI M (kR M a0 1) (kx (kI M a0 4)) x1) fun M1 =>
      kg (kt M1 a0 9) <|
      kg (kt M1 a0 9) <|
      kg (kin M1 (kR M1 a0 2) 13 (kI M1 a0 4)) <| kl (ksI M1 (kR M1 a0 2) (kx (kI M1 a0 4)) x2) fun M2 =>
      kg (kt M2 a0 9) <|
      kg (kt M2 a0 9) <|
      kg (kin M2 (kR M2 a0 3) 13 (kI M2 a0 4)) <| kl (ksI M2 (kR M2 a0 3) (kx (kI M2 a0 4)) x3) fun M3 =>
      kg (kt M3 a0 9) <|
      kg (kt M3 a0 9) <| kl (ksI M3 a0 4 ((kI M3 a0 4) + 1)) fun M4 =>
      some M4) else
    some M
def F_X11_isDigit (N : Nat) (M : kMem) (x0 : Int32) : Option (Int32) :=
    if x0 < 48 then (
      some 0) else
    if (57 : Int32) < x0 then (
      some 0) else
    some 1
def F_X9_kindOf (N : Nat) (M : kMem) (x0 : Int32) : Option (Int32) :=
    (F_X11_isLetter N M x0).bind fun r1 =>
    if r1 = 0 then (
      (F_X11_isDigit N M x0).bind fun r2 =>
      if r2 = 0 then (
        if x0 = 32 then (
          some 0) else
        if x0 = 10 then (
          some 0) else
        some 3) else
      some 2) else
    some 1
def F_X9_lengthen (N : Nat) (M : kMem) (a0 : Nat) (x1 : Int32) : Option (kMem) :=
    kg (kt M a0 9) <|
    if (0 : Int32) < (kI M a0 4) then (
      kg (kt M a0 9) <|
      kg (kt M a0 9) <|
      kg (kin M (kR M a0 3) 13 ((kI M a0 4) - 1)) <| kl (ksI M (kR M a0 3) (kx ((kI M a0 4) - 1)) x1) fun M1 =>
      some M1) else
    some M
def F_X9_begin_72 (N : Nat) (k24 : kMem → Nat → Int32 → Int32 → Option (kMem)) (M : kMem) (a0 : Nat) (x2 : Int32) (x3 : Int32) : Option (kMem) :=
    if x3 = 0 then (
      kl (x2 + 1) fun v8 =>
      k24 M a0 x3 v8) else
    kg (kt M a0 9) <| (F_X9_add N M a0 x3 x2 (x2 + 1)).bind fun M9 =>
    kl (x2 + 1) fun v10 =>
    k24 M9 a0 x3 v10
def F_X9_begin_62 (N : Nat) (k24 : kMem → Nat → Int32 → Int32 → Option (kMem)) (M : kMem) (a0 : Nat) (x2 : Int32) (x3 : Int32) : Option (kMem) :=
    kg (kt M a0 9) <| (F_X9_lengthen N M a0 (x2 + 1)).bind fun M11 =>
    kl (x2 + 1) fun v12 =>
    k24 M11 a0 x3 v12
def F_X9_begin_24 (N : Nat) : Nat → kMem → Nat → Int32 → Int32 → Option (kMem)
  | 0, _, _, _, _ => none
  | n + 1, M, a0, x1, x2 =>
    kg (kt M a0 9) <|
    kg (kt M (kR M a0 0) 8) <|
    if x2 < (kI M (kR M a0 0) 1) then (
      kg (kt M a0 9) <|
      kg (kt M (kR M a0 0) 8) <| (F_X8_byteAt N M (kR M a0 0) x2).bind fun r6 =>
      (F_X9_kindOf N M r6).bind fun r7 =>
      if r7 = x1 then (
        if r7 = 1 then (
          F_X9_begin_62 N (fun M a0 x1 x2 => F_X9_begin_24 N n M a0 x1 x2) M a0 x2 r7) else
        if r7 = 2 then (
          F_X9_begin_62 N (fun M a0 x1 x2 => F_X9_begin_24 N n M a0 x1 x2) M a0 x2 r7) else
        F_X9_begin_72 N (fun M a0 x1 x2 => F_X9_begin_24 N n M a0 x1 x2) M a0 x2 r7) else
      F_X9_begin_72 N (fun M a0 x1 x2 => F_X9_begin_24 N n M a0 x1 x2) M a0 x2 r7) else
    kg (kt M a0 9) <|
    kg (kt M (kR M a0 0) 8) <|
    kg (kt M a0 9) <|
    kg (kt M (kR M a0 0) 8) <|
    kg (kt M a0 9) <| (F_X9_add N M a0 4 (kI M (kR M a0 0) 1) (kI M (kR M a0 0) 1)).bind fun M5 =>
    some M5
def F_X9_begin (N : Nat) (M : kMem) (a0 : Nat) : Option (kMem) :=
    kg (kt M a0 9) <| kl (ksI M a0 6 0) fun M1 =>
    kg (kt M1 a0 9) <| kl (ksI M1 a0 7 (-1)) fun M2 =>
    kg (kt M2 a0 9) <| kl (ksI M2 a0 5 0) fun M3 =>
    kg (kt M3 a0 9) <| kl (ksI M3 a0 4 0) fun M4 =>
    F_X9_begin_24 N N M4 a0 0 0
def F_X9_failed (N : Nat) (M : kMem) (a0 : Nat) : Option (Int32) :=
    kg (kt M a0 9) <|
    if (kI M a0 6) = 0 then (
      some 0) else
    some 1
def F_X9_failAt (N : Nat) (M : kMem) (a0 : Nat) (x1 : Int32) (x2 : Int32) : Option (kMem) :=
    kg (kt M a0 9) <|
    if (kI M a0 6) = 0 then (
      if x1 < 0 then (
        some M) else
      kg (kt M a0 9) <|
      if x1 < (kI M a0 4) then (
        kg (kt M a0 9) <| kl (ksI M a0 6 x2) fun M1 =>
        kg (kt M1 a0 9) <|
        kg (kin M1 (kR M1 a0 2) 13 x1) <|
        kg (kt M1 a0 9) <| kl (ksI M1 a0 7 (kI M1 (kR M1 a0 2) (kx x1))) fun M2 =>
        some M2) else
      some M) else
    some M
def F_X9_refuse (N : Nat) (M : kMem) (a0 : Nat) (x1 : Int32) : Option (kMem) :=
    kg (kt M a0 9) <|
    kg (kt M a0 9) <| (F_X9_failAt N M a0 (kI M a0 5) x1).bind fun M1 =>
    some M1
def F_X9_refuseTaken (N : Nat) (M : kMem) (a0 : Nat) (x1 : Int32) : Option (kMem) :=
    kg (kt M a0 9) <|
    kg (kt M a0 9) <| (F_X9_failAt N M a0 ((kI M a0 5) - 1) x1).bind fun M1 =>
    some M1
def F_X9_at (N : Nat) (M : kMem) (a0 : Nat) (x1 : Int32) : Option (Int32) :=
    kg (kt M a0 9) <|
    if (kI M a0 6) = 0 then (
      kg (kt M a0 9) <|
      kg (kt M a0 9) <|
      if (kI M a0 5) < (kI M a0 4) then (
        kg (kt M a0 9) <|
        kg (kt M a0 9) <|
        kg (kin M (kR M a0 1) 13 (kI M a0 5)) <|
        if (kI M (kR M a0 1) (kx (kI M a0 5))) = x1 then (
          some 1) else
        some 0) else
      some 0) else
    some 0
def F_X9_atSign (N : Nat) (M : kMem) (a0 : Nat) (x1 : Int32) : Option (Int32) :=
    kg (kt M a0 9) <| (F_X9_at N M a0 3).bind fun r1 =>
    if r1 = 0 then (
      some 0) else
    kg (kt M a0 9) <|
    kg (kt M a0 9) <|
    kg (kt M a0 9) <|
    kg (kin M (kR M a0 2) 13 (kI M a0 5)) <|
    kg (kt M (kR M a0 0) 8) <| (F_X8_byteAt N M (kR M a0 0) (kI M (kR M a0 2) (kx (kI M a0 5)))).bind fun r2 =>
    if r2 = x1 then (
      some 1) else
    some 0
def F_X9_takeIf (N : Nat) (M : kMem) (a0 : Nat) (x1 : Int32) : Option (kMem) :=
    if x1 = 0 then (
      kg (kt M a0 9) <|
      kg (kt M a0 9) <| (F_X9_failAt N M a0 (kI M a0 5) 1).bind fun M2 =>
      some M2) else
    kg (kt M a0 9) <|
    if (kI M a0 6) = 0 then (
      kg (kt M a0 9) <|
      kg (kt M a0 9) <| kl (ksI M a0 5 ((kI M a0 5) + 1)) fun M1 =>
      some M1) else
    some M
def F_X9_takeAnyWord (N : Nat) (M : kMem) (a0 : Nat) : Option (kMem) :=
    kg (kt M a0 9) <| (F_X9_at N M a0 1).bind fun r1 =>
    kg (kt M a0 9) <| (F_X9_takeIf N M a0 r1).bind fun M2 =>
    some M2
def F_X9_takeSign (N : Nat) (M : kMem) (a0 : Nat) (x1 : Int32) : Option (kMem) :=
    kg (kt M a0 9) <| (F_X9_atSign N M a0 x1).bind fun r1 =>
    kg (kt M a0 9) <| (F_X9_takeIf N M a0 r1).bind fun M2 =>
    some M2
def F_X9_takeName_37 (N : Nat) (M : kMem) (a0 : Nat) (y0 : Int64) : Option (Int64 × kMem) :=
    if (lg_cmp y0 0) = 0 then (
      kg (kt M a0 9) <| (F_X9_takeIf N M a0 0).bind fun M2 =>
      some (y0, M2)) else
    kg (kt M a0 9) <| (F_X9_takeIf N M a0 1).bind fun M3 =>
    some (y0, M3)
def F_X9_takeName (N : Nat) (M : kMem) (a0 : Nat) : Option (Int64 × kMem) :=
    kg (kt M a0 9) <| (F_X9_at N M a0 1).bind fun r1 =>
    if r1 = 0 then (
      F_X9_takeName_37 N M a0 0) else
    kg (kt M a0 9) <|
    kg (kt M a0 9) <|
    kg (kt M a0 9) <|
    kg (kin M (kR M a0 2) 13 (kI M a0 5)) <|
    kg (kt M a0 9) <|
    kg (kt M a0 9) <|
    kg (kin M (kR M a0 3) 13 (kI M a0 5)) <|
    kg (kt M (kR M a0 0) 8) <| (F_X8_nameBetween N M (kR M a0 0) (kI M (kR M a0 2) (kx (kI M a0 5))) (kI M (kR M a0 3) (kx (kI M a0 5)))).bind fun r4 =>
    F_X9_takeName_37 N M a0 r4
def F_X9_valueHere_12 (N : Nat) (M : kMem) : Nat → Nat → Int32 → Int32 → Option (Int32)
  | 0, _, _, _ => none
  | n + 1, a0, x1, x2 =>
    kg (kt M a0 9) <|
    kg (kt M a0 9) <|
    kg (kin M (kR M a0 3) 13 (kI M a0 5)) <|
    if x2 < (kI M (kR M a0 3) (kx (kI M a0 5))) then (
      kg (kt M a0 9) <|
      kg (kt M (kR M a0 0) 8) <| (F_X8_byteAt N M (kR M a0 0) x2).bind fun r2 =>
      kl (kmin 1000000 (((x1 * 10) + r2) - 48)) fun v3 =>
      kl (x2 + 1) fun v4 =>
      F_X9_valueHere_12 N M n a0 v3 v4) else
    some x1
def F_X9_valueHere (N : Nat) (M : kMem) (a0 : Nat) : Option (Int32) :=
    kg (kt M a0 9) <|
    kg (kt M a0 9) <|
    kg (kin M (kR M a0 2) 13 (kI M a0 5)) <|
    kl (kI M (kR M a0 2) (kx (kI M a0 5))) fun v1 =>
    F_X9_valueHere_12 N M N a0 0 v1
def F_X9_takeNumber_41 (N : Nat) (M : kMem) (a0 : Nat) (x3 : Int32) (x4 : Int32) : Option (Int32 × kMem) :=
    kg (kt M a0 9) <| (F_X9_takeIf N M a0 x3).bind fun M2 =>
    kg (kt M2 a0 9) <|
    if (kI M2 a0 6) = 0 then (
      some (x4, M2)) else
    some ((-1), M2)
def F_X9_takeNumber_36 (N : Nat) (M : kMem) (a0 : Nat) (x3 : Int32) (x4 : Int32) : Option (Int32 × kMem) :=
    kg (kt M a0 9) <| (F_X9_refuse N M a0 2).bind fun M3 =>
    F_X9_takeNumber_41 N M3 a0 x3 x4
def F_X9_takeNumber_18 (N : Nat) (M : kMem) (a0 : Nat) (x1 : Int32) (x2 : Int32) (x3 : Int32) (y0 : Int32) : Option (Int32 × kMem) :=
    if x3 = 0 then (
      F_X9_takeNumber_41 N M a0 x3 y0) else
    if y0 < x1 then (
      F_X9_takeNumber_36 N M a0 x3 y0) else
    if x2 < y0 then (
      F_X9_takeNumber_36 N M a0 x3 y0) else
    F_X9_takeNumber_41 N M a0 x3 y0
def F_X9_takeNumber (N : Nat) (M : kMem) (a0 : Nat) (x1 : Int32) (x2 : Int32) : Option (Int32 × kMem) :=
    kg (kt M a0 9) <| (F_X9_at N M a0 2).bind fun r1 =>
    if r1 = 0 then (
      F_X9_takeNumber_18 N M a0 x1 x2 r1 (-1)) else
    kg (kt M a0 9) <| (F_X9_valueHere N M a0).bind fun r4 =>
    F_X9_takeNumber_18 N M a0 x1 x2 r1 r4
def F_X9_takeEnd (N : Nat) (M : kMem) (a0 : Nat) : Option (kMem) :=
    kg (kt M a0 9) <| (F_X9_at N M a0 4).bind fun r1 =>
    if r1 = 0 then (
      kg (kt M a0 9) <| (F_X9_refuse N M a0 1).bind fun M2 =>
      some M2) else
    some M
def F_X7_readBoard (N : Nat) (M : kMem) (a0 : Nat) (a1 : Nat) : Option (kMem) :=
    kg (kt M a0 9) <| (F_X9_takeAnyWord N M a0).bind fun M1 =>
    kg (kt M1 a0 9) <| (F_X9_takeNumber N M1 a0 1 6).bind fun r2 =>
    kl r2.1 fun v3 =>
    kg (kt r2.2 a0 9) <| (F_X9_takeNumber N r2.2 a0 1 99).bind fun r4 =>
    kl r4.1 fun v5 =>
    kg (kt r4.2 a0 9) <| (F_X9_takeNumber N r4.2 a0 0 999).bind fun r6 =>
    kl r6.1 fun v7 =>
    kg (kt r6.2 a0 9) <| (F_X9_takeSign N r6.2 a0 59).bind fun M8 =>
    kg (kt M8 a0 9) <| (F_X9_failed N M8 a0).bind fun r9 =>
    if r9 = 0 then (
      kg (kt M8 a1 4) <| (F_X4_addBoard N M8 a1 v3 v5 v7).bind fun M10 =>
      some M10) else
    some M8
def F_X7_readTrader_22 (N : Nat) (M : kMem) (a0 : Nat) (a1 : Nat) (x2 : Int64) : Option (kMem) :=
    kg (kt M a0 9) <| (F_X9_takeNumber N M a0 1 99).bind fun r5 =>
    kl r5.1 fun v6 =>
    kg (kt r5.2 a0 9) <| (F_X9_takeNumber N r5.2 a0 0 9999).bind fun r7 =>
    kl r7.1 fun v8 =>
    kg (kt r7.2 a1 4) <|
    kg (kt r7.2 a0 9) <| (F_X9_takeNumber N r7.2 a0 0 (kI r7.2 a1 5)).bind fun r9 =>
    kl r9.1 fun v10 =>
    kg (kt r9.2 a0 9) <| (F_X9_takeSign N r9.2 a0 59).bind fun M11 =>
    kg (kt M11 a0 9) <| (F_X9_failed N M11 a0).bind fun r12 =>
    if r12 = 0 then (
      kg (kt M11 a1 4) <| (F_X4_admit N M11 a1 x2 v6 v8 v10).bind fun r13 =>
      some r13.2) else
    some M11
def F_X7_readTrader (N : Nat) (M : kMem) (a0 : Nat) (a1 : Nat) : Option (kMem) :=
    kg (kt M a0 9) <| (F_X9_takeAnyWord N M a0).bind fun M1 =>
    kg (kt M1 a0 9) <| (F_X9_takeName N M1 a0).bind fun r2 =>
    kl r2.1 fun v3 =>
    kg (kt r2.2 a1 4) <| (F_X4_traderNamed N r2.2 a1 v3).bind fun r4 =>
    if r4 = 0 then (
      F_X7_readTrader_22 N r2.2 a0 a1 v3) else
    kg (kt r2.2 a0 9) <| (F_X9_refuseTaken N r2.2 a0 3).bind fun M14 =>
    F_X7_readTrader_22 N M14 a0 a1 v3
def F_X11_bytesIn_5 (N : Nat) (M : kMem) : Nat → Int32 → Int32 → Int32 → Option (Int32)
  | 0, _, _, _ => none
  | n + 1, x0, x1, x2 =>
    if x2 < 0 then (
      some x1) else
    if (((x0.toUInt32 >>> (x2.toUInt32 &&& Int32.toUInt32 31)).toInt32) &&& 255) = 0 then (
      kl (x2 + (-8)) fun v1 =>
      F_X11_bytesIn_5 N M n x0 x1 v1) else
    kl (x1 + 1) fun v2 =>
    kl (x2 + (-8)) fun v3 =>
    F_X11_bytesIn_5 N M n x0 v2 v3
def F_X11_bytesIn (N : Nat) (M : kMem) (x0 : Int32) : Option (Int32) :=
    F_X11_bytesIn_5 N M N x0 0 24
def F_X11_append (N : Nat) (M : kMem) (a0 : Nat) (x1 : Int32) (x2 : Int32) (x3 : Int32) (x4 : Int32) (x5 : Int32) : Option (Int32 × kMem) :=
    (F_X11_bytesIn N M x1).bind fun r1 =>
    (F_X11_bytesIn N M x2).bind fun r2 =>
    (F_X11_bytesIn N M x3).bind fun r3 =>
    (F_X11_bytesIn N M x4).bind fun r4 =>
    (F_X11_bytesIn N M x5).bind fun r5 =>
    kl ((((r1 + r2) + r3) + r4) + r5) fun v6 =>
    kg (kt M a0 11) <|
    kg (kt M (kR M a0 0) 8) <|
    if (800 : Int32) < ((kI M (kR M a0 0) 1) + v6) then (
      none) else
    kg (kt M a0 11) <|
    kg (kt M (kR M a0 0) 8) <| (F_X8_addBytesOf N M (kR M a0 0) x1).bind fun M7 =>
    kg (kt M7 a0 11) <|
    kg (kt M7 (kR M7 a0 0) 8) <| (F_X8_addBytesOf N M7 (kR M7 a0 0) x2).bind fun M8 =>
    kg (kt M8 a0 11) <|
    kg (kt M8 (kR M8 a0 0) 8) <| (F_X8_addBytesOf N M8 (kR M8 a0 0) x3).bind fun M9 =>
    kg (kt M9 a0 11) <|
    kg (kt M9 (kR M9 a0 0) 8) <| (F_X8_addBytesOf N M9 (kR M9 a0 0) x4).bind fun M10 =>
    kg (kt M10 a0 11) <|
    kg (kt M10 (kR M10 a0 0) 8) <| (F_X8_addBytesOf N M10 (kR M10 a0 0) x5).bind fun M11 =>
    kg (kt M11 a0 11) <|
    kg (kt M11 (kR M11 a0 0) 8) <|
    some (kI M11 (kR M11 a0 0) 1, M11)
def F_X11_requireRange (N : Nat) (M : kMem) (x0 : Int32) (x1 : Int32) (x2 : Int32) : Option (kMem) :=
    if x0 < x1 then (
      none) else
    if x2 < x0 then (
      none) else
    some M
def F_X11_truncate (N : Nat) (M : kMem) (a0 : Nat) (x1 : Int32) : Option (Int32 × kMem) :=
    kg (kt M a0 11) <|
    kg (kt M (kR M a0 0) 8) <|
    (F_X11_requireRange N M x1 0 (kI M (kR M a0 0) 1)).bind fun M1 =>
    kg (kt M1 a0 11) <|
    kg (kt M1 (kR M1 a0 0) 8) <| kl (ksI M1 (kR M1 a0 0) 1 x1) fun M2 =>
    some (x1, M2)
def F_X11_errorPosition (N : Nat) (M : kMem) (a0 : Nat) : Option (Int32) :=
    kg (kt M a0 11) <|
    kg (kt M (kR M a0 2) 9) <|
    some (kI M (kR M a0 2) 7)
def F_X11_day (N : Nat) (M : kMem) (a0 : Nat) : Option (Int32) :=
    kg (kt M a0 11) <|
    kg (kt M (kR M a0 4) 4) <|
    some (kI M (kR M a0 4) 0)
def F_X11_bank (N : Nat) (M : kMem) (a0 : Nat) : Option (Int32) :=
    kg (kt M a0 11) <|
    kg (kt M (kR M a0 4) 4) <|
    some (kI M (kR M a0 4) 1)
def F_X11_existingBoard (N : Nat) (M : kMem) (a0 : Nat) (x1 : Int32) : Option (Nat) :=
    kg (kt M a0 11) <|
    kg (kt M (kR M a0 4) 4) <| (F_X4_boardNumbered N M (kR M a0 4) x1).bind fun r1 =>
    if r1 = 0 then (
      none) else
    some r1
def F_X11_torque (N : Nat) (M : kMem) (a0 : Nat) (x1 : Int32) : Option (Int32) :=
    kg (kt M a0 11) <|
    kg (kt M a0 11) <| (F_X11_existingBoard N M a0 x1).bind fun r1 =>
    kg (kt M (kR M a0 4) 4) <| (F_X4_torqueOn N M (kR M a0 4) r1).bind fun r2 =>
    some r2
def F_X11_tilt (N : Nat) (M : kMem) (a0 : Nat) (x1 : Int32) : Option (Int32) :=
    kg (kt M a0 11) <| (F_X11_existingBoard N M a0 x1).bind fun r1 =>
    kg (kt M a0 11) <|
    kg (kt M (kR M a0 4) 4) <| (F_X4_torqueOn N M (kR M a0 4) r1).bind fun r2 =>
    kg (kt M r1 0) <| (F_X0_tiltUnder N M r1 r2).bind fun r3 =>
    some r3
def F_X11_boardWithSeat (N : Nat) (M : kMem) (a0 : Nat) (x1 : Int32) (x2 : Int32) : Option (Nat) :=
    kg (kt M a0 11) <| (F_X11_existingBoard N M a0 x1).bind fun r1 =>
    kg (kt M r1 0) <| (F_X0_hasSeat N M r1 x2).bind fun r2 =>
    if r2 = 0 then (
      none) else
    some r1
def F_X11_seatOwner (N : Nat) (M : kMem) (a0 : Nat) (x1 : Int32) (x2 : Int32) : Option (Int32) :=
    kg (kt M a0 11) <| (F_X11_boardWithSeat N M a0 x1 x2).bind fun r1 =>
    kg (kt M r1 0) <| (F_X0_ownerAt N M r1 x2).bind fun r2 =>
    some r2
def F_X11_seatHeight (N : Nat) (M : kMem) (a0 : Nat) (x1 : Int32) (x2 : Int32) : Option (Int32) :=
    kg (kt M a0 11) <|
    kg (kt M a0 11) <| (F_X11_boardWithSeat N M a0 x1 x2).bind fun r1 =>
    kg (kt M (kR M a0 4) 4) <| (F_X4_heightOn N M (kR M a0 4) r1 x2).bind fun r2 =>
    some r2
def F_X11_seatPrice (N : Nat) (M : kMem) (a0 : Nat) (x1 : Int32) (x2 : Int32) : Option (Int32) :=
    kg (kt M a0 11) <|
    kg (kt M a0 11) <| (F_X11_boardWithSeat N M a0 x1 x2).bind fun r1 =>
    kg (kt M (kR M a0 4) 4) <| (F_X4_priceOn N M (kR M a0 4) r1 x2).bind fun r2 =>
    some r2
def F_X11_existingTrader (N : Nat) (M : kMem) (a0 : Nat) (x1 : Int32) : Option (Nat) :=
    kg (kt M a0 11) <|
    kg (kt M (kR M a0 4) 4) <| (F_X4_traderNumbered N M (kR M a0 4) x1).bind fun r1 =>
    if r1 = 0 then (
      none) else
    some r1
def F_X11_weightOf (N : Nat) (M : kMem) (a0 : Nat) (x1 : Int32) : Option (Int32) :=
    kg (kt M a0 11) <| (F_X11_existingTrader N M a0 x1).bind fun r1 =>
    kg (kt M r1 10) <|
    some (kI M r1 2)
def F_X11_purseOf (N : Nat) (M : kMem) (a0 : Nat) (x1 : Int32) : Option (Int32) :=
    kg (kt M a0 11) <| (F_X11_existingTrader N M a0 x1).bind fun r1 =>
    kg (kt M r1 10) <|
    some (kI M r1 3)
def F_X11_ageOf (N : Nat) (M : kMem) (a0 : Nat) (x1 : Int32) : Option (Int32) :=
    kg (kt M a0 11) <| (F_X11_existingTrader N M a0 x1).bind fun r1 =>
    kg (kt M r1 10) <|
    some (kI M r1 4)
def F_X11_isPresent (N : Nat) (M : kMem) (a0 : Nat) (x1 : Int32) : Option (Int32) :=
    kg (kt M a0 11) <| (F_X11_existingTrader N M a0 x1).bind fun r1 =>
    kg (kt M r1 10) <|
    kg ((kI M r1 5) == 0 || (kI M r1 5) == 1) <| some (kI M r1 5)
def F_X11_boardOf (N : Nat) (M : kMem) (a0 : Nat) (x1 : Int32) : Option (Int32) :=
    kg (kt M a0 11) <| (F_X11_existingTrader N M a0 x1).bind fun r1 =>
    kg (kt M r1 10) <|
    some (kI M r1 6)
def F_X11_positionOf (N : Nat) (M : kMem) (a0 : Nat) (x1 : Int32) : Option (Int32) :=
    kg (kt M a0 11) <| (F_X11_existingTrader N M a0 x1).bind fun r1 =>
    kg (kt M r1 10) <|
    some (kI M r1 7)
def F_X11_incomeOf (N : Nat) (M : kMem) (a0 : Nat) (x1 : Int32) : Option (Int32) :=
    kg (kt M a0 11) <|
    kg (kt M a0 11) <| (F_X11_existingTrader N M a0 x1).bind fun r1 =>
    kg (kt M (kR M a0 4) 4) <| (F_X4_incomeFor N M (kR M a0 4) r1).bind fun r2 =>
    some r2
def F_X11_reasonAgainstSeat (N : Nat) (M : kMem) (a0 : Nat) (x1 : Int32) (x2 : Int32) (x3 : Int32) : Option (Int32) :=
    kg (kt M a0 11) <| (F_X11_existingTrader N M a0 x1).bind fun r1 =>
    kg (kt M a0 11) <|
    kg (kt M a0 11) <| (F_X11_boardWithSeat N M a0 x2 x3).bind fun r2 =>
    kg (kt M (kR M a0 4) 4) <| (F_X4_whyNotSeat N M (kR M a0 4) r1 r2 x3).bind fun r3 =>
    some r3
def F_X11_requireDifferent (N : Nat) (M : kMem) (x0 : Int32) (x1 : Int32) : Option (kMem) :=
    if x0 = x1 then (
      none) else
    some M
def F_X11_reasonAgainstSale (N : Nat) (M : kMem) (a0 : Nat) (x1 : Int32) (x2 : Int32) (x3 : Int32) : Option (Int32 × kMem) :=
    kg (kt M a0 11) <| (F_X11_existingTrader N M a0 x1).bind fun r1 =>
    kg (kt M a0 11) <| (F_X11_existingTrader N M a0 x2).bind fun r2 =>
    (F_X11_requireDifferent N M x1 x2).bind fun M3 =>
    (F_X11_requireRange N M3 x3 1 50).bind fun M4 =>
    kg (kt M4 a0 11) <|
    kg (kt M4 (kR M4 a0 4) 4) <| (F_X4_whyNotSale N M4 (kR M4 a0 4) r1 r2 x3).bind fun r5 =>
    some (r5, M4)
def F_X11_reasonAgainstSwap (N : Nat) (M : kMem) (a0 : Nat) (x1 : Int32) (x2 : Int32) : Option (Int32 × kMem) :=
    kg (kt M a0 11) <| (F_X11_existingTrader N M a0 x1).bind fun r1 =>
    kg (kt M a0 11) <| (F_X11_existingTrader N M a0 x2).bind fun r2 =>
    (F_X11_requireDifferent N M x1 x2).bind fun M3 =>
    kg (kt M3 a0 11) <|
    kg (kt M3 (kR M3 a0 4) 4) <| (F_X4_whyNotSwap N M3 (kR M3 a0 4) r1 r2).bind fun r4 =>
    some (r4, M3)
def F_X11_seatsSold (N : Nat) (M : kMem) (a0 : Nat) : Option (Int32) :=
    kg (kt M a0 11) <|
    kg (kt M (kR M a0 4) 4) <|
    some (kI M (kR M a0 4) 8)
def F_X11_weightSold (N : Nat) (M : kMem) (a0 : Nat) : Option (Int32) :=
    kg (kt M a0 11) <|
    kg (kt M (kR M a0 4) 4) <|
    some (kI M (kR M a0 4) 9)
def F_X11_fallCount (N : Nat) (M : kMem) (a0 : Nat) : Option (Int32) :=
    kg (kt M a0 11) <|
    kg (kt M (kR M a0 4) 4) <|
    some (kI M (kR M a0 4) 10)
def F_X11_contradictions (N : Nat) (M : kMem) (a0 : Nat) : Option (Int32) :=
    kg (kt M a0 11) <|
    kg (kt M (kR M a0 4) 4) <| (F_X4_countContradictions N M (kR M a0 4)).bind fun r1 =>
    some r1
def F_X11_requirePossible (N : Nat) (M : kMem) (x0 : Int32) : Option (kMem) :=
    if x0 = 0 then (
      some M) else
    none
def F_X11_buySeat (N : Nat) (M : kMem) (a0 : Nat) (x1 : Int32) (x2 : Int32) (x3 : Int32) : Option (Int32 × kMem) :=
    kg (kt M a0 11) <| (F_X11_existingTrader N M a0 x1).bind fun r1 =>
    kg (kt M a0 11) <| (F_X11_boardWithSeat N M a0 x2 x3).bind fun r2 =>
    kg (kt M a0 11) <|
    kg (kt M (kR M a0 4) 4) <| (F_X4_whyNotSeat N M (kR M a0 4) r1 r2 x3).bind fun r3 =>
    (F_X11_requirePossible N M r3).bind fun M4 =>
    kg (kt M4 a0 11) <|
    kg (kt M4 a0 11) <|
    kg (kt M4 (kR M4 a0 6) 3) <| (F_X3_record N M4 (kR M4 a0 6) (kR M4 a0 4)).bind fun M5 =>
    kg (kt M5 a0 11) <|
    kg (kt M5 (kR M5 a0 4) 4) <| (F_X4_sellSeat N M5 (kR M5 a0 4) r1 r2 x3).bind fun r6 =>
    some (r6.1, r6.2)
def F_X11_sellWeight (N : Nat) (M : kMem) (a0 : Nat) (x1 : Int32) (x2 : Int32) (x3 : Int32) : Option (Int32 × kMem) :=
    kg (kt M a0 11) <| (F_X11_existingTrader N M a0 x1).bind fun r1 =>
    kg (kt M a0 11) <| (F_X11_existingTrader N M a0 x2).bind fun r2 =>
    (F_X11_requireDifferent N M x1 x2).bind fun M3 =>
    (F_X11_requireRange N M3 x3 1 50).bind fun M4 =>
    kg (kt M4 a0 11) <|
    kg (kt M4 (kR M4 a0 4) 4) <| (F_X4_whyNotSale N M4 (kR M4 a0 4) r1 r2 x3).bind fun r5 =>
    (F_X11_requirePossible N M4 r5).bind fun M6 =>
    kg (kt M6 a0 11) <|
    kg (kt M6 a0 11) <|
    kg (kt M6 (kR M6 a0 6) 3) <| (F_X3_record N M6 (kR M6 a0 6) (kR M6 a0 4)).bind fun M7 =>
    kg (kt M7 a0 11) <|
    kg (kt M7 (kR M7 a0 4) 4) <| (F_X4_moveWeight N M7 (kR M7 a0 4) r1 r2 x3).bind fun r8 =>
    some (r8.1, r8.2)
def F_X11_swapSeats (N : Nat) (M : kMem) (a0 : Nat) (x1 : Int32) (x2 : Int32) : Option (Int32 × kMem) :=
    kg (kt M a0 11) <| (F_X11_existingTrader N M a0 x1).bind fun r1 =>
    kg (kt M a0 11) <| (F_X11_existingTrader N M a0 x2).bind fun r2 =>
    (F_X11_requireDifferent N M x1 x2).bind fun M3 =>
    kg (kt M3 a0 11) <|
    kg (kt M3 (kR M3 a0 4) 4) <| (F_X4_whyNotSwap N M3 (kR M3 a0 4) r1 r2).bind fun r4 =>
    (F_X11_requirePossible N M3 r4).bind fun M5 =>
    kg (kt M5 a0 11) <|
    kg (kt M5 a0 11) <|
    kg (kt M5 (kR M5 a0 6) 3) <| (F_X3_record N M5 (kR M5 a0 6) (kR M5 a0 4)).bind fun M6 =>
    kg (kt M6 a0 11) <|
    kg (kt M6 (kR M6 a0 4) 4) <| (F_X4_exchangeSeats N M6 (kR M6 a0 4) r1 r2).bind fun r7 =>
    some (r7.1, r7.2)
def F_X11_setWage (N : Nat) (M : kMem) (a0 : Nat) (x1 : Int32) : Option (Int32 × kMem) :=
    (F_X11_requireRange N M x1 0 20).bind fun M1 =>
    kg (kt M1 a0 11) <|
    kg (kt M1 a0 11) <|
    kg (kt M1 (kR M1 a0 6) 3) <| (F_X3_record N M1 (kR M1 a0 6) (kR M1 a0 4)).bind fun M2 =>
    kg (kt M2 a0 11) <|
    kg (kt M2 (kR M2 a0 4) 4) <|
    kl (kI M2 (kR M2 a0 4) 2) fun v3 =>
    kg (kt M2 a0 11) <|
    kg (kt M2 (kR M2 a0 4) 4) <| kl (ksI M2 (kR M2 a0 4) 2 x1) fun M4 =>
    some (v3, M4)
def F_X11_advance (N : Nat) (M : kMem) (a0 : Nat) (x1 : Int32) : Option (Int32 × kMem) :=
    (F_X11_requireRange N M x1 1 30).bind fun M1 =>
    kg (kt M1 a0 11) <|
    kg (kt M1 (kR M1 a0 4) 4) <| (F_X4_allowsDays N M1 (kR M1 a0 4) x1).bind fun r2 =>
    if r2 = 0 then (
      none) else
    kg (kt M1 a0 11) <|
    kg (kt M1 a0 11) <|
    kg (kt M1 (kR M1 a0 6) 3) <| (F_X3_record N M1 (kR M1 a0 6) (kR M1 a0 4)).bind fun M3 =>
    kg (kt M3 a0 11) <|
    kg (kt M3 (kR M3 a0 4) 4) <| (F_X4_passDays N M3 (kR M3 a0 4) x1).bind fun r4 =>
    some (r4.1, r4.2)
def F_X8_addAll_2 (N : Nat) : Nat → kMem → Nat → Nat → Int32 → Option (kMem)
  | 0, _, _, _, _ => none
  | n + 1, M, a0, s1, x2 =>
    (F_J0_length s1).bind fun r1 =>
    if x2 < r1 then (
      (F_J0_charAt s1 x2).bind fun r2 =>
      kg (kt M a0 8) <| (F_X8_add N M a0 r2).bind fun M3 =>
      kl (x2 + 1) fun v4 =>
      F_X8_addAll_2 N n M3 a0 s1 v4) else
    some M
def F_X8_addAll (N : Nat) (M : kMem) (a0 : Nat) (s1 : Nat) : Option (kMem) :=
    F_X8_addAll_2 N N M a0 s1 0
def F_X9_atWord_38 (N : Nat) (M : kMem) : Nat → Nat → Nat → Int32 → Option (Int32)
  | 0, _, _, _ => none
  | n + 1, a0, s1, x2 =>
    (F_J0_length s1).bind fun r3 =>
    if x2 < r3 then (
      (F_J0_charAt s1 x2).bind fun r4 =>
      kg (kt M a0 9) <|
      kg (kt M a0 9) <|
      kg (kt M a0 9) <|
      kg (kin M (kR M a0 2) 13 (kI M a0 5)) <|
      kg (kt M (kR M a0 0) 8) <| (F_X8_byteAt N M (kR M a0 0) ((kI M (kR M a0 2) (kx (kI M a0 5))) + x2)).bind fun r5 =>
      if r4 = r5 then (
        kl (x2 + 1) fun v6 =>
        F_X9_atWord_38 N M n a0 s1 v6) else
      some 0) else
    some 1
def F_X9_atWord (N : Nat) (M : kMem) (a0 : Nat) (s1 : Nat) : Option (Int32) :=
    kg (kt M a0 9) <| (F_X9_at N M a0 1).bind fun r1 =>
    if r1 = 0 then (
      some 0) else
    (F_J0_length s1).bind fun r2 =>
    kg (kt M a0 9) <|
    kg (kt M a0 9) <|
    kg (kin M (kR M a0 3) 13 (kI M a0 5)) <|
    kg (kt M a0 9) <|
    kg (kt M a0 9) <|
    kg (kin M (kR M a0 2) 13 (kI M a0 5)) <|
    if r2 = ((kI M (kR M a0 3) (kx (kI M a0 5))) - (kI M (kR M a0 2) (kx (kI M a0 5)))) then (
      F_X9_atWord_38 N M N a0 s1 0) else
    some 0
def F_X9_takeWord (N : Nat) (M : kMem) (a0 : Nat) (s1 : Nat) : Option (kMem) :=
    kg (kt M a0 9) <| (F_X9_atWord N M a0 s1).bind fun r1 =>
    kg (kt M a0 9) <| (F_X9_takeIf N M a0 r1).bind fun M2 =>
    some M2
def F_X9_takeSide_14 (N : Nat) (M : kMem) (a0 : Nat) (y0 : Int32) : Option (Int32 × kMem) :=
    kg (kt M a0 9) <| (F_X9_atWord N M a0 7).bind fun r2 =>
    if r2 = 0 then (
      kg (kt M a0 9) <| (F_X9_atWord N M a0 8).bind fun r4 =>
      if r4 = 0 then (
        kg (kt M a0 9) <| (F_X9_takeIf N M a0 0).bind fun M5 =>
        some (y0, M5)) else
      kg (kt M a0 9) <| (F_X9_takeIf N M a0 1).bind fun M6 =>
      some (y0, M6)) else
    kg (kt M a0 9) <| (F_X9_takeIf N M a0 1).bind fun M3 =>
    some (y0, M3)
def F_X9_takeSide (N : Nat) (M : kMem) (a0 : Nat) : Option (Int32 × kMem) :=
    kg (kt M a0 9) <| (F_X9_atWord N M a0 7).bind fun r1 =>
    if r1 = 0 then (
      F_X9_takeSide_14 N M a0 1) else
    F_X9_takeSide_14 N M a0 (-1)
def F_X7_readMarket (N : Nat) (M : kMem) (a0 : Nat) (a1 : Nat) : Option (kMem) :=
    kg (kt M a0 9) <| (F_X9_takeWord N M a0 3).bind fun M1 =>
    kg (kt M1 a0 9) <| (F_X9_takeNumber N M1 a0 0 20).bind fun r2 =>
    kg (kt r2.2 a1 4) <| kl (ksI r2.2 a1 2 r2.1) fun M3 =>
    kg (kt M3 a0 9) <| (F_X9_takeNumber N M3 a0 0 99).bind fun r4 =>
    kg (kt r4.2 a1 4) <| kl (ksI r4.2 a1 3 r4.1) fun M5 =>
    kg (kt M5 a0 9) <| (F_X9_takeNumber N M5 a0 0 99).bind fun r6 =>
    kg (kt r6.2 a1 4) <| kl (ksI r6.2 a1 4 r6.1) fun M7 =>
    kg (kt M7 a0 9) <| (F_X9_takeNumber N M7 a0 1 999).bind fun r8 =>
    kg (kt r8.2 a1 4) <| kl (ksI r8.2 a1 5 r8.1) fun M9 =>
    kg (kt M9 a0 9) <| (F_X9_takeNumber N M9 a0 0 999).bind fun r10 =>
    kg (kt r10.2 a1 4) <| kl (ksI r10.2 a1 6 r10.1) fun M11 =>
    kg (kt M11 a0 9) <| (F_X9_takeNumber N M11 a0 0 99999).bind fun r12 =>
    kg (kt r12.2 a1 4) <| kl (ksI r12.2 a1 1 r12.1) fun M13 =>
    kg (kt M13 a1 4) <|
    kg (kt M13 a1 4) <| kl (ksI M13 a1 7 (kI M13 a1 1)) fun M14 =>
    kg (kt M14 a0 9) <| (F_X9_takeSign N M14 a0 59).bind fun M15 =>
    some M15
def F_X7_readSeat_99 (N : Nat) (M : kMem) (a0 : Nat) (a1 : Nat) (a2 : Nat) (a3 : Nat) (x4 : Int32) (x5 : Int32) : Option (kMem) :=
    kg (kt M a0 9) <| (F_X9_takeSign N M a0 59).bind fun M11 =>
    kg (kt M11 a0 9) <| (F_X9_failed N M11 a0).bind fun r12 =>
    if r12 = 0 then (
      if a2 = 0 then (
        some M11) else
      if a3 = 0 then (
        some M11) else
      kg (kt M11 a1 4) <| (F_X4_seat N M11 a1 a2 a3 (x4 * x5)).bind fun M13 =>
      some M13) else
    some M11
def F_X7_readSeat_73 (N : Nat) (M : kMem) (a0 : Nat) (a1 : Nat) (a2 : Nat) (a3 : Nat) (x4 : Int32) (y0 : Nat) (y1 : Int32) (y2 : Int32) : Option (kMem) :=
    kg (kt M y0 9) <| (F_X9_takeNumber N M y0 y1 y2).bind fun r9 =>
    kl r9.1 fun v10 =>
    if a3 = 0 then (
      F_X7_readSeat_99 N r9.2 a0 a1 a2 a3 x4 v10) else
    kg (kt r9.2 a3 0) <| (F_X0_isFree N r9.2 a3 (x4 * v10)).bind fun r14 =>
    if r14 = 0 then (
      kg (kt r9.2 a0 9) <| (F_X9_refuseTaken N r9.2 a0 3).bind fun M15 =>
      F_X7_readSeat_99 N M15 a0 a1 a2 a3 x4 v10) else
    F_X7_readSeat_99 N r9.2 a0 a1 a2 a3 x4 v10
def F_X7_readSeat_37 (N : Nat) (M : kMem) (a0 : Nat) (a1 : Nat) (a2 : Nat) : Option (kMem) :=
    kg (kt M a1 4) <|
    kg (kt M a0 9) <| (F_X9_takeNumber N M a0 0 ((kI M a1 11) - 1)).bind fun r5 =>
    kg (kt r5.2 a1 4) <| (F_X4_boardNumbered N r5.2 a1 r5.1).bind fun r6 =>
    kg (kt r5.2 a0 9) <| (F_X9_takeSide N r5.2 a0).bind fun r7 =>
    kl r7.1 fun v8 =>
    if r6 = 0 then (
      F_X7_readSeat_73 N r7.2 a0 a1 a2 r6 v8 a0 1 0) else
    kg (kt r7.2 r6 0) <|
    F_X7_readSeat_73 N r7.2 a0 a1 a2 r6 v8 a0 1 (kI r7.2 r6 1)
def F_X7_readSeat (N : Nat) (M : kMem) (a0 : Nat) (a1 : Nat) : Option (kMem) :=
    kg (kt M a0 9) <| (F_X9_takeAnyWord N M a0).bind fun M1 =>
    kg (kt M1 a0 9) <| (F_X9_takeName N M1 a0).bind fun r2 =>
    kg (kt r2.2 a1 4) <| (F_X4_traderNamed N r2.2 a1 r2.1).bind fun r3 =>
    if r3 = 0 then (
      kg (kt r2.2 a0 9) <| (F_X9_refuseTaken N r2.2 a0 4).bind fun M17 =>
      F_X7_readSeat_37 N M17 a0 a1 r3) else
    kg (kt r2.2 r3 10) <| (F_X10_isSeated N r2.2 r3).bind fun r4 =>
    if r4 = 0 then (
      F_X7_readSeat_37 N r2.2 a0 a1 r3) else
    kg (kt r2.2 a0 9) <| (F_X9_refuseTaken N r2.2 a0 3).bind fun M16 =>
    F_X7_readSeat_37 N M16 a0 a1 r3
def F_X7_read_94 (N : Nat) : Nat → kMem → Nat → Nat → Int32 → Option (kMem)
  | 0, _, _, _, _ => none
  | n + 1, M, a0, a1, x2 =>
    if (24 : Int32) < x2 then (
      kg (kt M a0 9) <| (F_X9_takeEnd N M a0).bind fun M5 =>
      some M5) else
    kg (kt M a0 9) <| (F_X9_atWord N M a0 6).bind fun r6 =>
    if r6 = 0 then (
      kg (kt M a0 9) <| (F_X9_takeEnd N M a0).bind fun M7 =>
      some M7) else
    (F_X7_readSeat N M a0 a1).bind fun M8 =>
    kl (x2 + 1) fun v9 =>
    F_X7_read_94 N n M8 a0 a1 v9
def F_X7_read_52 (N : Nat) : Nat → kMem → Nat → Nat → Int32 → Option (kMem)
  | 0, _, _, _, _ => none
  | n + 1, M, a0, a1, x2 =>
    if x2 < 24 then (
      kg (kt M a0 9) <| (F_X9_atWord N M a0 5).bind fun r11 =>
      if r11 = 0 then (
        kg (kt M a0 9) <| (F_X9_atWord N M a0 5).bind fun r12 =>
        if r12 = 0 then (
          F_X7_read_94 N N M a0 a1 0) else
        kg (kt M a0 9) <| (F_X9_refuse N M a0 5).bind fun M13 =>
        F_X7_read_94 N N M13 a0 a1 0) else
      (F_X7_readTrader N M a0 a1).bind fun M14 =>
      kl (x2 + 1) fun v15 =>
      F_X7_read_52 N n M14 a0 a1 v15) else
    kg (kt M a0 9) <| (F_X9_atWord N M a0 5).bind fun r4 =>
    if r4 = 0 then (
      F_X7_read_94 N N M a0 a1 0) else
    kg (kt M a0 9) <| (F_X9_refuse N M a0 5).bind fun M10 =>
    F_X7_read_94 N N M10 a0 a1 0
def F_X7_read_11 (N : Nat) : Nat → kMem → Nat → Nat → Int32 → Option (kMem)
  | 0, _, _, _, _ => none
  | n + 1, M, a0, a1, x2 =>
    if x2 < 5 then (
      kg (kt M a0 9) <| (F_X9_atWord N M a0 4).bind fun r17 =>
      if r17 = 0 then (
        kg (kt M a0 9) <| (F_X9_atWord N M a0 4).bind fun r18 =>
        if r18 = 0 then (
          F_X7_read_52 N N M a0 a1 0) else
        kg (kt M a0 9) <| (F_X9_refuse N M a0 5).bind fun M19 =>
        F_X7_read_52 N N M19 a0 a1 0) else
      (F_X7_readBoard N M a0 a1).bind fun M20 =>
      kl (x2 + 1) fun v21 =>
      F_X7_read_11 N n M20 a0 a1 v21) else
    kg (kt M a0 9) <| (F_X9_atWord N M a0 4).bind fun r3 =>
    if r3 = 0 then (
      F_X7_read_52 N N M a0 a1 0) else
    kg (kt M a0 9) <| (F_X9_refuse N M a0 5).bind fun M16 =>
    F_X7_read_52 N N M16 a0 a1 0
def F_X7_read (N : Nat) (M : kMem) (a0 : Nat) (a1 : Nat) : Option (kMem) :=
    kg (kt M a1 4) <| (F_X4_clear N M a1).bind fun M1 =>
    (F_X7_readMarket N M1 a0 a1).bind fun M2 =>
    F_X7_read_11 N N M2 a0 a1 0
def F_X11_beginMarketOfText_57 (N : Nat) : Nat → kMem → Nat → Int32 → Option (kMem)
  | 0, _, _, _ => none
  | n + 1, M, a0, x1 =>
    kg (kt M a0 11) <|
    kg (kt M (kR M a0 8) 14) <|
    if x1 < (Int32.ofNat (kn M (kR M a0 8))) then (
      kg (kt M a0 11) <|
      kg (kin M (kR M a0 8) 14 x1 && ((0 : Int32) == 0 || (0 : Int32) == 1)) <| kl (ksI M (kR M a0 8) (kx x1) 0) fun M7 =>
      kl (x1 + 1) fun v8 =>
      F_X11_beginMarketOfText_57 N n M7 a0 v8) else
    some M
def F_X11_beginMarketOfText (N : Nat) (M : kMem) (a0 : Nat) : Option (kMem) :=
    kg (kt M a0 11) <|
    kg (kt M (kR M a0 2) 9) <| (F_X9_begin N M (kR M a0 2)).bind fun M1 =>
    kg (kt M1 a0 11) <|
    kg (kt M1 a0 11) <|
    (F_X7_read N M1 (kR M1 a0 2) (kR M1 a0 5)).bind fun M2 =>
    kg (kt M2 a0 11) <|
    kg (kt M2 (kR M2 a0 0) 8) <| kl (ksI M2 (kR M2 a0 0) 1 0) fun M3 =>
    kg (kt M3 a0 11) <|
    kg (kt M3 (kR M3 a0 2) 9) <| (F_X9_failed N M3 (kR M3 a0 2)).bind fun r4 =>
    if r4 = 0 then (
      kg (kt M3 a0 11) <|
      kg (kt M3 a0 11) <|
      kg (kt M3 (kR M3 a0 4) 4) <| (F_X4_copyFrom N M3 (kR M3 a0 4) (kR M3 a0 5)).bind fun M5 =>
      kg (kt M5 a0 11) <|
      kg (kt M5 (kR M5 a0 6) 3) <| (F_X3_forget N M5 (kR M5 a0 6)).bind fun M6 =>
      F_X11_beginMarketOfText_57 N N M6 a0 0) else
    some M3
def F_X11_load (N : Nat) (M : kMem) (a0 : Nat) : Option (Int32 × kMem) :=
    kg (kt M a0 11) <| (F_X11_beginMarketOfText N M a0).bind fun M1 =>
    kg (kt M1 a0 11) <|
    kg (kt M1 (kR M1 a0 2) 9) <|
    some (kI M1 (kR M1 a0 2) 6, M1)
