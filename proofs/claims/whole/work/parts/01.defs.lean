def F_X0_build_18 (N : Nat) : Nat → kMem → Nat → Int32 → Option (kMem)
  | 0, _, _, _ => none
  | n + 1, M, a0, x4 =>
    kg (kt M a0 0) <|
    kg (kt M (kR M a0 4) 13) <|
    if x4 < (Int32.ofNat (kn M (kR M a0 4))) then (
      kg (kt M a0 0) <|
      kg (kin M (kR M a0 4) 13 x4) <| kl (ksI M (kR M a0 4) (kx x4) (-1)) fun M4 =>
      kl (x4 + 1) fun v5 =>
      F_X0_build_18 N n M4 a0 v5) else
    some M
def F_X0_build (N : Nat) (M : kMem) (a0 : Nat) (x1 : Int32) (x2 : Int32) (x3 : Int32) : Option (kMem) :=
    kg (kt M a0 0) <| kl (ksI M a0 1 x1) fun M1 =>
    kg (kt M1 a0 0) <| kl (ksI M1 a0 2 x2) fun M2 =>
    kg (kt M2 a0 0) <| kl (ksI M2 a0 3 x3) fun M3 =>
    F_X0_build_18 N N M3 a0 0
def F_X0_hasSeat (N : Nat) (M : kMem) (a0 : Nat) (x1 : Int32) : Option (Int32) :=
    if x1 = 0 then (
      some 0) else
    kg (kt M a0 0) <|
    if x1 < (-(kI M a0 1)) then (
      some 0) else
    kg (kt M a0 0) <|
    if (kI M a0 1) < x1 then (
      some 0) else
    some 1
def F_X0_ownerAt (N : Nat) (M : kMem) (a0 : Nat) (x1 : Int32) : Option (Int32) :=
    kl (x1 + 6) fun v1 =>
    if v1 < 0 then (
      some (-1)) else
    kg (kt M a0 0) <|
    kg (kt M (kR M a0 4) 13) <|
    if v1 < (Int32.ofNat (kn M (kR M a0 4))) then (
      kg (kt M a0 0) <|
      kg (kin M (kR M a0 4) 13 v1) <|
      some (kI M (kR M a0 4) (kx v1))) else
    some (-1)
def F_X0_setOwner (N : Nat) (M : kMem) (a0 : Nat) (x1 : Int32) (x2 : Int32) : Option (kMem) :=
    kl (x1 + 6) fun v1 =>
    if v1 < 0 then (
      some M) else
    kg (kt M a0 0) <|
    kg (kt M (kR M a0 4) 13) <|
    if v1 < (Int32.ofNat (kn M (kR M a0 4))) then (
      kg (kt M a0 0) <|
      kg (kin M (kR M a0 4) 13 v1) <| kl (ksI M (kR M a0 4) (kx v1) x2) fun M2 =>
      some M2) else
    some M
def F_X0_isFree (N : Nat) (M : kMem) (a0 : Nat) (x1 : Int32) : Option (Int32) :=
    kg (kt M a0 0) <| (F_X0_hasSeat N M a0 x1).bind fun r1 =>
    if r1 = 0 then (
      some 0) else
    kg (kt M a0 0) <| (F_X0_ownerAt N M a0 x1).bind fun r2 =>
    if r2 = (-1) then (
      some 1) else
    some 0
def F_X0_tipsUnder (N : Nat) (M : kMem) (a0 : Nat) (x1 : Int32) : Option (Int32) :=
    kg (kt M a0 0) <|
    if (kI M a0 3) < (kabs x1) then (
      some 1) else
    some 0
def F_X0_tiltUnder (N : Nat) (M : kMem) (a0 : Nat) (x1 : Int32) : Option (Int32) :=
    kg (kt M a0 0) <|
    if (kI M a0 2) < 1 then (
      some 0) else
    kg (kt M a0 0) <|
    kg (!((kI M a0 2) == 0)) <|
    some (kmax (-9) (kmin 9 (x1 / (kI M a0 2))))
def F_X0_copyFrom (N : Nat) (M : kMem) (a0 : Nat) (a1 : Nat) : Option (kMem) :=
    kg (kt M a1 0) <|
    kg (kt M a0 0) <| kl (ksI M a0 1 (kI M a1 1)) fun M1 =>
    kg (kt M1 a1 0) <|
    kg (kt M1 a0 0) <| kl (ksI M1 a0 2 (kI M1 a1 2)) fun M2 =>
    kg (kt M2 a1 0) <|
    kg (kt M2 a0 0) <| kl (ksI M2 a0 3 (kI M2 a1 3)) fun M3 =>
    kg (kt M3 a1 0) <|
    kg (kt M3 a0 0) <|
    kg (kt M3 a0 0) <|
    kg (kt M3 (kR M3 a0 4) 13) <|
    kg (kcpOk M3 (kR M3 a1 4) 0 (kR M3 a0 4) 0 (Int32.ofNat (kn M3 (kR M3 a0 4)))) <| kl (kcp M3 (kR M3 a1 4) 0 (kR M3 a0 4) 0 (Int32.ofNat (kn M3 (kR M3 a0 4)))) fun M4 =>
    some M4
def F_X2_add_4 (N : Nat) : Nat → kMem → Nat → Int32 → Int32 → Int32 → Int32 → Option (kMem)
  | 0, _, _, _, _, _, _ => none
  | n + 1, M, a0, x1, x2, x3, x4 =>
    if (0 : Int32) < x4 then (
      kg (kt M a0 2) <|
      kg (kt M a0 2) <|
      kg (kin M (kR M a0 0) 13 (x4 - 1)) <|
      kg (kin M (kR M a0 0) 13 x4) <| kl (ksI M (kR M a0 0) (kx x4) (kI M (kR M a0 0) (kx (x4 - 1)))) fun M5 =>
      kg (kt M5 a0 2) <|
      kg (kt M5 a0 2) <|
      kg (kin M5 (kR M5 a0 1) 13 (x4 - 1)) <|
      kg (kin M5 (kR M5 a0 1) 13 x4) <| kl (ksI M5 (kR M5 a0 1) (kx x4) (kI M5 (kR M5 a0 1) (kx (x4 - 1)))) fun M6 =>
      kg (kt M6 a0 2) <|
      kg (kt M6 a0 2) <|
      kg (kin M6 (kR M6 a0 2) 13 (x4 - 1)) <|
      kg (kin M6 (kR M6 a0 2) 13 x4) <| kl (ksI M6 (kR M6 a0 2) (kx x4) (kI M6 (kR M6 a0 2) (kx (x4 - 1)))) fun M7 =>
      kl (x4 + (-1)) fun v8 =>
      F_X2_add_4 N n M7 a0 x1 x2 x3 v8) else
    kg (kt M a0 2) <|
    kg (kin M (kR M a0 0) 13 0) <| kl (ksI M (kR M a0 0) (kx 0) x1) fun M1 =>
    kg (kt M1 a0 2) <|
    kg (kin M1 (kR M1 a0 1) 13 0) <| kl (ksI M1 (kR M1 a0 1) (kx 0) x2) fun M2 =>
    kg (kt M2 a0 2) <|
    kg (kin M2 (kR M2 a0 2) 13 0) <| kl (ksI M2 (kR M2 a0 2) (kx 0) x3) fun M3 =>
    kg (kt M3 a0 2) <|
    kg (kt M3 a0 2) <| kl (ksI M3 a0 3 (kmin ((kI M3 a0 3) + 1) 12)) fun M4 =>
    some M4
def F_X2_add (N : Nat) (M : kMem) (a0 : Nat) (x1 : Int32) (x2 : Int32) (x3 : Int32) : Option (kMem) :=
    F_X2_add_4 N N M a0 x1 x2 x3 11
def F_X2_hasEvent (N : Nat) (M : kMem) (a0 : Nat) (x1 : Int32) : Option (Int32) :=
    if x1 < 0 then (
      some 0) else
    kg (kt M a0 2) <|
    if x1 < (kI M a0 3) then (
      if x1 < 12 then (
        some 1) else
      some 0) else
    some 0
def F_X2_kindAt (N : Nat) (M : kMem) (a0 : Nat) (x1 : Int32) : Option (Int32) :=
    kg (kt M a0 2) <| (F_X2_hasEvent N M a0 x1).bind fun r1 =>
    if r1 = 0 then (
      some (-1)) else
    kg (kt M a0 2) <|
    kg (kin M (kR M a0 0) 13 x1) <|
    some (kI M (kR M a0 0) (kx x1))
def F_X2_traderAt (N : Nat) (M : kMem) (a0 : Nat) (x1 : Int32) : Option (Int32) :=
    kg (kt M a0 2) <| (F_X2_hasEvent N M a0 x1).bind fun r1 =>
    if r1 = 0 then (
      some (-1)) else
    kg (kt M a0 2) <|
    kg (kin M (kR M a0 1) 13 x1) <|
    some (kI M (kR M a0 1) (kx x1))
def F_X2_dayAt (N : Nat) (M : kMem) (a0 : Nat) (x1 : Int32) : Option (Int32) :=
    kg (kt M a0 2) <| (F_X2_hasEvent N M a0 x1).bind fun r1 =>
    if r1 = 0 then (
      some (-1)) else
    kg (kt M a0 2) <|
    kg (kin M (kR M a0 2) 13 x1) <|
    some (kI M (kR M a0 2) (kx x1))
def F_X2_copyFrom (N : Nat) (M : kMem) (a0 : Nat) (a1 : Nat) : Option (kMem) :=
    kg (kt M a1 2) <|
    kg (kt M a0 2) <| kl (ksI M a0 3 (kI M a1 3)) fun M1 =>
    kg (kt M1 a1 2) <|
    kg (kt M1 a0 2) <|
    kg (kt M1 a0 2) <|
    kg (kt M1 (kR M1 a0 0) 13) <|
    kg (kcpOk M1 (kR M1 a1 0) 0 (kR M1 a0 0) 0 (Int32.ofNat (kn M1 (kR M1 a0 0)))) <| kl (kcp M1 (kR M1 a1 0) 0 (kR M1 a0 0) 0 (Int32.ofNat (kn M1 (kR M1 a0 0)))) fun M2 =>
    kg (kt M2 a1 2) <|
    kg (kt M2 a0 2) <|
    kg (kt M2 a0 2) <|
    kg (kt M2 (kR M2 a0 1) 13) <|
    kg (kcpOk M2 (kR M2 a1 1) 0 (kR M2 a0 1) 0 (Int32.ofNat (kn M2 (kR M2 a0 1)))) <| kl (kcp M2 (kR M2 a1 1) 0 (kR M2 a0 1) 0 (Int32.ofNat (kn M2 (kR M2 a0 1)))) fun M3 =>
    kg (kt M3 a1 2) <|
    kg (kt M3 a0 2) <|
    kg (kt M3 a0 2) <|
    kg (kt M3 (kR M3 a0 2) 13) <|
    kg (kcpOk M3 (kR M3 a1 2) 0 (kR M3 a0 2) 0 (Int32.ofNat (kn M3 (kR M3 a0 2)))) <| kl (kcp M3 (kR M3 a1 2) 0 (kR M3 a0 2) 0 (Int32.ofNat (kn M3 (kR M3 a0 2)))) fun M4 =>
    some M4
def F_X10_isSeated (N : Nat) (M : kMem) (a0 : Nat) : Option (Int32) :=
    kg (kt M a0 10) <|
    if (kI M a0 6) = (-1) then (
      some 0) else
    some 1
def F_X10_copyFrom (N : Nat) (M : kMem) (a0 : Nat) (a1 : Nat) : Option (kMem) :=
    kg (kt M a1 10) <|
    kg (kt M a0 10) <| kl (ksJ M a0 1 (kJ M a1 1)) fun M1 =>
    kg (kt M1 a1 10) <|
    kg (kt M1 a0 10) <| kl (ksI M1 a0 2 (kI M1 a1 2)) fun M2 =>
    kg (kt M2 a1 10) <|
    kg (kt M2 a0 10) <| kl (ksI M2 a0 3 (kI M2 a1 3)) fun M3 =>
    kg (kt M3 a1 10) <|
    kg (kt M3 a0 10) <| kl (ksI M3 a0 4 (kI M3 a1 4)) fun M4 =>
    kg (kt M4 a1 10) <|
    kg (kt M4 a0 10 && ((kI M4 a1 5) == 0 || (kI M4 a1 5) == 1)) <| kl (ksI M4 a0 5 (kI M4 a1 5)) fun M5 =>
    kg (kt M5 a1 10) <|
    kg (kt M5 a0 10) <| kl (ksI M5 a0 6 (kI M5 a1 6)) fun M6 =>
    kg (kt M6 a1 10) <|
    kg (kt M6 a0 10) <| kl (ksI M6 a0 7 (kI M6 a1 7)) fun M7 =>
    some M7
def F_X8_byteAt (N : Nat) (M : kMem) (a0 : Nat) (x1 : Int32) : Option (Int32) :=
    if x1 < 0 then (
      some (-1)) else
    kg (kt M a0 8) <|
    if x1 < (kI M a0 1) then (
      kg (kt M a0 8) <|
      kg (kt M (kR M a0 0) 13) <|
      if x1 < (Int32.ofNat (kn M (kR M a0 0))) then (
        kg (kt M a0 8) <|
        kg (kin M (kR M a0 0) 13 x1) <|
        some (kI M (kR M a0 0) (kx x1))) else
      some (-1)) else
    some (-1)
def F_X8_add (N : Nat) (M : kMem) (a0 : Nat) (x1 : Int32) : Option (kMem) :=
    kg (kt M a0 8) <|
    if (kI M a0 1) < 0 then (
      some M) else
    kg (kt M a0 8) <|
    kg (kt M a0 8) <|
    kg (kt M (kR M a0 0) 13) <|
    if (kI M a0 1) < (Int32.ofNat (kn M (kR M a0 0))) then (
      kg (kt M a0 8) <|
      kg (kt M a0 8) <|
      kg (kin M (kR M a0 0) 13 (kI M a0 1)) <| kl (ksI M (kR M a0 0) (kx (kI M a0 1)) x1) fun M1 =>
      kg (kt M1 a0 8) <|
      kg (kt M1 a0 8) <| kl (ksI M1 a0 1 ((kI M1 a0 1) + 1)) fun M2 =>
      some M2) else
    some M
def F_X8_addBytesOf_3 (N : Nat) : Nat → kMem → Nat → Int32 → Int32 → Option (kMem)
  | 0, _, _, _, _ => none
  | n + 1, M, a0, x1, x2 =>
    if x2 < 0 then (
      some M) else
    kl (((x1.toUInt32 >>> (x2.toUInt32 &&& Int32.toUInt32 31)).toInt32) &&& 255) fun v1 =>
    if v1 = 0 then (
      kl (x2 + (-8)) fun v2 =>
      F_X8_addBytesOf_3 N n M a0 x1 v2) else
    kg (kt M a0 8) <| (F_X8_add N M a0 v1).bind fun M3 =>
    kl (x2 + (-8)) fun v4 =>
    F_X8_addBytesOf_3 N n M3 a0 x1 v4
def F_X8_addBytesOf (N : Nat) (M : kMem) (a0 : Nat) (x1 : Int32) : Option (kMem) :=
    F_X8_addBytesOf_3 N N M a0 x1 24
def F_X11_letterOf (N : Nat) (M : kMem) (x0 : Int64) (x2 : Int32) : Option (Int32) :=
    if x2 < 0 then (
      if (0 : Int32) = 0 then (
        some (-1)) else
      some 0) else
    if x2 < 6 then (
      kl ((((x0.toUInt64 >>> ((8 * x2).toInt64.toUInt64 &&& Int64.toUInt64 63)).toInt64) &&& 255).toInt32) fun v1 =>
      if v1 = 0 then (
        some (-1)) else
      some v1) else
    if (0 : Int32) = 0 then (
      some (-1)) else
    some 0
def F_X8_addName_2 (N : Nat) : Nat → kMem → Nat → Int64 → Int32 → Option (kMem)
  | 0, _, _, _, _ => none
  | n + 1, M, a0, x1, x3 =>
    if x3 < 6 then (
      (F_X11_letterOf N M x1 x3).bind fun r1 =>
      if r1 = (-1) then (
        some M) else
      (F_X11_letterOf N M x1 x3).bind fun r2 =>
      kg (kt M a0 8) <| (F_X8_add N M a0 r2).bind fun M3 =>
      kl (x3 + 1) fun v4 =>
      F_X8_addName_2 N n M3 a0 x1 v4) else
    some M
def F_X8_addName (N : Nat) (M : kMem) (a0 : Nat) (x1 : Int64) : Option (kMem) :=
    F_X8_addName_2 N N M a0 x1 0
def F_X11_isLetter (N : Nat) (M : kMem) (x0 : Int32) : Option (Int32) :=
    if x0 < 97 then (
      some 0) else
    if (122 : Int32) < x0 then (
      some 0) else
    some 1
def F_X8_nameBetween_17 (N : Nat) (M : kMem) : Nat → Nat → Int32 → Int64 → Int32 → Option (Int64)
  | 0, _, _, _, _ => none
  | n + 1, a0, x1, x3, x5 =>
    if x5 < x1 then (
      some x3) else
    kg (kt M a0 8) <| (F_X8_byteAt N M a0 x5).bind fun r2 =>
    (F_X11_isLetter N M r2).bind fun r3 =>
    if r3 = 0 then (
      some 0) else
    kl ((x3 <<< ((8 : Int32).toInt64 &&& 63)) ||| r2.toInt64) fun v4 =>
    kl (x5 + (-1)) fun v5 =>
    F_X8_nameBetween_17 N M n a0 x1 v4 v5
def F_X8_nameBetween (N : Nat) (M : kMem) (a0 : Nat) (x1 : Int32) (x2 : Int32) : Option (Int64) :=
    if (6 : Int32) < (x2 - x1) then (
      some 0) else
    kl (x2 - 1) fun v1 =>
    F_X8_nameBetween_17 N M N a0 x1 0 v1
def F_X4_clear (N : Nat) (M : kMem) (a0 : Nat) : Option (kMem) :=
    kg (kt M a0 4) <| kl (ksI M a0 0 0) fun M1 =>
    kg (kt M1 a0 4) <| kl (ksI M1 a0 8 0) fun M2 =>
    kg (kt M2 a0 4) <| kl (ksI M2 a0 9 0) fun M3 =>
    kg (kt M3 a0 4) <| kl (ksI M3 a0 10 0) fun M4 =>
    kg (kt M4 a0 4) <| kl (ksI M4 a0 11 0) fun M5 =>
    kg (kt M5 a0 4) <| kl (ksI M5 a0 12 0) fun M6 =>
    kg (kt M6 a0 4) <|
    kg (kt M6 (kR M6 a0 15) 2) <| kl (ksI M6 (kR M6 a0 15) 3 0) fun M7 =>
    some M7
def F_X4_copyFrom_138 (N : Nat) : Nat → kMem → Nat → Nat → Int32 → Option (kMem)
  | 0, _, _, _, _ => none
  | n + 1, M, a0, a1, x2 =>
    kg (kt M a0 4) <|
    kg (kt M (kR M a0 14) 17) <|
    if x2 < (Int32.ofNat (kn M (kR M a0 14))) then (
      kg (kt M a0 4) <|
      kg (kin M (kR M a0 14) 17 x2) <|
      kg (kt M a1 4) <|
      kg (kin M (kR M a1 14) 17 x2) <|
      kg (kt M (kR M (kR M a0 14) (kx x2)) 10) <| (F_X10_copyFrom N M (kR M (kR M a0 14) (kx x2)) (kR M (kR M a1 14) (kx x2))).bind fun M15 =>
      kl (x2 + 1) fun v16 =>
      F_X4_copyFrom_138 N n M15 a0 a1 v16) else
    kg (kt M a0 4) <|
    kg (kt M a1 4) <|
    kg (kt M (kR M a0 15) 2) <| (F_X2_copyFrom N M (kR M a0 15) (kR M a1 15)).bind fun M14 =>
    some M14
def F_X4_copyFrom_106 (N : Nat) : Nat → kMem → Nat → Nat → Int32 → Option (kMem)
  | 0, _, _, _, _ => none
  | n + 1, M, a0, a1, x2 =>
    kg (kt M a0 4) <|
    kg (kt M (kR M a0 13) 16) <|
    if x2 < (Int32.ofNat (kn M (kR M a0 13))) then (
      kg (kt M a0 4) <|
      kg (kin M (kR M a0 13) 16 x2) <|
      kg (kt M a1 4) <|
      kg (kin M (kR M a1 13) 16 x2) <|
      kg (kt M (kR M (kR M a0 13) (kx x2)) 0) <| (F_X0_copyFrom N M (kR M (kR M a0 13) (kx x2)) (kR M (kR M a1 13) (kx x2))).bind fun M17 =>
      kl (x2 + 1) fun v18 =>
      F_X4_copyFrom_106 N n M17 a0 a1 v18) else
    F_X4_copyFrom_138 N N M a0 a1 0
def F_X4_copyFrom (N : Nat) (M : kMem) (a0 : Nat) (a1 : Nat) : Option (kMem) :=
    kg (kt M a1 4) <|
    kg (kt M a0 4) <| kl (ksI M a0 0 (kI M a1 0)) fun M1 =>
    kg (kt M1 a1 4) <|
    kg (kt M1 a0 4) <| kl (ksI M1 a0 1 (kI M1 a1 1)) fun M2 =>
    kg (kt M2 a1 4) <|
    kg (kt M2 a0 4) <| kl (ksI M2 a0 2 (kI M2 a1 2)) fun M3 =>
    kg (kt M3 a1 4) <|
    kg (kt M3 a0 4) <| kl (ksI M3 a0 3 (kI M3 a1 3)) fun M4 =>
    kg (kt M4 a1 4) <|
    kg (kt M4 a0 4) <| kl (ksI M4 a0 4 (kI M4 a1 4)) fun M5 =>
    kg (kt M5 a1 4) <|
    kg (kt M5 a0 4) <| kl (ksI M5 a0 5 (kI M5 a1 5)) fun M6 =>
    kg (kt M6 a1 4) <|
    kg (kt M6 a0 4) <| kl (ksI M6 a0 6 (kI M6 a1 6)) fun M7 =>
    kg (kt M7 a1 4) <|
    kg (kt M7 a0 4) <| kl (ksI M7 a0 7 (kI M7 a1 7)) fun M8 =>
    kg (kt M8 a1 4) <|
    kg (kt M8 a0 4) <| kl (ksI M8 a0 8 (kI M8 a1 8)) fun M9 =>
    kg (kt M9 a1 4) <|
    kg (kt M9 a0 4) <| kl (ksI M9 a0 9 (kI M9 a1 9)) fun M10 =>
    kg (kt M10 a1 4) <|
    kg (kt M10 a0 4) <| kl (ksI M10 a0 10 (kI M10 a1 10)) fun M11 =>
    kg (kt M11 a1 4) <|
    kg (kt M11 a0 4) <| kl (ksI M11 a0 11 (kI M11 a1 11)) fun M12 =>
    kg (kt M12 a1 4) <|
    kg (kt M12 a0 4) <| kl (ksI M12 a0 12 (kI M12 a1 12)) fun M13 =>
    F_X4_copyFrom_106 N N M13 a0 a1 0
def F_X4_boardNumbered (N : Nat) (M : kMem) (a0 : Nat) (x1 : Int32) : Option (Nat) :=
    if x1 < 0 then (
      some 0) else
    kg (kt M a0 4) <|
    if x1 < (kI M a0 11) then (
      kg (kt M a0 4) <|
      kg (kt M (kR M a0 13) 16) <|
      if x1 < (Int32.ofNat (kn M (kR M a0 13))) then (
        kg (kt M a0 4) <|
        kg (kin M (kR M a0 13) 16 x1) <|
        some (kR M (kR M a0 13) (kx x1))) else
      some 0) else
    some 0
def F_X4_traderNumbered (N : Nat) (M : kMem) (a0 : Nat) (x1 : Int32) : Option (Nat) :=
    if x1 < 0 then (
      some 0) else
    kg (kt M a0 4) <|
    if x1 < (kI M a0 12) then (
      kg (kt M a0 4) <|
      kg (kt M (kR M a0 14) 17) <|
      if x1 < (Int32.ofNat (kn M (kR M a0 14))) then (
        kg (kt M a0 4) <|
        kg (kin M (kR M a0 14) 17 x1) <|
        some (kR M (kR M a0 14) (kx x1))) else
      some 0) else
    some 0
def F_X4_traderNamed_2 (N : Nat) (M : kMem) : Nat → Nat → Int64 → Int32 → Option (Nat)
  | 0, _, _, _ => none
  | n + 1, a0, x1, x3 =>
    kg (kt M a0 4) <|
    if x3 < (kI M a0 12) then (
      kg (kt M a0 4) <|
      kg (kin M (kR M a0 14) 17 x3) <|
      kg (kt M (kR M (kR M a0 14) (kx x3)) 10) <|
      if (lg_cmp (kJ M (kR M (kR M a0 14) (kx x3)) 1) x1) = 0 then (
        kg (kt M a0 4) <|
        kg (kin M (kR M a0 14) 17 x3) <|
        some (kR M (kR M a0 14) (kx x3))) else
      kl (x3 + 1) fun v1 =>
      F_X4_traderNamed_2 N M n a0 x1 v1) else
    some 0
def F_X4_traderNamed (N : Nat) (M : kMem) (a0 : Nat) (x1 : Int64) : Option (Nat) :=
    F_X4_traderNamed_2 N M N a0 x1 0
def F_X4_addBoard (N : Nat) (M : kMem) (a0 : Nat) (x1 : Int32) (x2 : Int32) (x3 : Int32) : Option (kMem) :=
    kg (kt M a0 4) <|
    kg (kt M a0 4) <|
    kg (kt M (kR M a0 13) 16) <|
    if (kI M a0 11) < (Int32.ofNat (kn M (kR M a0 13))) then (
      kg (kt M a0 4) <|
      kg (kt M a0 4) <|
      kg (kin M (kR M a0 13) 16 (kI M a0 11)) <|
      kg (kt M (kR M (kR M a0 13) (kx (kI M a0 11))) 0) <| (F_X0_build N M (kR M (kR M a0 13) (kx (kI M a0 11))) x1 x2 x3).bind fun M1 =>
      kg (kt M1 a0 4) <|
      kg (kt M1 a0 4) <| kl (ksI M1 a0 11 ((kI M1 a0 11) + 1)) fun M2 =>
      some M2) else
    some M
def F_X4_canAdmit (N : Nat) (M : kMem) (a0 : Nat) (x1 : Int64) : Option (Int32) :=
    if (lg_cmp x1 0) = 0 then (
      some 0) else
    kg (kt M a0 4) <|
    kg (kt M a0 4) <|
    kg (kt M (kR M a0 14) 17) <|
    if (kI M a0 12) < (Int32.ofNat (kn M (kR M a0 14))) then (
      kg (kt M a0 4) <| (F_X4_traderNamed N M a0 x1).bind fun r1 =>
      if r1 = 0 then (
        some 1) else
      some 0) else
    some 0
def F_X4_admit (N : Nat) (M : kMem) (a0 : Nat) (x1 : Int64) (x3 : Int32) (x4 : Int32) (x5 : Int32) : Option (Int32 × kMem) :=
    kg (kt M a0 4) <|
    kg (kt M a0 4) <|
    kg (kt M (kR M a0 14) 17) <|
    if (kI M a0 12) < (Int32.ofNat (kn M (kR M a0 14))) then (
      kg (kt M a0 4) <|
      kg (kt M a0 4) <|
      kg (kin M (kR M a0 14) 17 (kI M a0 12)) <|
      kl (kR M (kR M a0 14) (kx (kI M a0 12))) fun w1 =>
      kg (kt M a0 4) <|
      kg (kt M a0 4) <| kl (ksI M a0 12 ((kI M a0 12) + 1)) fun M2 =>
      kg (kt M2 w1 10) <| kl (ksJ M2 w1 1 x1) fun M3 =>
      kg (kt M3 w1 10) <| kl (ksI M3 w1 2 x3) fun M4 =>
      kg (kt M4 w1 10) <| kl (ksI M4 w1 3 x4) fun M5 =>
      kg (kt M5 w1 10) <| kl (ksI M5 w1 4 x5) fun M6 =>
      kg (kt M6 w1 10 && ((1 : Int32) == 0 || (1 : Int32) == 1)) <| kl (ksI M6 w1 5 1) fun M7 =>
      kg (kt M7 w1 10) <| kl (ksI M7 w1 6 (-1)) fun M8 =>
      kg (kt M8 w1 10) <| kl (ksI M8 w1 7 0) fun M9 =>
      kg (kt M9 a0 4) <|
      kg (kt M9 a0 4) <| kl (ksI M9 a0 7 ((kI M9 a0 7) + x4)) fun M10 =>
      kg (kt M10 w1 10) <|
      some (kI M10 w1 0, M10)) else
    some ((-1), M)
def F_X4_torqueOn_4 (N : Nat) (M : kMem) : Nat → Nat → Nat → Int32 → Int32 → Option (Int32)
  | 0, _, _, _, _ => none
  | n + 1, a0, a1, x2, x3 =>
    kg (kt M a0 4) <|
    if x3 < (kI M a0 12) then (
      kg (kt M a0 4) <|
      kg (kin M (kR M a0 14) 17 x3) <|
      kl (kR M (kR M a0 14) (kx x3)) fun w1 =>
      kg (kt M w1 10) <|
      kg (kt M a1 0) <|
      if (kI M w1 6) = (kI M a1 0) then (
        kg (kt M w1 10) <|
        kg (kt M w1 10) <|
        kl (x2 + ((kI M w1 7) * (kI M w1 2))) fun v3 =>
        kl (x3 + 1) fun v4 =>
        F_X4_torqueOn_4 N M n a0 a1 v3 v4) else
      kl (x3 + 1) fun v2 =>
      F_X4_torqueOn_4 N M n a0 a1 x2 v2) else
    some x2
def F_X4_torqueOn (N : Nat) (M : kMem) (a0 : Nat) (a1 : Nat) : Option (Int32) :=
    F_X4_torqueOn_4 N M N a0 a1 0 0
def F_X4_heightOn (N : Nat) (M : kMem) (a0 : Nat) (a1 : Nat) (x2 : Int32) : Option (Int32) :=
    kg (kt M a0 4) <| (F_X4_torqueOn N M a0 a1).bind fun r1 =>
    kg (kt M a1 0) <| (F_X0_tiltUnder N M a1 r1).bind fun r2 =>
    some ((-x2) * r2)
def F_X4_priceOn (N : Nat) (M : kMem) (a0 : Nat) (a1 : Nat) (x2 : Int32) : Option (Int32) :=
    kg (kt M a0 4) <|
    kg (kt M a0 4) <| (F_X4_heightOn N M a0 a1 x2).bind fun r1 =>
    some (((kI M a0 3) + (kabs x2)) + (kmax 0 r1))
def F_X4_heightUnder (N : Nat) (M : kMem) (a0 : Nat) (a1 : Nat) : Option (Int32) :=
    kg (kt M a1 10) <|
    kg (kt M a0 4) <| (F_X4_boardNumbered N M a0 (kI M a1 6)).bind fun r1 =>
    if r1 = 0 then (
      some 0) else
    kg (kt M a1 10) <|
    kg (kt M a0 4) <| (F_X4_torqueOn N M a0 r1).bind fun r2 =>
    kg (kt M r1 0) <| (F_X0_tiltUnder N M r1 r2).bind fun r3 =>
    some ((-(kI M a1 7)) * r3)
def F_X4_incomeFor (N : Nat) (M : kMem) (a0 : Nat) (a1 : Nat) : Option (Int32) :=
    kg (kt M a1 10) <| (F_X10_isSeated N M a1).bind fun r1 =>
    if r1 = 0 then (
      some 0) else
    kg (kt M a0 4) <|
    kg (kt M a0 4) <| (F_X4_heightUnder N M a0 a1).bind fun r2 =>
    some ((kI M a0 2) + r2)
def F_X4_unitPrice (N : Nat) (M : kMem) (a0 : Nat) (a1 : Nat) (a2 : Nat) : Option (Int32) :=
    kg (kt M a0 4) <|
    kg (kt M a0 4) <| (F_X4_heightUnder N M a0 a2).bind fun r1 =>
    kg (kt M a0 4) <| (F_X4_heightUnder N M a0 a1).bind fun r2 =>
    some (kmax 1 (((kI M a0 4) + r1) - r2))
def F_X4_mostBalancingSeat_19 (N : Nat) (M : kMem) : Nat → Nat → Int32 → Int32 → Int32 → Int32 → Int32 → Option (Int32)
  | 0, _, _, _, _, _, _ => none
  | n + 1, a1, x2, x3, x4, x5, x6 =>
    kg (kt M a1 0) <|
    if (kI M a1 1) < x6 then (
      some x4) else
    kl (kabs (x3 + (x6 * x2))) fun v3 =>
    kg (kt M a1 0) <| (F_X0_isFree N M a1 x6).bind fun r4 =>
    if r4 = 0 then (
      kl (x6 + 1) fun v5 =>
      F_X4_mostBalancingSeat_19 N M n a1 x2 x3 x4 x5 v5) else
    if x4 = 0 then (
      kl (x6 + 1) fun v6 =>
      F_X4_mostBalancingSeat_19 N M n a1 x2 x3 x6 v3 v6) else
    if v3 < x5 then (
      kl (x6 + 1) fun v8 =>
      F_X4_mostBalancingSeat_19 N M n a1 x2 x3 x6 v3 v8) else
    kl (x6 + 1) fun v7 =>
    F_X4_mostBalancingSeat_19 N M n a1 x2 x3 x4 x5 v7
def F_X4_mostBalancingSeat (N : Nat) (M : kMem) (a0 : Nat) (a1 : Nat) (x2 : Int32) : Option (Int32) :=
    kg (kt M a0 4) <| (F_X4_torqueOn N M a0 a1).bind fun r1 =>
    kg (kt M a1 0) <|
    kl (-(kI M a1 1)) fun v2 =>
    F_X4_mostBalancingSeat_19 N M N a1 x2 r1 0 0 v2
def F_X4_torqueAfterMove (N : Nat) (M : kMem) (a0 : Nat) (a1 : Nat) (a2 : Nat) (x3 : Int32) : Option (Int32) :=
    kg (kt M a0 4) <| (F_X4_torqueOn N M a0 a2).bind fun r1 =>
    kg (kt M a1 10) <|
    kl (r1 + (x3 * (kI M a1 2))) fun v2 =>
    kg (kt M a1 10) <|
    kg (kt M a2 0) <|
    if (kI M a1 6) = (kI M a2 0) then (
      kg (kt M a1 10) <|
      kg (kt M a1 10) <|
      some (v2 - ((kI M a1 7) * (kI M a1 2)))) else
    some v2
def F_X4_whyNotSeat (N : Nat) (M : kMem) (a0 : Nat) (a1 : Nat) (a2 : Nat) (x3 : Int32) : Option (Int32) :=
    kg (kt M a1 10) <|
    if (kI M a1 5) = 0 then (
      some 1) else
    kg (kt M a2 0) <| (F_X0_isFree N M a2 x3).bind fun r1 =>
    if r1 = 0 then (
      some 2) else
    kg (kt M a1 10) <|
    kg (kt M a0 4) <| (F_X4_priceOn N M a0 a2 x3).bind fun r2 =>
    if (kI M a1 3) < r2 then (
      some 3) else
    kg (kt M a0 4) <| (F_X4_torqueAfterMove N M a0 a1 a2 x3).bind fun r3 =>
    kg (kt M a2 0) <| (F_X0_tipsUnder N M a2 r3).bind fun r4 =>
    if r4 = 0 then (
      some 0) else
    some 4
def F_X4_mostPayingSeat_12 (N : Nat) (M : kMem) : Nat → Nat → Nat → Nat → Int32 → Int32 → Int32 → Option (Int32)
  | 0, _, _, _, _, _, _ => none
  | n + 1, a0, a1, a2, x3, x4, x5 =>
    kg (kt M a2 0) <|
    if (kI M a2 1) < x5 then (
      some x3) else
    kg (kt M a0 4) <| (F_X4_torqueAfterMove N M a0 a1 a2 x5).bind fun r2 =>
    kg (kt M a2 0) <| (F_X0_tiltUnder N M a2 r2).bind fun r3 =>
    kl ((-x5) * r3) fun v4 =>
    kg (kt M a2 0) <| (F_X0_isFree N M a2 x5).bind fun r5 =>
    if r5 = 0 then (
      kl (x5 + 1) fun v6 =>
      F_X4_mostPayingSeat_12 N M n a0 a1 a2 x3 x4 v6) else
    kg (kt M a0 4) <| (F_X4_whyNotSeat N M a0 a1 a2 x5).bind fun r7 =>
    if r7 = 0 then (
      if x3 = 0 then (
        kl (x5 + 1) fun v9 =>
        F_X4_mostPayingSeat_12 N M n a0 a1 a2 x5 v4 v9) else
      if x4 < v4 then (
        kl (x5 + 1) fun v11 =>
        F_X4_mostPayingSeat_12 N M n a0 a1 a2 x5 v4 v11) else
      kl (x5 + 1) fun v10 =>
      F_X4_mostPayingSeat_12 N M n a0 a1 a2 x3 x4 v10) else
    kl (x5 + 1) fun v8 =>
    F_X4_mostPayingSeat_12 N M n a0 a1 a2 x3 x4 v8
def F_X4_mostPayingSeat (N : Nat) (M : kMem) (a0 : Nat) (a1 : Nat) (a2 : Nat) : Option (Int32) :=
    kg (kt M a2 0) <|
    kl (-(kI M a2 1)) fun v1 =>
    F_X4_mostPayingSeat_12 N M N a0 a1 a2 0 0 v1
def F_X4_whyNotSale (N : Nat) (M : kMem) (a0 : Nat) (a1 : Nat) (a2 : Nat) (x3 : Int32) : Option (Int32) :=
    kg (kt M a1 10) <|
    kg (kt M a0 4) <| (F_X4_boardNumbered N M a0 (kI M a1 6)).bind fun r1 =>
    if r1 = 0 then (
      some 5) else
    kg (kt M a2 10) <| (F_X10_isSeated N M a2).bind fun r2 =>
    if r2 = 0 then (
      some 5) else
    kg (kt M a1 10) <|
    kg (kt M a2 10) <|
    if (kI M a1 6) = (kI M a2 6) then (
      kg (kt M a1 10) <|
      if ((kI M a1 2) - x3) < 1 then (
        some 7) else
      kg (kt M a2 10) <|
      if (99 : Int32) < ((kI M a2 2) + x3) then (
        some 7) else
      kg (kt M a2 10) <|
      kg (kt M a0 4) <| (F_X4_unitPrice N M a0 a1 a2).bind fun r3 =>
      if (kI M a2 3) < (x3 * r3) then (
        some 3) else
      kg (kt M a0 4) <| (F_X4_torqueOn N M a0 r1).bind fun r4 =>
      kg (kt M a2 10) <|
      kg (kt M a1 10) <|
      kl (r4 + (x3 * ((kI M a2 7) - (kI M a1 7)))) fun v5 =>
      kg (kt M r1 0) <| (F_X0_tipsUnder N M r1 v5).bind fun r6 =>
      if r6 = 0 then (
        some 0) else
      some 4) else
    some 6
def F_X4_tipsAfterSwap_37 (N : Nat) (M : kMem) (a1 : Nat) (a2 : Nat) (a3 : Nat) (x4 : Int32) : Option (Int32) :=
    kg (kt M a3 10) <|
    kg (kt M a1 0) <|
    if (kI M a3 6) = (kI M a1 0) then (
      kg (kt M a3 10) <|
      kg (kt M a2 10) <|
      kg (kt M a3 10) <|
      kl (x4 + ((kI M a3 7) * ((kI M a2 2) - (kI M a3 2)))) fun v3 =>
      kg (kt M a1 0) <| (F_X0_tipsUnder N M a1 v3).bind fun r4 =>
      kg (r4 == 0 || r4 == 1) <| some r4) else
    kg (kt M a1 0) <| (F_X0_tipsUnder N M a1 x4).bind fun r2 =>
    kg (r2 == 0 || r2 == 1) <| some r2
def F_X4_tipsAfterSwap (N : Nat) (M : kMem) (a0 : Nat) (a1 : Nat) (a2 : Nat) (a3 : Nat) : Option (Int32) :=
    kg (kt M a0 4) <| (F_X4_torqueOn N M a0 a1).bind fun r1 =>
    kg (kt M a2 10) <|
    kg (kt M a1 0) <|
    if (kI M a2 6) = (kI M a1 0) then (
      kg (kt M a2 10) <|
      kg (kt M a3 10) <|
      kg (kt M a2 10) <|
      kl (r1 + ((kI M a2 7) * ((kI M a3 2) - (kI M a2 2)))) fun v5 =>
      F_X4_tipsAfterSwap_37 N M a1 a2 a3 v5) else
    F_X4_tipsAfterSwap_37 N M a1 a2 a3 r1
def F_X4_whyNotSwap (N : Nat) (M : kMem) (a0 : Nat) (a1 : Nat) (a2 : Nat) : Option (Int32) :=
    kg (kt M a1 10) <|
    kg (kt M a0 4) <| (F_X4_boardNumbered N M a0 (kI M a1 6)).bind fun r1 =>
    kg (kt M a2 10) <|
    kg (kt M a0 4) <| (F_X4_boardNumbered N M a0 (kI M a2 6)).bind fun r2 =>
    if r1 = 0 then (
      some 5) else
    if r2 = 0 then (
      some 5) else
    kg (kt M a0 4) <| (F_X4_heightUnder N M a0 a2).bind fun r3 =>
    kg (kt M a0 4) <| (F_X4_heightUnder N M a0 a1).bind fun r4 =>
    kl (r3 - r4) fun v5 =>
    kg (kt M a1 10) <|
    if (kI M a1 3) < v5 then (
      some 3) else
    kg (kt M a2 10) <|
    if (kI M a2 3) < (-v5) then (
      some 3) else
    kg (kt M a0 4) <| (F_X4_tipsAfterSwap N M a0 r1 a1 a2).bind fun r6 =>
    if r6 = 0 then (
      kg (kt M a0 4) <| (F_X4_tipsAfterSwap N M a0 r2 a1 a2).bind fun r7 =>
      if r7 = 0 then (
        some 0) else
      some 4) else
    some 4
def F_X4_seat (N : Nat) (M : kMem) (a0 : Nat) (a1 : Nat) (a2 : Nat) (x3 : Int32) : Option (kMem) :=
    kg (kt M a2 0) <|
    kg (kt M a1 10) <| kl (ksI M a1 6 (kI M a2 0)) fun M1 =>
    kg (kt M1 a1 10) <| kl (ksI M1 a1 7 x3) fun M2 =>
    kg (kt M2 a1 10) <|
    kg (kt M2 a2 0) <| (F_X0_setOwner N M2 a2 x3 (kI M2 a1 0)).bind fun M3 =>
    some M3
def F_X4_unseat (N : Nat) (M : kMem) (a0 : Nat) (a1 : Nat) : Option (kMem) :=
    kg (kt M a1 10) <|
    kg (kt M a0 4) <| (F_X4_boardNumbered N M a0 (kI M a1 6)).bind fun r1 =>
    if r1 = 0 then (
      kg (kt M a1 10) <| kl (ksI M a1 6 (-1)) fun M2 =>
      kg (kt M2 a1 10) <| kl (ksI M2 a1 7 0) fun M3 =>
      some M3) else
    kg (kt M a1 10) <|
    kg (kt M r1 0) <| (F_X0_setOwner N M r1 (kI M a1 7) (-1)).bind fun M4 =>
    kg (kt M4 a1 10) <| kl (ksI M4 a1 6 (-1)) fun M5 =>
    kg (kt M5 a1 10) <| kl (ksI M5 a1 7 0) fun M6 =>
    some M6
def F_X4_sellSeat (N : Nat) (M : kMem) (a0 : Nat) (a1 : Nat) (a2 : Nat) (x3 : Int32) : Option (Int32 × kMem) :=
    kg (kt M a0 4) <| (F_X4_priceOn N M a0 a2 x3).bind fun r1 =>
    kg (kt M a1 10) <|
    kg (kt M a1 10) <| kl (ksI M a1 3 ((kI M a1 3) - r1)) fun M2 =>
    kg (kt M2 a0 4) <|
    kg (kt M2 a0 4) <| kl (ksI M2 a0 1 ((kI M2 a0 1) + r1)) fun M3 =>
    kg (kt M3 a0 4) <| (F_X4_unseat N M3 a0 a1).bind fun M4 =>
    kg (kt M4 a0 4) <| (F_X4_seat N M4 a0 a1 a2 x3).bind fun M5 =>
    kg (kt M5 a0 4) <|
    kg (kt M5 a0 4) <| kl (ksI M5 a0 8 ((kI M5 a0 8) + 1)) fun M6 =>
    some (r1, M6)
def F_X4_moveWeight (N : Nat) (M : kMem) (a0 : Nat) (a1 : Nat) (a2 : Nat) (x3 : Int32) : Option (Int32 × kMem) :=
    kg (kt M a0 4) <| (F_X4_unitPrice N M a0 a1 a2).bind fun r1 =>
    kl (x3 * r1) fun v2 =>
    kg (kt M a2 10) <|
    kg (kt M a2 10) <| kl (ksI M a2 3 ((kI M a2 3) - v2)) fun M3 =>
    kg (kt M3 a1 10) <|
    kg (kt M3 a1 10) <| kl (ksI M3 a1 3 ((kI M3 a1 3) + v2)) fun M4 =>
    kg (kt M4 a1 10) <|
    kg (kt M4 a1 10) <| kl (ksI M4 a1 2 ((kI M4 a1 2) - x3)) fun M5 =>
    kg (kt M5 a2 10) <|
    kg (kt M5 a2 10) <| kl (ksI M5 a2 2 ((kI M5 a2 2) + x3)) fun M6 =>
    kg (kt M6 a0 4) <|
    kg (kt M6 a0 4) <| kl (ksI M6 a0 9 ((kI M6 a0 9) + x3)) fun M7 =>
    some (v2, M7)
def F_X4_exchangeSeats (N : Nat) (M : kMem) (a0 : Nat) (a1 : Nat) (a2 : Nat) : Option (Int32 × kMem) :=
    kg (kt M a1 10) <|
    kg (kt M a0 4) <| (F_X4_boardNumbered N M a0 (kI M a1 6)).bind fun r1 =>
    kg (kt M a2 10) <|
    kg (kt M a0 4) <| (F_X4_boardNumbered N M a0 (kI M a2 6)).bind fun r2 =>
    if r1 = 0 then (
      some (0, M)) else
    if r2 = 0 then (
      some (0, M)) else
    kg (kt M a0 4) <| (F_X4_heightUnder N M a0 a2).bind fun r3 =>
    kg (kt M a0 4) <| (F_X4_heightUnder N M a0 a1).bind fun r4 =>
    kl (r3 - r4) fun v5 =>
    kg (kt M a1 10) <|
    kl (kI M a1 7) fun v6 =>
    kg (kt M a1 10) <|
    kg (kt M a1 10) <| kl (ksI M a1 3 ((kI M a1 3) - v5)) fun M7 =>
    kg (kt M7 a2 10) <|
    kg (kt M7 a2 10) <| kl (ksI M7 a2 3 ((kI M7 a2 3) + v5)) fun M8 =>
    kg (kt M8 a2 10) <|
    kg (kt M8 a0 4) <| (F_X4_seat N M8 a0 a1 r2 (kI M8 a2 7)).bind fun M9 =>
    kg (kt M9 a0 4) <| (F_X4_seat N M9 a0 a2 r1 v6).bind fun M10 =>
    some (v5, M10)
def F_X4_allowsDays (N : Nat) (M : kMem) (a0 : Nat) (x1 : Int32) : Option (Int32) :=
    kg (kt M a0 4) <|
    if (9999 : Int32) < ((kI M a0 0) + x1) then (
      some 0) else
    some 1
def F_X4_payToBank (N : Nat) (M : kMem) (a0 : Nat) (a1 : Nat) (x2 : Int32) : Option (kMem) :=
    kg (kt M a1 10) <|
    kl (kmin x2 (kI M a1 3)) fun v1 =>
    kg (kt M a1 10) <|
    kg (kt M a1 10) <| kl (ksI M a1 3 ((kI M a1 3) - v1)) fun M2 =>
    kg (kt M2 a0 4) <|
    kg (kt M2 a0 4) <| kl (ksI M2 a0 1 ((kI M2 a0 1) + v1)) fun M3 =>
    some M3
def F_X4_retire (N : Nat) (M : kMem) (a0 : Nat) (a1 : Nat) : Option (kMem) :=
    kg (kt M a0 4) <| (F_X4_unseat N M a0 a1).bind fun M1 =>
    kg (kt M1 a1 10) <|
    kg (kt M1 a0 4) <| (F_X4_payToBank N M1 a0 a1 (kI M1 a1 3)).bind fun M2 =>
    kg (kt M2 a1 10 && ((0 : Int32) == 0 || (0 : Int32) == 1)) <| kl (ksI M2 a1 5 0) fun M3 =>
    kg (kt M3 a0 4) <|
    kg (kt M3 a1 10) <|
    kg (kt M3 a0 4) <|
    kg (kt M3 (kR M3 a0 15) 2) <| (F_X2_add N M3 (kR M3 a0 15) 2 (kI M3 a1 0) (kI M3 a0 0)).bind fun M4 =>
    some M4
def F_X4_ageTraders_2 (N : Nat) : Nat → kMem → Nat → Int32 → Option (kMem)
  | 0, _, _, _ => none
  | n + 1, M, a0, x1 =>
    kg (kt M a0 4) <|
    if x1 < (kI M a0 12) then (
      kg (kt M a0 4) <|
      kg (kin M (kR M a0 14) 17 x1) <|
      kl (kR M (kR M a0 14) (kx x1)) fun w1 =>
      kg (kt M w1 10) <|
      if (kI M w1 5) = 0 then (
        kl (x1 + 1) fun v2 =>
        F_X4_ageTraders_2 N n M a0 v2) else
      kg (kt M w1 10) <|
      kg (kt M w1 10) <| kl (ksI M w1 4 ((kI M w1 4) + 1)) fun M3 =>
      kg (kt M3 w1 10) <|
      kg (kt M3 a0 4) <|
      if (kI M3 a0 5) < (kI M3 w1 4) then (
        kg (kt M3 a0 4) <| (F_X4_retire N M3 a0 w1).bind fun M5 =>
        kl (x1 + 1) fun v6 =>
        F_X4_ageTraders_2 N n M5 a0 v6) else
      kl (x1 + 1) fun v4 =>
      F_X4_ageTraders_2 N n M3 a0 v4) else
    some M
def F_X4_ageTraders (N : Nat) (M : kMem) (a0 : Nat) : Option (kMem) :=
    F_X4_ageTraders_2 N N M a0 0
def F_X4_payIncomes_48 (N : Nat) (k2 : kMem → Nat → Int32 → Option (kMem)) (M : kMem) (a0 : Nat) (x1 : Int32) (a2 : Nat) (y0 : Int32) : Option (kMem) :=
    kg (kt M a0 4) <|
    kg (kt M a0 4) <| kl (ksI M a0 1 ((kI M a0 1) - y0)) fun M3 =>
    kg (kt M3 a2 10) <|
    kg (kt M3 a2 10) <| kl (ksI M3 a2 3 ((kI M3 a2 3) + y0)) fun M4 =>
    kl (x1 + 1) fun v5 =>
    k2 M4 a0 v5
def F_X4_payIncomes_2 (N : Nat) : Nat → kMem → Nat → Int32 → Option (kMem)
  | 0, _, _, _ => none
  | n + 1, M, a0, x1 =>
    kg (kt M a0 4) <|
    if x1 < (kI M a0 12) then (
      kg (kt M a0 4) <|
      kg (kin M (kR M a0 14) 17 x1) <|
      kl (kR M (kR M a0 14) (kx x1)) fun w1 =>
      kg (kt M a0 4) <| (F_X4_incomeFor N M a0 w1).bind fun r2 =>
      if (0 : Int32) < r2 then (
        kg (kt M a0 4) <|
        F_X4_payIncomes_48 N (fun M a0 x1 => F_X4_payIncomes_2 N n M a0 x1) M a0 x1 w1 (kmin r2 (kI M a0 1))) else
      kg (kt M w1 10) <|
      F_X4_payIncomes_48 N (fun M a0 x1 => F_X4_payIncomes_2 N n M a0 x1) M a0 x1 w1 (-(kmin (-r2) (kI M w1 3)))) else
    some M
def F_X4_payIncomes (N : Nat) (M : kMem) (a0 : Nat) : Option (kMem) :=
    F_X4_payIncomes_2 N N M a0 0
def F_X4_dropFarthest_5 (N : Nat) : Nat → kMem → Nat → Nat → Int32 → Int32 → Option (kMem)
  | 0, _, _, _, _, _ => none
  | n + 1, M, a0, a1, x2, x3 =>
    if x3 < 1 then (
      some M) else
    kg (kt M a1 0) <| (F_X0_ownerAt N M a1 (x2 * x3)).bind fun r2 =>
    kg (kt M a0 4) <| (F_X4_traderNumbered N M a0 r2).bind fun r3 =>
    if r3 = 0 then (
      kl (x3 + (-1)) fun v4 =>
      F_X4_dropFarthest_5 N n M a0 a1 x2 v4) else
    kg (kt M a0 4) <| (F_X4_unseat N M a0 r3).bind fun M5 =>
    kg (kt M5 a0 4) <|
    kg (kt M5 a0 4) <| (F_X4_payToBank N M5 a0 r3 (kI M5 a0 6)).bind fun M6 =>
    kg (kt M6 a0 4) <|
    kg (kt M6 r3 10) <|
    kg (kt M6 a0 4) <|
    kg (kt M6 (kR M6 a0 15) 2) <| (F_X2_add N M6 (kR M6 a0 15) 1 (kI M6 r3 0) (kI M6 a0 0)).bind fun M7 =>
    some M7
def F_X4_dropFarthest (N : Nat) (M : kMem) (a0 : Nat) (a1 : Nat) (x2 : Int32) : Option (kMem) :=
    kg (kt M a1 0) <|
    kl (kI M a1 1) fun v1 =>
    F_X4_dropFarthest_5 N N M a0 a1 x2 v1
def F_X4_tipBoards_29 (N : Nat) (k4 : kMem → Nat → Int32 → Int32 → Option (Int32 × kMem)) : Nat → kMem → Nat → Int32 → Int32 → Nat → Int32 → Int32 → Option (Int32 × kMem)
  | 0, _, _, _, _, _, _, _ => none
  | n + 1, M, a0, x1, x2, a3, x4, x5 =>
    if x5 < 12 then (
      kg (kt M a3 0) <| (F_X0_tipsUnder N M a3 x4).bind fun r5 =>
      if r5 = 0 then (
        kl (x2 + 1) fun v6 =>
        k4 M a0 x1 v6) else
      if (0 : Int32) < x4 then (
        kg (kt M a0 4) <| (F_X4_dropFarthest N M a0 a3 1).bind fun M11 =>
        kl (x1 + 1) fun v12 =>
        kg (kt M11 a0 4) <| (F_X4_torqueOn N M11 a0 a3).bind fun r13 =>
        kl (x5 + 1) fun v14 =>
        F_X4_tipBoards_29 N k4 n M11 a0 v12 x2 a3 r13 v14) else
      kg (kt M a0 4) <| (F_X4_dropFarthest N M a0 a3 (-1)).bind fun M7 =>
      kl (x1 + 1) fun v8 =>
      kg (kt M7 a0 4) <| (F_X4_torqueOn N M7 a0 a3).bind fun r9 =>
      kl (x5 + 1) fun v10 =>
      F_X4_tipBoards_29 N k4 n M7 a0 v8 x2 a3 r9 v10) else
    kl (x2 + 1) fun v4 =>
    k4 M a0 x1 v4
def F_X4_tipBoards_4 (N : Nat) : Nat → kMem → Nat → Int32 → Int32 → Option (Int32 × kMem)
  | 0, _, _, _, _ => none
  | n + 1, M, a0, x1, x2 =>
    kg (kt M a0 4) <|
    if x2 < (kI M a0 11) then (
      kg (kt M a0 4) <|
      kg (kin M (kR M a0 13) 16 x2) <|
      kl (kR M (kR M a0 13) (kx x2)) fun w2 =>
      kg (kt M a0 4) <| (F_X4_torqueOn N M a0 w2).bind fun r3 =>
      F_X4_tipBoards_29 N (fun M a0 x1 x2 => F_X4_tipBoards_4 N n M a0 x1 x2) N M a0 x1 x2 w2 r3 0) else
    kg (kt M a0 4) <|
    kg (kt M a0 4) <| kl (ksI M a0 10 ((kI M a0 10) + x1)) fun M1 =>
    some (x1, M1)
def F_X4_tipBoards (N : Nat) (M : kMem) (a0 : Nat) : Option (Int32 × kMem) :=
    F_X4_tipBoards_4 N N M a0 0 0
def F_X4_passDays_4 (N : Nat) : Nat → kMem → Nat → Int32 → Int32 → Int32 → Option (Int32 × kMem)
  | 0, _, _, _, _, _ => none
  | n + 1, M, a0, x1, x2, x3 =>
    if x3 < x1 then (
      kg (kt M a0 4) <|
      kg (kt M a0 4) <| kl (ksI M a0 0 ((kI M a0 0) + 1)) fun M1 =>
      kg (kt M1 a0 4) <| (F_X4_payIncomes N M1 a0).bind fun M2 =>
      kg (kt M2 a0 4) <| (F_X4_ageTraders N M2 a0).bind fun M3 =>
      kg (kt M3 a0 4) <| (F_X4_tipBoards N M3 a0).bind fun r4 =>
      kl (x2 + r4.1) fun v5 =>
      kl (x3 + 1) fun v6 =>
      F_X4_passDays_4 N n r4.2 a0 x1 v5 v6) else
    some (x2, M)
def F_X4_passDays (N : Nat) (M : kMem) (a0 : Nat) (x1 : Int32) : Option (Int32 × kMem) :=
    F_X4_passDays_4 N N M a0 x1 0 0
def F_X4_passDaysUntilFall_2 (N : Nat) : Nat → kMem → Nat → Nat → Int32 → Option (Int32 × kMem)
  | 0, _, _, _, _ => none
  | n + 1, M, a0, a1, x2 =>
    if (100 : Int32) < x2 then (
      some ((-1), M)) else
    if a1 = 0 then (
      some ((-1), M)) else
    kg (kt M a1 10) <| (F_X10_isSeated N M a1).bind fun r1 =>
    if r1 = 0 then (
      some ((-1), M)) else
    kg (kt M a0 4) <| (F_X4_passDays N M a0 1).bind fun r2 =>
    kg (kt r2.2 a1 10) <|
    if (kI r2.2 a1 5) = 0 then (
      kl (x2 + 1) fun v3 =>
      F_X4_passDaysUntilFall_2 N n r2.2 a0 a1 v3) else
    kg (kt r2.2 a1 10) <| (F_X10_isSeated N r2.2 a1).bind fun r4 =>
    if r4 = 0 then (
      some (x2, r2.2)) else
    kl (x2 + 1) fun v5 =>
    F_X4_passDaysUntilFall_2 N n r2.2 a0 a1 v5
def F_X4_passDaysUntilFall (N : Nat) (M : kMem) (a0 : Nat) (a1 : Nat) : Option (Int32 × kMem) :=
    F_X4_passDaysUntilFall_2 N N M a0 a1 1
def F_X4_presentTraders_4 (N : Nat) (M : kMem) : Nat → Nat → Int32 → Int32 → Option (Int32)
  | 0, _, _, _ => none
  | n + 1, a0, x1, x2 =>
    kg (kt M a0 4) <|
    if x2 < (kI M a0 12) then (
      kg (kt M a0 4) <|
      kg (kin M (kR M a0 14) 17 x2) <|
      kg (kt M (kR M (kR M a0 14) (kx x2)) 10) <|
      if (kI M (kR M (kR M a0 14) (kx x2)) 5) = 0 then (
        kl (x2 + 1) fun v1 =>
        F_X4_presentTraders_4 N M n a0 x1 v1) else
      kl (x1 + 1) fun v2 =>
      kl (x2 + 1) fun v3 =>
      F_X4_presentTraders_4 N M n a0 v2 v3) else
    some x1
def F_X4_presentTraders (N : Nat) (M : kMem) (a0 : Nat) : Option (Int32) :=
    F_X4_presentTraders_4 N M N a0 0 0
def F_X4_coinsInPurses_4 (N : Nat) (M : kMem) : Nat → Nat → Int32 → Int32 → Option (Int32)
  | 0, _, _, _ => none
  | n + 1, a0, x1, x2 =>
    kg (kt M a0 4) <|
    if x2 < (kI M a0 12) then (
      kg (kt M a0 4) <|
      kg (kin M (kR M a0 14) 17 x2) <|
      kg (kt M (kR M (kR M a0 14) (kx x2)) 10) <|
      kl (x1 + (kI M (kR M (kR M a0 14) (kx x2)) 3)) fun v1 =>
      kl (x2 + 1) fun v2 =>
      F_X4_coinsInPurses_4 N M n a0 v1 v2) else
    some x1
def F_X4_coinsInPurses (N : Nat) (M : kMem) (a0 : Nat) : Option (Int32) :=
    F_X4_coinsInPurses_4 N M N a0 0 0
def F_X4_rankOf_52 (N : Nat) (M : kMem) (k4 : Nat → Nat → Int32 → Int32 → Option (Int32)) (a0 : Nat) (a1 : Nat) (x2 : Int32) (x3 : Int32) (a4 : Nat) : Option (Int32) :=
    kg (kt M a4 10) <|
    if (kI M a4 5) = 0 then (
      kl (x3 + 1) fun v2 =>
      k4 a0 a1 x2 v2) else
    if (1 : Int32) = 0 then (
      kl (x3 + 1) fun v3 =>
      k4 a0 a1 x2 v3) else
    kl (x2 + 1) fun v4 =>
    kl (x3 + 1) fun v5 =>
    k4 a0 a1 v4 v5
def F_X4_rankOf_56 (N : Nat) (M : kMem) (k4 : Nat → Nat → Int32 → Int32 → Option (Int32)) (a0 : Nat) (a1 : Nat) (x2 : Int32) (x3 : Int32) (a4 : Nat) : Option (Int32) :=
    kg (kt M a4 10) <|
    if (kI M a4 5) = 0 then (
      kl (x3 + 1) fun v6 =>
      k4 a0 a1 x2 v6) else
    if (0 : Int32) = 0 then (
      kl (x3 + 1) fun v7 =>
      k4 a0 a1 x2 v7) else
    kl (x2 + 1) fun v8 =>
    kl (x3 + 1) fun v9 =>
    k4 a0 a1 v8 v9
def F_X4_rankOf_4 (N : Nat) (M : kMem) : Nat → Nat → Nat → Int32 → Int32 → Option (Int32)
  | 0, _, _, _, _ => none
  | n + 1, a0, a1, x2, x3 =>
    kg (kt M a0 4) <|
    if x3 < (kI M a0 12) then (
      kg (kt M a0 4) <|
      kg (kin M (kR M a0 14) 17 x3) <|
      kl (kR M (kR M a0 14) (kx x3)) fun w1 =>
      kg (kt M w1 10) <|
      kg (kt M a1 10) <|
      if (kI M a1 3) < (kI M w1 3) then (
        F_X4_rankOf_52 N M (fun a0 a1 x2 x3 => F_X4_rankOf_4 N M n a0 a1 x2 x3) a0 a1 x2 x3 w1) else
      kg (kt M w1 10) <|
      kg (kt M a1 10) <|
      if (kI M w1 3) = (kI M a1 3) then (
        kg (kt M a1 10) <|
        if x3 < (kI M a1 0) then (
          F_X4_rankOf_52 N M (fun a0 a1 x2 x3 => F_X4_rankOf_4 N M n a0 a1 x2 x3) a0 a1 x2 x3 w1) else
        F_X4_rankOf_56 N M (fun a0 a1 x2 x3 => F_X4_rankOf_4 N M n a0 a1 x2 x3) a0 a1 x2 x3 w1) else
      F_X4_rankOf_56 N M (fun a0 a1 x2 x3 => F_X4_rankOf_4 N M n a0 a1 x2 x3) a0 a1 x2 x3 w1) else
    some x2
def F_X4_rankOf (N : Nat) (M : kMem) (a0 : Nat) (a1 : Nat) : Option (Int32) :=
    F_X4_rankOf_4 N M N a0 a1 0 0
def F_X4_traderWithRank_2 (N : Nat) (M : kMem) : Nat → Nat → Int32 → Int32 → Option (Int32)
  | 0, _, _, _ => none
  | n + 1, a0, x1, x2 =>
    kg (kt M a0 4) <|
    if x2 < (kI M a0 12) then (
      kg (kt M a0 4) <|
      kg (kin M (kR M a0 14) 17 x2) <|
      kg (kt M (kR M (kR M a0 14) (kx x2)) 10) <|
      if (kI M (kR M (kR M a0 14) (kx x2)) 5) = 0 then (
        kl (x2 + 1) fun v1 =>
        F_X4_traderWithRank_2 N M n a0 x1 v1) else
      kg (kt M a0 4) <|
      kg (kin M (kR M a0 14) 17 x2) <|
      kg (kt M a0 4) <| (F_X4_rankOf N M a0 (kR M (kR M a0 14) (kx x2))).bind fun r2 =>
      if r2 = x1 then (
        some x2) else
      kl (x2 + 1) fun v3 =>
      F_X4_traderWithRank_2 N M n a0 x1 v3) else
    some (-1)
def F_X4_traderWithRank (N : Nat) (M : kMem) (a0 : Nat) (x1 : Int32) : Option (Int32) :=
    F_X4_traderWithRank_2 N M N a0 x1 0
def F_X4_seatCount_4 (N : Nat) (M : kMem) : Nat → Nat → Int32 → Int32 → Option (Int32)
  | 0, _, _, _ => none
  | n + 1, a0, x1, x2 =>
    kg (kt M a0 4) <|
    if x2 < (kI M a0 11) then (
      kg (kt M a0 4) <|
      kg (kin M (kR M a0 13) 16 x2) <|
      kg (kt M (kR M (kR M a0 13) (kx x2)) 0) <|
      kl (x1 + (2 * (kI M (kR M (kR M a0 13) (kx x2)) 1))) fun v1 =>
      kl (x2 + 1) fun v2 =>
      F_X4_seatCount_4 N M n a0 v1 v2) else
    some x1
def F_X4_seatCount (N : Nat) (M : kMem) (a0 : Nat) : Option (Int32) :=
    F_X4_seatCount_4 N M N a0 0 0
def F_X4_seatedTraders_4 (N : Nat) (M : kMem) : Nat → Nat → Int32 → Int32 → Option (Int32)
  | 0, _, _, _ => none
  | n + 1, a0, x1, x2 =>
    kg (kt M a0 4) <|
    if x2 < (kI M a0 12) then (
      kg (kt M a0 4) <|
      kg (kin M (kR M a0 14) 17 x2) <|
      kg (kt M (kR M (kR M a0 14) (kx x2)) 10) <| (F_X10_isSeated N M (kR M (kR M a0 14) (kx x2))).bind fun r1 =>
      if r1 = 0 then (
        kl (x2 + 1) fun v2 =>
        F_X4_seatedTraders_4 N M n a0 x1 v2) else
      kl (x1 + 1) fun v3 =>
      kl (x2 + 1) fun v4 =>
      F_X4_seatedTraders_4 N M n a0 v3 v4) else
    some x1
def F_X4_seatedTraders (N : Nat) (M : kMem) (a0 : Nat) : Option (Int32) :=
    F_X4_seatedTraders_4 N M N a0 0 0
def F_X4_weightOn (N : Nat) (M : kMem) (a0 : Nat) (a1 : Nat) (x2 : Int32) : Option (Int32) :=
    kg (kt M a1 0) <| (F_X0_ownerAt N M a1 x2).bind fun r1 =>
    kg (kt M a0 4) <| (F_X4_traderNumbered N M a0 r1).bind fun r2 =>
    if r2 = 0 then (
      some 0) else
    kg (kt M r2 10) <|
    some (kI M r2 2)
def F_X4_torqueByDistances_15 (N : Nat) (M : kMem) (k4 : Nat → Nat → Int32 → Int32 → Option (Int32)) : Nat → Nat → Nat → Int32 → Int32 → Int32 → Option (Int32)
  | 0, _, _, _, _, _ => none
  | n + 1, a0, a1, x2, x3, x4 =>
    kg (kt M a1 0) <|
    if (kI M a1 1) < x4 then (
      kl (x3 + 1) fun v1 =>
      k4 a0 a1 x2 v1) else
    kg (kt M a0 4) <| (F_X4_weightOn N M a0 a1 x4).bind fun r2 =>
    kg (kt M a0 4) <| (F_X4_weightOn N M a0 a1 (-x4)).bind fun r3 =>
    kl (x2 + (r2 - r3)) fun v4 =>
    kl (x4 + 1) fun v5 =>
    F_X4_torqueByDistances_15 N M k4 n a0 a1 v4 x3 v5
def F_X4_torqueByDistances_4 (N : Nat) (M : kMem) : Nat → Nat → Nat → Int32 → Int32 → Option (Int32)
  | 0, _, _, _, _ => none
  | n + 1, a0, a1, x2, x3 =>
    kg (kt M a1 0) <|
    if (kI M a1 1) < x3 then (
      some x2) else
    F_X4_torqueByDistances_15 N M (fun a0 a1 x2 x3 => F_X4_torqueByDistances_4 N M n a0 a1 x2 x3) N a0 a1 x2 x3 x3
def F_X4_torqueByDistances (N : Nat) (M : kMem) (a0 : Nat) (a1 : Nat) : Option (Int32) :=
    F_X4_torqueByDistances_4 N M N a0 a1 0 1
def F_X4_wrongSeats_8 (N : Nat) (M : kMem) : Nat → Nat → Nat → Int32 → Int32 → Option (Int32)
  | 0, _, _, _, _ => none
  | n + 1, a0, a1, x2, x3 =>
    kg (kt M a1 0) <|
    if (kI M a1 1) < x3 then (
      some x2) else
    kg (kt M a1 0) <| (F_X0_ownerAt N M a1 x3).bind fun r2 =>
    kg (kt M a0 4) <| (F_X4_traderNumbered N M a0 r2).bind fun r3 =>
    if r3 = 0 then (
      kl (x3 + 1) fun v4 =>
      F_X4_wrongSeats_8 N M n a0 a1 x2 v4) else
    kg (kt M r3 10) <|
    kg (kt M a1 0) <|
    if (kI M r3 6) = (kI M a1 0) then (
      kg (kt M r3 10) <|
      if (kI M r3 7) = x3 then (
        kl (x3 + 1) fun v7 =>
        F_X4_wrongSeats_8 N M n a0 a1 x2 v7) else
      kl (x2 + 1) fun v8 =>
      kl (x3 + 1) fun v9 =>
      F_X4_wrongSeats_8 N M n a0 a1 v8 v9) else
    kl (x2 + 1) fun v5 =>
    kl (x3 + 1) fun v6 =>
    F_X4_wrongSeats_8 N M n a0 a1 v5 v6
def F_X4_wrongSeats (N : Nat) (M : kMem) (a0 : Nat) (a1 : Nat) : Option (Int32) :=
    kg (kt M a1 0) <|
    kl (-(kI M a1 1)) fun v1 =>
    F_X4_wrongSeats_8 N M N a0 a1 0 v1
def F_X4_countContradictions_20 (N : Nat) (M : kMem) : Nat → Nat → Int32 → Int32 → Option (Int32)
  | 0, _, _, _ => none
  | n + 1, a0, x1, x2 =>
    kg (kt M a0 4) <|
    if x2 < (kI M a0 11) then (
      kg (kt M a0 4) <|
      kg (kin M (kR M a0 13) 16 x2) <|
      kl (kR M (kR M a0 13) (kx x2)) fun w3 =>
      kg (kt M a0 4) <| (F_X4_torqueOn N M a0 w3).bind fun r4 =>
      kg (kt M a0 4) <| (F_X4_torqueByDistances N M a0 w3).bind fun r5 =>
      kl (x1 + (kabs (r4 - r5))) fun v6 =>
      kg (kt M a0 4) <| (F_X4_wrongSeats N M a0 w3).bind fun r7 =>
      kl (v6 + r7) fun v8 =>
      kl (x2 + 1) fun v9 =>
      F_X4_countContradictions_20 N M n a0 v8 v9) else
    some x1
def F_X4_countContradictions (N : Nat) (M : kMem) (a0 : Nat) : Option (Int32) :=
    kg (kt M a0 4) <|
    kg (kt M a0 4) <| (F_X4_coinsInPurses N M a0).bind fun r1 =>
    kg (kt M a0 4) <|
    kl (kabs (((kI M a0 7) - r1) - (kI M a0 1))) fun v2 =>
    F_X4_countContradictions_20 N M N a0 v2 0
def F_X3_record (N : Nat) (M : kMem) (a0 : Nat) (a1 : Nat) : Option (kMem) :=
    kg (kt M a0 3) <|
    kg (kt M a0 3) <|
    kg (kin M (kR M a0 0) 18 (kI M a0 1)) <|
    kg (kt M (kR M (kR M a0 0) (kx (kI M a0 1))) 4) <| (F_X4_copyFrom N M (kR M (kR M a0 0) (kx (kI M a0 1))) a1).bind fun M1 =>
    kg (kt M1 a0 3) <|
    kg (!((8 : Int32) == 0)) <|
    kg (kt M1 a0 3) <| kl (ksI M1 a0 1 (((kI M1 a0 1) + 1) - (((kI M1 a0 1) + 1) / 8) * 8)) fun M2 =>
    kg (kt M2 a0 3) <|
    kg (kt M2 a0 3) <| kl (ksI M2 a0 2 (kmin ((kI M2 a0 2) + 1) 8)) fun M3 =>
    some M3
def F_X3_takeBack (N : Nat) (M : kMem) (a0 : Nat) (a1 : Nat) : Option (kMem) :=
    kg (kt M a0 3) <|
    kg (!((8 : Int32) == 0)) <|
    kg (kt M a0 3) <| kl (ksI M a0 1 ((((kI M a0 1) + 8) - 1) - ((((kI M a0 1) + 8) - 1) / 8) * 8)) fun M1 =>
    kg (kt M1 a0 3) <|
    kg (kt M1 a0 3) <| kl (ksI M1 a0 2 ((kI M1 a0 2) - 1)) fun M2 =>
    kg (kt M2 a0 3) <|
    kg (kt M2 a0 3) <|
    kg (kin M2 (kR M2 a0 0) 18 (kI M2 a0 1)) <|
    kg (kt M2 a1 4) <| (F_X4_copyFrom N M2 a1 (kR M2 (kR M2 a0 0) (kx (kI M2 a0 1)))).bind fun M3 =>
    some M3
def F_X3_forget (N : Nat) (M : kMem) (a0 : Nat) : Option (kMem) :=
    kg (kt M a0 3) <| kl (ksI M a0 2 0) fun M1 =>
    some M1
def F_X9_add (N : Nat) (M : kMem) (a0 : Nat) (x1 : Int32) (x2 : Int32) (x3 : Int32) : Option (kMem) :=
    kg (kt M a0 9) <|
    kg (kt M a0 9) <|
    kg (kt M (kR M a0 1) 13) <|
    if (kI M a0 4) < (Int32.ofNat (kn M (kR M a0 1))) then (
      kg (kt M a0 9) <|
      kg (kt M a0 9) <|
      kg (kin M (kR M a0 1) 13 (kI M a0 4)) <| kl (ksI M (kR M a0 1) (kx (kI M a0 4)) x1) fun M1 =>
      kg (kt M1 a0 9) <|
      kg (kt M1 a0 9) <|
      kg (kin M1 (kR M1 a0 2) 13 (kI M1 a0 4)) <| kl (ksI M1 (kR M1 a0 2) (kx (kI M1 a0 4)) x2) fun M2 =>
      kg (kt M2 a0 9) <|
      kg (kt M2 a0 9) <|
      kg (kin M2 (kR M2 a0 3) 13 (kI M2 a0 4)) <| kl (ksI M2 (kR M2 a0 3) (kx (kI M2 a0 4)) x3) fun M3 =>
      kg (kt M3 a0 9) <|
      kg (kt M3 a0 9) <| kl (ksI M3 a0 4 ((kI M3 a0 4) + 1)) fun M4 =>
      some M4) else
    some M
def F_X11_isDigit (N : Nat) (M : kMem) (x0 : Int32) : Option (Int32) :=
    if x0 < 48 then (
      some 0) else
    if (57 : Int32) < x0 then (
      some 0) else
    some 1
def F_X9_kindOf (N : Nat) (M : kMem) (x0 : Int32) : Option (Int32) :=
    (F_X11_isLetter N M x0).bind fun r1 =>
    if r1 = 0 then (
      (F_X11_isDigit N M x0).bind fun r2 =>
      if r2 = 0 then (
        if x0 = 32 then (
          some 0) else
        if x0 = 10 then (
          some 0) else
        some 3) else
      some 2) else
    some 1
def F_X9_lengthen (N : Nat) (M : kMem) (a0 : Nat) (x1 : Int32) : Option (kMem) :=
    kg (kt M a0 9) <|
    if (0 : Int32) < (kI M a0 4) then (
      kg (kt M a0 9) <|
      kg (kt M a0 9) <|
      kg (kin M (kR M a0 3) 13 ((kI M a0 4) - 1)) <| kl (ksI M (kR M a0 3) (kx ((kI M a0 4) - 1)) x1) fun M1 =>
      some M1) else
    some M
def F_X9_begin_72 (N : Nat) (k24 : kMem → Nat → Int32 → Int32 → Option (kMem)) (M : kMem) (a0 : Nat) (x2 : Int32) (x3 : Int32) : Option (kMem) :=
    if x3 = 0 then (
      kl (x2 + 1) fun v8 =>
      k24 M a0 x3 v8) else
    kg (kt M a0 9) <| (F_X9_add N M a0 x3 x2 (x2 + 1)).bind fun M9 =>
    kl (x2 + 1) fun v10 =>
    k24 M9 a0 x3 v10
def F_X9_begin_62 (N : Nat) (k24 : kMem → Nat → Int32 → Int32 → Option (kMem)) (M : kMem) (a0 : Nat) (x2 : Int32) (x3 : Int32) : Option (kMem) :=
    kg (kt M a0 9) <| (F_X9_lengthen N M a0 (x2 + 1)).bind fun M11 =>
    kl (x2 + 1) fun v12 =>
    k24 M11 a0 x3 v12
def F_X9_begin_24 (N : Nat) : Nat → kMem → Nat → Int32 → Int32 → Option (kMem)
  | 0, _, _, _, _ => none
  | n + 1, M, a0, x1, x2 =>
    kg (kt M a0 9) <|
    kg (kt M (kR M a0 0) 8) <|
    if x2 < (kI M (kR M a0 0) 1) then (
      kg (kt M a0 9) <|
      kg (kt M (kR M a0 0) 8) <| (F_X8_byteAt N M (kR M a0 0) x2).bind fun r6 =>
      (F_X9_kindOf N M r6).bind fun r7 =>
      if r7 = x1 then (
        if r7 = 1 then (
          F_X9_begin_62 N (fun M a0 x1 x2 => F_X9_begin_24 N n M a0 x1 x2) M a0 x2 r7) else
        if r7 = 2 then (
          F_X9_begin_62 N (fun M a0 x1 x2 => F_X9_begin_24 N n M a0 x1 x2) M a0 x2 r7) else
        F_X9_begin_72 N (fun M a0 x1 x2 => F_X9_begin_24 N n M a0 x1 x2) M a0 x2 r7) else
      F_X9_begin_72 N (fun M a0 x1 x2 => F_X9_begin_24 N n M a0 x1 x2) M a0 x2 r7) else
    kg (kt M a0 9) <|
    kg (kt M (kR M a0 0) 8) <|
    kg (kt M a0 9) <|
    kg (kt M (kR M a0 0) 8) <|
    kg (kt M a0 9) <| (F_X9_add N M a0 4 (kI M (kR M a0 0) 1) (kI M (kR M a0 0) 1)).bind fun M5 =>
    some M5
def F_X9_begin (N : Nat) (M : kMem) (a0 : Nat) : Option (kMem) :=
    kg (kt M a0 9) <| kl (ksI M a0 6 0) fun M1 =>
    kg (kt M1 a0 9) <| kl (ksI M1 a0 7 (-1)) fun M2 =>
    kg (kt M2 a0 9) <| kl (ksI M2 a0 5 0) fun M3 =>
    kg (kt M3 a0 9) <| kl (ksI M3 a0 4 0) fun M4 =>
    F_X9_begin_24 N N M4 a0 0 0
def F_X9_failed (N : Nat) (M : kMem) (a0 : Nat) : Option (Int32) :=
    kg (kt M a0 9) <|
    if (kI M a0 6) = 0 then (
      some 0) else
    some 1
def F_X9_failAt (N : Nat) (M : kMem) (a0 : Nat) (x1 : Int32) (x2 : Int32) : Option (kMem) :=
    kg (kt M a0 9) <|
    if (kI M a0 6) = 0 then (
      if x1 < 0 then (
        some M) else
      kg (kt M a0 9) <|
      if x1 < (kI M a0 4) then (
        kg (kt M a0 9) <| kl (ksI M a0 6 x2) fun M1 =>
        kg (kt M1 a0 9) <|
        kg (kin M1 (kR M1 a0 2) 13 x1) <|
        kg (kt M1 a0 9) <| kl (ksI M1 a0 7 (kI M1 (kR M1 a0 2) (kx x1))) fun M2 =>
        some M2) else
      some M) else
    some M
def F_X9_refuse (N : Nat) (M : kMem) (a0 : Nat) (x1 : Int32) : Option (kMem) :=
    kg (kt M a0 9) <|
    kg (kt M a0 9) <| (F_X9_failAt N M a0 (kI M a0 5) x1).bind fun M1 =>
    some M1
def F_X9_refuseTaken (N : Nat) (M : kMem) (a0 : Nat) (x1 : Int32) : Option (kMem) :=
    kg (kt M a0 9) <|
    kg (kt M a0 9) <| (F_X9_failAt N M a0 ((kI M a0 5) - 1) x1).bind fun M1 =>
    some M1
def F_X9_at (N : Nat) (M : kMem) (a0 : Nat) (x1 : Int32) : Option (Int32) :=
    kg (kt M a0 9) <|
    if (kI M a0 6) = 0 then (
      kg (kt M a0 9) <|
      kg (kt M a0 9) <|
      if (kI M a0 5) < (kI M a0 4) then (
        kg (kt M a0 9) <|
        kg (kt M a0 9) <|
        kg (kin M (kR M a0 1) 13 (kI M a0 5)) <|
        if (kI M (kR M a0 1) (kx (kI M a0 5))) = x1 then (
          some 1) else
        some 0) else
      some 0) else
    some 0
def F_X9_atEnd (N : Nat) (M : kMem) (a0 : Nat) : Option (Int32) :=
    kg (kt M a0 9) <| (F_X9_failed N M a0).bind fun r1 =>
    if r1 = 0 then (
      kg (kt M a0 9) <| (F_X9_at N M a0 4).bind fun r2 =>
      if r2 = 0 then (
        some 0) else
      some 1) else
    some 1
def F_X9_atSign (N : Nat) (M : kMem) (a0 : Nat) (x1 : Int32) : Option (Int32) :=
    kg (kt M a0 9) <| (F_X9_at N M a0 3).bind fun r1 =>
    if r1 = 0 then (
      some 0) else
    kg (kt M a0 9) <|
    kg (kt M a0 9) <|
    kg (kt M a0 9) <|
    kg (kin M (kR M a0 2) 13 (kI M a0 5)) <|
    kg (kt M (kR M a0 0) 8) <| (F_X8_byteAt N M (kR M a0 0) (kI M (kR M a0 2) (kx (kI M a0 5)))).bind fun r2 =>
    if r2 = x1 then (
      some 1) else
    some 0
def F_X9_takeIf (N : Nat) (M : kMem) (a0 : Nat) (x1 : Int32) : Option (kMem) :=
    if x1 = 0 then (
      kg (kt M a0 9) <|
      kg (kt M a0 9) <| (F_X9_failAt N M a0 (kI M a0 5) 1).bind fun M2 =>
      some M2) else
    kg (kt M a0 9) <|
    if (kI M a0 6) = 0 then (
      kg (kt M a0 9) <|
      kg (kt M a0 9) <| kl (ksI M a0 5 ((kI M a0 5) + 1)) fun M1 =>
      some M1) else
    some M
def F_X9_takeAnyWord (N : Nat) (M : kMem) (a0 : Nat) : Option (kMem) :=
    kg (kt M a0 9) <| (F_X9_at N M a0 1).bind fun r1 =>
    kg (kt M a0 9) <| (F_X9_takeIf N M a0 r1).bind fun M2 =>
    some M2
def F_X9_takeSign (N : Nat) (M : kMem) (a0 : Nat) (x1 : Int32) : Option (kMem) :=
    kg (kt M a0 9) <| (F_X9_atSign N M a0 x1).bind fun r1 =>
    kg (kt M a0 9) <| (F_X9_takeIf N M a0 r1).bind fun M2 =>
    some M2
def F_X9_takeName_37 (N : Nat) (M : kMem) (a0 : Nat) (y0 : Int64) : Option (Int64 × kMem) :=
    if (lg_cmp y0 0) = 0 then (
      kg (kt M a0 9) <| (F_X9_takeIf N M a0 0).bind fun M2 =>
      some (y0, M2)) else
    kg (kt M a0 9) <| (F_X9_takeIf N M a0 1).bind fun M3 =>
    some (y0, M3)
def F_X9_takeName (N : Nat) (M : kMem) (a0 : Nat) : Option (Int64 × kMem) :=
    kg (kt M a0 9) <| (F_X9_at N M a0 1).bind fun r1 =>
    if r1 = 0 then (
      F_X9_takeName_37 N M a0 0) else
    kg (kt M a0 9) <|
    kg (kt M a0 9) <|
    kg (kt M a0 9) <|
    kg (kin M (kR M a0 2) 13 (kI M a0 5)) <|
    kg (kt M a0 9) <|
    kg (kt M a0 9) <|
    kg (kin M (kR M a0 3) 13 (kI M a0 5)) <|
    kg (kt M (kR M a0 0) 8) <| (F_X8_nameBetween N M (kR M a0 0) (kI M (kR M a0 2) (kx (kI M a0 5))) (kI M (kR M a0 3) (kx (kI M a0 5)))).bind fun r4 =>
    F_X9_takeName_37 N M a0 r4
def F_X9_valueHere_12 (N : Nat) (M : kMem) : Nat → Nat → Int32 → Int32 → Option (Int32)
  | 0, _, _, _ => none
  | n + 1, a0, x1, x2 =>
    kg (kt M a0 9) <|
    kg (kt M a0 9) <|
    kg (kin M (kR M a0 3) 13 (kI M a0 5)) <|
    if x2 < (kI M (kR M a0 3) (kx (kI M a0 5))) then (
      kg (kt M a0 9) <|
      kg (kt M (kR M a0 0) 8) <| (F_X8_byteAt N M (kR M a0 0) x2).bind fun r2 =>
      kl (kmin 1000000 (((x1 * 10) + r2) - 48)) fun v3 =>
      kl (x2 + 1) fun v4 =>
      F_X9_valueHere_12 N M n a0 v3 v4) else
    some x1
def F_X9_valueHere (N : Nat) (M : kMem) (a0 : Nat) : Option (Int32) :=
    kg (kt M a0 9) <|
    kg (kt M a0 9) <|
    kg (kin M (kR M a0 2) 13 (kI M a0 5)) <|
    kl (kI M (kR M a0 2) (kx (kI M a0 5))) fun v1 =>
    F_X9_valueHere_12 N M N a0 0 v1
def F_X9_takeNumber_41 (N : Nat) (M : kMem) (a0 : Nat) (x3 : Int32) (x4 : Int32) : Option (Int32 × kMem) :=
    kg (kt M a0 9) <| (F_X9_takeIf N M a0 x3).bind fun M2 =>
    kg (kt M2 a0 9) <|
    if (kI M2 a0 6) = 0 then (
      some (x4, M2)) else
    some ((-1), M2)
def F_X9_takeNumber_36 (N : Nat) (M : kMem) (a0 : Nat) (x3 : Int32) (x4 : Int32) : Option (Int32 × kMem) :=
    kg (kt M a0 9) <| (F_X9_refuse N M a0 2).bind fun M3 =>
    F_X9_takeNumber_41 N M3 a0 x3 x4
def F_X9_takeNumber_18 (N : Nat) (M : kMem) (a0 : Nat) (x1 : Int32) (x2 : Int32) (x3 : Int32) (y0 : Int32) : Option (Int32 × kMem) :=
    if x3 = 0 then (
      F_X9_takeNumber_41 N M a0 x3 y0) else
    if y0 < x1 then (
      F_X9_takeNumber_36 N M a0 x3 y0) else
    if x2 < y0 then (
      F_X9_takeNumber_36 N M a0 x3 y0) else
    F_X9_takeNumber_41 N M a0 x3 y0
def F_X9_takeNumber (N : Nat) (M : kMem) (a0 : Nat) (x1 : Int32) (x2 : Int32) : Option (Int32 × kMem) :=
    kg (kt M a0 9) <| (F_X9_at N M a0 2).bind fun r1 =>
    if r1 = 0 then (
      F_X9_takeNumber_18 N M a0 x1 x2 r1 (-1)) else
    kg (kt M a0 9) <| (F_X9_valueHere N M a0).bind fun r4 =>
    F_X9_takeNumber_18 N M a0 x1 x2 r1 r4
def F_X9_takeEnd (N : Nat) (M : kMem) (a0 : Nat) : Option (kMem) :=
    kg (kt M a0 9) <| (F_X9_at N M a0 4).bind fun r1 =>
    if r1 = 0 then (
      kg (kt M a0 9) <| (F_X9_refuse N M a0 1).bind fun M2 =>
      some M2) else
    some M
def F_X7_readBoard (N : Nat) (M : kMem) (a0 : Nat) (a1 : Nat) : Option (kMem) :=
    kg (kt M a0 9) <| (F_X9_takeAnyWord N M a0).bind fun M1 =>
    kg (kt M1 a0 9) <| (F_X9_takeNumber N M1 a0 1 6).bind fun r2 =>
    kl r2.1 fun v3 =>
    kg (kt r2.2 a0 9) <| (F_X9_takeNumber N r2.2 a0 1 99).bind fun r4 =>
    kl r4.1 fun v5 =>
    kg (kt r4.2 a0 9) <| (F_X9_takeNumber N r4.2 a0 0 999).bind fun r6 =>
    kl r6.1 fun v7 =>
    kg (kt r6.2 a0 9) <| (F_X9_takeSign N r6.2 a0 59).bind fun M8 =>
    kg (kt M8 a0 9) <| (F_X9_failed N M8 a0).bind fun r9 =>
    if r9 = 0 then (
      kg (kt M8 a1 4) <| (F_X4_addBoard N M8 a1 v3 v5 v7).bind fun M10 =>
      some M10) else
    some M8
def F_X7_readTrader_22 (N : Nat) (M : kMem) (a0 : Nat) (a1 : Nat) (x2 : Int64) : Option (kMem) :=
    kg (kt M a0 9) <| (F_X9_takeNumber N M a0 1 99).bind fun r5 =>
    kl r5.1 fun v6 =>
    kg (kt r5.2 a0 9) <| (F_X9_takeNumber N r5.2 a0 0 9999).bind fun r7 =>
    kl r7.1 fun v8 =>
    kg (kt r7.2 a1 4) <|
    kg (kt r7.2 a0 9) <| (F_X9_takeNumber N r7.2 a0 0 (kI r7.2 a1 5)).bind fun r9 =>
    kl r9.1 fun v10 =>
    kg (kt r9.2 a0 9) <| (F_X9_takeSign N r9.2 a0 59).bind fun M11 =>
    kg (kt M11 a0 9) <| (F_X9_failed N M11 a0).bind fun r12 =>
    if r12 = 0 then (
      kg (kt M11 a1 4) <| (F_X4_admit N M11 a1 x2 v6 v8 v10).bind fun r13 =>
      some r13.2) else
    some M11
def F_X7_readTrader (N : Nat) (M : kMem) (a0 : Nat) (a1 : Nat) : Option (kMem) :=
    kg (kt M a0 9) <| (F_X9_takeAnyWord N M a0).bind fun M1 =>
    kg (kt M1 a0 9) <| (F_X9_takeName N M1 a0).bind fun r2 =>
    kl r2.1 fun v3 =>
    kg (kt r2.2 a1 4) <| (F_X4_traderNamed N r2.2 a1 v3).bind fun r4 =>
    if r4 = 0 then (
      F_X7_readTrader_22 N r2.2 a0 a1 v3) else
    kg (kt r2.2 a0 9) <| (F_X9_refuseTaken N r2.2 a0 3).bind fun M14 =>
    F_X7_readTrader_22 N M14 a0 a1 v3
def F_X1_readTwoNames (N : Nat) (M : kMem) (a0 : Nat) (a1 : Nat) : Option (kMem) :=
    kg (kt M a1 9) <| (F_X9_takeName N M a1).bind fun r1 =>
    kg (kt r1.2 a0 1) <| kl (ksJ r1.2 a0 1 r1.1) fun M2 =>
    kg (kt M2 a1 9) <| (F_X9_takeName N M2 a1).bind fun r3 =>
    kg (kt r3.2 a0 1) <| kl (ksJ r3.2 a0 2 r3.1) fun M4 =>
    kg (kt M4 a0 1) <|
    kg (kt M4 a0 1) <|
    if (lg_cmp (kJ M4 a0 1) (kJ M4 a0 2)) = 0 then (
      kg (kt M4 a1 9) <| (F_X9_refuseTaken N M4 a1 3).bind fun M5 =>
      some M5) else
    some M4
def F_X1_buyOn (N : Nat) (M : kMem) (a0 : Nat) (a1 : Nat) (a2 : Nat) : Option (Int32 × kMem) :=
    kg (kt M a0 1) <|
    kg (kt M a1 4) <| (F_X4_boardNumbered N M a1 (kI M a0 3)).bind fun r1 =>
    if a2 = 0 then (
      some (0, M)) else
    if r1 = 0 then (
      some (0, M)) else
    kg (kt M a0 1) <|
    kg (kt M r1 0) <| (F_X0_hasSeat N M r1 (kI M a0 5)).bind fun r2 =>
    if r2 = 0 then (
      some (0, M)) else
    kg (kt M a0 1) <|
    kg (kt M a1 4) <| (F_X4_whyNotSeat N M a1 a2 r1 (kI M a0 5)).bind fun r3 =>
    if r3 = 0 then (
      kg (kt M a0 1) <|
      kg (kt M a1 4) <| (F_X4_sellSeat N M a1 a2 r1 (kI M a0 5)).bind fun r4 =>
      some (1, r4.2)) else
    some (0, M)
def F_X1_joinOn (N : Nat) (M : kMem) (a0 : Nat) (a1 : Nat) : Option (Int32 × kMem) :=
    kg (kt M a0 1) <|
    kg (kt M a1 4) <| (F_X4_canAdmit N M a1 (kJ M a0 1)).bind fun r1 =>
    if r1 = 0 then (
      some (0, M)) else
    kg (kt M a0 1) <|
    kg (kt M a0 1) <|
    kg (kt M a0 1) <|
    kg (kt M a1 4) <| (F_X4_admit N M a1 (kJ M a0 1) (kI M a0 3) (kI M a0 4) 0).bind fun r2 =>
    some (1, r2.2)
def F_X1_leaveOn (N : Nat) (M : kMem) (a0 : Nat) (a1 : Nat) : Option (Int32 × kMem) :=
    if a1 = 0 then (
      some (0, M)) else
    kg (kt M a1 10) <| (F_X10_isSeated N M a1).bind fun r1 =>
    if r1 = 0 then (
      some (0, M)) else
    kg (kt M a0 4) <| (F_X4_unseat N M a0 a1).bind fun M2 =>
    some (1, M2)
def F_X1_sellOn (N : Nat) (M : kMem) (a0 : Nat) (a1 : Nat) (a2 : Nat) (a3 : Nat) : Option (Int32 × kMem) :=
    if a2 = 0 then (
      some (0, M)) else
    if a3 = 0 then (
      some (0, M)) else
    kg (kt M a0 1) <|
    kg (kt M a1 4) <| (F_X4_whyNotSale N M a1 a2 a3 (kI M a0 3)).bind fun r1 =>
    if r1 = 0 then (
      kg (kt M a0 1) <|
      kg (kt M a1 4) <| (F_X4_moveWeight N M a1 a2 a3 (kI M a0 3)).bind fun r2 =>
      some (1, r2.2)) else
    some (0, M)
def F_X1_swapOn (N : Nat) (M : kMem) (a0 : Nat) (a1 : Nat) (a2 : Nat) : Option (Int32 × kMem) :=
    if a1 = 0 then (
      some (0, M)) else
    if a2 = 0 then (
      some (0, M)) else
    kg (kt M a0 4) <| (F_X4_whyNotSwap N M a0 a1 a2).bind fun r1 =>
    if r1 = 0 then (
      kg (kt M a0 4) <| (F_X4_exchangeSeats N M a0 a1 a2).bind fun r2 =>
      some (1, r2.2)) else
    some (0, M)
def F_X1_performOn (N : Nat) (M : kMem) (a0 : Nat) (a1 : Nat) : Option (Int32 × kMem) :=
    kg (kt M a0 1) <|
    if (kI M a0 0) = 1 then (
      kg (kt M a0 1) <| (F_X1_joinOn N M a0 a1).bind fun r1 =>
      kg (r1.1 == 0 || r1.1 == 1) <| some (r1.1, r1.2)) else
    if (kI M a0 0) = 2 then (
      kg (kt M a0 1) <|
      kg (kt M a1 4) <| (F_X4_traderNamed N M a1 (kJ M a0 1)).bind fun r2 =>
      kg (kt M a0 1) <| (F_X1_buyOn N M a0 a1 r2).bind fun r3 =>
      kg (r3.1 == 0 || r3.1 == 1) <| some (r3.1, r3.2)) else
    if (kI M a0 0) = 3 then (
      kg (kt M a0 1) <|
      kg (kt M a1 4) <| (F_X4_traderNamed N M a1 (kJ M a0 1)).bind fun r4 =>
      (F_X1_leaveOn N M a1 r4).bind fun r5 =>
      kg (r5.1 == 0 || r5.1 == 1) <| some (r5.1, r5.2)) else
    if (kI M a0 0) = 4 then (
      kg (kt M a0 1) <|
      kg (kt M a1 4) <| (F_X4_traderNamed N M a1 (kJ M a0 1)).bind fun r6 =>
      kg (kt M a0 1) <|
      kg (kt M a1 4) <| (F_X4_traderNamed N M a1 (kJ M a0 2)).bind fun r7 =>
      kg (kt M a0 1) <| (F_X1_sellOn N M a0 a1 r6 r7).bind fun r8 =>
      kg (r8.1 == 0 || r8.1 == 1) <| some (r8.1, r8.2)) else
    if (kI M a0 0) = 5 then (
      kg (kt M a0 1) <|
      kg (kt M a1 4) <| (F_X4_traderNamed N M a1 (kJ M a0 1)).bind fun r9 =>
      kg (kt M a0 1) <|
      kg (kt M a1 4) <| (F_X4_traderNamed N M a1 (kJ M a0 2)).bind fun r10 =>
      (F_X1_swapOn N M a1 r9 r10).bind fun r11 =>
      kg (r11.1 == 0 || r11.1 == 1) <| some (r11.1, r11.2)) else
    if (kI M a0 0) = 6 then (
      kg (kt M a0 1) <|
      kg (kt M a1 4) <| kl (ksI M a1 2 (kI M a0 3)) fun M12 =>
      some (1, M12)) else
    if (kI M a0 0) = 7 then (
      kg (kt M a0 1) <|
      kg (kt M a1 4) <| (F_X4_allowsDays N M a1 (kI M a0 3)).bind fun r13 =>
      if r13 = 0 then (
        some (0, M)) else
      kg (kt M a0 1) <|
      kg (kt M a1 4) <| (F_X4_passDays N M a1 (kI M a0 3)).bind fun r14 =>
      some (1, r14.2)) else
    some (0, M)
def F_X6_commandAt (N : Nat) (M : kMem) (a0 : Nat) (x1 : Int32) : Option (Nat) :=
    kg (kt M a0 6) <|
    if x1 < 0 then (
      kg (kin M (kR M a0 0) 19 0) <|
      some (kR M (kR M a0 0) (kx 0))) else
    kg (kt M a0 6) <|
    kg (kt M (kR M a0 0) 19) <|
    if x1 < (Int32.ofNat (kn M (kR M a0 0))) then (
      kg (kin M (kR M a0 0) 19 x1) <|
      some (kR M (kR M a0 0) (kx x1))) else
    kg (kin M (kR M a0 0) 19 0) <|
    some (kR M (kR M a0 0) (kx 0))
def F_X6_stepAt (N : Nat) (M : kMem) (a0 : Nat) (x1 : Int32) : Option (Nat) :=
    if x1 < 0 then (
      kg (kt M a0 6) <| (F_X6_commandAt N M a0 0).bind fun r1 =>
      some r1) else
    kg (kt M a0 6) <|
    kg (kt M (kR M a0 4) 13) <|
    if x1 < (Int32.ofNat (kn M (kR M a0 4))) then (
      kg (kt M a0 6) <|
      kg (kin M (kR M a0 4) 13 x1) <|
      kg (kt M a0 6) <| (F_X6_commandAt N M a0 (kI M (kR M a0 4) (kx x1))).bind fun r3 =>
      some r3) else
    kg (kt M a0 6) <| (F_X6_commandAt N M a0 0).bind fun r2 =>
    some r2
def F_X6_openBracket (N : Nat) (M : kMem) (a0 : Nat) (a1 : Nat) : Option (kMem) :=
    kg (kt M a0 6) <|
    kg (kt M a0 6) <|
    kg (kt M (kR M a0 2) 13) <|
    if (kI M a0 3) < (Int32.ofNat (kn M (kR M a0 2))) then (
      kg (kt M a1 9) <| (F_X9_takeSign N M a1 40).bind fun M1 =>
      kg (kt M1 a0 6) <|
      kg (kt M1 a0 6) <|
      kg (kt M1 a0 6) <|
      kg (kin M1 (kR M1 a0 2) 13 (kI M1 a0 3)) <| kl (ksI M1 (kR M1 a0 2) (kx (kI M1 a0 3)) ((kI M1 a0 1) - 1)) fun M2 =>
      kg (kt M2 a0 6) <|
      kg (kt M2 a0 6) <| kl (ksI M2 a0 3 ((kI M2 a0 3) + 1)) fun M3 =>
      some M3) else
    kg (kt M a1 9) <| (F_X9_atSign N M a1 40).bind fun r4 =>
    if r4 = 0 then (
      kg (kt M a1 9) <| (F_X9_refuse N M a1 1).bind fun M5 =>
      some M5) else
    kg (kt M a1 9) <| (F_X9_refuse N M a1 5).bind fun M6 =>
    some M6
def F_X6_closeBracket (N : Nat) (M : kMem) (a0 : Nat) (a1 : Nat) : Option (kMem) :=
    kg (kt M a1 9) <| (F_X9_takeSign N M a1 41).bind fun M1 =>
    kg (kt M1 a1 9) <| (F_X9_takeSign N M1 a1 59).bind fun M2 =>
    kg (kt M2 a0 6) <|
    if (0 : Int32) < (kI M2 a0 3) then (
      kg (kt M2 a0 6) <|
      kg (kt M2 a0 6) <|
      kg (kt M2 (kR M2 a0 2) 13) <|
      if (Int32.ofNat (kn M2 (kR M2 a0 2))) < (kI M2 a0 3) then (
        some M2) else
      kg (kt M2 a0 6) <|
      kg (kt M2 a0 6) <| kl (ksI M2 a0 3 ((kI M2 a0 3) - 1)) fun M3 =>
      kg (kt M3 a0 6) <|
      kg (kt M3 a0 6) <|
      kg (kin M3 (kR M3 a0 2) 13 (kI M3 a0 3)) <|
      kg (kt M3 a0 6) <| (F_X6_commandAt N M3 a0 (kI M3 (kR M3 a0 2) (kx (kI M3 a0 3)))).bind fun r4 =>
      kg (kt M3 a0 6) <|
      kg (kt M3 r4 1) <| kl (ksI M3 r4 6 (kI M3 a0 1)) fun M5 =>
      some M5) else
    some M2
def F_X6_unroll_79 (N : Nat) (kf : kMem → Nat → Int32 → Int32 → Int32 → Option (kMem)) (k6 : kMem → Nat → Int32 → Int32 → Int32 → Int32 → Option (kMem)) : Nat → kMem → Nat → Int32 → Int32 → Int32 → Nat → Int32 → Option (kMem)
  | 0, _, _, _, _, _, _, _ => none
  | n + 1, M, a0, x2, x3, x5, a6, x7 =>
    kg (kt M a6 1) <|
    if x7 < (kI M a6 3) then (
      if x3 < 2 then (
        kg (kt M a6 1) <|
        kg (kt M a0 6) <| (kf M a0 (x5 + 1) (kI M a6 6) (x3 + 1)).bind fun M6 =>
        kl (x7 + 1) fun v7 =>
        F_X6_unroll_79 N kf k6 n M6 a0 x2 x3 x5 a6 v7) else
      kg (kt M a6 1) <|
      kl (kI M a6 6) fun v4 =>
      kl (x5 + 1) fun v5 =>
      k6 M a0 x2 x3 v4 v5) else
    kg (kt M a6 1) <|
    kl (kI M a6 6) fun v2 =>
    kl (x5 + 1) fun v3 =>
    k6 M a0 x2 x3 v2 v3
def F_X6_unroll_6 (N : Nat) (kf : kMem → Nat → Int32 → Int32 → Int32 → Option (kMem)) : Nat → kMem → Nat → Int32 → Int32 → Int32 → Int32 → Option (kMem)
  | 0, _, _, _, _, _, _ => none
  | n + 1, M, a0, x2, x3, x4, x5 =>
    if x5 < x2 then (
      kg (kt M a0 6) <|
      kg (kt M a0 6) <|
      kg (kt M (kR M a0 4) 13) <|
      if (kI M a0 5) < (Int32.ofNat (kn M (kR M a0 4))) then (
        if x5 < x4 then (
          kl (x5 + 1) fun v11 =>
          F_X6_unroll_6 N kf n M a0 x2 x3 x4 v11) else
        kg (kt M a0 6) <| (F_X6_commandAt N M a0 x5).bind fun r1 =>
        kg (kt M r1 1) <|
        if (kI M r1 0) = 8 then (
          F_X6_unroll_79 N kf (fun M a0 x2 x3 x4 x5 => F_X6_unroll_6 N kf n M a0 x2 x3 x4 x5) N M a0 x2 x3 x5 r1 0) else
        kg (kt M a0 6) <|
        kg (kt M a0 6) <|
        kg (kin M (kR M a0 4) 13 (kI M a0 5)) <| kl (ksI M (kR M a0 4) (kx (kI M a0 5)) x5) fun M8 =>
        kg (kt M8 a0 6) <|
        kg (kt M8 a0 6) <| kl (ksI M8 a0 5 ((kI M8 a0 5) + 1)) fun M9 =>
        kl (x5 + 1) fun v10 =>
        F_X6_unroll_6 N kf n M9 a0 x2 x3 x4 v10) else
      some M) else
    some M
def F_X6_unroll (N : Nat) : Nat → kMem → Nat → Int32 → Int32 → Int32 → Option (kMem)
  | 0, _, _, _, _, _ => none
  | D + 1, M, a0, x1, x2, x3 =>
    kl (F_X6_unroll N D) fun kf =>
    F_X6_unroll_6 N kf N M a0 x2 x3 x1 x1
def F_X11_errorCode (N : Nat) (M : kMem) (a0 : Nat) : Option (Int32) :=
    kg (kt M a0 11) <|
    kg (kt M (kR M a0 2) 9) <|
    some (kI M (kR M a0 2) 6)
def F_X11_errorPosition (N : Nat) (M : kMem) (a0 : Nat) : Option (Int32) :=
    kg (kt M a0 11) <|
    kg (kt M (kR M a0 2) 9) <|
    some (kI M (kR M a0 2) 7)
def F_X11_day (N : Nat) (M : kMem) (a0 : Nat) : Option (Int32) :=
    kg (kt M a0 11) <|
    kg (kt M (kR M a0 4) 4) <|
    some (kI M (kR M a0 4) 0)
def F_X11_bank (N : Nat) (M : kMem) (a0 : Nat) : Option (Int32) :=
    kg (kt M a0 11) <|
    kg (kt M (kR M a0 4) 4) <|
    some (kI M (kR M a0 4) 1)
def F_X11_wage (N : Nat) (M : kMem) (a0 : Nat) : Option (Int32) :=
    kg (kt M a0 11) <|
    kg (kt M (kR M a0 4) 4) <|
    some (kI M (kR M a0 4) 2)
def F_X11_basePrice (N : Nat) (M : kMem) (a0 : Nat) : Option (Int32) :=
    kg (kt M a0 11) <|
    kg (kt M (kR M a0 4) 4) <|
    some (kI M (kR M a0 4) 3)
def F_X11_retirementAge (N : Nat) (M : kMem) (a0 : Nat) : Option (Int32) :=
    kg (kt M a0 11) <|
    kg (kt M (kR M a0 4) 4) <|
    some (kI M (kR M a0 4) 5)
def F_X11_boardCount (N : Nat) (M : kMem) (a0 : Nat) : Option (Int32) :=
    kg (kt M a0 11) <|
    kg (kt M (kR M a0 4) 4) <|
    some (kI M (kR M a0 4) 11)
def F_X11_traderCount (N : Nat) (M : kMem) (a0 : Nat) : Option (Int32) :=
    kg (kt M a0 11) <|
    kg (kt M (kR M a0 4) 4) <|
    some (kI M (kR M a0 4) 12)
def F_X11_findTrader (N : Nat) (M : kMem) (a0 : Nat) : Option (Int32) :=
    kg (kt M a0 11) <|
    kg (kt M a0 11) <|
    kg (kt M a0 11) <|
    kg (kt M (kR M a0 0) 8) <|
    kg (kt M (kR M a0 0) 8) <| (F_X8_nameBetween N M (kR M a0 0) 0 (kI M (kR M a0 0) 1)).bind fun r1 =>
    kg (kt M (kR M a0 4) 4) <| (F_X4_traderNamed N M (kR M a0 4) r1).bind fun r2 =>
    if r2 = 0 then (
      some (-1)) else
    kg (kt M r2 10) <|
    some (kI M r2 0)
def F_X11_richestAt (N : Nat) (M : kMem) (a0 : Nat) (x1 : Int32) : Option (Int32) :=
    kg (kt M a0 11) <|
    kg (kt M (kR M a0 4) 4) <| (F_X4_traderWithRank N M (kR M a0 4) x1).bind fun r1 =>
    some r1
def F_X11_seatsSold (N : Nat) (M : kMem) (a0 : Nat) : Option (Int32) :=
    kg (kt M a0 11) <|
    kg (kt M (kR M a0 4) 4) <|
    some (kI M (kR M a0 4) 8)
def F_X11_weightSold (N : Nat) (M : kMem) (a0 : Nat) : Option (Int32) :=
    kg (kt M a0 11) <|
    kg (kt M (kR M a0 4) 4) <|
    some (kI M (kR M a0 4) 9)
def F_X11_fallCount (N : Nat) (M : kMem) (a0 : Nat) : Option (Int32) :=
    kg (kt M a0 11) <|
    kg (kt M (kR M a0 4) 4) <|
    some (kI M (kR M a0 4) 10)
def F_X11_averagePurse (N : Nat) (M : kMem) (a0 : Nat) : Option (UInt64) :=
    kg (kt M a0 11) <|
    kg (kt M (kR M a0 4) 4) <| (F_X4_presentTraders N M (kR M a0 4)).bind fun r1 =>
    if r1 = 0 then (
      some FP.dconst0) else
    kg (kt M a0 11) <|
    kg (kt M (kR M a0 4) 4) <| (F_X4_coinsInPurses N M (kR M a0 4)).bind fun r2 =>
    kg (decide (FP.ddiv (FP.i2d r2) (FP.i2d r1) &&& 0x7fffffffffffffff ≤ 0x7ff0000000000000)) <|
    some (FP.ddiv (FP.i2d r2) (FP.i2d r1))
def F_X11_occupancy (N : Nat) (M : kMem) (a0 : Nat) : Option (UInt32) :=
    kg (kt M a0 11) <|
    kg (kt M (kR M a0 4) 4) <| (F_X4_seatCount N M (kR M a0 4)).bind fun r1 =>
    if r1 = 0 then (
      some FP.fconst0) else
    kg (kt M a0 11) <|
    kg (kt M (kR M a0 4) 4) <| (F_X4_seatedTraders N M (kR M a0 4)).bind fun r2 =>
    kg (decide (FP.fdiv (FP.i2f r2) (FP.i2f r1) &&& 0x7fffffff ≤ 0x7f800000)) <|
    some (FP.fdiv (FP.i2f r2) (FP.i2f r1))
def F_X11_contradictions (N : Nat) (M : kMem) (a0 : Nat) : Option (Int32) :=
    kg (kt M a0 11) <|
    kg (kt M (kR M a0 4) 4) <| (F_X4_countContradictions N M (kR M a0 4)).bind fun r1 =>
    some r1
def F_X11_eventKind (N : Nat) (M : kMem) (a0 : Nat) (x1 : Int32) : Option (Int32) :=
    kg (kt M a0 11) <|
    kg (kt M (kR M a0 4) 4) <|
    kg (kt M (kR M (kR M a0 4) 15) 2) <| (F_X2_kindAt N M (kR M (kR M a0 4) 15) x1).bind fun r1 =>
    some r1
def F_X11_eventTrader (N : Nat) (M : kMem) (a0 : Nat) (x1 : Int32) : Option (Int32) :=
    kg (kt M a0 11) <|
    kg (kt M (kR M a0 4) 4) <|
    kg (kt M (kR M (kR M a0 4) 15) 2) <| (F_X2_traderAt N M (kR M (kR M a0 4) 15) x1).bind fun r1 =>
    some r1
def F_X11_eventDay (N : Nat) (M : kMem) (a0 : Nat) (x1 : Int32) : Option (Int32) :=
    kg (kt M a0 11) <|
    kg (kt M (kR M a0 4) 4) <|
    kg (kt M (kR M (kR M a0 4) 15) 2) <| (F_X2_dayAt N M (kR M (kR M a0 4) 15) x1).bind fun r1 =>
    some r1
def F_X11_outputByte (N : Nat) (M : kMem) (a0 : Nat) (x1 : Int32) : Option (Int32) :=
    kg (kt M a0 11) <|
    kg (kt M (kR M a0 1) 8) <| (F_X8_byteAt N M (kR M a0 1) x1).bind fun r1 =>
    some r1
def F_X11_undoCount (N : Nat) (M : kMem) (a0 : Nat) : Option (Int32) :=
    kg (kt M a0 11) <|
    kg (kt M (kR M a0 6) 3) <|
    some (kI M (kR M a0 6) 2)
def F_X11_writePlace (N : Nat) (M : kMem) (a0 : Nat) (a1 : Nat) (x2 : Int32) : Option (kMem) :=
    kg (kt M a0 11) <|
    kg (kt M a1 0) <| (F_X0_ownerAt N M a1 x2).bind fun r1 =>
    kg (kt M (kR M a0 4) 4) <| (F_X4_traderNumbered N M (kR M a0 4) r1).bind fun r2 =>
    if x2 = 0 then (
      kg (kt M a0 11) <|
      kg (kt M (kR M a0 1) 8) <| (F_X8_add N M (kR M a0 1) 94).bind fun M5 =>
      some M5) else
    if r2 = 0 then (
      kg (kt M a0 11) <|
      kg (kt M (kR M a0 1) 8) <| (F_X8_add N M (kR M a0 1) 46).bind fun M4 =>
      some M4) else
    kg (kt M a0 11) <|
    kg (kt M r2 10) <|
    kg (kt M (kR M a0 1) 8) <| (F_X8_addName N M (kR M a0 1) (kJ M r2 1)).bind fun M3 =>
    some M3
def F_X11_bytesIn_5 (N : Nat) (M : kMem) : Nat → Int32 → Int32 → Int32 → Option (Int32)
  | 0, _, _, _ => none
  | n + 1, x0, x1, x2 =>
    if x2 < 0 then (
      some x1) else
    if (((x0.toUInt32 >>> (x2.toUInt32 &&& Int32.toUInt32 31)).toInt32) &&& 255) = 0 then (
      kl (x2 + (-8)) fun v1 =>
      F_X11_bytesIn_5 N M n x0 x1 v1) else
    kl (x1 + 1) fun v2 =>
    kl (x2 + (-8)) fun v3 =>
    F_X11_bytesIn_5 N M n x0 v2 v3
def F_X11_bytesIn (N : Nat) (M : kMem) (x0 : Int32) : Option (Int32) :=
    F_X11_bytesIn_5 N M N x0 0 24
def F_X12_thrown (N : Nat) (M : kMem) (a0 : Nat) : Option (Int32) :=
    kg (kt M a0 12) <|
    some (kI M a0 6)
def F_X12_in (N : Nat) (M : kMem) (x0 : Int64) (x2 : Int64) (x4 : Int64) : Option (Int32) :=
    if (lg_cmp x0 x2) < 0 then (
      some 0) else
    if (0 : Int32) < (lg_cmp x0 x4) then (
      some 0) else
    some 1
def F_X12_flag (N : Nat) (M : kMem) (x0 : Int32) : Option (Int32) :=
    if x0 = 0 then (
      some 0) else
    some 1
def F_X12_bare (N : Nat) (M : kMem) (x0 : Int32) : Option (Int32) :=
    if x0 < 0 then (
      some (-x0)) else
    some x0
def F_X12_lesser (N : Nat) (M : kMem) (x0 : Int32) (x1 : Int32) : Option (Int32) :=
    if x0 < x1 then (
      some x0) else
    some x1
def F_X12_greater (N : Nat) (M : kMem) (x0 : Int32) (x1 : Int32) : Option (Int32) :=
    if x1 < x0 then (
      some x0) else
    some x1
def F_X12_stops (N : Nat) (M : kMem) (a0 : Nat) (x1 : Int32) (x2 : Int32) : Option (Int32 × kMem) :=
    kg (kt M a0 12) <|
    if (kI M a0 6) = 0 then (
      if x1 = 0 then (
        kg (kt M a0 12) <|
        if (kI M a0 6) = 0 then (
          some (0, M)) else
        some (1, M)) else
      kg (kt M a0 12) <| kl (ksI M a0 6 x2) fun M1 =>
      kg (kt M1 a0 12) <|
      if (kI M1 a0 6) = 0 then (
        some (0, M1)) else
      some (1, M1)) else
    kg (kt M a0 12) <|
    if (kI M a0 6) = 0 then (
      some (0, M)) else
    some (1, M)
def F_X12_copies_3 (N : Nat) : Nat → kMem → Nat → Int32 → Nat → Int32 → Int32 → Option (kMem)
  | 0, _, _, _, _, _, _ => none
  | n + 1, M, a0, x1, a2, x3, x4 =>
    if x4 < 293 then (
      kg (kin M a0 13 (x1 + x4)) <|
      kg (kin M a2 13 (x3 + x4)) <| kl (ksI M a2 (kx (x3 + x4)) (kI M a0 (kx (x1 + x4)))) fun M1 =>
      kl (x4 + 1) fun v2 =>
      F_X12_copies_3 N n M1 a0 x1 a2 x3 v2) else
    some M
def F_X12_copies (N : Nat) (M : kMem) (a0 : Nat) (x1 : Int32) (a2 : Nat) (x3 : Int32) : Option (kMem) :=
    F_X12_copies_3 N N M a0 x1 a2 x3 0
def F_X12_atBoard (N : Nat) (M : kMem) (x0 : Int32) (x1 : Int32) : Option (Int32) :=
    some ((14 + (15 * x0)) + x1)
def F_X12_atTrader (N : Nat) (M : kMem) (x0 : Int32) (x1 : Int32) : Option (Int32) :=
    some ((89 + (7 * x0)) + x1)
def F_X12_atSeat (N : Nat) (M : kMem) (x0 : Int32) (x1 : Int32) : Option (Int32) :=
    if x1 < 0 then (
      (F_X12_atBoard N M x0 ((3 + x1) + 6)).bind fun r2 =>
      some r2) else
    (F_X12_atBoard N M x0 ((3 + x1) + 5)).bind fun r1 =>
    some r1
def F_X12_ofBoard (N : Nat) (M : kMem) (a0 : Nat) (x1 : Int32) (x2 : Int32) : Option (Int32) :=
    kg (kt M a0 12) <|
    (F_X12_atBoard N M x1 x2).bind fun r1 =>
    kg (kin M (kR M a0 0) 13 r1) <|
    some (kI M (kR M a0 0) (kx r1))
def F_X12_has (N : Nat) (M : kMem) (a0 : Nat) (x1 : Int32) (x2 : Int32) : Option (Int32) :=
    kg (kt M a0 12) <|
    (F_X12_atTrader N M x1 x2).bind fun r1 =>
    kg (kin M (kR M a0 0) 13 r1) <|
    some (kI M (kR M a0 0) (kx r1))
def F_X12_onSeat (N : Nat) (M : kMem) (a0 : Nat) (x1 : Int32) (x2 : Int32) : Option (Int32) :=
    kg (kt M a0 12) <|
    (F_X12_atSeat N M x1 x2).bind fun r1 =>
    kg (kin M (kR M a0 0) 13 r1) <|
    some ((kI M (kR M a0 0) (kx r1)) - 1)
def F_X12_isSeated (N : Nat) (M : kMem) (a0 : Nat) (x1 : Int32) : Option (Int32) :=
    kg (kt M a0 12) <| (F_X12_has N M a0 x1 5).bind fun r1 =>
    if r1 = (-1) then (
      some 0) else
    some 1
def F_X12_builds (N : Nat) (M : kMem) (a0 : Nat) (x1 : Int32) (x2 : Int32) (x3 : Int32) : Option (kMem) :=
    kg (kt M a0 12) <|
    kg (kin M (kR M a0 0) 13 7) <|
    kl (kI M (kR M a0 0) (kx 7)) fun v1 =>
    kg (kt M a0 12) <|
    kg (kin M (kR M a0 0) 13 7) <|
    kg (kin M (kR M a0 0) 13 7) <| kl (ksI M (kR M a0 0) (kx 7) ((kI M (kR M a0 0) (kx 7)) + 1)) fun M2 =>
    kg (kt M2 a0 12) <|
    (F_X12_atBoard N M2 v1 0).bind fun r3 =>
    kg (kin M2 (kR M2 a0 0) 13 r3) <| kl (ksI M2 (kR M2 a0 0) (kx r3) x1) fun M4 =>
    kg (kt M4 a0 12) <|
    (F_X12_atBoard N M4 v1 1).bind fun r5 =>
    kg (kin M4 (kR M4 a0 0) 13 r5) <| kl (ksI M4 (kR M4 a0 0) (kx r5) x2) fun M6 =>
    kg (kt M6 a0 12) <|
    (F_X12_atBoard N M6 v1 2).bind fun r7 =>
    kg (kin M6 (kR M6 a0 0) 13 r7) <| kl (ksI M6 (kR M6 a0 0) (kx r7) x3) fun M8 =>
    some M8
def F_X12_appears (N : Nat) (M : kMem) (a0 : Nat) (x1 : Int32) (x2 : Int32) (x3 : Int32) (x4 : Int32) : Option (kMem) :=
    kg (kt M a0 12) <|
    kg (kin M (kR M a0 0) 13 8) <|
    kl (kI M (kR M a0 0) (kx 8)) fun v1 =>
    kg (kt M a0 12) <|
    kg (kin M (kR M a0 0) 13 8) <|
    kg (kin M (kR M a0 0) 13 8) <| kl (ksI M (kR M a0 0) (kx 8) ((kI M (kR M a0 0) (kx 8)) + 1)) fun M2 =>
    kg (kt M2 a0 12) <|
    (F_X12_atTrader N M2 v1 0).bind fun r3 =>
    kg (kin M2 (kR M2 a0 0) 13 r3) <| kl (ksI M2 (kR M2 a0 0) (kx r3) x1) fun M4 =>
    kg (kt M4 a0 12) <|
    (F_X12_atTrader N M4 v1 1).bind fun r5 =>
    kg (kin M4 (kR M4 a0 0) 13 r5) <| kl (ksI M4 (kR M4 a0 0) (kx r5) x2) fun M6 =>
    kg (kt M6 a0 12) <|
    (F_X12_atTrader N M6 v1 2).bind fun r7 =>
    kg (kin M6 (kR M6 a0 0) 13 r7) <| kl (ksI M6 (kR M6 a0 0) (kx r7) x3) fun M8 =>
    kg (kt M8 a0 12) <|
    (F_X12_atTrader N M8 v1 3).bind fun r9 =>
    kg (kin M8 (kR M8 a0 0) 13 r9) <| kl (ksI M8 (kR M8 a0 0) (kx r9) x4) fun M10 =>
    kg (kt M10 a0 12) <|
    (F_X12_atTrader N M10 v1 4).bind fun r11 =>
    kg (kin M10 (kR M10 a0 0) 13 r11) <| kl (ksI M10 (kR M10 a0 0) (kx r11) 1) fun M12 =>
    kg (kt M12 a0 12) <|
    (F_X12_atTrader N M12 v1 5).bind fun r13 =>
    kg (kin M12 (kR M12 a0 0) 13 r13) <| kl (ksI M12 (kR M12 a0 0) (kx r13) (-1)) fun M14 =>
    kg (kt M14 a0 12) <|
    (F_X12_atTrader N M14 v1 6).bind fun r15 =>
    kg (kin M14 (kR M14 a0 0) 13 r15) <| kl (ksI M14 (kR M14 a0 0) (kx r15) 0) fun M16 =>
    some M16
def F_X12_sits (N : Nat) (M : kMem) (a0 : Nat) (x1 : Int32) (x2 : Int32) (x3 : Int32) : Option (kMem) :=
    kg (kt M a0 12) <|
    (F_X12_atSeat N M x2 x3).bind fun r1 =>
    kg (kin M (kR M a0 0) 13 r1) <| kl (ksI M (kR M a0 0) (kx r1) (x1 + 1)) fun M2 =>
    kg (kt M2 a0 12) <|
    (F_X12_atTrader N M2 x1 5).bind fun r3 =>
    kg (kin M2 (kR M2 a0 0) 13 r3) <| kl (ksI M2 (kR M2 a0 0) (kx r3) x2) fun M4 =>
    kg (kt M4 a0 12) <|
    (F_X12_atTrader N M4 x1 6).bind fun r5 =>
    kg (kin M4 (kR M4 a0 0) 13 r5) <| kl (ksI M4 (kR M4 a0 0) (kx r5) x3) fun M6 =>
    some M6
def F_X12_rises (N : Nat) (M : kMem) (a0 : Nat) (x1 : Int32) : Option (kMem) :=
    kg (kt M a0 12) <| (F_X12_isSeated N M a0 x1).bind fun r1 =>
    if r1 = 0 then (
      some M) else
    kg (kt M a0 12) <|
    kg (kt M a0 12) <| (F_X12_has N M a0 x1 5).bind fun r2 =>
    kg (kt M a0 12) <| (F_X12_has N M a0 x1 6).bind fun r3 =>
    (F_X12_atSeat N M r2 r3).bind fun r4 =>
    kg (kin M (kR M a0 0) 13 r4) <| kl (ksI M (kR M a0 0) (kx r4) 0) fun M5 =>
    kg (kt M5 a0 12) <|
    (F_X12_atTrader N M5 x1 5).bind fun r6 =>
    kg (kin M5 (kR M5 a0 0) 13 r6) <| kl (ksI M5 (kR M5 a0 0) (kx r6) (-1)) fun M7 =>
    kg (kt M7 a0 12) <|
    (F_X12_atTrader N M7 x1 6).bind fun r8 =>
    kg (kin M7 (kR M7 a0 0) 13 r8) <| kl (ksI M7 (kR M7 a0 0) (kx r8) 0) fun M9 =>
    some M9
def F_X12_allCoins_9 (N : Nat) (M : kMem) : Nat → Nat → Int32 → Int32 → Option (Int32)
  | 0, _, _, _ => none
  | n + 1, a0, x1, x2 =>
    kg (kt M a0 12) <|
    kg (kin M (kR M a0 0) 13 8) <|
    if x2 < (kI M (kR M a0 0) (kx 8)) then (
      kg (kt M a0 12) <| (F_X12_has N M a0 x2 2).bind fun r2 =>
      kl (x1 + r2) fun v3 =>
      kl (x2 + 1) fun v4 =>
      F_X12_allCoins_9 N M n a0 v3 v4) else
    some x1
def F_X12_allCoins (N : Nat) (M : kMem) (a0 : Nat) : Option (Int32) :=
    kg (kt M a0 12) <|
    kg (kin M (kR M a0 0) 13 5) <|
    kl (kI M (kR M a0 0) (kx 5)) fun v1 =>
    F_X12_allCoins_9 N M N a0 v1 0
def F_X12_traderNamed_2 (N : Nat) (M : kMem) : Nat → Nat → Int32 → Int32 → Option (Int32)
  | 0, _, _, _ => none
  | n + 1, a0, x1, x2 =>
    kg (kt M a0 12) <|
    kg (kin M (kR M a0 0) 13 8) <|
    if x2 < (kI M (kR M a0 0) (kx 8)) then (
      kg (kt M a0 12) <| (F_X12_has N M a0 x2 0).bind fun r1 =>
      if r1 = x1 then (
        some x2) else
      kl (x2 + 1) fun v2 =>
      F_X12_traderNamed_2 N M n a0 x1 v2) else
    some (-1)
def F_X12_traderNamed (N : Nat) (M : kMem) (a0 : Nat) (x1 : Int32) : Option (Int32) :=
    F_X12_traderNamed_2 N M N a0 x1 0
def F_X12_isPosition (N : Nat) (M : kMem) (a0 : Nat) (x1 : Int32) (x2 : Int32) : Option (Int32) :=
    if x2 = 0 then (
      some 0) else
    kg (kt M a0 12) <| (F_X12_ofBoard N M a0 x1 0).bind fun r1 =>
    kg (kt M a0 12) <| (F_X12_ofBoard N M a0 x1 0).bind fun r2 =>
    (F_X12_in N M x2.toInt64 ((-r1).toInt64) r2.toInt64).bind fun r3 =>
    if r3 = 0 then (
      some 0) else
    some 1
def F_X12_torqueOf_10 (N : Nat) (M : kMem) : Nat → Nat → Int32 → Int32 → Int32 → Option (Int32)
  | 0, _, _, _, _ => none
  | n + 1, a0, x1, x2, x3 =>
    kg (kt M a0 12) <| (F_X12_ofBoard N M a0 x1 0).bind fun r3 =>
    if r3 < x3 then (
      some x2) else
    if x3 = 0 then (
      kl (x3 + 1) fun v4 =>
      F_X12_torqueOf_10 N M n a0 x1 x2 v4) else
    kg (kt M a0 12) <| (F_X12_onSeat N M a0 x1 x3).bind fun r5 =>
    if r5 = (-1) then (
      kl (x3 + 1) fun v6 =>
      F_X12_torqueOf_10 N M n a0 x1 x2 v6) else
    kg (kt M a0 12) <| (F_X12_onSeat N M a0 x1 x3).bind fun r7 =>
    kg (kt M a0 12) <| (F_X12_has N M a0 r7 1).bind fun r8 =>
    kl (x2 + (x3 * r8)) fun v9 =>
    kl (x3 + 1) fun v10 =>
    F_X12_torqueOf_10 N M n a0 x1 v9 v10
def F_X12_torqueOf (N : Nat) (M : kMem) (a0 : Nat) (x1 : Int32) : Option (Int32) :=
    kg (kt M a0 12) <| (F_X12_ofBoard N M a0 x1 0).bind fun r1 =>
    kl (-r1) fun v2 =>
    F_X12_torqueOf_10 N M N a0 x1 0 v2
def F_X12_tiltBy (N : Nat) (M : kMem) (a0 : Nat) (x1 : Int32) (x2 : Int32) : Option (Int32) :=
    kg (kt M a0 12) <| (F_X12_ofBoard N M a0 x1 1).bind fun r1 =>
    kg (!(r1 == 0)) <|
    (F_X12_lesser N M 9 (x2 / r1)).bind fun r2 =>
    (F_X12_greater N M (-9) r2).bind fun r3 =>
    some r3
def F_X12_height (N : Nat) (M : kMem) (a0 : Nat) (x1 : Int32) (x2 : Int32) : Option (Int32) :=
    kg (kt M a0 12) <| (F_X12_torqueOf N M a0 x1).bind fun r1 =>
    kg (kt M a0 12) <| (F_X12_tiltBy N M a0 x1 r1).bind fun r2 =>
    some ((-x2) * r2)
def F_X12_ownHeight (N : Nat) (M : kMem) (a0 : Nat) (x1 : Int32) : Option (Int32) :=
    kg (kt M a0 12) <| (F_X12_has N M a0 x1 5).bind fun r1 =>
    kg (kt M a0 12) <| (F_X12_has N M a0 x1 6).bind fun r2 =>
    kg (kt M a0 12) <| (F_X12_height N M a0 r1 r2).bind fun r3 =>
    some r3
def F_X12_price (N : Nat) (M : kMem) (a0 : Nat) (x1 : Int32) (x2 : Int32) : Option (Int32) :=
    kg (kt M a0 12) <|
    kg (kin M (kR M a0 0) 13 1) <|
    (F_X12_bare N M x2).bind fun r1 =>
    kg (kt M a0 12) <| (F_X12_height N M a0 x1 x2).bind fun r2 =>
    (F_X12_greater N M 0 r2).bind fun r3 =>
    some (((kI M (kR M a0 0) (kx 1)) + r1) + r3)
def F_X12_unitPrice (N : Nat) (M : kMem) (a0 : Nat) (x1 : Int32) (x2 : Int32) : Option (Int32) :=
    kg (kt M a0 12) <|
    kg (kin M (kR M a0 0) 13 2) <|
    kg (kt M a0 12) <| (F_X12_ownHeight N M a0 x2).bind fun r1 =>
    kg (kt M a0 12) <| (F_X12_ownHeight N M a0 x1).bind fun r2 =>
    (F_X12_greater N M 1 (((kI M (kR M a0 0) (kx 2)) + r1) - r2)).bind fun r3 =>
    some r3
def F_X12_isTooMuch (N : Nat) (M : kMem) (a0 : Nat) (x1 : Int32) (x2 : Int32) : Option (Int32) :=
    (F_X12_bare N M x2).bind fun r1 =>
    kg (kt M a0 12) <| (F_X12_ofBoard N M a0 x1 2).bind fun r2 =>
    if r2 < r1 then (
      some 1) else
    some 0
def F_X12_torqueWith (N : Nat) (M : kMem) (a0 : Nat) (x1 : Int32) (x2 : Int32) (x3 : Int32) : Option (Int32) :=
    kg (kt M a0 12) <| (F_X12_torqueOf N M a0 x2).bind fun r1 =>
    kg (kt M a0 12) <| (F_X12_has N M a0 x1 1).bind fun r2 =>
    kl (r1 + (x3 * r2)) fun v3 =>
    kg (kt M a0 12) <| (F_X12_has N M a0 x1 5).bind fun r4 =>
    if r4 = x2 then (
      kg (kt M a0 12) <| (F_X12_has N M a0 x1 6).bind fun r5 =>
      kg (kt M a0 12) <| (F_X12_has N M a0 x1 1).bind fun r6 =>
      some (v3 - (r5 * r6))) else
    some v3
def F_X12_moves (N : Nat) (M : kMem) (a0 : Nat) (x1 : Int32) (x2 : Int32) (x3 : Int32) : Option (kMem) :=
    kg (kt M a0 12) <|
    kg (kin M (kR M a0 0) 13 x1) <|
    (F_X12_lesser N M x3 (kI M (kR M a0 0) (kx x1))).bind fun r1 =>
    kg (kt M a0 12) <|
    kg (kin M (kR M a0 0) 13 x1) <|
    kg (kin M (kR M a0 0) 13 x1) <| kl (ksI M (kR M a0 0) (kx x1) ((kI M (kR M a0 0) (kx x1)) - r1)) fun M2 =>
    kg (kt M2 a0 12) <|
    kg (kin M2 (kR M2 a0 0) 13 x2) <|
    kg (kin M2 (kR M2 a0 0) 13 x2) <| kl (ksI M2 (kR M2 a0 0) (kx x2) ((kI M2 (kR M2 a0 0) (kx x2)) + r1)) fun M3 =>
    some M3
def F_X12_earns_2 (N : Nat) : Nat → kMem → Nat → Int32 → Option (kMem)
  | 0, _, _, _ => none
  | n + 1, M, a0, x1 =>
    kg (kt M a0 12) <|
    kg (kin M (kR M a0 0) 13 8) <|
    if x1 < (kI M (kR M a0 0) (kx 8)) then (
      kg (kt M a0 12) <| (F_X12_isSeated N M a0 x1).bind fun r1 =>
      if r1 = 0 then (
        kl (x1 + 1) fun v10 =>
        F_X12_earns_2 N n M a0 v10) else
      kg (kt M a0 12) <|
      kg (kin M (kR M a0 0) 13 0) <|
      kg (kt M a0 12) <| (F_X12_ownHeight N M a0 x1).bind fun r2 =>
      kl ((kI M (kR M a0 0) (kx 0)) + r2) fun v3 =>
      if (0 : Int32) < v3 then (
        (F_X12_atTrader N M x1 2).bind fun r7 =>
        kg (kt M a0 12) <| (F_X12_moves N M a0 5 r7 v3).bind fun M8 =>
        kl (x1 + 1) fun v9 =>
        F_X12_earns_2 N n M8 a0 v9) else
      (F_X12_atTrader N M x1 2).bind fun r4 =>
      kg (kt M a0 12) <| (F_X12_moves N M a0 r4 5 (-v3)).bind fun M5 =>
      kl (x1 + 1) fun v6 =>
      F_X12_earns_2 N n M5 a0 v6) else
    some M
def F_X12_earns (N : Nat) (M : kMem) (a0 : Nat) : Option (kMem) :=
    F_X12_earns_2 N N M a0 0
def F_X12_records_3 (N : Nat) : Nat → kMem → Nat → Int32 → Int32 → Int32 → Option (kMem)
  | 0, _, _, _, _, _ => none
  | n + 1, M, a0, x1, x2, x3 =>
    if x3 < 0 then (
      kg (kt M a0 12) <|
      kg (kin M (kR M a0 0) 13 257) <| kl (ksI M (kR M a0 0) (kx 257) x1) fun M1 =>
      kg (kt M1 a0 12) <|
      kg (kin M1 (kR M1 a0 0) 13 258) <| kl (ksI M1 (kR M1 a0 0) (kx 258) x2) fun M2 =>
      kg (kt M2 a0 12) <|
      kg (kt M2 a0 12) <|
      kg (kin M2 (kR M2 a0 0) 13 6) <|
      kg (kin M2 (kR M2 a0 0) 13 259) <| kl (ksI M2 (kR M2 a0 0) (kx 259) (kI M2 (kR M2 a0 0) (kx 6))) fun M3 =>
      kg (kt M3 a0 12) <|
      kg (kt M3 a0 12) <|
      kg (kin M3 (kR M3 a0 0) 13 13) <|
      (F_X12_lesser N M3 12 ((kI M3 (kR M3 a0 0) (kx 13)) + 1)).bind fun r4 =>
      kg (kin M3 (kR M3 a0 0) 13 13) <| kl (ksI M3 (kR M3 a0 0) (kx 13) r4) fun M5 =>
      some M5) else
    kg (kt M a0 12) <|
    kg (kt M a0 12) <|
    kg (kin M (kR M a0 0) 13 (257 + x3)) <|
    kg (kin M (kR M a0 0) 13 ((257 + x3) + 3)) <| kl (ksI M (kR M a0 0) (kx ((257 + x3) + 3)) (kI M (kR M a0 0) (kx (257 + x3)))) fun M6 =>
    kl (x3 + (-1)) fun v7 =>
    F_X12_records_3 N n M6 a0 x1 x2 v7
def F_X12_records (N : Nat) (M : kMem) (a0 : Nat) (x1 : Int32) (x2 : Int32) : Option (kMem) :=
    F_X12_records_3 N N M a0 x1 x2 32
def F_X12_ages_2 (N : Nat) : Nat → kMem → Nat → Int32 → Option (kMem)
  | 0, _, _, _ => none
  | n + 1, M, a0, x1 =>
    kg (kt M a0 12) <|
    kg (kin M (kR M a0 0) 13 8) <|
    if x1 < (kI M (kR M a0 0) (kx 8)) then (
      kg (kt M a0 12) <| (F_X12_has N M a0 x1 4).bind fun r1 =>
      if r1 = 0 then (
        kl (x1 + 1) fun v14 =>
        F_X12_ages_2 N n M a0 v14) else
      kg (kt M a0 12) <|
      (F_X12_atTrader N M x1 3).bind fun r2 =>
      kg (kin M (kR M a0 0) 13 r2) <|
      kg (kin M (kR M a0 0) 13 r2) <| kl (ksI M (kR M a0 0) (kx r2) ((kI M (kR M a0 0) (kx r2)) + 1)) fun M3 =>
      kg (kt M3 a0 12) <| (F_X12_has N M3 a0 x1 3).bind fun r4 =>
      kg (kt M3 a0 12) <|
      kg (kin M3 (kR M3 a0 0) 13 3) <|
      if (kI M3 (kR M3 a0 0) (kx 3)) < r4 then (
        kg (kt M3 a0 12) <| (F_X12_rises N M3 a0 x1).bind fun M6 =>
        (F_X12_atTrader N M6 x1 2).bind fun r7 =>
        kg (kt M6 a0 12) <| (F_X12_has N M6 a0 x1 2).bind fun r8 =>
        kg (kt M6 a0 12) <| (F_X12_moves N M6 a0 r7 5 r8).bind fun M9 =>
        kg (kt M9 a0 12) <|
        (F_X12_atTrader N M9 x1 4).bind fun r10 =>
        kg (kin M9 (kR M9 a0 0) 13 r10) <| kl (ksI M9 (kR M9 a0 0) (kx r10) 0) fun M11 =>
        kg (kt M11 a0 12) <| (F_X12_records N M11 a0 2 x1).bind fun M12 =>
        kl (x1 + 1) fun v13 =>
        F_X12_ages_2 N n M12 a0 v13) else
      kl (x1 + 1) fun v5 =>
      F_X12_ages_2 N n M3 a0 v5) else
    some M
def F_X12_ages (N : Nat) (M : kMem) (a0 : Nat) : Option (kMem) :=
    F_X12_ages_2 N N M a0 0
def F_X12_tips_36 (N : Nat) (k6 : kMem → Nat → Int32 → Int32 → Option (kMem)) : Nat → kMem → Nat → Int32 → Int32 → Int32 → Option (kMem)
  | 0, _, _, _, _, _ => none
  | n + 1, M, a0, x1, x2, x3 =>
    kg (kt M a0 12) <| (F_X12_onSeat N M a0 x1 x3).bind fun r5 =>
    if r5 = (-1) then (
      if (0 : Int32) < x2 then (
        kl (x3 - 1) fun v15 =>
        F_X12_tips_36 N k6 n M a0 x1 x2 v15) else
      kl (x3 - (-1)) fun v14 =>
      F_X12_tips_36 N k6 n M a0 x1 x2 v14) else
    kg (kt M a0 12) <| (F_X12_onSeat N M a0 x1 x3).bind fun r6 =>
    kg (kt M a0 12) <| (F_X12_rises N M a0 r6).bind fun M7 =>
    (F_X12_atTrader N M7 r6 2).bind fun r8 =>
    kg (kt M7 a0 12) <|
    kg (kin M7 (kR M7 a0 0) 13 4) <|
    kg (kt M7 a0 12) <| (F_X12_moves N M7 a0 r8 5 (kI M7 (kR M7 a0 0) (kx 4))).bind fun M9 =>
    kg (kt M9 a0 12) <| (F_X12_records N M9 a0 1 r6).bind fun M10 =>
    kg (kt M10 a0 12) <|
    kg (kin M10 (kR M10 a0 0) 13 12) <|
    kg (kin M10 (kR M10 a0 0) 13 12) <| kl (ksI M10 (kR M10 a0 0) (kx 12) ((kI M10 (kR M10 a0 0) (kx 12)) + 1)) fun M11 =>
    kg (kt M11 a0 12) <|
    kg (kin M11 (kR M11 a0 7) 14 r6 && ((1 : Int32) == 0 || (1 : Int32) == 1)) <| kl (ksI M11 (kR M11 a0 7) (kx r6) 1) fun M12 =>
    kg (kt M12 a0 12) <| (F_X12_torqueOf N M12 a0 x1).bind fun r13 =>
    k6 M12 a0 x1 r13
def F_X12_tips_6 (N : Nat) : Nat → kMem → Nat → Int32 → Int32 → Option (kMem)
  | 0, _, _, _, _ => none
  | n + 1, M, a0, x1, x2 =>
    kg (kt M a0 12) <| (F_X12_isTooMuch N M a0 x1 x2).bind fun r2 =>
    if r2 = 0 then (
      some M) else
    if (0 : Int32) < x2 then (
      kg (kt M a0 12) <| (F_X12_ofBoard N M a0 x1 0).bind fun r16 =>
      F_X12_tips_36 N (fun M a0 x1 x2 => F_X12_tips_6 N n M a0 x1 x2) N M a0 x1 x2 r16) else
    kg (kt M a0 12) <| (F_X12_ofBoard N M a0 x1 0).bind fun r3 =>
    kl (-r3) fun v4 =>
    F_X12_tips_36 N (fun M a0 x1 x2 => F_X12_tips_6 N n M a0 x1 x2) N M a0 x1 x2 v4
def F_X12_tips (N : Nat) (M : kMem) (a0 : Nat) (x1 : Int32) : Option (kMem) :=
    kg (kt M a0 12) <| (F_X12_torqueOf N M a0 x1).bind fun r1 =>
    F_X12_tips_6 N N M a0 x1 r1
def F_X12_day1_21 (N : Nat) : Nat → kMem → Nat → Int32 → Option (kMem)
  | 0, _, _, _ => none
  | n + 1, M, a0, x1 =>
    kg (kt M a0 12) <|
    kg (kin M (kR M a0 0) 13 7) <|
    if x1 < (kI M (kR M a0 0) (kx 7)) then (
      kg (kt M a0 12) <| (F_X12_tips N M a0 x1).bind fun M4 =>
      kl (x1 + 1) fun v5 =>
      F_X12_day1_21 N n M4 a0 v5) else
    some M
def F_X12_day1 (N : Nat) (M : kMem) (a0 : Nat) : Option (kMem) :=
    kg (kt M a0 12) <|
    kg (kin M (kR M a0 0) 13 6) <|
    kg (kin M (kR M a0 0) 13 6) <| kl (ksI M (kR M a0 0) (kx 6) ((kI M (kR M a0 0) (kx 6)) + 1)) fun M1 =>
    kg (kt M1 a0 12) <| (F_X12_earns N M1 a0).bind fun M2 =>
    kg (kt M2 a0 12) <| (F_X12_ages N M2 a0).bind fun M3 =>
    F_X12_day1_21 N N M3 a0 0
def F_X12_days1_10 (N : Nat) : Nat → kMem → Nat → Int32 → Int32 → Int32 → Option (Int32 × kMem)
  | 0, _, _, _, _, _ => none
  | n + 1, M, a0, x1, x2, x3 =>
    if x3 < x1 then (
      kg (kt M a0 12) <| (F_X12_day1 N M a0).bind fun M2 =>
      kl (x3 + 1) fun v3 =>
      F_X12_days1_10 N n M2 a0 x1 x2 v3) else
    kg (kt M a0 12) <|
    kg (kin M (kR M a0 0) 13 12) <|
    some ((kI M (kR M a0 0) (kx 12)) - x2, M)
def F_X12_days1 (N : Nat) (M : kMem) (a0 : Nat) (x1 : Int32) : Option (Int32 × kMem) :=
    kg (kt M a0 12) <|
    kg (kin M (kR M a0 0) 13 12) <|
    kl (kI M (kR M a0 0) (kx 12)) fun v1 =>
    F_X12_days1_10 N N M a0 x1 v1 0
def F_X12_againstSeat (N : Nat) (M : kMem) (a0 : Nat) (x1 : Int32) (x2 : Int32) (x3 : Int32) : Option (Int32) :=
    kg (kt M a0 12) <| (F_X12_has N M a0 x1 4).bind fun r1 =>
    if r1 = 0 then (
      some 1) else
    kg (kt M a0 12) <| (F_X12_onSeat N M a0 x2 x3).bind fun r2 =>
    if r2 = (-1) then (
      kg (kt M a0 12) <| (F_X12_has N M a0 x1 2).bind fun r3 =>
      kg (kt M a0 12) <| (F_X12_price N M a0 x2 x3).bind fun r4 =>
      if r3 < r4 then (
        some 3) else
      kg (kt M a0 12) <| (F_X12_torqueWith N M a0 x1 x2 x3).bind fun r5 =>
      kg (kt M a0 12) <| (F_X12_isTooMuch N M a0 x2 r5).bind fun r6 =>
      if r6 = 0 then (
        some 0) else
      some 4) else
    some 2
def F_X12_againstSale (N : Nat) (M : kMem) (a0 : Nat) (x1 : Int32) (x2 : Int32) (x3 : Int32) : Option (Int32) :=
    kg (kt M a0 12) <| (F_X12_isSeated N M a0 x1).bind fun r1 =>
    if r1 = 0 then (
      some 5) else
    kg (kt M a0 12) <| (F_X12_isSeated N M a0 x2).bind fun r2 =>
    if r2 = 0 then (
      some 5) else
    kg (kt M a0 12) <| (F_X12_has N M a0 x1 5).bind fun r3 =>
    kg (kt M a0 12) <| (F_X12_has N M a0 x2 5).bind fun r4 =>
    if r3 = r4 then (
      kg (kt M a0 12) <| (F_X12_has N M a0 x1 1).bind fun r5 =>
      if (r5 - x3) < 1 then (
        some 7) else
      kg (kt M a0 12) <| (F_X12_has N M a0 x2 1).bind fun r6 =>
      if (99 : Int32) < (r6 + x3) then (
        some 7) else
      kg (kt M a0 12) <| (F_X12_has N M a0 x2 2).bind fun r7 =>
      kg (kt M a0 12) <| (F_X12_unitPrice N M a0 x1 x2).bind fun r8 =>
      if r7 < (x3 * r8) then (
        some 3) else
      kg (kt M a0 12) <| (F_X12_has N M a0 x1 5).bind fun r9 =>
      kg (kt M a0 12) <| (F_X12_torqueOf N M a0 r9).bind fun r10 =>
      kg (kt M a0 12) <| (F_X12_has N M a0 x2 6).bind fun r11 =>
      kg (kt M a0 12) <| (F_X12_has N M a0 x1 6).bind fun r12 =>
      kg (kt M a0 12) <| (F_X12_isTooMuch N M a0 r9 (r10 + (x3 * (r11 - r12)))).bind fun r13 =>
      if r13 = 0 then (
        some 0) else
      some 4) else
    some 6
def F_X12_torqueSwapped (N : Nat) (M : kMem) (a0 : Nat) (x1 : Int32) (x2 : Int32) : Option (Int32) :=
    kg (kt M a0 12) <| (F_X12_has N M a0 x1 5).bind fun r1 =>
    kg (kt M a0 12) <| (F_X12_torqueOf N M a0 r1).bind fun r2 =>
    kg (kt M a0 12) <| (F_X12_has N M a0 x1 6).bind fun r3 =>
    kg (kt M a0 12) <| (F_X12_has N M a0 x2 1).bind fun r4 =>
    kg (kt M a0 12) <| (F_X12_has N M a0 x1 1).bind fun r5 =>
    kl (r2 + (r3 * (r4 - r5))) fun v6 =>
    kg (kt M a0 12) <| (F_X12_has N M a0 x1 5).bind fun r7 =>
    kg (kt M a0 12) <| (F_X12_has N M a0 x2 5).bind fun r8 =>
    if r7 = r8 then (
      kg (kt M a0 12) <| (F_X12_has N M a0 x2 6).bind fun r9 =>
      kg (kt M a0 12) <| (F_X12_has N M a0 x1 1).bind fun r10 =>
      kg (kt M a0 12) <| (F_X12_has N M a0 x2 1).bind fun r11 =>
      kl (v6 + (r9 * (r10 - r11))) fun v12 =>
      some v12) else
    some v6
def F_X12_againstSwap_40 (N : Nat) (M : kMem) (a0 : Nat) (x1 : Int32) (x2 : Int32) (x3 : Int32) (y0 : Nat) (y1 : Int32) : Option (Int32) :=
    kg (kt M y0 12) <| (F_X12_has N M y0 y1 2).bind fun r6 =>
    (F_X12_bare N M x3).bind fun r7 =>
    if r6 < r7 then (
      some 3) else
    kg (kt M a0 12) <| (F_X12_has N M a0 x1 5).bind fun r8 =>
    kg (kt M a0 12) <| (F_X12_torqueSwapped N M a0 x1 x2).bind fun r9 =>
    kg (kt M a0 12) <| (F_X12_isTooMuch N M a0 r8 r9).bind fun r10 =>
    if r10 = 0 then (
      kg (kt M a0 12) <| (F_X12_has N M a0 x2 5).bind fun r11 =>
      kg (kt M a0 12) <| (F_X12_torqueSwapped N M a0 x2 x1).bind fun r12 =>
      kg (kt M a0 12) <| (F_X12_isTooMuch N M a0 r11 r12).bind fun r13 =>
      if r13 = 0 then (
        if (0 : Int32) = 0 then (
          some 0) else
        some 4) else
      if (1 : Int32) = 0 then (
        some 0) else
      some 4) else
    if (1 : Int32) = 0 then (
      some 0) else
    some 4
def F_X12_againstSwap (N : Nat) (M : kMem) (a0 : Nat) (x1 : Int32) (x2 : Int32) : Option (Int32) :=
    kg (kt M a0 12) <| (F_X12_isSeated N M a0 x1).bind fun r1 =>
    if r1 = 0 then (
      some 5) else
    kg (kt M a0 12) <| (F_X12_isSeated N M a0 x2).bind fun r2 =>
    if r2 = 0 then (
      some 5) else
    kg (kt M a0 12) <| (F_X12_ownHeight N M a0 x2).bind fun r3 =>
    kg (kt M a0 12) <| (F_X12_ownHeight N M a0 x1).bind fun r4 =>
    kl (r3 - r4) fun v5 =>
    if (0 : Int32) < v5 then (
      F_X12_againstSwap_40 N M a0 x1 x2 v5 a0 x1) else
    F_X12_againstSwap_40 N M a0 x1 x2 v5 a0 x2
def F_X12_buys (N : Nat) (M : kMem) (a0 : Nat) (x1 : Int32) (x2 : Int32) (x3 : Int32) : Option (Int32 × kMem) :=
    kg (kt M a0 12) <| (F_X12_price N M a0 x2 x3).bind fun r1 =>
    (F_X12_atTrader N M x1 2).bind fun r2 =>
    kg (kt M a0 12) <| (F_X12_moves N M a0 r2 5 r1).bind fun M3 =>
    kg (kt M3 a0 12) <| (F_X12_rises N M3 a0 x1).bind fun M4 =>
    kg (kt M4 a0 12) <| (F_X12_sits N M4 a0 x1 x2 x3).bind fun M5 =>
    kg (kt M5 a0 12) <|
    kg (kin M5 (kR M5 a0 0) 13 10) <|
    kg (kin M5 (kR M5 a0 0) 13 10) <| kl (ksI M5 (kR M5 a0 0) (kx 10) ((kI M5 (kR M5 a0 0) (kx 10)) + 1)) fun M6 =>
    some (r1, M6)
def F_X12_sells (N : Nat) (M : kMem) (a0 : Nat) (x1 : Int32) (x2 : Int32) (x3 : Int32) : Option (Int32 × kMem) :=
    kg (kt M a0 12) <| (F_X12_unitPrice N M a0 x1 x2).bind fun r1 =>
    kl (x3 * r1) fun v2 =>
    (F_X12_atTrader N M x2 2).bind fun r3 =>
    (F_X12_atTrader N M x1 2).bind fun r4 =>
    kg (kt M a0 12) <| (F_X12_moves N M a0 r3 r4 v2).bind fun M5 =>
    kg (kt M5 a0 12) <|
    (F_X12_atTrader N M5 x1 1).bind fun r6 =>
    kg (kin M5 (kR M5 a0 0) 13 r6) <|
    kg (kin M5 (kR M5 a0 0) 13 r6) <| kl (ksI M5 (kR M5 a0 0) (kx r6) ((kI M5 (kR M5 a0 0) (kx r6)) - x3)) fun M7 =>
    kg (kt M7 a0 12) <|
    (F_X12_atTrader N M7 x2 1).bind fun r8 =>
    kg (kin M7 (kR M7 a0 0) 13 r8) <|
    kg (kin M7 (kR M7 a0 0) 13 r8) <| kl (ksI M7 (kR M7 a0 0) (kx r8) ((kI M7 (kR M7 a0 0) (kx r8)) + x3)) fun M9 =>
    kg (kt M9 a0 12) <|
    kg (kin M9 (kR M9 a0 0) 13 11) <|
    kg (kin M9 (kR M9 a0 0) 13 11) <| kl (ksI M9 (kR M9 a0 0) (kx 11) ((kI M9 (kR M9 a0 0) (kx 11)) + x3)) fun M10 =>
    some (v2, M10)
def F_X12_swaps_35 (N : Nat) (M : kMem) (a0 : Nat) (x1 : Int32) (x2 : Int32) (x3 : Int32) (y0 : Nat) (y1 : Int32) (y2 : Int32) : Option (Int32 × kMem) :=
    (F_X12_atTrader N M y2 2).bind fun r5 =>
    (F_X12_bare N M x3).bind fun r6 =>
    kg (kt M y0 12) <| (F_X12_moves N M y0 y1 r5 r6).bind fun M7 =>
    kg (kt M7 a0 12) <| (F_X12_has N M7 a0 x1 5).bind fun r8 =>
    kg (kt M7 a0 12) <| (F_X12_has N M7 a0 x1 6).bind fun r9 =>
    kg (kt M7 a0 12) <| (F_X12_has N M7 a0 x2 5).bind fun r10 =>
    kg (kt M7 a0 12) <| (F_X12_has N M7 a0 x2 6).bind fun r11 =>
    kg (kt M7 a0 12) <| (F_X12_sits N M7 a0 x1 r10 r11).bind fun M12 =>
    kg (kt M12 a0 12) <| (F_X12_sits N M12 a0 x2 r8 r9).bind fun M13 =>
    some (x3, M13)
def F_X12_swaps_22 (N : Nat) (M : kMem) (a0 : Nat) (x1 : Int32) (x2 : Int32) (x3 : Int32) (y0 : Nat) (y1 : Int32) : Option (Int32 × kMem) :=
    (F_X12_atTrader N M y1 2).bind fun r4 =>
    if (0 : Int32) < x3 then (
      F_X12_swaps_35 N M a0 x1 x2 x3 y0 r4 x2) else
    F_X12_swaps_35 N M a0 x1 x2 x3 y0 r4 x1
def F_X12_swaps (N : Nat) (M : kMem) (a0 : Nat) (x1 : Int32) (x2 : Int32) : Option (Int32 × kMem) :=
    kg (kt M a0 12) <| (F_X12_ownHeight N M a0 x2).bind fun r1 =>
    kg (kt M a0 12) <| (F_X12_ownHeight N M a0 x1).bind fun r2 =>
    kl (r1 - r2) fun v3 =>
    if (0 : Int32) < v3 then (
      F_X12_swaps_22 N M a0 x1 x2 v3 a0 x1) else
    F_X12_swaps_22 N M a0 x1 x2 v3 a0 x2
def F_X12_joins (N : Nat) (M : kMem) (a0 : Nat) (x1 : Int32) (x2 : Int32) (x3 : Int32) : Option (Int32 × kMem) :=
    kg (kt M a0 12) <| (F_X12_appears N M a0 x1 x2 x3 0).bind fun M1 =>
    kg (kt M1 a0 12) <|
    kg (kin M1 (kR M1 a0 0) 13 9) <|
    kg (kin M1 (kR M1 a0 0) 13 9) <| kl (ksI M1 (kR M1 a0 0) (kx 9) ((kI M1 (kR M1 a0 0) (kx 9)) + x3)) fun M2 =>
    kg (kt M2 a0 12) <|
    kg (kin M2 (kR M2 a0 0) 13 8) <|
    some ((kI M2 (kR M2 a0 0) (kx 8)) - 1, M2)
def F_X12_leaves (N : Nat) (M : kMem) (a0 : Nat) (x1 : Int32) : Option (Int32 × kMem) :=
    kg (kt M a0 12) <| (F_X12_has N M a0 x1 5).bind fun r1 =>
    kg (kt M a0 12) <| (F_X12_rises N M a0 x1).bind fun M2 =>
    some (r1, M2)
def F_X12_setsWage (N : Nat) (M : kMem) (a0 : Nat) (x1 : Int32) : Option (Int32 × kMem) :=
    kg (kt M a0 12) <|
    kg (kin M (kR M a0 0) 13 0) <|
    kl (kI M (kR M a0 0) (kx 0)) fun v1 =>
    kg (kt M a0 12) <|
    kg (kin M (kR M a0 0) 13 0) <| kl (ksI M (kR M a0 0) (kx 0) x1) fun M2 =>
    some (v1, M2)
def F_X12_bytesIn_5 (N : Nat) (M : kMem) : Nat → Int32 → Int32 → Int32 → Option (Int32)
  | 0, _, _, _ => none
  | n + 1, x1, x2, x3 =>
    if x3 < 0 then (
      some x2) else
    if ((x1 >>> (x3 &&& 31)) &&& 255) = 0 then (
      kl (x2 + 0) fun v1 =>
      kl (x3 + (-8)) fun v2 =>
      F_X12_bytesIn_5 N M n x1 v1 v2) else
    kl (x2 + 1) fun v3 =>
    kl (x3 + (-8)) fun v4 =>
    F_X12_bytesIn_5 N M n x1 v3 v4
def F_X12_bytesIn (N : Nat) (M : kMem) (a0 : Nat) (x1 : Int32) : Option (Int32) :=
    F_X12_bytesIn_5 N M N x1 0 24
def F_X12_four_3 (N : Nat) : Nat → kMem → Nat → Int32 → Int32 → Option (kMem)
  | 0, _, _, _, _ => none
  | n + 1, M, a0, x1, x2 =>
    if x2 < 0 then (
      some M) else
    if ((x1 >>> (x2 &&& 31)) &&& 255) = 0 then (
      kl (x2 + (-8)) fun v1 =>
      F_X12_four_3 N n M a0 x1 v1) else
    kg (kt M a0 12) <|
    kg (kt M a0 12) <|
    kg (kin M (kR M a0 8) 13 (kI M a0 10)) <| kl (ksI M (kR M a0 8) (kx (kI M a0 10)) ((x1 >>> (x2 &&& 31)) &&& 255)) fun M2 =>
    kg (kt M2 a0 12) <|
    kg (kt M2 a0 12) <| kl (ksI M2 a0 10 ((kI M2 a0 10) + 1)) fun M3 =>
    kl (x2 + (-8)) fun v4 =>
    F_X12_four_3 N n M3 a0 x1 v4
def F_X12_four (N : Nat) (M : kMem) (a0 : Nat) (x1 : Int32) : Option (kMem) :=
    F_X12_four_3 N N M a0 x1 24
def F_X12_append_53 (N : Nat) (M : kMem) (a0 : Nat) (x1 : Int32) (x2 : Int32) (x3 : Int32) (x4 : Int32) (x5 : Int32) (y0 : Nat) (y1 : Int32) : Option (Int32 × kMem) :=
    kg (kt M y0 12) <| (F_X12_stops N M y0 y1 1).bind fun r7 =>
    if r7.1 = 0 then (
      kg (kt r7.2 a0 12) <| (F_X12_four N r7.2 a0 x1).bind fun M8 =>
      kg (kt M8 a0 12) <| (F_X12_four N M8 a0 x2).bind fun M9 =>
      kg (kt M9 a0 12) <| (F_X12_four N M9 a0 x3).bind fun M10 =>
      kg (kt M10 a0 12) <| (F_X12_four N M10 a0 x4).bind fun M11 =>
      kg (kt M11 a0 12) <| (F_X12_four N M11 a0 x5).bind fun M12 =>
      kg (kt M12 a0 12) <|
      some (kI M12 a0 10, M12)) else
    some (0, r7.2)
def F_X12_append (N : Nat) (M : kMem) (a0 : Nat) (x1 : Int32) (x2 : Int32) (x3 : Int32) (x4 : Int32) (x5 : Int32) : Option (Int32 × kMem) :=
    kg (kt M a0 12) <| kl (ksI M a0 6 0) fun M1 =>
    kg (kt M1 a0 12) <|
    kg (kt M1 a0 12) <| (F_X12_bytesIn N M1 a0 x1).bind fun r2 =>
    kg (kt M1 a0 12) <| (F_X12_bytesIn N M1 a0 x2).bind fun r3 =>
    kg (kt M1 a0 12) <| (F_X12_bytesIn N M1 a0 x3).bind fun r4 =>
    kg (kt M1 a0 12) <| (F_X12_bytesIn N M1 a0 x4).bind fun r5 =>
    kg (kt M1 a0 12) <| (F_X12_bytesIn N M1 a0 x5).bind fun r6 =>
    if (800 : Int32) < ((((((kI M1 a0 10) + r2) + r3) + r4) + r5) + r6) then (
      F_X12_append_53 N M1 a0 x1 x2 x3 x4 x5 a0 1) else
    F_X12_append_53 N M1 a0 x1 x2 x3 x4 x5 a0 0
def F_X12_truncate_25 (N : Nat) (M : kMem) (a0 : Nat) (x1 : Int32) (y0 : Nat) (y1 : Int32) : Option (Int32 × kMem) :=
    kg (kt M y0 12) <| (F_X12_stops N M y0 y1 1).bind fun r3 =>
    if r3.1 = 0 then (
      kg (kt r3.2 a0 12) <| kl (ksI r3.2 a0 10 x1) fun M4 =>
      some (x1, M4)) else
    some (0, r3.2)
def F_X12_truncate (N : Nat) (M : kMem) (a0 : Nat) (x1 : Int32) : Option (Int32 × kMem) :=
    kg (kt M a0 12) <| kl (ksI M a0 6 0) fun M1 =>
    kg (kt M1 a0 12) <|
    (F_X12_in N M1 x1.toInt64 0 ((kI M1 a0 10).toInt64)).bind fun r2 =>
    if r2 = 0 then (
      F_X12_truncate_25 N M1 a0 x1 a0 1) else
    F_X12_truncate_25 N M1 a0 x1 a0 0
def F_X12_see (N : Nat) (M : kMem) (a0 : Nat) (x1 : Int32) : Option (Int32) :=
    kg (kt M a0 12) <|
    if x1 < (kI M a0 11) then (
      kg (kt M a0 12) <|
      kg (kin M (kR M a0 9) 13 x1) <|
      some (kI M (kR M a0 9) (kx x1))) else
    some (-1)
def F_X12_isSmall (N : Nat) (M : kMem) (x0 : Int32) : Option (Int32) :=
    (F_X12_in N M x0.toInt64 97 122).bind fun r1 =>
    kg (r1 == 0 || r1 == 1) <| some r1
def F_X12_isDigit (N : Nat) (M : kMem) (x0 : Int32) : Option (Int32) :=
    (F_X12_in N M x0.toInt64 48 57).bind fun r1 =>
    kg (r1 == 0 || r1 == 1) <| some r1
def F_X12_scan_268 (N : Nat) (M : kMem) (a0 : Nat) (y0 : Nat) : Option (kMem) :=
    kg (kt M y0 12) <| kl (ksI M y0 14 3) fun M8 =>
    kg (kt M8 a0 12) <|
    kg (kt M8 a0 12) <| kl (ksI M8 a0 12 ((kI M8 a0 12) + 1)) fun M9 =>
    some M9
def F_X12_scan_175 (N : Nat) : Nat → kMem → Nat → Option (kMem)
  | 0, _, _ => none
  | n + 1, M, a0 =>
    kg (kt M a0 12) <|
    kg (kt M a0 12) <| (F_X12_see N M a0 (kI M a0 12)).bind fun r13 =>
    (F_X12_isDigit N M r13).bind fun r14 =>
    if r14 = 0 then (
      kg (kt M a0 12) <| kl (ksI M a0 14 2) fun M15 =>
      some M15) else
    kg (kt M a0 12) <|
    if (999999 : Int32) < (kI M a0 15) then (
      kg (kt M a0 12) <|
      kg (kt M a0 12) <| kl (ksI M a0 15 (kI M a0 15)) fun M19 =>
      kg (kt M19 a0 12) <|
      kg (kt M19 a0 12) <| kl (ksI M19 a0 12 ((kI M19 a0 12) + 1)) fun M20 =>
      F_X12_scan_175 N n M20 a0) else
    kg (kt M a0 12) <|
    kg (kt M a0 12) <|
    kg (kt M a0 12) <| (F_X12_see N M a0 (kI M a0 12)).bind fun r16 =>
    kg (kt M a0 12) <| kl (ksI M a0 15 (((10 * (kI M a0 15)) + r16) - 48)) fun M17 =>
    kg (kt M17 a0 12) <|
    kg (kt M17 a0 12) <| kl (ksI M17 a0 12 ((kI M17 a0 12) + 1)) fun M18 =>
    F_X12_scan_175 N n M18 a0
def F_X12_scan_81 (N : Nat) : Nat → kMem → Nat → Option (kMem)
  | 0, _, _ => none
  | n + 1, M, a0 =>
    kg (kt M a0 12) <|
    kg (kt M a0 12) <| (F_X12_see N M a0 (kI M a0 12)).bind fun r22 =>
    (F_X12_isSmall N M r22).bind fun r23 =>
    if r23 = 0 then (
      kg (kt M a0 12) <| kl (ksI M a0 14 1) fun M24 =>
      some M24) else
    kg (kt M a0 12) <|
    kg (kt M a0 12) <|
    if ((kI M a0 12) - (kI M a0 13)) < 12 then (
      kg (kt M a0 12) <|
      kg (kt M a0 12) <|
      kg (kt M a0 12) <| (F_X12_see N M a0 (kI M a0 12)).bind fun r27 =>
      kg (kt M a0 12) <| kl (ksL M a0 20 (((32 * (kL M a0 20)) + r27.toInt64) - 96)) fun M28 =>
      kg (kt M28 a0 12) <|
      kg (kt M28 a0 12) <| kl (ksI M28 a0 12 ((kI M28 a0 12) + 1)) fun M29 =>
      F_X12_scan_81 N n M29 a0) else
    kg (kt M a0 12) <|
    kg (kt M a0 12) <| kl (ksL M a0 20 (kL M a0 20)) fun M25 =>
    kg (kt M25 a0 12) <|
    kg (kt M25 a0 12) <| kl (ksI M25 a0 12 ((kI M25 a0 12) + 1)) fun M26 =>
    F_X12_scan_81 N n M26 a0
def F_X12_scan_0 (N : Nat) : Nat → kMem → Nat → Option (kMem)
  | 0, _, _ => none
  | n + 1, M, a0 =>
    kg (kt M a0 12) <|
    kg (kt M a0 12) <| (F_X12_see N M a0 (kI M a0 12)).bind fun r1 =>
    if r1 = 32 then (
      kg (kt M a0 12) <|
      kg (kt M a0 12) <| kl (ksI M a0 12 ((kI M a0 12) + 1)) fun M2 =>
      F_X12_scan_0 N n M2 a0) else
    kg (kt M a0 12) <|
    kg (kt M a0 12) <| (F_X12_see N M a0 (kI M a0 12)).bind fun r3 =>
    if r3 = 10 then (
      kg (kt M a0 12) <|
      kg (kt M a0 12) <| kl (ksI M a0 12 ((kI M a0 12) + 1)) fun M31 =>
      F_X12_scan_0 N n M31 a0) else
    kg (kt M a0 12) <|
    kg (kt M a0 12) <| kl (ksI M a0 13 (kI M a0 12)) fun M4 =>
    kg (kt M4 a0 12) <|
    kg (kt M4 a0 12) <| (F_X12_see N M4 a0 (kI M4 a0 12)).bind fun r5 =>
    if r5 = (-1) then (
      kg (kt M4 a0 12) <| kl (ksI M4 a0 14 0) fun M30 =>
      some M30) else
    (F_X12_isSmall N M4 r5).bind fun r6 =>
    if r6 = 0 then (
      (F_X12_isDigit N M4 r5).bind fun r7 =>
      if r7 = 0 then (
        if r5 = 59 then (
          F_X12_scan_268 N M4 a0 a0) else
        if r5 = 40 then (
          F_X12_scan_268 N M4 a0 a0) else
        if r5 = 41 then (
          F_X12_scan_268 N M4 a0 a0) else
        kg (kt M4 a0 12) <| kl (ksI M4 a0 14 4) fun M10 =>
        kg (kt M10 a0 12) <|
        kg (kt M10 a0 12) <| kl (ksI M10 a0 12 ((kI M10 a0 12) + 1)) fun M11 =>
        some M11) else
      kg (kt M4 a0 12) <| kl (ksI M4 a0 15 0) fun M12 =>
      F_X12_scan_175 N N M12 a0) else
    kg (kt M4 a0 12) <| kl (ksL M4 a0 20 0) fun M21 =>
    F_X12_scan_81 N N M21 a0
def F_X12_scan (N : Nat) (M : kMem) (a0 : Nat) : Option (kMem) :=
    F_X12_scan_0 N N M a0
def F_X12_isGood (N : Nat) (M : kMem) (a0 : Nat) : Option (Int32) :=
    kg (kt M a0 12) <|
    if (kI M a0 16) = 0 then (
      some 1) else
    some 0
def F_X12_must (N : Nat) (M : kMem) (a0 : Nat) (x1 : Int32) (x2 : Int32) : Option (kMem) :=
    kg (kt M a0 12) <|
    if (kI M a0 16) = 0 then (
      if x1 = 0 then (
        kg (kt M a0 12) <| kl (ksI M a0 16 x2) fun M1 =>
        kg (kt M1 a0 12) <|
        kg (kt M1 a0 12) <| kl (ksI M1 a0 17 (kI M1 a0 13)) fun M2 =>
        some M2) else
      some M) else
    some M
def F_X12_goesOn (N : Nat) (M : kMem) (a0 : Nat) : Option (kMem) :=
    kg (kt M a0 12) <|
    if (kI M a0 16) = 0 then (
      kg (kt M a0 12) <| (F_X12_scan N M a0).bind fun M1 =>
      some M1) else
    some M
def F_X12_starts (N : Nat) (M : kMem) (a0 : Nat) : Option (kMem) :=
    kg (kt M a0 12) <| kl (ksI M a0 12 0) fun M1 =>
    kg (kt M1 a0 12) <| kl (ksI M1 a0 16 0) fun M2 =>
    kg (kt M2 a0 12) <| (F_X12_scan N M2 a0).bind fun M3 =>
    some M3
def F_X12_isWord (N : Nat) (M : kMem) (a0 : Nat) (x1 : Int64) : Option (Int32) :=
    kg (kt M a0 12) <|
    if (kI M a0 16) = 0 then (
      kg (kt M a0 12) <|
      if (kI M a0 14) = 1 then (
        kg (kt M a0 12) <|
        kg (kt M a0 12) <|
        if ((kI M a0 12) - (kI M a0 13)) < 12 then (
          kg (kt M a0 12) <|
          if (lg_cmp (kL M a0 20) x1) = 0 then (
            some 1) else
          some 0) else
        some 0) else
      some 0) else
    some 0
def F_X12_isSign (N : Nat) (M : kMem) (a0 : Nat) (x1 : Int32) : Option (Int32) :=
    kg (kt M a0 12) <|
    if (kI M a0 16) = 0 then (
      kg (kt M a0 12) <|
      if (kI M a0 14) = 3 then (
        kg (kt M a0 12) <|
        kg (kt M a0 12) <|
        kg (kin M (kR M a0 9) 13 (kI M a0 13)) <|
        if (kI M (kR M a0 9) (kx (kI M a0 13))) = x1 then (
          some 1) else
        some 0) else
      some 0) else
    some 0
def F_X12_sign (N : Nat) (M : kMem) (a0 : Nat) (x1 : Int32) : Option (kMem) :=
    kg (kt M a0 12) <| (F_X12_isSign N M a0 x1).bind fun r1 =>
    kg (kt M a0 12) <| (F_X12_must N M a0 r1 1).bind fun M2 =>
    kg (kt M2 a0 12) <| (F_X12_goesOn N M2 a0).bind fun M3 =>
    some M3
def F_X12_reads_14 (N : Nat) (M : kMem) (a0 : Nat) (x1 : Int32) (x2 : Int32) (y0 : Nat) (y1 : Int32) : Option (Int32 × kMem) :=
    kg (kt M y0 12) <| (F_X12_must N M y0 y1 1).bind fun M1 =>
    kg (kt M1 a0 12) <|
    (F_X12_in N M1 ((kI M1 a0 15).toInt64) x1.toInt64 x2.toInt64).bind fun r2 =>
    kg (kt M1 a0 12) <| (F_X12_must N M1 a0 r2 2).bind fun M3 =>
    kg (kt M3 a0 12) <|
    kl (kI M3 a0 15) fun v4 =>
    kg (kt M3 a0 12) <| (F_X12_goesOn N M3 a0).bind fun M5 =>
    kg (kt M5 a0 12) <|
    if (kI M5 a0 16) = 0 then (
      some (v4, M5)) else
    some (x1, M5)
def F_X12_reads (N : Nat) (M : kMem) (a0 : Nat) (x1 : Int32) (x2 : Int32) : Option (Int32 × kMem) :=
    kg (kt M a0 12) <|
    if (kI M a0 14) = 2 then (
      F_X12_reads_14 N M a0 x1 x2 a0 1) else
    F_X12_reads_14 N M a0 x1 x2 a0 0
def F_X12_isNameHere (N : Nat) (M : kMem) (a0 : Nat) : Option (Int32) :=
    kg (kt M a0 12) <|
    if (kI M a0 14) = 1 then (
      kg (kt M a0 12) <|
      kg (kt M a0 12) <|
      if (6 : Int32) < ((kI M a0 12) - (kI M a0 13)) then (
        some 0) else
      some 1) else
    some 0
def F_X12_named (N : Nat) (M : kMem) (a0 : Nat) : Option (Int32) :=
    kg (kt M a0 12) <| (F_X12_isGood N M a0).bind fun r1 =>
    if r1 = 0 then (
      some (-1)) else
    kg (kt M a0 12) <|
    kg (kt M a0 12) <| (F_X12_traderNamed N M a0 ((kL M a0 20).toInt32)).bind fun r2 =>
    some r2
def F_X12_boardText (N : Nat) (M : kMem) (a0 : Nat) : Option (kMem) :=
    kg (kt M a0 12) <| (F_X12_reads N M a0 1 6).bind fun r1 =>
    kl r1.1 fun v2 =>
    kg (kt r1.2 a0 12) <| (F_X12_reads N r1.2 a0 1 99).bind fun r3 =>
    kl r3.1 fun v4 =>
    kg (kt r3.2 a0 12) <| (F_X12_reads N r3.2 a0 0 999).bind fun r5 =>
    kl r5.1 fun v6 =>
    kg (kt r5.2 a0 12) <| (F_X12_isGood N r5.2 a0).bind fun r7 =>
    if r7 = 0 then (
      some r5.2) else
    kg (kt r5.2 a0 12) <| (F_X12_builds N r5.2 a0 v2 v4 v6).bind fun M8 =>
    some M8
def F_X12_traderText_23 (N : Nat) (M : kMem) (a0 : Nat) (y0 : Nat) (y1 : Int32) : Option (kMem) :=
    kg (kt M y0 12) <| (F_X12_must N M y0 y1 3).bind fun M4 =>
    kg (kt M4 a0 12) <|
    kl ((kL M4 a0 20).toInt32) fun v5 =>
    kg (kt M4 a0 12) <| (F_X12_goesOn N M4 a0).bind fun M6 =>
    kg (kt M6 a0 12) <| (F_X12_reads N M6 a0 1 99).bind fun r7 =>
    kl r7.1 fun v8 =>
    kg (kt r7.2 a0 12) <| (F_X12_reads N r7.2 a0 0 9999).bind fun r9 =>
    kl r9.1 fun v10 =>
    kg (kt r9.2 a0 12) <|
    kg (kin r9.2 (kR r9.2 a0 0) 13 3) <|
    (F_X12_lesser N r9.2 999 (kI r9.2 (kR r9.2 a0 0) (kx 3))).bind fun r11 =>
    kg (kt r9.2 a0 12) <| (F_X12_reads N r9.2 a0 0 r11).bind fun r12 =>
    kl r12.1 fun v13 =>
    kg (kt r12.2 a0 12) <| (F_X12_isGood N r12.2 a0).bind fun r14 =>
    if r14 = 0 then (
      some r12.2) else
    kg (kt r12.2 a0 12) <| (F_X12_appears N r12.2 a0 v5 v8 v10 v13).bind fun M15 =>
    some M15
def F_X12_traderText (N : Nat) (M : kMem) (a0 : Nat) : Option (kMem) :=
    kg (kt M a0 12) <| (F_X12_isNameHere N M a0).bind fun r1 =>
    kg (kt M a0 12) <| (F_X12_must N M a0 r1 1).bind fun M2 =>
    kg (kt M2 a0 12) <| (F_X12_named N M2 a0).bind fun r3 =>
    if r3 = (-1) then (
      F_X12_traderText_23 N M2 a0 a0 1) else
    F_X12_traderText_23 N M2 a0 a0 0
def F_X12_sideText_29 (N : Nat) (M : kMem) (a0 : Nat) (y0 : Int32) : Option (Int32 × kMem) :=
    if y0 = 0 then (
      kg (kt M a0 12) <| (F_X12_must N M a0 0 1).bind fun M3 =>
      kg (kt M3 a0 12) <| (F_X12_goesOn N M3 a0).bind fun M4 =>
      some (y0, M4)) else
    kg (kt M a0 12) <| (F_X12_must N M a0 1 1).bind fun M5 =>
    kg (kt M5 a0 12) <| (F_X12_goesOn N M5 a0).bind fun M6 =>
    some (y0, M6)
def F_X12_sideText (N : Nat) (M : kMem) (a0 : Nat) : Option (Int32 × kMem) :=
    kg (kt M a0 12) <| (F_X12_isWord N M a0 398548).bind fun r1 =>
    if r1 = 0 then (
      kg (kt M a0 12) <| (F_X12_isWord N M a0 19176724).bind fun r2 =>
      if r2 = 0 then (
        F_X12_sideText_29 N M a0 0) else
      F_X12_sideText_29 N M a0 1) else
    F_X12_sideText_29 N M a0 (-1)
def F_X12_seatText_187 (N : Nat) (M : kMem) (a0 : Nat) (x1 : Int32) (x2 : Int32) (x4 : Int32) (y0 : Nat) (y1 : Int32) : Option (kMem) :=
    kg (kt M y0 12) <| (F_X12_must N M y0 y1 3).bind fun M18 =>
    kg (kt M18 a0 12) <| (F_X12_goesOn N M18 a0).bind fun M19 =>
    kg (kt M19 a0 12) <| (F_X12_isGood N M19 a0).bind fun r20 =>
    if r20 = 0 then (
      some M19) else
    kg (kt M19 a0 12) <| (F_X12_sits N M19 a0 x1 x2 x4).bind fun M21 =>
    some M21
def F_X12_seatText_182 (N : Nat) (M : kMem) (a0 : Nat) (x1 : Int32) (x2 : Int32) (x4 : Int32) (y0 : Nat) : Option (kMem) :=
    F_X12_seatText_187 N M a0 x1 x2 x4 y0 1
def F_X12_seatText_161 (N : Nat) (M : kMem) (a0 : Nat) (x1 : Int32) (x2 : Int32) (y0 : Int32) : Option (kMem) :=
    kg (kt M a0 12) <| (F_X12_isGood N M a0).bind fun r17 =>
    if r17 = 0 then (
      F_X12_seatText_182 N M a0 x1 x2 y0 a0) else
    kg (kt M a0 12) <| (F_X12_onSeat N M a0 x2 y0).bind fun r22 =>
    if r22 = (-1) then (
      F_X12_seatText_182 N M a0 x1 x2 y0 a0) else
    F_X12_seatText_187 N M a0 x1 x2 y0 a0 0
def F_X12_seatText_140 (N : Nat) (M : kMem) (a0 : Nat) (x1 : Int32) (x2 : Int32) (x3 : Int32) (y0 : Nat) (y1 : Int32) : Option (kMem) :=
    kg (kt M y0 12) <| (F_X12_must N M y0 y1 2).bind fun M15 =>
    kg (kt M15 a0 12) <| (F_X12_isGood N M15 a0).bind fun r16 =>
    if r16 = 0 then (
      F_X12_seatText_161 N M15 a0 x1 x2 1) else
    kg (kt M15 a0 12) <|
    F_X12_seatText_161 N M15 a0 x1 x2 (x3 * (kI M15 a0 15))
def F_X12_seatText_135 (N : Nat) (M : kMem) (a0 : Nat) (x1 : Int32) (x2 : Int32) (x3 : Int32) (y0 : Nat) : Option (kMem) :=
    F_X12_seatText_140 N M a0 x1 x2 x3 y0 1
def F_X12_seatText_104 (N : Nat) (M : kMem) (a0 : Nat) (x1 : Int32) (x2 : Int32) (x3 : Int32) (y0 : Nat) (y1 : Int32) : Option (kMem) :=
    kg (kt M y0 12) <| (F_X12_must N M y0 y1 1).bind fun M13 =>
    kg (kt M13 a0 12) <| (F_X12_isGood N M13 a0).bind fun r14 =>
    if r14 = 0 then (
      F_X12_seatText_135 N M13 a0 x1 x2 x3 a0) else
    kg (kt M13 a0 12) <|
    kg (kt M13 a0 12) <| (F_X12_ofBoard N M13 a0 x2 0).bind fun r23 =>
    (F_X12_in N M13 ((kI M13 a0 15).toInt64) 1 r23.toInt64).bind fun r24 =>
    if r24 = 0 then (
      F_X12_seatText_140 N M13 a0 x1 x2 x3 a0 0) else
    F_X12_seatText_135 N M13 a0 x1 x2 x3 a0
def F_X12_seatText_62 (N : Nat) (M : kMem) (a0 : Nat) (x1 : Int32) (y0 : Nat) (y1 : Int32) : Option (kMem) :=
    kg (kt M y0 12) <| (F_X12_must N M y0 y1 4).bind fun M7 =>
    kg (kt M7 a0 12) <| (F_X12_goesOn N M7 a0).bind fun M8 =>
    kg (kt M8 a0 12) <|
    kg (kin M8 (kR M8 a0 0) 13 7) <|
    kg (kt M8 a0 12) <| (F_X12_reads N M8 a0 0 ((kI M8 (kR M8 a0 0) (kx 7)) - 1)).bind fun r9 =>
    kl r9.1 fun v10 =>
    kg (kt r9.2 a0 12) <| (F_X12_sideText N r9.2 a0).bind fun r11 =>
    kl r11.1 fun v12 =>
    kg (kt r11.2 a0 12) <|
    if (kI r11.2 a0 14) = 2 then (
      F_X12_seatText_104 N r11.2 a0 x1 v10 v12 a0 1) else
    F_X12_seatText_104 N r11.2 a0 x1 v10 v12 a0 0
def F_X12_seatText_57 (N : Nat) (M : kMem) (a0 : Nat) (x1 : Int32) (y0 : Nat) : Option (kMem) :=
    F_X12_seatText_62 N M a0 x1 y0 1
def F_X12_seatText_40 (N : Nat) (M : kMem) (a0 : Nat) (x1 : Int32) (y0 : Nat) (y1 : Int32) : Option (kMem) :=
    kg (kt M y0 12) <| (F_X12_must N M y0 y1 3).bind fun M5 =>
    kg (kt M5 a0 12) <| (F_X12_isGood N M5 a0).bind fun r6 =>
    if r6 = 0 then (
      F_X12_seatText_57 N M5 a0 x1 a0) else
    if x1 = (-1) then (
      F_X12_seatText_62 N M5 a0 x1 a0 0) else
    F_X12_seatText_57 N M5 a0 x1 a0
def F_X12_seatText_35 (N : Nat) (M : kMem) (a0 : Nat) (x1 : Int32) (y0 : Nat) : Option (kMem) :=
    F_X12_seatText_40 N M a0 x1 y0 1
def F_X12_seatText (N : Nat) (M : kMem) (a0 : Nat) : Option (kMem) :=
    kg (kt M a0 12) <| (F_X12_isNameHere N M a0).bind fun r1 =>
    kg (kt M a0 12) <| (F_X12_must N M a0 r1 1).bind fun M2 =>
    kg (kt M2 a0 12) <| (F_X12_named N M2 a0).bind fun r3 =>
    kg (kt M2 a0 12) <| (F_X12_isGood N M2 a0).bind fun r4 =>
    if r4 = 0 then (
      F_X12_seatText_35 N M2 a0 r3 a0) else
    if r3 = (-1) then (
      F_X12_seatText_35 N M2 a0 r3 a0) else
    kg (kt M2 a0 12) <| (F_X12_isSeated N M2 a0 r3).bind fun r25 =>
    if r25 = 0 then (
      F_X12_seatText_35 N M2 a0 r3 a0) else
    F_X12_seatText_40 N M2 a0 r3 a0 0
def F_X12_setup_200 (N : Nat) : Nat → kMem → Nat → Option (kMem)
  | 0, _, _ => none
  | n + 1, M, a0 =>
    kg (kt M a0 12) <| (F_X12_isWord N M a0 627764).bind fun r19 =>
    if r19 = 0 then (
      kg (kt M a0 12) <|
      if (kI M a0 14) = 0 then (
        kg (kt M a0 12) <| (F_X12_must N M a0 1 1).bind fun M21 =>
        some M21) else
      kg (kt M a0 12) <| (F_X12_must N M a0 0 1).bind fun M20 =>
      some M20) else
    kg (kt M a0 12) <| (F_X12_goesOn N M a0).bind fun M22 =>
    kg (kt M22 a0 12) <| (F_X12_seatText N M22 a0).bind fun M23 =>
    kg (kt M23 a0 12) <| (F_X12_sign N M23 a0 59).bind fun M24 =>
    F_X12_setup_200 N n M24 a0
def F_X12_setup_179 (N : Nat) (k151 : kMem → Nat → Option (kMem)) (M : kMem) (a0 : Nat) (y0 : Nat) (y1 : Int32) : Option (kMem) :=
    kg (kt M y0 12) <| (F_X12_must N M y0 y1 5).bind fun M25 =>
    kg (kt M25 a0 12) <| (F_X12_goesOn N M25 a0).bind fun M26 =>
    kg (kt M26 a0 12) <| (F_X12_traderText N M26 a0).bind fun M27 =>
    kg (kt M27 a0 12) <| (F_X12_sign N M27 a0 59).bind fun M28 =>
    k151 M28 a0
def F_X12_setup_151 (N : Nat) : Nat → kMem → Nat → Option (kMem)
  | 0, _, _ => none
  | n + 1, M, a0 =>
    kg (kt M a0 12) <| (F_X12_isWord N M a0 690000050).bind fun r18 =>
    if r18 = 0 then (
      F_X12_setup_200 N N M a0) else
    kg (kt M a0 12) <|
    kg (kin M (kR M a0 0) 13 8) <|
    if (kI M (kR M a0 0) (kx 8)) < 24 then (
      F_X12_setup_179 N (fun M a0 => F_X12_setup_151 N n M a0) M a0 a0 1) else
    F_X12_setup_179 N (fun M a0 => F_X12_setup_151 N n M a0) M a0 a0 0
def F_X12_setup_130 (N : Nat) (k103 : kMem → Nat → Option (kMem)) (M : kMem) (a0 : Nat) (y0 : Nat) (y1 : Int32) : Option (kMem) :=
    kg (kt M y0 12) <| (F_X12_must N M y0 y1 5).bind fun M29 =>
    kg (kt M29 a0 12) <| (F_X12_goesOn N M29 a0).bind fun M30 =>
    kg (kt M30 a0 12) <| (F_X12_boardText N M30 a0).bind fun M31 =>
    kg (kt M31 a0 12) <| (F_X12_sign N M31 a0 59).bind fun M32 =>
    k103 M32 a0
def F_X12_setup_103 (N : Nat) : Nat → kMem → Nat → Option (kMem)
  | 0, _, _ => none
  | n + 1, M, a0 =>
    kg (kt M a0 12) <| (F_X12_isWord N M a0 2590276).bind fun r17 =>
    if r17 = 0 then (
      F_X12_setup_151 N N M a0) else
    kg (kt M a0 12) <|
    kg (kin M (kR M a0 0) 13 7) <|
    if (kI M (kR M a0 0) (kx 7)) < 5 then (
      F_X12_setup_130 N (fun M a0 => F_X12_setup_103 N n M a0) M a0 a0 1) else
    F_X12_setup_130 N (fun M a0 => F_X12_setup_103 N n M a0) M a0 a0 0
def F_X12_setup (N : Nat) (M : kMem) (a0 : Nat) : Option (kMem) :=
    kg (kt M a0 12) <| (F_X12_isWord N M a0 437857460).bind fun r1 =>
    kg (kt M a0 12) <| (F_X12_must N M a0 r1 1).bind fun M2 =>
    kg (kt M2 a0 12) <| (F_X12_goesOn N M2 a0).bind fun M3 =>
    kg (kt M3 a0 12) <|
    kg (kt M3 a0 12) <| (F_X12_reads N M3 a0 0 20).bind fun r4 =>
    kg (kin r4.2 (kR M3 a0 0) 13 0) <| kl (ksI r4.2 (kR M3 a0 0) (kx 0) r4.1) fun M5 =>
    kg (kt M5 a0 12) <|
    kg (kt M5 a0 12) <| (F_X12_reads N M5 a0 0 99).bind fun r6 =>
    kg (kin r6.2 (kR M5 a0 0) 13 1) <| kl (ksI r6.2 (kR M5 a0 0) (kx 1) r6.1) fun M7 =>
    kg (kt M7 a0 12) <|
    kg (kt M7 a0 12) <| (F_X12_reads N M7 a0 0 99).bind fun r8 =>
    kg (kin r8.2 (kR M7 a0 0) 13 2) <| kl (ksI r8.2 (kR M7 a0 0) (kx 2) r8.1) fun M9 =>
    kg (kt M9 a0 12) <|
    kg (kt M9 a0 12) <| (F_X12_reads N M9 a0 1 999).bind fun r10 =>
    kg (kin r10.2 (kR M9 a0 0) 13 3) <| kl (ksI r10.2 (kR M9 a0 0) (kx 3) r10.1) fun M11 =>
    kg (kt M11 a0 12) <|
    kg (kt M11 a0 12) <| (F_X12_reads N M11 a0 0 999).bind fun r12 =>
    kg (kin r12.2 (kR M11 a0 0) 13 4) <| kl (ksI r12.2 (kR M11 a0 0) (kx 4) r12.1) fun M13 =>
    kg (kt M13 a0 12) <|
    kg (kt M13 a0 12) <| (F_X12_reads N M13 a0 0 99999).bind fun r14 =>
    kg (kin r14.2 (kR M13 a0 0) 13 5) <| kl (ksI r14.2 (kR M13 a0 0) (kx 5) r14.1) fun M15 =>
    kg (kt M15 a0 12) <| (F_X12_sign N M15 a0 59).bind fun M16 =>
    F_X12_setup_103 N N M16 a0
def F_X12_takesText_2 (N : Nat) : Nat → kMem → Nat → Int32 → Option (kMem)
  | 0, _, _, _ => none
  | n + 1, M, a0, x1 =>
    kg (kt M a0 12) <|
    if x1 < (kI M a0 10) then (
      kg (kt M a0 12) <|
      kg (kt M a0 12) <|
      kg (kin M (kR M a0 8) 13 x1) <|
      kg (kin M (kR M a0 9) 13 x1) <| kl (ksI M (kR M a0 9) (kx x1) (kI M (kR M a0 8) (kx x1))) fun M3 =>
      kl (x1 + 1) fun v4 =>
      F_X12_takesText_2 N n M3 a0 v4) else
    kg (kt M a0 12) <|
    kg (kt M a0 12) <| kl (ksI M a0 11 (kI M a0 10)) fun M1 =>
    kg (kt M1 a0 12) <| kl (ksI M1 a0 10 0) fun M2 =>
    some M2
def F_X12_takesText (N : Nat) (M : kMem) (a0 : Nat) : Option (kMem) :=
    F_X12_takesText_2 N N M a0 0
def F_X12_tellsError (N : Nat) (M : kMem) (a0 : Nat) : Option (kMem) :=
    kg (kt M a0 12) <|
    kg (kt M a0 12) <| kl (ksI M a0 18 (kI M a0 16)) fun M1 =>
    kg (kt M1 a0 12) <|
    if (kI M1 a0 16) = 0 then (
      kg (kt M1 a0 12) <| kl (ksI M1 a0 19 (-1)) fun M3 =>
      some M3) else
    kg (kt M1 a0 12) <|
    kg (kt M1 a0 12) <| kl (ksI M1 a0 19 (kI M1 a0 17)) fun M2 =>
    some M2
def F_X12_load_24 (N : Nat) : Nat → kMem → Nat → Int32 → Option (Int32 × kMem)
  | 0, _, _, _ => none
  | n + 1, M, a0, x1 =>
    if x1 < 293 then (
      kg (kt M a0 12) <|
      kg (kin M (kR M a0 0) 13 x1) <| kl (ksI M (kR M a0 0) (kx x1) 0) fun M13 =>
      kl (x1 + 1) fun v14 =>
      F_X12_load_24 N n M13 a0 v14) else
    kg (kt M a0 12) <| (F_X12_starts N M a0).bind fun M4 =>
    kg (kt M4 a0 12) <| (F_X12_setup N M4 a0).bind fun M5 =>
    kg (kt M5 a0 12) <| (F_X12_tellsError N M5 a0).bind fun M6 =>
    kg (kt M6 a0 12) <|
    if (kI M6 a0 16) = 0 then (
      kg (kt M6 a0 12) <|
      kg (kt M6 a0 12) <| (F_X12_allCoins N M6 a0).bind fun r7 =>
      kg (kin M6 (kR M6 a0 0) 13 9) <| kl (ksI M6 (kR M6 a0 0) (kx 9) r7) fun M8 =>
      kg (kt M8 a0 12) <| kl (ksI M8 a0 5 0) fun M9 =>
      kg (kt M9 a0 12) <|
      kg (kin M9 (kR M9 a0 4) 14 0 && ((0 : Int32) == 0 || (0 : Int32) == 1)) <| kl (ksI M9 (kR M9 a0 4) (kx 0) 0) fun M10 =>
      kg (kt M10 a0 12) <|
      kg (kin M10 (kR M10 a0 4) 14 1 && ((0 : Int32) == 0 || (0 : Int32) == 1)) <| kl (ksI M10 (kR M10 a0 4) (kx 1) 0) fun M11 =>
      some (0, M11)) else
    kg (kt M6 a0 12) <|
    kg (kt M6 a0 12) <|
    (F_X12_copies N M6 (kR M6 a0 1) 0 (kR M6 a0 0) 0).bind fun M12 =>
    kg (kt M12 a0 12) <|
    some (kI M12 a0 16, M12)
def F_X12_load (N : Nat) (M : kMem) (a0 : Nat) : Option (Int32 × kMem) :=
    kg (kt M a0 12) <| kl (ksI M a0 6 0) fun M1 =>
    kg (kt M1 a0 12) <| (F_X12_takesText N M1 a0).bind fun M2 =>
    kg (kt M2 a0 12) <|
    kg (kt M2 a0 12) <|
    (F_X12_copies N M2 (kR M2 a0 0) 0 (kR M2 a0 1) 0).bind fun M3 =>
    F_X12_load_24 N N M3 a0 0
def F_X12_isOrder (N : Nat) (M : kMem) (a0 : Nat) : Option (Int32) :=
    kg (kt M a0 12) <| (F_X12_isWord N M a0 343342).bind fun r1 =>
    if r1 = 0 then (
      kg (kt M a0 12) <| (F_X12_isWord N M a0 2745).bind fun r2 =>
      if r2 = 0 then (
        kg (kt M a0 12) <| (F_X12_isWord N M a0 12748485).bind fun r3 =>
        if r3 = 0 then (
          kg (kt M a0 12) <| (F_X12_isWord N M a0 628108).bind fun r4 =>
          if r4 = 0 then (
            kg (kt M a0 12) <| (F_X12_isWord N M a0 646192).bind fun r5 =>
            if r5 = 0 then (
              kg (kt M a0 12) <| (F_X12_isWord N M a0 754917).bind fun r6 =>
              if r6 = 0 then (
                kg (kt M a0 12) <| (F_X12_isWord N M a0 132915).bind fun r7 =>
                if r7 = 0 then (
                  kg (kt M a0 12) <| (F_X12_isWord N M a0 609752116).bind fun r8 =>
                  if r8 = 0 then (
                    some 0) else
                  some 1) else
                some 1) else
              some 1) else
            some 1) else
          some 1) else
        some 1) else
      some 1) else
    some 1
def F_X12_isActive (N : Nat) (M : kMem) (a0 : Nat) : Option (Int32) :=
    kg (kt M a0 12) <|
    if (kI M a0 21) = 0 then (
      some 0) else
    kg (kt M a0 12) <|
    if (kI M a0 16) = 0 then (
      kg (kt M a0 12) <|
      if (kI M a0 22) = 0 then (
        some 1) else
      some 0) else
    some 0
def F_X12_came (N : Nat) (M : kMem) (a0 : Nat) (x1 : Int32) : Option (kMem) :=
    kg (kt M a0 12) <|
    (F_X12_flag N M x1).bind fun r1 =>
    kg (kt M a0 12) <| kl (ksI M a0 25 ((kI M a0 25) + r1)) fun M2 =>
    if x1 = 0 then (
      kg (kt M2 a0 12 && ((1 : Int32) == 0 || (1 : Int32) == 1)) <| kl (ksI M2 a0 22 1) fun M3 =>
      some M3) else
    kg (kt M2 a0 12) <|
    if (kI M2 a0 25) = 40 then (
      kg (kt M2 a0 12 && ((1 : Int32) == 0 || (1 : Int32) == 1)) <| kl (ksI M2 a0 22 1) fun M5 =>
      some M5) else
    kg (kt M2 a0 12 && ((0 : Int32) == 0 || (0 : Int32) == 1)) <| kl (ksI M2 a0 22 0) fun M4 =>
    some M4
def F_X12_nameText (N : Nat) (M : kMem) (a0 : Nat) : Option (Int32 × kMem) :=
    kg (kt M a0 12) <| (F_X12_isNameHere N M a0).bind fun r1 =>
    kg (kt M a0 12) <| (F_X12_must N M a0 r1 1).bind fun M2 =>
    kg (kt M2 a0 12) <| (F_X12_isGood N M2 a0).bind fun r3 =>
    if r3 = 0 then (
      kg (kt M2 a0 12) <| (F_X12_goesOn N M2 a0).bind fun M4 =>
      some (0, M4)) else
    kg (kt M2 a0 12) <|
    kl ((kL M2 a0 20).toInt32) fun v5 =>
    kg (kt M2 a0 12) <| (F_X12_goesOn N M2 a0).bind fun M6 =>
    some (v5, M6)
def F_X12_otherName (N : Nat) (M : kMem) (a0 : Nat) (x1 : Int32) : Option (Int32 × kMem) :=
    kg (kt M a0 12) <| (F_X12_isNameHere N M a0).bind fun r1 =>
    kg (kt M a0 12) <| (F_X12_must N M a0 r1 1).bind fun M2 =>
    kg (kt M2 a0 12) <| (F_X12_isGood N M2 a0).bind fun r3 =>
    if r3 = 0 then (
      kg (kt M2 a0 12) <| (F_X12_must N M2 a0 1 3).bind fun M4 =>
      kg (kt M4 a0 12) <| (F_X12_nameText N M4 a0).bind fun r5 =>
      some (r5.1, r5.2)) else
    kg (kt M2 a0 12) <|
    if ((kL M2 a0 20).toInt32) = x1 then (
      kg (kt M2 a0 12) <| (F_X12_must N M2 a0 0 3).bind fun M6 =>
      kg (kt M6 a0 12) <| (F_X12_nameText N M6 a0).bind fun r7 =>
      some (r7.1, r7.2)) else
    kg (kt M2 a0 12) <| (F_X12_must N M2 a0 1 3).bind fun M8 =>
    kg (kt M8 a0 12) <| (F_X12_nameText N M8 a0).bind fun r9 =>
    some (r9.1, r9.2)
def F_X12_joinText_55 (N : Nat) (M : kMem) (a0 : Nat) (x1 : Int32) (x2 : Int32) (x3 : Int32) (y0 : Int32) : Option (kMem) :=
    if y0 = 0 then (
      kg (kt M a0 12) <| (F_X12_came N M a0 y0).bind fun M8 =>
      some M8) else
    kg (kt M a0 12) <| (F_X12_joins N M a0 x1 x2 x3).bind fun r9 =>
    kl r9.1 fun v10 =>
    kg (kt r9.2 a0 12) <| (F_X12_came N r9.2 a0 y0).bind fun M11 =>
    some M11
def F_X12_joinText_54 (N : Nat) (M : kMem) (a0 : Nat) (x1 : Int32) (x2 : Int32) (x3 : Int32) : Option (kMem) :=
    F_X12_joinText_55 N M a0 x1 x2 x3 0
def F_X12_joinText (N : Nat) (M : kMem) (a0 : Nat) : Option (kMem) :=
    kg (kt M a0 12) <| (F_X12_nameText N M a0).bind fun r1 =>
    kl r1.1 fun v2 =>
    kg (kt r1.2 a0 12) <| (F_X12_reads N r1.2 a0 1 99).bind fun r3 =>
    kl r3.1 fun v4 =>
    kg (kt r3.2 a0 12) <| (F_X12_reads N r3.2 a0 0 9999).bind fun r5 =>
    kl r5.1 fun v6 =>
    kg (kt r5.2 a0 12) <| (F_X12_isActive N r5.2 a0).bind fun r7 =>
    if r7 = 0 then (
      some r5.2) else
    kg (kt r5.2 a0 12) <|
    kg (kin r5.2 (kR r5.2 a0 0) 13 8) <|
    if (kI r5.2 (kR r5.2 a0 0) (kx 8)) < 24 then (
      kg (kt r5.2 a0 12) <| (F_X12_traderNamed N r5.2 a0 v2).bind fun r12 =>
      if r12 = (-1) then (
        F_X12_joinText_55 N r5.2 a0 v2 v4 v6 1) else
      F_X12_joinText_54 N r5.2 a0 v2 v4 v6) else
    F_X12_joinText_54 N r5.2 a0 v2 v4 v6
def F_X12_buyText_76 (N : Nat) (M : kMem) (a0 : Nat) (x1 : Int32) (x2 : Int32) (x3 : Int32) (y0 : Int32) : Option (kMem) :=
    if y0 = 0 then (
      kg (kt M a0 12) <| (F_X12_came N M a0 y0).bind fun M9 =>
      some M9) else
    kg (kt M a0 12) <| (F_X12_buys N M a0 x1 x2 x3).bind fun r10 =>
    kl r10.1 fun v11 =>
    kg (kt r10.2 a0 12) <| (F_X12_came N r10.2 a0 y0).bind fun M12 =>
    some M12
def F_X12_buyText_75 (N : Nat) (M : kMem) (a0 : Nat) (x1 : Int32) (x2 : Int32) (x3 : Int32) : Option (kMem) :=
    F_X12_buyText_76 N M a0 x1 x2 x3 0
def F_X12_buyText (N : Nat) (M : kMem) (a0 : Nat) : Option (kMem) :=
    kg (kt M a0 12) <| (F_X12_nameText N M a0).bind fun r1 =>
    kg (kt r1.2 a0 12) <| (F_X12_traderNamed N r1.2 a0 r1.1).bind fun r2 =>
    kg (kt r1.2 a0 12) <| (F_X12_reads N r1.2 a0 0 4).bind fun r3 =>
    kl r3.1 fun v4 =>
    kg (kt r3.2 a0 12) <| (F_X12_sideText N r3.2 a0).bind fun r5 =>
    kg (kt r5.2 a0 12) <| (F_X12_reads N r5.2 a0 1 6).bind fun r6 =>
    kl (r5.1 * r6.1) fun v7 =>
    kg (kt r6.2 a0 12) <| (F_X12_isActive N r6.2 a0).bind fun r8 =>
    if r8 = 0 then (
      some r6.2) else
    if r2 = (-1) then (
      F_X12_buyText_75 N r6.2 a0 r2 v4 v7) else
    kg (kt r6.2 a0 12) <|
    kg (kin r6.2 (kR r6.2 a0 0) 13 7) <|
    if v4 < (kI r6.2 (kR r6.2 a0 0) (kx 7)) then (
      kg (kt r6.2 a0 12) <| (F_X12_isPosition N r6.2 a0 v4 v7).bind fun r13 =>
      if r13 = 0 then (
        F_X12_buyText_75 N r6.2 a0 r2 v4 v7) else
      kg (kt r6.2 a0 12) <| (F_X12_againstSeat N r6.2 a0 r2 v4 v7).bind fun r14 =>
      if r14 = 0 then (
        F_X12_buyText_76 N r6.2 a0 r2 v4 v7 1) else
      F_X12_buyText_75 N r6.2 a0 r2 v4 v7) else
    F_X12_buyText_75 N r6.2 a0 r2 v4 v7
def F_X12_leaveText_34 (N : Nat) (M : kMem) (a0 : Nat) (x1 : Int32) (y0 : Int32) : Option (kMem) :=
    if y0 = 0 then (
      kg (kt M a0 12) <| (F_X12_came N M a0 y0).bind fun M4 =>
      some M4) else
    kg (kt M a0 12) <| (F_X12_leaves N M a0 x1).bind fun r5 =>
    kl r5.1 fun v6 =>
    kg (kt r5.2 a0 12) <| (F_X12_came N r5.2 a0 y0).bind fun M7 =>
    some M7
def F_X12_leaveText_33 (N : Nat) (M : kMem) (a0 : Nat) (x1 : Int32) : Option (kMem) :=
    F_X12_leaveText_34 N M a0 x1 0
def F_X12_leaveText (N : Nat) (M : kMem) (a0 : Nat) : Option (kMem) :=
    kg (kt M a0 12) <| (F_X12_nameText N M a0).bind fun r1 =>
    kg (kt r1.2 a0 12) <| (F_X12_traderNamed N r1.2 a0 r1.1).bind fun r2 =>
    kg (kt r1.2 a0 12) <| (F_X12_isActive N r1.2 a0).bind fun r3 =>
    if r3 = 0 then (
      some r1.2) else
    if r2 = (-1) then (
      F_X12_leaveText_33 N r1.2 a0 r2) else
    kg (kt r1.2 a0 12) <| (F_X12_isSeated N r1.2 a0 r2).bind fun r8 =>
    if r8 = 0 then (
      F_X12_leaveText_33 N r1.2 a0 r2) else
    F_X12_leaveText_34 N r1.2 a0 r2 1
def F_X12_pairText_89 (N : Nat) (M : kMem) (a0 : Nat) (x1 : Int32) (x3 : Int32) (x4 : Int32) (x5 : Int32) (y0 : Int32) : Option (kMem) :=
    if y0 = 0 then (
      kg (kt M a0 12) <| (F_X12_came N M a0 y0).bind fun M13 =>
      some M13) else
    if x1 = 0 then (
      kg (kt M a0 12) <| (F_X12_swaps N M a0 x3 x4).bind fun r7 =>
      kl r7.1 fun v8 =>
      kg (kt r7.2 a0 12) <| (F_X12_came N r7.2 a0 y0).bind fun M9 =>
      some M9) else
    kg (kt M a0 12) <| (F_X12_sells N M a0 x3 x4 x5).bind fun r10 =>
    kl r10.1 fun v11 =>
    kg (kt r10.2 a0 12) <| (F_X12_came N r10.2 a0 y0).bind fun M12 =>
    some M12
def F_X12_pairText_88 (N : Nat) (M : kMem) (a0 : Nat) (x1 : Int32) (x3 : Int32) (x4 : Int32) (x5 : Int32) : Option (kMem) :=
    F_X12_pairText_89 N M a0 x1 x3 x4 x5 0
def F_X12_pairText_81 (N : Nat) (M : kMem) (a0 : Nat) (x1 : Int32) (x3 : Int32) (x4 : Int32) (x5 : Int32) (y0 : Int32) : Option (kMem) :=
    if y0 = 0 then (
      F_X12_pairText_89 N M a0 x1 x3 x4 x5 1) else
    F_X12_pairText_88 N M a0 x1 x3 x4 x5
def F_X12_pairText_37 (N : Nat) (M : kMem) (a0 : Nat) (x1 : Int32) (x3 : Int32) (x4 : Int32) (y0 : Int32) : Option (kMem) :=
    kg (kt M a0 12) <| (F_X12_isActive N M a0).bind fun r6 =>
    if r6 = 0 then (
      some M) else
    if x3 = (-1) then (
      F_X12_pairText_88 N M a0 x1 x3 x4 y0) else
    if x4 = (-1) then (
      F_X12_pairText_88 N M a0 x1 x3 x4 y0) else
    if x1 = 0 then (
      kg (kt M a0 12) <| (F_X12_againstSwap N M a0 x3 x4).bind fun r14 =>
      F_X12_pairText_81 N M a0 x1 x3 x4 y0 r14) else
    kg (kt M a0 12) <| (F_X12_againstSale N M a0 x3 x4 y0).bind fun r15 =>
    F_X12_pairText_81 N M a0 x1 x3 x4 y0 r15
def F_X12_pairText (N : Nat) (M : kMem) (a0 : Nat) (x1 : Int32) : Option (kMem) :=
    kg (kt M a0 12) <| (F_X12_nameText N M a0).bind fun r1 =>
    kl r1.1 fun v2 =>
    kg (kt r1.2 a0 12) <| (F_X12_traderNamed N r1.2 a0 v2).bind fun r3 =>
    kg (kt r1.2 a0 12) <| (F_X12_otherName N r1.2 a0 v2).bind fun r4 =>
    kg (kt r4.2 a0 12) <| (F_X12_traderNamed N r4.2 a0 r4.1).bind fun r5 =>
    if x1 = 0 then (
      F_X12_pairText_37 N r4.2 a0 x1 r3 r5 0) else
    kg (kt r4.2 a0 12) <| (F_X12_reads N r4.2 a0 1 50).bind fun r16 =>
    F_X12_pairText_37 N r16.2 a0 x1 r3 r5 r16.1
def F_X12_wholeText_53 (N : Nat) (M : kMem) (a0 : Nat) (x1 : Int32) (x2 : Int32) (y0 : Int32) : Option (kMem) :=
    if y0 = 0 then (
      kg (kt M a0 12) <| (F_X12_came N M a0 y0).bind fun M9 =>
      some M9) else
    if x1 = 0 then (
      kg (kt M a0 12) <| (F_X12_days1 N M a0 x2).bind fun r3 =>
      kl r3.1 fun v4 =>
      kg (kt r3.2 a0 12) <| (F_X12_came N r3.2 a0 y0).bind fun M5 =>
      some M5) else
    kg (kt M a0 12) <| (F_X12_setsWage N M a0 x2).bind fun r6 =>
    kl r6.1 fun v7 =>
    kg (kt r6.2 a0 12) <| (F_X12_came N r6.2 a0 y0).bind fun M8 =>
    some M8
def F_X12_wholeText_48 (N : Nat) (M : kMem) (a0 : Nat) (x1 : Int32) (x2 : Int32) : Option (kMem) :=
    F_X12_wholeText_53 N M a0 x1 x2 1
def F_X12_wholeText_21 (N : Nat) (M : kMem) (a0 : Nat) (x1 : Int32) (y0 : Int32) : Option (kMem) :=
    kg (kt M a0 12) <| (F_X12_isActive N M a0).bind fun r2 =>
    if r2 = 0 then (
      some M) else
    if x1 = 0 then (
      kg (kt M a0 12) <|
      kg (kin M (kR M a0 0) 13 6) <|
      if (9999 : Int32) < ((kI M (kR M a0 0) (kx 6)) + y0) then (
        F_X12_wholeText_53 N M a0 x1 y0 0) else
      F_X12_wholeText_48 N M a0 x1 y0) else
    F_X12_wholeText_48 N M a0 x1 y0
def F_X12_wholeText (N : Nat) (M : kMem) (a0 : Nat) (x1 : Int32) : Option (kMem) :=
    if x1 = 0 then (
      kg (kt M a0 12) <| (F_X12_reads N M a0 1 30).bind fun r1 =>
      F_X12_wholeText_21 N r1.2 a0 x1 r1.1) else
    kg (kt M a0 12) <| (F_X12_reads N M a0 0 20).bind fun r10 =>
    F_X12_wholeText_21 N r10.2 a0 x1 r10.1
def F_X12_againOrder_42 (N : Nat) (M : kMem) (a0 : Nat) (x1 : Int32) (y0 : Nat) (y1 : Int32) : Option (kMem) :=
    kg (kt M y0 12) <| (F_X12_must N M y0 y1 5).bind fun M6 =>
    kg (kt M6 a0 12) <| (F_X12_goesOn N M6 a0).bind fun M7 =>
    kg (kt M7 a0 12) <|
    if (kI M7 a0 16) = 0 then (
      kg (kt M7 a0 12) <|
      kg (kt M7 a0 12) <| kl (ksI M7 a0 24 ((kI M7 a0 24) + 1)) fun M8 =>
      kg (kt M8 a0 12) <|
      kg (kt M8 a0 12) <|
      kg (kt M8 a0 12) <|
      kg (kin M8 (kR M8 a0 26) 13 ((kI M8 a0 24) - 1)) <| kl (ksI M8 (kR M8 a0 26) (kx ((kI M8 a0 24) - 1)) (kI M8 a0 13)) fun M9 =>
      kg (kt M9 a0 12) <|
      kg (kt M9 a0 12) <|
      kg (kin M9 (kR M9 a0 27) 13 ((kI M9 a0 24) - 1)) <| kl (ksI M9 (kR M9 a0 27) (kx ((kI M9 a0 24) - 1)) x1) fun M10 =>
      some M10) else
    some M7
def F_X12_againOrder_37 (N : Nat) (M : kMem) (a0 : Nat) (x1 : Int32) (y0 : Nat) : Option (kMem) :=
    F_X12_againOrder_42 N M a0 x1 y0 1
def F_X12_againOrder (N : Nat) (M : kMem) (a0 : Nat) : Option (kMem) :=
    kg (kt M a0 12) <| (F_X12_reads N M a0 1 20).bind fun r1 =>
    kl r1.1 fun v2 =>
    kg (kt r1.2 a0 12) <| (F_X12_isSign N r1.2 a0 40).bind fun r3 =>
    kg (kt r1.2 a0 12) <| (F_X12_must N r1.2 a0 r3 1).bind fun M4 =>
    kg (kt M4 a0 12) <| (F_X12_isSign N M4 a0 40).bind fun r5 =>
    if r5 = 0 then (
      F_X12_againOrder_37 N M4 a0 v2 a0) else
    kg (kt M4 a0 12) <|
    if (kI M4 a0 24) < 2 then (
      F_X12_againOrder_37 N M4 a0 v2 a0) else
    F_X12_againOrder_42 N M4 a0 v2 a0 0
def F_X12_closes_81 (N : Nat) (M : kMem) (a0 : Nat) : Option (kMem) :=
    kg (kt M a0 12) <|
    kg (kt M a0 12) <| kl (ksI M a0 24 ((kI M a0 24) - 1)) fun M3 =>
    kg (kt M3 a0 12) <| (F_X12_goesOn N M3 a0).bind fun M4 =>
    kg (kt M4 a0 12) <| (F_X12_sign N M4 a0 59).bind fun M5 =>
    some M5
def F_X12_closes_13 (N : Nat) (M : kMem) (a0 : Nat) (y0 : Nat) (y1 : Int32) : Option (kMem) :=
    kg (kt M y0 12) <| (F_X12_must N M y0 y1 1).bind fun M1 =>
    kg (kt M1 a0 12) <|
    if (kI M1 a0 16) = 0 then (
      kg (kt M1 a0 12) <|
      kg (kt M1 a0 12) <|
      kg (kin M1 (kR M1 a0 27) 13 ((kI M1 a0 24) - 1)) <|
      kg (kin M1 (kR M1 a0 27) 13 ((kI M1 a0 24) - 1)) <| kl (ksI M1 (kR M1 a0 27) (kx ((kI M1 a0 24) - 1)) ((kI M1 (kR M1 a0 27) (kx ((kI M1 a0 24) - 1))) - 1)) fun M2 =>
      kg (kt M2 a0 12) <|
      if (kI M2 a0 21) = 0 then (
        F_X12_closes_81 N M2 a0) else
      kg (kt M2 a0 12) <|
      kg (kt M2 a0 12) <|
      kg (kin M2 (kR M2 a0 27) 13 ((kI M2 a0 24) - 1)) <|
      if (0 : Int32) < (kI M2 (kR M2 a0 27) (kx ((kI M2 a0 24) - 1))) then (
        kg (kt M2 a0 12) <|
        kg (kt M2 a0 12) <|
        kg (kin M2 (kR M2 a0 26) 13 ((kI M2 a0 24) - 1)) <|
        kg (kt M2 a0 12) <| kl (ksI M2 a0 12 (kI M2 (kR M2 a0 26) (kx ((kI M2 a0 24) - 1)))) fun M6 =>
        kg (kt M6 a0 12) <| (F_X12_scan N M6 a0).bind fun M7 =>
        some M7) else
      F_X12_closes_81 N M2 a0) else
    some M1
def F_X12_closes (N : Nat) (M : kMem) (a0 : Nat) : Option (kMem) :=
    kg (kt M a0 12) <|
    if (0 : Int32) < (kI M a0 24) then (
      F_X12_closes_13 N M a0 a0 1) else
    F_X12_closes_13 N M a0 a0 0
def F_X12_does_61 (N : Nat) (M : kMem) (a0 : Nat) (x1 : Int64) : Option (kMem) :=
    if (lg_cmp x1 628108) = 0 then (
      kg (kt M a0 12) <| (F_X12_pairText N M a0 1).bind fun M2 =>
      some M2) else
    kg (kt M a0 12) <| (F_X12_pairText N M a0 0).bind fun M1 =>
    some M1
def F_X12_does (N : Nat) (M : kMem) (a0 : Nat) (x1 : Int64) : Option (kMem) :=
    if (lg_cmp x1 343342) = 0 then (
      kg (kt M a0 12) <| (F_X12_joinText N M a0).bind fun M7 =>
      some M7) else
    if (lg_cmp x1 2745) = 0 then (
      kg (kt M a0 12) <| (F_X12_buyText N M a0).bind fun M6 =>
      some M6) else
    if (lg_cmp x1 12748485) = 0 then (
      kg (kt M a0 12) <| (F_X12_leaveText N M a0).bind fun M5 =>
      some M5) else
    if (lg_cmp x1 628108) = 0 then (
      F_X12_does_61 N M a0 x1) else
    if (lg_cmp x1 646192) = 0 then (
      F_X12_does_61 N M a0 x1) else
    if (lg_cmp x1 754917) = 0 then (
      kg (kt M a0 12) <| (F_X12_wholeText N M a0 1).bind fun M4 =>
      some M4) else
    kg (kt M a0 12) <| (F_X12_wholeText N M a0 0).bind fun M3 =>
    some M3
def F_X12_order_45 (N : Nat) (M : kMem) (a0 : Nat) : Option (kMem) :=
    kg (kt M a0 12) <|
    if (kI M a0 16) = 0 then (
      kg (kt M a0 12) <|
      kl (kL M a0 20) fun v3 =>
      kg (kt M a0 12) <| (F_X12_goesOn N M a0).bind fun M4 =>
      if (lg_cmp v3 609752116) = 0 then (
        kg (kt M4 a0 12) <| (F_X12_againOrder N M4 a0).bind fun M7 =>
        some M7) else
      kg (kt M4 a0 12) <| (F_X12_does N M4 a0 v3).bind fun M5 =>
      kg (kt M5 a0 12) <| (F_X12_sign N M5 a0 59).bind fun M6 =>
      some M6) else
    some M
def F_X12_order_31 (N : Nat) (M : kMem) (a0 : Nat) (y0 : Nat) (y1 : Int32) : Option (kMem) :=
    kg (kt M y0 12) <| (F_X12_must N M y0 y1 5).bind fun M8 =>
    kg (kt M8 a0 12) <|
    kg (kt M8 a0 12) <| kl (ksI M8 a0 23 ((kI M8 a0 23) + 1)) fun M9 =>
    F_X12_order_45 N M9 a0
def F_X12_order (N : Nat) (M : kMem) (a0 : Nat) : Option (kMem) :=
    kg (kt M a0 12) <| (F_X12_isOrder N M a0).bind fun r1 =>
    kg (kt M a0 12) <| (F_X12_must N M a0 r1 1).bind fun M2 =>
    kg (kt M2 a0 12) <|
    if (kI M2 a0 21) = 0 then (
      kg (kt M2 a0 12) <|
      if (kI M2 a0 23) < 30 then (
        F_X12_order_31 N M2 a0 a0 1) else
      F_X12_order_31 N M2 a0 a0 0) else
    F_X12_order_45 N M2 a0
def F_X12_goesThrough_73 (N : Nat) (M : kMem) (a0 : Nat) : Option (kMem) :=
    kg (kt M a0 12) <|
    if (kI M a0 22) = 0 then (
      kg (kt M a0 12) <|
      if (kI M a0 24) = 0 then (
        kg (kt M a0 12) <| (F_X12_must N M a0 1 1).bind fun M9 =>
        some M9) else
      kg (kt M a0 12) <| (F_X12_must N M a0 0 1).bind fun M8 =>
      some M8) else
    kg (kt M a0 12) <| (F_X12_must N M a0 1 1).bind fun M7 =>
    some M7
def F_X12_goesThrough_29 (N : Nat) : Nat → kMem → Nat → Option (kMem)
  | 0, _, _ => none
  | n + 1, M, a0 =>
    kg (kt M a0 12) <|
    if (kI M a0 16) = 0 then (
      kg (kt M a0 12) <|
      if (kI M a0 22) = 0 then (
        kg (kt M a0 12) <|
        if (kI M a0 14) = 0 then (
          F_X12_goesThrough_73 N M a0) else
        kg (kt M a0 12) <| (F_X12_isSign N M a0 41).bind fun r10 =>
        if r10 = 0 then (
          kg (kt M a0 12) <| (F_X12_order N M a0).bind fun M11 =>
          F_X12_goesThrough_29 N n M11 a0) else
        kg (kt M a0 12) <| (F_X12_closes N M a0).bind fun M12 =>
        F_X12_goesThrough_29 N n M12 a0) else
      F_X12_goesThrough_73 N M a0) else
    F_X12_goesThrough_73 N M a0
def F_X12_goesThrough (N : Nat) (M : kMem) (a0 : Nat) (x1 : Int32) : Option (kMem) :=
    kg (kt M a0 12 && (x1 == 0 || x1 == 1)) <| kl (ksI M a0 21 x1) fun M1 =>
    kg (kt M1 a0 12 && ((0 : Int32) == 0 || (0 : Int32) == 1)) <| kl (ksI M1 a0 22 0) fun M2 =>
    kg (kt M2 a0 12) <| kl (ksI M2 a0 23 0) fun M3 =>
    kg (kt M3 a0 12) <| kl (ksI M3 a0 24 0) fun M4 =>
    kg (kt M4 a0 12) <| kl (ksI M4 a0 25 0) fun M5 =>
    kg (kt M5 a0 12) <| (F_X12_starts N M5 a0).bind fun M6 =>
    F_X12_goesThrough_29 N N M6 a0
def F_X12_keepsPast_50 (N : Nat) (M : kMem) (a0 : Nat) : Option (kMem) :=
    kg (kt M a0 12) <|
    kg (kt M a0 12) <|
    kg (kt M a0 12) <|
    (F_X12_copies N M (kR M a0 0) 0 (kR M a0 2) (293 * (kI M a0 5))).bind fun M1 =>
    kg (kt M1 a0 12) <|
    kg (kt M1 a0 12) <| kl (ksI M1 a0 5 ((kI M1 a0 5) + 1)) fun M2 =>
    some M2
def F_X12_keepsPast_11 (N : Nat) : Nat → kMem → Nat → Int32 → Option (kMem)
  | 0, _, _, _ => none
  | n + 1, M, a0, x1 =>
    if x1 < 2051 then (
      kg (kt M a0 12) <|
      kg (kt M a0 12) <|
      kg (kin M (kR M a0 2) 13 (x1 + 293)) <|
      kg (kin M (kR M a0 2) 13 x1) <| kl (ksI M (kR M a0 2) (kx x1) (kI M (kR M a0 2) (kx (x1 + 293)))) fun M4 =>
      kl (x1 + 1) fun v5 =>
      F_X12_keepsPast_11 N n M4 a0 v5) else
    kg (kt M a0 12) <|
    kg (kt M a0 12) <| kl (ksI M a0 5 ((kI M a0 5) - 1)) fun M3 =>
    F_X12_keepsPast_50 N M3 a0
def F_X12_keepsPast (N : Nat) (M : kMem) (a0 : Nat) : Option (kMem) :=
    kg (kt M a0 12) <|
    if (kI M a0 5) = 8 then (
      F_X12_keepsPast_11 N N M a0 0) else
    F_X12_keepsPast_50 N M a0
def F_X12_runScript (N : Nat) (M : kMem) (a0 : Nat) : Option (Int32 × kMem) :=
    kg (kt M a0 12) <| kl (ksI M a0 6 0) fun M1 =>
    kg (kt M1 a0 12) <| (F_X12_takesText N M1 a0).bind fun M2 =>
    kg (kt M2 a0 12) <| (F_X12_goesThrough N M2 a0 0).bind fun M3 =>
    kg (kt M3 a0 12) <| (F_X12_tellsError N M3 a0).bind fun M4 =>
    kg (kt M4 a0 12) <|
    if (kI M4 a0 16) = 0 then (
      kg (kt M4 a0 12) <| (F_X12_keepsPast N M4 a0).bind fun M5 =>
      kg (kt M5 a0 12) <| (F_X12_goesThrough N M5 a0 1).bind fun M6 =>
      kg (kt M6 a0 12) <|
      some (kI M6 a0 25, M6)) else
    some ((-1), M4)
def F_X12_errorCode (N : Nat) (M : kMem) (a0 : Nat) : Option (Int32 × kMem) :=
    kg (kt M a0 12) <| kl (ksI M a0 6 0) fun M1 =>
    kg (kt M1 a0 12) <|
    some (kI M1 a0 18, M1)
def F_X12_errorPosition (N : Nat) (M : kMem) (a0 : Nat) : Option (Int32 × kMem) :=
    kg (kt M a0 12) <| kl (ksI M a0 6 0) fun M1 =>
    kg (kt M1 a0 12) <|
    some (kI M1 a0 19, M1)
def F_X12_noTrader (N : Nat) (M : kMem) (a0 : Nat) (x1 : Int32) : Option (Int32 × kMem) :=
    kg (kt M a0 12) <|
    kg (kin M (kR M a0 0) 13 8) <|
    (F_X12_in N M x1.toInt64 0 (((kI M (kR M a0 0) (kx 8)) - 1).toInt64)).bind fun r1 =>
    if r1 = 0 then (
      kg (kt M a0 12) <| (F_X12_stops N M a0 1 1).bind fun r3 =>
      kg (r3.1 == 0 || r3.1 == 1) <| some (r3.1, r3.2)) else
    kg (kt M a0 12) <| (F_X12_stops N M a0 0 1).bind fun r2 =>
    kg (r2.1 == 0 || r2.1 == 1) <| some (r2.1, r2.2)
def F_X12_noBoard (N : Nat) (M : kMem) (a0 : Nat) (x1 : Int32) : Option (Int32 × kMem) :=
    kg (kt M a0 12) <|
    kg (kin M (kR M a0 0) 13 7) <|
    (F_X12_in N M x1.toInt64 0 (((kI M (kR M a0 0) (kx 7)) - 1).toInt64)).bind fun r1 =>
    if r1 = 0 then (
      kg (kt M a0 12) <| (F_X12_stops N M a0 1 1).bind fun r3 =>
      kg (r3.1 == 0 || r3.1 == 1) <| some (r3.1, r3.2)) else
    kg (kt M a0 12) <| (F_X12_stops N M a0 0 1).bind fun r2 =>
    kg (r2.1 == 0 || r2.1 == 1) <| some (r2.1, r2.2)
def F_X12_noSeat (N : Nat) (M : kMem) (a0 : Nat) (x1 : Int32) (x2 : Int32) : Option (Int32 × kMem) :=
    kg (kt M a0 12) <| (F_X12_noBoard N M a0 x1).bind fun r1 =>
    if r1.1 = 0 then (
      kg (kt r1.2 a0 12) <| (F_X12_isPosition N r1.2 a0 x1 x2).bind fun r2 =>
      if r2 = 0 then (
        kg (kt r1.2 a0 12) <| (F_X12_stops N r1.2 a0 1 1).bind fun r4 =>
        if r4.1 = 0 then (
          some (0, r4.2)) else
        some (1, r4.2)) else
      kg (kt r1.2 a0 12) <| (F_X12_stops N r1.2 a0 0 1).bind fun r3 =>
      if r3.1 = 0 then (
        some (0, r3.2)) else
      some (1, r3.2)) else
    some (1, r1.2)
def F_X12_wholeName_4 (N : Nat) (M : kMem) : Nat → Nat → Int32 → Int32 → Option (Int32)
  | 0, _, _, _ => none
  | n + 1, a0, x1, x2 =>
    kg (kt M a0 12) <|
    if x2 < (kI M a0 10) then (
      kg (kt M a0 12) <|
      kg (kin M (kR M a0 8) 13 x2) <|
      (F_X12_isSmall N M (kI M (kR M a0 8) (kx x2))).bind fun r1 =>
      if r1 = 0 then (
        some 0) else
      if x2 = 6 then (
        some 0) else
      kg (kt M a0 12) <|
      kg (kin M (kR M a0 8) 13 x2) <|
      kl (((32 * x1) + (kI M (kR M a0 8) (kx x2))) - 96) fun v2 =>
      kl (x2 + 1) fun v3 =>
      F_X12_wholeName_4 N M n a0 v2 v3) else
    some x1
def F_X12_wholeName (N : Nat) (M : kMem) (a0 : Nat) : Option (Int32) :=
    F_X12_wholeName_4 N M N a0 0 0
def F_X12_join_80 (N : Nat) (M : kMem) (a0 : Nat) (x1 : Int32) (x2 : Int32) (x3 : Int32) (y0 : Nat) (y1 : Int32) : Option (Int32 × kMem) :=
    kg (kt M y0 12) <| (F_X12_stops N M y0 y1 2).bind fun r5 =>
    if r5.1 = 0 then (
      kg (kt r5.2 a0 12) <| (F_X12_keepsPast N r5.2 a0).bind fun M6 =>
      kg (kt M6 a0 12) <| kl (ksI M6 a0 10 0) fun M7 =>
      kg (kt M7 a0 12) <| (F_X12_joins N M7 a0 x3 x1 x2).bind fun r8 =>
      some (r8.1, r8.2)) else
    some (0, r5.2)
def F_X12_join_75 (N : Nat) (M : kMem) (a0 : Nat) (x1 : Int32) (x2 : Int32) (x3 : Int32) (y0 : Nat) : Option (Int32 × kMem) :=
    F_X12_join_80 N M a0 x1 x2 x3 y0 1
def F_X12_join_35 (N : Nat) (M : kMem) (a0 : Nat) (x1 : Int32) (x2 : Int32) (y0 : Nat) (y1 : Int32) : Option (Int32 × kMem) :=
    kg (kt M y0 12) <| (F_X12_stops N M y0 y1 1).bind fun r3 =>
    if r3.1 = 0 then (
      kg (kt r3.2 a0 12) <| (F_X12_wholeName N r3.2 a0).bind fun r4 =>
      kg (kt r3.2 a0 12) <|
      kg (kin r3.2 (kR r3.2 a0 0) 13 8) <|
      if (kI r3.2 (kR r3.2 a0 0) (kx 8)) = 24 then (
        F_X12_join_75 N r3.2 a0 x1 x2 r4 a0) else
      if r4 = 0 then (
        F_X12_join_75 N r3.2 a0 x1 x2 r4 a0) else
      kg (kt r3.2 a0 12) <| (F_X12_traderNamed N r3.2 a0 r4).bind fun r9 =>
      if r9 = (-1) then (
        F_X12_join_80 N r3.2 a0 x1 x2 r4 a0 0) else
      F_X12_join_75 N r3.2 a0 x1 x2 r4 a0) else
    some (0, r3.2)
def F_X12_join_30 (N : Nat) (M : kMem) (a0 : Nat) (x1 : Int32) (x2 : Int32) (y0 : Nat) : Option (Int32 × kMem) :=
    F_X12_join_35 N M a0 x1 x2 y0 1
def F_X12_join (N : Nat) (M : kMem) (a0 : Nat) (x1 : Int32) (x2 : Int32) : Option (Int32 × kMem) :=
    kg (kt M a0 12) <| kl (ksI M a0 6 0) fun M1 =>
    (F_X12_in N M1 x1.toInt64 1 99).bind fun r2 =>
    if r2 = 0 then (
      F_X12_join_30 N M1 a0 x1 x2 a0) else
    (F_X12_in N M1 x2.toInt64 0 9999).bind fun r10 =>
    if r10 = 0 then (
      F_X12_join_30 N M1 a0 x1 x2 a0) else
    F_X12_join_35 N M1 a0 x1 x2 a0 0
def F_X12_buySeat_38 (N : Nat) (M : kMem) (a0 : Nat) (x1 : Int32) (x2 : Int32) (x3 : Int32) (y0 : Nat) (y1 : Int32) : Option (Int32 × kMem) :=
    kg (kt M y0 12) <| (F_X12_stops N M y0 y1 2).bind fun r5 =>
    if r5.1 = 0 then (
      kg (kt r5.2 a0 12) <| (F_X12_keepsPast N r5.2 a0).bind fun M6 =>
      kg (kt M6 a0 12) <| (F_X12_buys N M6 a0 x1 x2 x3).bind fun r7 =>
      some (r7.1, r7.2)) else
    some (0, r5.2)
def F_X12_buySeat (N : Nat) (M : kMem) (a0 : Nat) (x1 : Int32) (x2 : Int32) (x3 : Int32) : Option (Int32 × kMem) :=
    kg (kt M a0 12) <| kl (ksI M a0 6 0) fun M1 =>
    kg (kt M1 a0 12) <| (F_X12_noTrader N M1 a0 x1).bind fun r2 =>
    if r2.1 = 0 then (
      kg (kt r2.2 a0 12) <| (F_X12_noSeat N r2.2 a0 x2 x3).bind fun r3 =>
      if r3.1 = 0 then (
        kg (kt r3.2 a0 12) <| (F_X12_againstSeat N r3.2 a0 x1 x2 x3).bind fun r4 =>
        if r4 = 0 then (
          F_X12_buySeat_38 N r3.2 a0 x1 x2 x3 a0 0) else
        F_X12_buySeat_38 N r3.2 a0 x1 x2 x3 a0 1) else
      some (0, r3.2)) else
    some (0, r2.2)
def F_X12_leaveSeat_27 (N : Nat) (M : kMem) (a0 : Nat) (x1 : Int32) (y0 : Nat) (y1 : Int32) : Option (Int32 × kMem) :=
    kg (kt M y0 12) <| (F_X12_stops N M y0 y1 2).bind fun r4 =>
    if r4.1 = 0 then (
      kg (kt r4.2 a0 12) <| (F_X12_keepsPast N r4.2 a0).bind fun M5 =>
      kg (kt M5 a0 12) <| (F_X12_leaves N M5 a0 x1).bind fun r6 =>
      some (r6.1, r6.2)) else
    some (0, r4.2)
def F_X12_leaveSeat (N : Nat) (M : kMem) (a0 : Nat) (x1 : Int32) : Option (Int32 × kMem) :=
    kg (kt M a0 12) <| kl (ksI M a0 6 0) fun M1 =>
    kg (kt M1 a0 12) <| (F_X12_noTrader N M1 a0 x1).bind fun r2 =>
    if r2.1 = 0 then (
      kg (kt r2.2 a0 12) <| (F_X12_isSeated N r2.2 a0 x1).bind fun r3 =>
      if r3 = 0 then (
        F_X12_leaveSeat_27 N r2.2 a0 x1 a0 1) else
      F_X12_leaveSeat_27 N r2.2 a0 x1 a0 0) else
    some (0, r2.2)
def F_X12_noSale (N : Nat) (M : kMem) (a0 : Nat) (x1 : Int32) (x2 : Int32) (x3 : Int32) : Option (Int32 × kMem) :=
    kg (kt M a0 12) <| (F_X12_noTrader N M a0 x1).bind fun r1 =>
    if r1.1 = 0 then (
      kg (kt r1.2 a0 12) <| (F_X12_noTrader N r1.2 a0 x2).bind fun r2 =>
      if r2.1 = 0 then (
        if x1 = x2 then (
          kg (kt r2.2 a0 12) <| (F_X12_stops N r2.2 a0 1 2).bind fun r3 =>
          if r3.1 = 0 then (
            some (0, r3.2)) else
          some (1, r3.2)) else
        (F_X12_in N r2.2 x3.toInt64 1 50).bind fun r4 =>
        if r4 = 0 then (
          kg (kt r2.2 a0 12) <| (F_X12_stops N r2.2 a0 1 2).bind fun r6 =>
          if r6.1 = 0 then (
            some (0, r6.2)) else
          some (1, r6.2)) else
        kg (kt r2.2 a0 12) <| (F_X12_stops N r2.2 a0 0 2).bind fun r5 =>
        if r5.1 = 0 then (
          some (0, r5.2)) else
        some (1, r5.2)) else
      some (1, r2.2)) else
    some (1, r1.2)
def F_X12_sellWeight_31 (N : Nat) (M : kMem) (a0 : Nat) (x1 : Int32) (x2 : Int32) (x3 : Int32) (y0 : Nat) (y1 : Int32) : Option (Int32 × kMem) :=
    kg (kt M y0 12) <| (F_X12_stops N M y0 y1 3).bind fun r4 =>
    if r4.1 = 0 then (
      kg (kt r4.2 a0 12) <| (F_X12_keepsPast N r4.2 a0).bind fun M5 =>
      kg (kt M5 a0 12) <| (F_X12_sells N M5 a0 x1 x2 x3).bind fun r6 =>
      some (r6.1, r6.2)) else
    some (0, r4.2)
def F_X12_sellWeight (N : Nat) (M : kMem) (a0 : Nat) (x1 : Int32) (x2 : Int32) (x3 : Int32) : Option (Int32 × kMem) :=
    kg (kt M a0 12) <| kl (ksI M a0 6 0) fun M1 =>
    kg (kt M1 a0 12) <| (F_X12_noSale N M1 a0 x1 x2 x3).bind fun r2 =>
    if r2.1 = 0 then (
      kg (kt r2.2 a0 12) <| (F_X12_againstSale N r2.2 a0 x1 x2 x3).bind fun r3 =>
      if r3 = 0 then (
        F_X12_sellWeight_31 N r2.2 a0 x1 x2 x3 a0 0) else
      F_X12_sellWeight_31 N r2.2 a0 x1 x2 x3 a0 1) else
    some (0, r2.2)
def F_X12_noPair (N : Nat) (M : kMem) (a0 : Nat) (x1 : Int32) (x2 : Int32) : Option (Int32 × kMem) :=
    kg (kt M a0 12) <| (F_X12_noTrader N M a0 x1).bind fun r1 =>
    if r1.1 = 0 then (
      kg (kt r1.2 a0 12) <| (F_X12_noTrader N r1.2 a0 x2).bind fun r2 =>
      if r2.1 = 0 then (
        if x1 = x2 then (
          kg (kt r2.2 a0 12) <| (F_X12_stops N r2.2 a0 1 2).bind fun r4 =>
          if r4.1 = 0 then (
            some (0, r4.2)) else
          some (1, r4.2)) else
        kg (kt r2.2 a0 12) <| (F_X12_stops N r2.2 a0 0 2).bind fun r3 =>
        if r3.1 = 0 then (
          some (0, r3.2)) else
        some (1, r3.2)) else
      some (1, r2.2)) else
    some (1, r1.2)
def F_X12_swapSeats_29 (N : Nat) (M : kMem) (a0 : Nat) (x1 : Int32) (x2 : Int32) (y0 : Nat) (y1 : Int32) : Option (Int32 × kMem) :=
    kg (kt M y0 12) <| (F_X12_stops N M y0 y1 3).bind fun r4 =>
    if r4.1 = 0 then (
      kg (kt r4.2 a0 12) <| (F_X12_keepsPast N r4.2 a0).bind fun M5 =>
      kg (kt M5 a0 12) <| (F_X12_swaps N M5 a0 x1 x2).bind fun r6 =>
      some (r6.1, r6.2)) else
    some (0, r4.2)
def F_X12_swapSeats (N : Nat) (M : kMem) (a0 : Nat) (x1 : Int32) (x2 : Int32) : Option (Int32 × kMem) :=
    kg (kt M a0 12) <| kl (ksI M a0 6 0) fun M1 =>
    kg (kt M1 a0 12) <| (F_X12_noPair N M1 a0 x1 x2).bind fun r2 =>
    if r2.1 = 0 then (
      kg (kt r2.2 a0 12) <| (F_X12_againstSwap N r2.2 a0 x1 x2).bind fun r3 =>
      if r3 = 0 then (
        F_X12_swapSeats_29 N r2.2 a0 x1 x2 a0 0) else
      F_X12_swapSeats_29 N r2.2 a0 x1 x2 a0 1) else
    some (0, r2.2)
def F_X12_setWage_23 (N : Nat) (M : kMem) (a0 : Nat) (x1 : Int32) (y0 : Nat) (y1 : Int32) : Option (Int32 × kMem) :=
    kg (kt M y0 12) <| (F_X12_stops N M y0 y1 1).bind fun r3 =>
    if r3.1 = 0 then (
      kg (kt r3.2 a0 12) <| (F_X12_keepsPast N r3.2 a0).bind fun M4 =>
      kg (kt M4 a0 12) <| (F_X12_setsWage N M4 a0 x1).bind fun r5 =>
      some (r5.1, r5.2)) else
    some (0, r3.2)
def F_X12_setWage (N : Nat) (M : kMem) (a0 : Nat) (x1 : Int32) : Option (Int32 × kMem) :=
    kg (kt M a0 12) <| kl (ksI M a0 6 0) fun M1 =>
    (F_X12_in N M1 x1.toInt64 0 20).bind fun r2 =>
    if r2 = 0 then (
      F_X12_setWage_23 N M1 a0 x1 a0 1) else
    F_X12_setWage_23 N M1 a0 x1 a0 0
def F_X12_advance_51 (N : Nat) (M : kMem) (a0 : Nat) (x1 : Int32) (y0 : Nat) (y1 : Int32) : Option (Int32 × kMem) :=
    kg (kt M y0 12) <| (F_X12_stops N M y0 y1 2).bind fun r4 =>
    if r4.1 = 0 then (
      kg (kt r4.2 a0 12) <| (F_X12_keepsPast N r4.2 a0).bind fun M5 =>
      kg (kt M5 a0 12) <| (F_X12_days1 N M5 a0 x1).bind fun r6 =>
      some (r6.1, r6.2)) else
    some (0, r4.2)
def F_X12_advance_23 (N : Nat) (M : kMem) (a0 : Nat) (x1 : Int32) (y0 : Nat) (y1 : Int32) : Option (Int32 × kMem) :=
    kg (kt M y0 12) <| (F_X12_stops N M y0 y1 1).bind fun r3 =>
    if r3.1 = 0 then (
      kg (kt r3.2 a0 12) <|
      kg (kin r3.2 (kR r3.2 a0 0) 13 6) <|
      if (9999 : Int32) < ((kI r3.2 (kR r3.2 a0 0) (kx 6)) + x1) then (
        F_X12_advance_51 N r3.2 a0 x1 a0 1) else
      F_X12_advance_51 N r3.2 a0 x1 a0 0) else
    some (0, r3.2)
def F_X12_advance (N : Nat) (M : kMem) (a0 : Nat) (x1 : Int32) : Option (Int32 × kMem) :=
    kg (kt M a0 12) <| kl (ksI M a0 6 0) fun M1 =>
    (F_X12_in N M1 x1.toInt64 1 30).bind fun r2 =>
    if r2 = 0 then (
      F_X12_advance_23 N M1 a0 x1 a0 1) else
    F_X12_advance_23 N M1 a0 x1 a0 0
def F_X12_undoCount (N : Nat) (M : kMem) (a0 : Nat) : Option (Int32 × kMem) :=
    kg (kt M a0 12) <| kl (ksI M a0 6 0) fun M1 =>
    kg (kt M1 a0 12) <|
    some (kI M1 a0 5, M1)
def F_X12_undo_18 (N : Nat) (M : kMem) (a0 : Nat) (y0 : Nat) (y1 : Int32) : Option (Int32 × kMem) :=
    kg (kt M y0 12) <| (F_X12_stops N M y0 y1 1).bind fun r2 =>
    if r2.1 = 0 then (
      kg (kt r2.2 a0 12) <|
      kg (kt r2.2 a0 12) <| kl (ksI r2.2 a0 5 ((kI r2.2 a0 5) - 1)) fun M3 =>
      kg (kt M3 a0 12) <|
      kg (kt M3 a0 12) <|
      kg (kt M3 a0 12) <|
      (F_X12_copies N M3 (kR M3 a0 2) (293 * (kI M3 a0 5)) (kR M3 a0 0) 0).bind fun M4 =>
      kg (kt M4 a0 12) <|
      some (kI M4 a0 5, M4)) else
    some (0, r2.2)
def F_X12_undo (N : Nat) (M : kMem) (a0 : Nat) : Option (Int32 × kMem) :=
    kg (kt M a0 12) <| kl (ksI M a0 6 0) fun M1 =>
    kg (kt M1 a0 12) <|
    if (kI M1 a0 5) = 0 then (
      F_X12_undo_18 N M1 a0 a0 1) else
    F_X12_undo_18 N M1 a0 a0 0
def F_X12_noSlot (N : Nat) (M : kMem) (a0 : Nat) (x1 : Int32) : Option (Int32 × kMem) :=
    (F_X12_in N M x1.toInt64 0 1).bind fun r1 =>
    if r1 = 0 then (
      kg (kt M a0 12) <| (F_X12_stops N M a0 1 1).bind fun r3 =>
      kg (r3.1 == 0 || r3.1 == 1) <| some (r3.1, r3.2)) else
    kg (kt M a0 12) <| (F_X12_stops N M a0 0 1).bind fun r2 =>
    kg (r2.1 == 0 || r2.1 == 1) <| some (r2.1, r2.2)
def F_X12_save (N : Nat) (M : kMem) (a0 : Nat) (x1 : Int32) : Option (Int32 × kMem) :=
    kg (kt M a0 12) <| kl (ksI M a0 6 0) fun M1 =>
    kg (kt M1 a0 12) <| (F_X12_noSlot N M1 a0 x1).bind fun r2 =>
    if r2.1 = 0 then (
      kg (kt r2.2 a0 12) <|
      kg (kt r2.2 a0 12) <|
      (F_X12_copies N r2.2 (kR r2.2 a0 0) 0 (kR r2.2 a0 3) (293 * x1)).bind fun M3 =>
      kg (kt M3 a0 12) <|
      kg (kin M3 (kR M3 a0 4) 14 x1 && ((1 : Int32) == 0 || (1 : Int32) == 1)) <| kl (ksI M3 (kR M3 a0 4) (kx x1) 1) fun M4 =>
      kg (kt M4 a0 12) <|
      kg (kin M4 (kR M4 a0 0) 13 6) <|
      some (kI M4 (kR M4 a0 0) (kx 6), M4)) else
    some (0, r2.2)
def F_X12_restore_28 (N : Nat) (M : kMem) (a0 : Nat) (x1 : Int32) (y0 : Nat) (y1 : Int32) : Option (Int32 × kMem) :=
    kg (kt M y0 12) <| (F_X12_stops N M y0 y1 2).bind fun r3 =>
    if r3.1 = 0 then (
      kg (kt r3.2 a0 12) <|
      kg (kt r3.2 a0 12) <|
      (F_X12_copies N r3.2 (kR r3.2 a0 3) (293 * x1) (kR r3.2 a0 0) 0).bind fun M4 =>
      kg (kt M4 a0 12) <| kl (ksI M4 a0 5 0) fun M5 =>
      kg (kt M5 a0 12) <|
      kg (kin M5 (kR M5 a0 0) 13 6) <|
      some (kI M5 (kR M5 a0 0) (kx 6), M5)) else
    some (0, r3.2)
def F_X12_restore (N : Nat) (M : kMem) (a0 : Nat) (x1 : Int32) : Option (Int32 × kMem) :=
    kg (kt M a0 12) <| kl (ksI M a0 6 0) fun M1 =>
    kg (kt M1 a0 12) <| (F_X12_noSlot N M1 a0 x1).bind fun r2 =>
    if r2.1 = 0 then (
      kg (kt r2.2 a0 12) <|
      kg (kin r2.2 (kR r2.2 a0 4) 14 x1) <|
      if (kI r2.2 (kR r2.2 a0 4) (kx x1)) = 0 then (
        F_X12_restore_28 N r2.2 a0 x1 a0 1) else
      F_X12_restore_28 N r2.2 a0 x1 a0 0) else
    some (0, r2.2)
def F_X12_day (N : Nat) (M : kMem) (a0 : Nat) : Option (Int32 × kMem) :=
    kg (kt M a0 12) <| kl (ksI M a0 6 0) fun M1 =>
    kg (kt M1 a0 12) <|
    kg (kin M1 (kR M1 a0 0) 13 6) <|
    some (kI M1 (kR M1 a0 0) (kx 6), M1)
def F_X12_bank (N : Nat) (M : kMem) (a0 : Nat) : Option (Int32 × kMem) :=
    kg (kt M a0 12) <| kl (ksI M a0 6 0) fun M1 =>
    kg (kt M1 a0 12) <|
    kg (kin M1 (kR M1 a0 0) 13 5) <|
    some (kI M1 (kR M1 a0 0) (kx 5), M1)
def F_X12_wage (N : Nat) (M : kMem) (a0 : Nat) : Option (Int32 × kMem) :=
    kg (kt M a0 12) <| kl (ksI M a0 6 0) fun M1 =>
    kg (kt M1 a0 12) <|
    kg (kin M1 (kR M1 a0 0) 13 0) <|
    some (kI M1 (kR M1 a0 0) (kx 0), M1)
def F_X12_basePrice (N : Nat) (M : kMem) (a0 : Nat) : Option (Int32 × kMem) :=
    kg (kt M a0 12) <| kl (ksI M a0 6 0) fun M1 =>
    kg (kt M1 a0 12) <|
    kg (kin M1 (kR M1 a0 0) 13 1) <|
    some (kI M1 (kR M1 a0 0) (kx 1), M1)
def F_X12_retirementAge (N : Nat) (M : kMem) (a0 : Nat) : Option (Int32 × kMem) :=
    kg (kt M a0 12) <| kl (ksI M a0 6 0) fun M1 =>
    kg (kt M1 a0 12) <|
    kg (kin M1 (kR M1 a0 0) 13 3) <|
    some (kI M1 (kR M1 a0 0) (kx 3), M1)
def F_X12_boardCount (N : Nat) (M : kMem) (a0 : Nat) : Option (Int32 × kMem) :=
    kg (kt M a0 12) <| kl (ksI M a0 6 0) fun M1 =>
    kg (kt M1 a0 12) <|
    kg (kin M1 (kR M1 a0 0) 13 7) <|
    some (kI M1 (kR M1 a0 0) (kx 7), M1)
def F_X12_armLength (N : Nat) (M : kMem) (a0 : Nat) (x1 : Int32) : Option (Int32 × kMem) :=
    kg (kt M a0 12) <| kl (ksI M a0 6 0) fun M1 =>
    kg (kt M1 a0 12) <| (F_X12_noBoard N M1 a0 x1).bind fun r2 =>
    if r2.1 = 0 then (
      kg (kt r2.2 a0 12) <| (F_X12_ofBoard N r2.2 a0 x1 0).bind fun r3 =>
      some (r3, r2.2)) else
    some (0, r2.2)
def F_X12_stiffness (N : Nat) (M : kMem) (a0 : Nat) (x1 : Int32) : Option (Int32 × kMem) :=
    kg (kt M a0 12) <| kl (ksI M a0 6 0) fun M1 =>
    kg (kt M1 a0 12) <| (F_X12_noBoard N M1 a0 x1).bind fun r2 =>
    if r2.1 = 0 then (
      kg (kt r2.2 a0 12) <| (F_X12_ofBoard N r2.2 a0 x1 1).bind fun r3 =>
      some (r3, r2.2)) else
    some (0, r2.2)
def F_X12_torque (N : Nat) (M : kMem) (a0 : Nat) (x1 : Int32) : Option (Int32 × kMem) :=
    kg (kt M a0 12) <| kl (ksI M a0 6 0) fun M1 =>
    kg (kt M1 a0 12) <| (F_X12_noBoard N M1 a0 x1).bind fun r2 =>
    if r2.1 = 0 then (
      kg (kt r2.2 a0 12) <| (F_X12_torqueOf N r2.2 a0 x1).bind fun r3 =>
      some (r3, r2.2)) else
    some (0, r2.2)
def F_X12_tilt (N : Nat) (M : kMem) (a0 : Nat) (x1 : Int32) : Option (Int32 × kMem) :=
    kg (kt M a0 12) <| kl (ksI M a0 6 0) fun M1 =>
    kg (kt M1 a0 12) <| (F_X12_noBoard N M1 a0 x1).bind fun r2 =>
    if r2.1 = 0 then (
      kg (kt r2.2 a0 12) <| (F_X12_torqueOf N r2.2 a0 x1).bind fun r3 =>
      kg (kt r2.2 a0 12) <| (F_X12_tiltBy N r2.2 a0 x1 r3).bind fun r4 =>
      some (r4, r2.2)) else
    some (0, r2.2)
def F_X12_isBalanced (N : Nat) (M : kMem) (a0 : Nat) (x1 : Int32) : Option (Int32 × kMem) :=
    kg (kt M a0 12) <| kl (ksI M a0 6 0) fun M1 =>
    kg (kt M1 a0 12) <| (F_X12_noBoard N M1 a0 x1).bind fun r2 =>
    if r2.1 = 0 then (
      kg (kt r2.2 a0 12) <| (F_X12_torqueOf N r2.2 a0 x1).bind fun r3 =>
      if r3 = 0 then (
        some (1, r2.2)) else
      some (0, r2.2)) else
    some (0, r2.2)
def F_X12_seatOwner (N : Nat) (M : kMem) (a0 : Nat) (x1 : Int32) (x2 : Int32) : Option (Int32 × kMem) :=
    kg (kt M a0 12) <| kl (ksI M a0 6 0) fun M1 =>
    kg (kt M1 a0 12) <| (F_X12_noSeat N M1 a0 x1 x2).bind fun r2 =>
    if r2.1 = 0 then (
      kg (kt r2.2 a0 12) <| (F_X12_onSeat N r2.2 a0 x1 x2).bind fun r3 =>
      some (r3, r2.2)) else
    some (0, r2.2)
def F_X12_seatHeight (N : Nat) (M : kMem) (a0 : Nat) (x1 : Int32) (x2 : Int32) : Option (Int32 × kMem) :=
    kg (kt M a0 12) <| kl (ksI M a0 6 0) fun M1 =>
    kg (kt M1 a0 12) <| (F_X12_noSeat N M1 a0 x1 x2).bind fun r2 =>
    if r2.1 = 0 then (
      kg (kt r2.2 a0 12) <| (F_X12_height N r2.2 a0 x1 x2).bind fun r3 =>
      some (r3, r2.2)) else
    some (0, r2.2)
def F_X12_seatPrice (N : Nat) (M : kMem) (a0 : Nat) (x1 : Int32) (x2 : Int32) : Option (Int32 × kMem) :=
    kg (kt M a0 12) <| kl (ksI M a0 6 0) fun M1 =>
    kg (kt M1 a0 12) <| (F_X12_noSeat N M1 a0 x1 x2).bind fun r2 =>
    if r2.1 = 0 then (
      kg (kt r2.2 a0 12) <| (F_X12_price N r2.2 a0 x1 x2).bind fun r3 =>
      some (r3, r2.2)) else
    some (0, r2.2)
def F_X12_balancingSeat_90 (N : Nat) (k58 : kMem → Nat → Int32 → Int32 → Int32 → Int32 → Int32 → Option (Int32 × kMem)) (M : kMem) (a0 : Nat) (x1 : Int32) (x2 : Int32) (x3 : Int32) (x4 : Int32) (x5 : Int32) (y0 : Int32) : Option (Int32 × kMem) :=
    if y0 = 0 then (
      kl (x5 + 1) fun v9 =>
      k58 M a0 x1 x2 x3 x4 v9) else
    if x3 = 0 then (
      kl (x5 + 1) fun v10 =>
      k58 M a0 x1 x2 x5 x4 v10) else
    (F_X12_bare N M (x4 + (x5 * x2))).bind fun r11 =>
    (F_X12_bare N M (x4 + (x3 * x2))).bind fun r12 =>
    if r11 < r12 then (
      kl (x5 + 1) fun v14 =>
      k58 M a0 x1 x2 x5 x4 v14) else
    kl (x5 + 1) fun v13 =>
    k58 M a0 x1 x2 x3 x4 v13
def F_X12_balancingSeat_89 (N : Nat) (k58 : kMem → Nat → Int32 → Int32 → Int32 → Int32 → Int32 → Option (Int32 × kMem)) (M : kMem) (a0 : Nat) (x1 : Int32) (x2 : Int32) (x3 : Int32) (x4 : Int32) (x5 : Int32) : Option (Int32 × kMem) :=
    F_X12_balancingSeat_90 N k58 M a0 x1 x2 x3 x4 x5 0
def F_X12_balancingSeat_58 (N : Nat) : Nat → kMem → Nat → Int32 → Int32 → Int32 → Int32 → Int32 → Option (Int32 × kMem)
  | 0, _, _, _, _, _, _, _ => none
  | n + 1, M, a0, x1, x2, x3, x4, x5 =>
    kg (kt M a0 12) <| (F_X12_ofBoard N M a0 x1 0).bind fun r8 =>
    if r8 < x5 then (
      some (x3, M)) else
    if x5 = 0 then (
      F_X12_balancingSeat_89 N (fun M a0 x1 x2 x3 x4 x5 => F_X12_balancingSeat_58 N n M a0 x1 x2 x3 x4 x5) M a0 x1 x2 x3 x4 x5) else
    kg (kt M a0 12) <| (F_X12_onSeat N M a0 x1 x5).bind fun r15 =>
    if r15 = (-1) then (
      F_X12_balancingSeat_90 N (fun M a0 x1 x2 x3 x4 x5 => F_X12_balancingSeat_58 N n M a0 x1 x2 x3 x4 x5) M a0 x1 x2 x3 x4 x5 1) else
    F_X12_balancingSeat_89 N (fun M a0 x1 x2 x3 x4 x5 => F_X12_balancingSeat_58 N n M a0 x1 x2 x3 x4 x5) M a0 x1 x2 x3 x4 x5
def F_X12_balancingSeat_31 (N : Nat) (M : kMem) (a0 : Nat) (x1 : Int32) (x2 : Int32) (y0 : Nat) (y1 : Int32) : Option (Int32 × kMem) :=
    kg (kt M y0 12) <| (F_X12_stops N M y0 y1 2).bind fun r4 =>
    if r4.1 = 0 then (
      kg (kt r4.2 a0 12) <| (F_X12_torqueOf N r4.2 a0 x1).bind fun r5 =>
      kg (kt r4.2 a0 12) <| (F_X12_ofBoard N r4.2 a0 x1 0).bind fun r6 =>
      kl (-r6) fun v7 =>
      F_X12_balancingSeat_58 N N r4.2 a0 x1 x2 0 r5 v7) else
    some (0, r4.2)
def F_X12_balancingSeat (N : Nat) (M : kMem) (a0 : Nat) (x1 : Int32) (x2 : Int32) : Option (Int32 × kMem) :=
    kg (kt M a0 12) <| kl (ksI M a0 6 0) fun M1 =>
    kg (kt M1 a0 12) <| (F_X12_noBoard N M1 a0 x1).bind fun r2 =>
    if r2.1 = 0 then (
      (F_X12_in N r2.2 x2.toInt64 1 99).bind fun r3 =>
      if r3 = 0 then (
        F_X12_balancingSeat_31 N r2.2 a0 x1 x2 a0 1) else
      F_X12_balancingSeat_31 N r2.2 a0 x1 x2 a0 0) else
    some (0, r2.2)
def F_X12_traderCount (N : Nat) (M : kMem) (a0 : Nat) : Option (Int32 × kMem) :=
    kg (kt M a0 12) <| kl (ksI M a0 6 0) fun M1 =>
    kg (kt M1 a0 12) <|
    kg (kin M1 (kR M1 a0 0) 13 8) <|
    some (kI M1 (kR M1 a0 0) (kx 8), M1)
def F_X12_findTrader (N : Nat) (M : kMem) (a0 : Nat) : Option (Int32 × kMem) :=
    kg (kt M a0 12) <| kl (ksI M a0 6 0) fun M1 =>
    kg (kt M1 a0 12) <| (F_X12_wholeName N M1 a0).bind fun r2 =>
    if r2 = 0 then (
      some ((-1), M1)) else
    kg (kt M1 a0 12) <| (F_X12_traderNamed N M1 a0 r2).bind fun r3 =>
    some (r3, M1)
def F_X12_lettersOf_4 (N : Nat) (M : kMem) : Nat → Int32 → Int32 → Option (Int32)
  | 0, _, _ => none
  | n + 1, x1, x2 =>
    if (0 : Int32) < x2 then (
      kl (x1 + 1) fun v1 =>
      kl (x2 >>> (5 &&& 31)) fun v2 =>
      F_X12_lettersOf_4 N M n v1 v2) else
    some x1
def F_X12_lettersOf (N : Nat) (M : kMem) (x0 : Int32) : Option (Int32) :=
    F_X12_lettersOf_4 N M N 0 x0
def F_X12_letterOf (N : Nat) (M : kMem) (x0 : Int32) (x1 : Int32) : Option (Int32) :=
    (F_X12_lettersOf N M x0).bind fun r1 =>
    (F_X12_in N M x1.toInt64 0 ((r1 - 1).toInt64)).bind fun r2 =>
    if r2 = 0 then (
      some (-1)) else
    some (((x0 >>> ((5 * ((r1 - 1) - x1)) &&& 31)) &&& 31) + 96)
def F_X12_nameLetter (N : Nat) (M : kMem) (a0 : Nat) (x1 : Int32) (x2 : Int32) : Option (Int32 × kMem) :=
    kg (kt M a0 12) <| kl (ksI M a0 6 0) fun M1 =>
    kg (kt M1 a0 12) <| (F_X12_noTrader N M1 a0 x1).bind fun r2 =>
    if r2.1 = 0 then (
      kg (kt r2.2 a0 12) <| (F_X12_has N r2.2 a0 x1 0).bind fun r3 =>
      (F_X12_letterOf N r2.2 r3 x2).bind fun r4 =>
      some (r4, r2.2)) else
    some (0, r2.2)
def F_X12_asked (N : Nat) (M : kMem) (a0 : Nat) (x1 : Int32) (x2 : Int32) : Option (Int32 × kMem) :=
    kg (kt M a0 12) <| kl (ksI M a0 6 0) fun M1 =>
    kg (kt M1 a0 12) <| (F_X12_noTrader N M1 a0 x1).bind fun r2 =>
    if r2.1 = 0 then (
      kg (kt r2.2 a0 12) <| (F_X12_has N r2.2 a0 x1 x2).bind fun r3 =>
      some (r3, r2.2)) else
    some (0, r2.2)
def F_X12_weightOf (N : Nat) (M : kMem) (a0 : Nat) (x1 : Int32) : Option (Int32 × kMem) :=
    kg (kt M a0 12) <| (F_X12_asked N M a0 x1 1).bind fun r1 =>
    some (r1.1, r1.2)
def F_X12_purseOf (N : Nat) (M : kMem) (a0 : Nat) (x1 : Int32) : Option (Int32 × kMem) :=
    kg (kt M a0 12) <| (F_X12_asked N M a0 x1 2).bind fun r1 =>
    some (r1.1, r1.2)
def F_X12_ageOf (N : Nat) (M : kMem) (a0 : Nat) (x1 : Int32) : Option (Int32 × kMem) :=
    kg (kt M a0 12) <| (F_X12_asked N M a0 x1 3).bind fun r1 =>
    some (r1.1, r1.2)
def F_X12_isPresent (N : Nat) (M : kMem) (a0 : Nat) (x1 : Int32) : Option (Int32 × kMem) :=
    kg (kt M a0 12) <| kl (ksI M a0 6 0) fun M1 =>
    kg (kt M1 a0 12) <| (F_X12_noTrader N M1 a0 x1).bind fun r2 =>
    if r2.1 = 0 then (
      kg (kt r2.2 a0 12) <| (F_X12_has N r2.2 a0 x1 4).bind fun r3 =>
      if r3 = 1 then (
        some (1, r2.2)) else
      some (0, r2.2)) else
    some (0, r2.2)
def F_X12_boardOf (N : Nat) (M : kMem) (a0 : Nat) (x1 : Int32) : Option (Int32 × kMem) :=
    kg (kt M a0 12) <| (F_X12_asked N M a0 x1 5).bind fun r1 =>
    some (r1.1, r1.2)
def F_X12_positionOf (N : Nat) (M : kMem) (a0 : Nat) (x1 : Int32) : Option (Int32 × kMem) :=
    kg (kt M a0 12) <| (F_X12_asked N M a0 x1 6).bind fun r1 =>
    some (r1.1, r1.2)
def F_X12_incomeOf (N : Nat) (M : kMem) (a0 : Nat) (x1 : Int32) : Option (Int32 × kMem) :=
    kg (kt M a0 12) <| kl (ksI M a0 6 0) fun M1 =>
    kg (kt M1 a0 12) <| (F_X12_noTrader N M1 a0 x1).bind fun r2 =>
    if r2.1 = 0 then (
      kg (kt r2.2 a0 12) <| (F_X12_isSeated N r2.2 a0 x1).bind fun r3 =>
      if r3 = 0 then (
        some (0, r2.2)) else
      kg (kt r2.2 a0 12) <|
      kg (kin r2.2 (kR r2.2 a0 0) 13 0) <|
      kg (kt r2.2 a0 12) <| (F_X12_ownHeight N r2.2 a0 x1).bind fun r4 =>
      some ((kI r2.2 (kR r2.2 a0 0) (kx 0)) + r4, r2.2)) else
    some (0, r2.2)
def F_X12_isRicher (N : Nat) (M : kMem) (a0 : Nat) (x1 : Int32) (x2 : Int32) : Option (Int32) :=
    kg (kt M a0 12) <| (F_X12_has N M a0 x1 2).bind fun r1 =>
    kg (kt M a0 12) <| (F_X12_has N M a0 x2 2).bind fun r2 =>
    if r2 < r1 then (
      some 1) else
    kg (kt M a0 12) <| (F_X12_has N M a0 x1 2).bind fun r3 =>
    kg (kt M a0 12) <| (F_X12_has N M a0 x2 2).bind fun r4 =>
    if r3 = r4 then (
      if x1 < x2 then (
        some 1) else
      some 0) else
    some 0
def F_X12_richerThan_4 (N : Nat) (M : kMem) : Nat → Nat → Int32 → Int32 → Int32 → Option (Int32)
  | 0, _, _, _, _ => none
  | n + 1, a0, x1, x2, x3 =>
    kg (kt M a0 12) <|
    kg (kin M (kR M a0 0) 13 8) <|
    if x3 < (kI M (kR M a0 0) (kx 8)) then (
      if x3 = x1 then (
        (F_X12_flag N M 0).bind fun r1 =>
        kl (x2 + r1) fun v2 =>
        kl (x3 + 1) fun v3 =>
        F_X12_richerThan_4 N M n a0 x1 v2 v3) else
      kg (kt M a0 12) <| (F_X12_has N M a0 x3 4).bind fun r4 =>
      if r4 = 1 then (
        kg (kt M a0 12) <| (F_X12_isRicher N M a0 x3 x1).bind fun r8 =>
        if r8 = 0 then (
          (F_X12_flag N M 0).bind fun r9 =>
          kl (x2 + r9) fun v10 =>
          kl (x3 + 1) fun v11 =>
          F_X12_richerThan_4 N M n a0 x1 v10 v11) else
        (F_X12_flag N M 1).bind fun r12 =>
        kl (x2 + r12) fun v13 =>
        kl (x3 + 1) fun v14 =>
        F_X12_richerThan_4 N M n a0 x1 v13 v14) else
      (F_X12_flag N M 0).bind fun r5 =>
      kl (x2 + r5) fun v6 =>
      kl (x3 + 1) fun v7 =>
      F_X12_richerThan_4 N M n a0 x1 v6 v7) else
    some x2
def F_X12_richerThan (N : Nat) (M : kMem) (a0 : Nat) (x1 : Int32) : Option (Int32) :=
    F_X12_richerThan_4 N M N a0 x1 0 0
def F_X12_richestAt_7 (N : Nat) : Nat → kMem → Nat → Int32 → Int32 → Option (Int32 × kMem)
  | 0, _, _, _, _ => none
  | n + 1, M, a0, x1, x2 =>
    kg (kt M a0 12) <|
    kg (kin M (kR M a0 0) 13 8) <|
    if x2 < (kI M (kR M a0 0) (kx 8)) then (
      kg (kt M a0 12) <| (F_X12_has N M a0 x2 4).bind fun r2 =>
      if r2 = 1 then (
        kg (kt M a0 12) <| (F_X12_richerThan N M a0 x2).bind fun r4 =>
        if r4 = x1 then (
          some (x2, M)) else
        kl (x2 + 1) fun v5 =>
        F_X12_richestAt_7 N n M a0 x1 v5) else
      kl (x2 + 1) fun v3 =>
      F_X12_richestAt_7 N n M a0 x1 v3) else
    some ((-1), M)
def F_X12_richestAt (N : Nat) (M : kMem) (a0 : Nat) (x1 : Int32) : Option (Int32 × kMem) :=
    kg (kt M a0 12) <| kl (ksI M a0 6 0) fun M1 =>
    F_X12_richestAt_7 N N M1 a0 x1 0
def F_X12_reasonAgainstSeat (N : Nat) (M : kMem) (a0 : Nat) (x1 : Int32) (x2 : Int32) (x3 : Int32) : Option (Int32 × kMem) :=
    kg (kt M a0 12) <| kl (ksI M a0 6 0) fun M1 =>
    kg (kt M1 a0 12) <| (F_X12_noTrader N M1 a0 x1).bind fun r2 =>
    if r2.1 = 0 then (
      kg (kt r2.2 a0 12) <| (F_X12_noSeat N r2.2 a0 x2 x3).bind fun r3 =>
      if r3.1 = 0 then (
        kg (kt r3.2 a0 12) <| (F_X12_againstSeat N r3.2 a0 x1 x2 x3).bind fun r4 =>
        some (r4, r3.2)) else
      some (0, r3.2)) else
    some (0, r2.2)
def F_X12_reasonAgainstSale (N : Nat) (M : kMem) (a0 : Nat) (x1 : Int32) (x2 : Int32) (x3 : Int32) : Option (Int32 × kMem) :=
    kg (kt M a0 12) <| kl (ksI M a0 6 0) fun M1 =>
    kg (kt M1 a0 12) <| (F_X12_noSale N M1 a0 x1 x2 x3).bind fun r2 =>
    if r2.1 = 0 then (
      kg (kt r2.2 a0 12) <| (F_X12_againstSale N r2.2 a0 x1 x2 x3).bind fun r3 =>
      some (r3, r2.2)) else
    some (0, r2.2)
def F_X12_reasonAgainstSwap (N : Nat) (M : kMem) (a0 : Nat) (x1 : Int32) (x2 : Int32) : Option (Int32 × kMem) :=
    kg (kt M a0 12) <| kl (ksI M a0 6 0) fun M1 =>
    kg (kt M1 a0 12) <| (F_X12_noPair N M1 a0 x1 x2).bind fun r2 =>
    if r2.1 = 0 then (
      kg (kt r2.2 a0 12) <| (F_X12_againstSwap N r2.2 a0 x1 x2).bind fun r3 =>
      some (r3, r2.2)) else
    some (0, r2.2)
def F_X12_weightUnitPrice_43 (N : Nat) (M : kMem) (a0 : Nat) (x1 : Int32) (x2 : Int32) (y0 : Nat) (y1 : Int32) : Option (Int32 × kMem) :=
    kg (kt M y0 12) <| (F_X12_stops N M y0 y1 2).bind fun r5 =>
    if r5.1 = 0 then (
      kg (kt r5.2 a0 12) <| (F_X12_unitPrice N r5.2 a0 x1 x2).bind fun r6 =>
      some (r6, r5.2)) else
    some (0, r5.2)
def F_X12_weightUnitPrice_38 (N : Nat) (M : kMem) (a0 : Nat) (x1 : Int32) (x2 : Int32) (y0 : Nat) : Option (Int32 × kMem) :=
    F_X12_weightUnitPrice_43 N M a0 x1 x2 y0 1
def F_X12_weightUnitPrice (N : Nat) (M : kMem) (a0 : Nat) (x1 : Int32) (x2 : Int32) : Option (Int32 × kMem) :=
    kg (kt M a0 12) <| kl (ksI M a0 6 0) fun M1 =>
    kg (kt M1 a0 12) <| (F_X12_noTrader N M1 a0 x1).bind fun r2 =>
    if r2.1 = 0 then (
      kg (kt r2.2 a0 12) <| (F_X12_noTrader N r2.2 a0 x2).bind fun r3 =>
      if r3.1 = 0 then (
        kg (kt r3.2 a0 12) <| (F_X12_isSeated N r3.2 a0 x1).bind fun r4 =>
        if r4 = 0 then (
          F_X12_weightUnitPrice_38 N r3.2 a0 x1 x2 a0) else
        kg (kt r3.2 a0 12) <| (F_X12_isSeated N r3.2 a0 x2).bind fun r7 =>
        if r7 = 0 then (
          F_X12_weightUnitPrice_38 N r3.2 a0 x1 x2 a0) else
        F_X12_weightUnitPrice_43 N r3.2 a0 x1 x2 a0 0) else
      some (0, r3.2)) else
    some (0, r2.2)
def F_X12_incomeOn (N : Nat) (M : kMem) (a0 : Nat) (x1 : Int32) (x2 : Int32) (x3 : Int32) : Option (Int32) :=
    kg (kt M a0 12) <|
    kg (kin M (kR M a0 0) 13 0) <|
    kg (kt M a0 12) <| (F_X12_torqueWith N M a0 x1 x2 x3).bind fun r1 =>
    kg (kt M a0 12) <| (F_X12_tiltBy N M a0 x2 r1).bind fun r2 =>
    some ((kI M (kR M a0 0) (kx 0)) - (x3 * r2))
def F_X12_bestSeat_66 (N : Nat) (k34 : kMem → Nat → Int32 → Int32 → Int32 → Int32 → Option (Int32 × kMem)) (M : kMem) (a0 : Nat) (x1 : Int32) (x2 : Int32) (x3 : Int32) (x4 : Int32) (y0 : Int32) : Option (Int32 × kMem) :=
    if y0 = 0 then (
      kl (x4 + 1) fun v7 =>
      k34 M a0 x1 x2 x3 v7) else
    if x3 = 0 then (
      kl (x4 + 1) fun v8 =>
      k34 M a0 x1 x2 x4 v8) else
    kg (kt M a0 12) <| (F_X12_incomeOn N M a0 x1 x2 x4).bind fun r9 =>
    kg (kt M a0 12) <| (F_X12_incomeOn N M a0 x1 x2 x3).bind fun r10 =>
    if r10 < r9 then (
      kl (x4 + 1) fun v12 =>
      k34 M a0 x1 x2 x4 v12) else
    kl (x4 + 1) fun v11 =>
    k34 M a0 x1 x2 x3 v11
def F_X12_bestSeat_65 (N : Nat) (k34 : kMem → Nat → Int32 → Int32 → Int32 → Int32 → Option (Int32 × kMem)) (M : kMem) (a0 : Nat) (x1 : Int32) (x2 : Int32) (x3 : Int32) (x4 : Int32) : Option (Int32 × kMem) :=
    F_X12_bestSeat_66 N k34 M a0 x1 x2 x3 x4 0
def F_X12_bestSeat_34 (N : Nat) : Nat → kMem → Nat → Int32 → Int32 → Int32 → Int32 → Option (Int32 × kMem)
  | 0, _, _, _, _, _, _ => none
  | n + 1, M, a0, x1, x2, x3, x4 =>
    kg (kt M a0 12) <| (F_X12_ofBoard N M a0 x2 0).bind fun r6 =>
    if r6 < x4 then (
      some (x3, M)) else
    if x4 = 0 then (
      F_X12_bestSeat_65 N (fun M a0 x1 x2 x3 x4 => F_X12_bestSeat_34 N n M a0 x1 x2 x3 x4) M a0 x1 x2 x3 x4) else
    kg (kt M a0 12) <| (F_X12_againstSeat N M a0 x1 x2 x4).bind fun r13 =>
    if r13 = 0 then (
      F_X12_bestSeat_66 N (fun M a0 x1 x2 x3 x4 => F_X12_bestSeat_34 N n M a0 x1 x2 x3 x4) M a0 x1 x2 x3 x4 1) else
    F_X12_bestSeat_65 N (fun M a0 x1 x2 x3 x4 => F_X12_bestSeat_34 N n M a0 x1 x2 x3 x4) M a0 x1 x2 x3 x4
def F_X12_bestSeat (N : Nat) (M : kMem) (a0 : Nat) (x1 : Int32) (x2 : Int32) : Option (Int32 × kMem) :=
    kg (kt M a0 12) <| kl (ksI M a0 6 0) fun M1 =>
    kg (kt M1 a0 12) <| (F_X12_noTrader N M1 a0 x1).bind fun r2 =>
    if r2.1 = 0 then (
      kg (kt r2.2 a0 12) <| (F_X12_noBoard N r2.2 a0 x2).bind fun r3 =>
      if r3.1 = 0 then (
        kg (kt r3.2 a0 12) <| (F_X12_ofBoard N r3.2 a0 x2 0).bind fun r4 =>
        kl (-r4) fun v5 =>
        F_X12_bestSeat_34 N N r3.2 a0 x1 x2 0 v5) else
      some (0, r3.2)) else
    some (0, r2.2)
def F_X12_seatsSold (N : Nat) (M : kMem) (a0 : Nat) : Option (Int32 × kMem) :=
    kg (kt M a0 12) <| kl (ksI M a0 6 0) fun M1 =>
    kg (kt M1 a0 12) <|
    kg (kin M1 (kR M1 a0 0) 13 10) <|
    some (kI M1 (kR M1 a0 0) (kx 10), M1)
def F_X12_weightSold (N : Nat) (M : kMem) (a0 : Nat) : Option (Int32 × kMem) :=
    kg (kt M a0 12) <| kl (ksI M a0 6 0) fun M1 =>
    kg (kt M1 a0 12) <|
    kg (kin M1 (kR M1 a0 0) 13 11) <|
    some (kI M1 (kR M1 a0 0) (kx 11), M1)
def F_X12_fallCount (N : Nat) (M : kMem) (a0 : Nat) : Option (Int32 × kMem) :=
    kg (kt M a0 12) <| kl (ksI M a0 6 0) fun M1 =>
    kg (kt M1 a0 12) <|
    kg (kin M1 (kR M1 a0 0) 13 12) <|
    some (kI M1 (kR M1 a0 0) (kx 12), M1)
def F_X12_averagePurse_11 (N : Nat) : Nat → kMem → Nat → Int32 → Int32 → Int32 → Option (UInt64 × kMem)
  | 0, _, _, _, _, _ => none
  | n + 1, M, a0, x1, x2, x3 =>
    kg (kt M a0 12) <|
    kg (kin M (kR M a0 0) 13 8) <|
    if x3 < (kI M (kR M a0 0) (kx 8)) then (
      kg (kt M a0 12) <| (F_X12_has N M a0 x3 4).bind fun r2 =>
      kl (x1 + r2) fun v3 =>
      kg (kt M a0 12) <| (F_X12_has N M a0 x3 4).bind fun r4 =>
      kg (kt M a0 12) <| (F_X12_has N M a0 x3 2).bind fun r5 =>
      kl (x2 + (r4 * r5)) fun v6 =>
      kl (x3 + 1) fun v7 =>
      F_X12_averagePurse_11 N n M a0 v3 v6 v7) else
    if x1 = 0 then (
      some (FP.dconst0, M)) else
    kg (decide (FP.ddiv (FP.i2d x2) (FP.i2d x1) &&& 0x7fffffffffffffff ≤ 0x7ff0000000000000)) <|
    some (FP.ddiv (FP.i2d x2) (FP.i2d x1), M)
def F_X12_averagePurse (N : Nat) (M : kMem) (a0 : Nat) : Option (UInt64 × kMem) :=
    kg (kt M a0 12) <| kl (ksI M a0 6 0) fun M1 =>
    F_X12_averagePurse_11 N N M1 a0 0 0 0
def F_X12_occupancy_41 (N : Nat) : Nat → kMem → Nat → Int32 → Int32 → Int32 → Option (UInt32 × kMem)
  | 0, _, _, _, _, _ => none
  | n + 1, M, a0, x1, x2, x3 =>
    kg (kt M a0 12) <|
    kg (kin M (kR M a0 0) 13 8) <|
    if x3 < (kI M (kR M a0 0) (kx 8)) then (
      kg (kt M a0 12) <| (F_X12_isSeated N M a0 x3).bind fun r2 =>
      (F_X12_flag N M r2).bind fun r3 =>
      kl (x2 + r3) fun v4 =>
      kl (x3 + 1) fun v5 =>
      F_X12_occupancy_41 N n M a0 x1 v4 v5) else
    if x1 = 0 then (
      some (FP.fconst0, M)) else
    kg (decide (FP.fdiv (FP.i2f x2) (FP.i2f x1) &&& 0x7fffffff ≤ 0x7f800000)) <|
    some (FP.fdiv (FP.i2f x2) (FP.i2f x1), M)
def F_X12_occupancy_11 (N : Nat) : Nat → kMem → Nat → Int32 → Int32 → Int32 → Option (UInt32 × kMem)
  | 0, _, _, _, _, _ => none
  | n + 1, M, a0, x1, x2, x3 =>
    kg (kt M a0 12) <|
    kg (kin M (kR M a0 0) 13 7) <|
    if x3 < (kI M (kR M a0 0) (kx 7)) then (
      kg (kt M a0 12) <| (F_X12_ofBoard N M a0 x3 0).bind fun r6 =>
      kl (x1 + (2 * r6)) fun v7 =>
      kl (x3 + 1) fun v8 =>
      F_X12_occupancy_11 N n M a0 v7 x2 v8) else
    F_X12_occupancy_41 N N M a0 x1 x2 0
def F_X12_occupancy (N : Nat) (M : kMem) (a0 : Nat) : Option (UInt32 × kMem) :=
    kg (kt M a0 12) <| kl (ksI M a0 6 0) fun M1 =>
    F_X12_occupancy_11 N N M1 a0 0 0 0
def F_X12_weightOn (N : Nat) (M : kMem) (a0 : Nat) (x1 : Int32) (x2 : Int32) : Option (Int32) :=
    kg (kt M a0 12) <| (F_X12_onSeat N M a0 x1 x2).bind fun r1 =>
    if r1 = (-1) then (
      some 0) else
    kg (kt M a0 12) <| (F_X12_onSeat N M a0 x1 x2).bind fun r2 =>
    kg (kt M a0 12) <| (F_X12_has N M a0 r2 1).bind fun r3 =>
    some r3
def F_X12_torqueByDistances_17 (N : Nat) (M : kMem) (k4 : Nat → Int32 → Int32 → Int32 → Option (Int32)) : Nat → Nat → Int32 → Int32 → Int32 → Int32 → Option (Int32)
  | 0, _, _, _, _, _ => none
  | n + 1, a0, x1, x2, x3, x4 =>
    kg (kt M a0 12) <| (F_X12_ofBoard N M a0 x1 0).bind fun r2 =>
    if r2 < x4 then (
      kl (x3 + 1) fun v3 =>
      k4 a0 x1 x2 v3) else
    kg (kt M a0 12) <| (F_X12_weightOn N M a0 x1 x4).bind fun r4 =>
    kg (kt M a0 12) <| (F_X12_weightOn N M a0 x1 (-x4)).bind fun r5 =>
    kl (x2 + (r4 - r5)) fun v6 =>
    kl (x4 + 1) fun v7 =>
    F_X12_torqueByDistances_17 N M k4 n a0 x1 v6 x3 v7
def F_X12_torqueByDistances_4 (N : Nat) (M : kMem) : Nat → Nat → Int32 → Int32 → Int32 → Option (Int32)
  | 0, _, _, _, _ => none
  | n + 1, a0, x1, x2, x3 =>
    kg (kt M a0 12) <| (F_X12_ofBoard N M a0 x1 0).bind fun r1 =>
    if r1 < x3 then (
      some x2) else
    F_X12_torqueByDistances_17 N M (fun a0 x1 x2 x3 => F_X12_torqueByDistances_4 N M n a0 x1 x2 x3) N a0 x1 x2 x3 x3
def F_X12_torqueByDistances (N : Nat) (M : kMem) (a0 : Nat) (x1 : Int32) : Option (Int32) :=
    F_X12_torqueByDistances_4 N M N a0 x1 0 1
def F_X12_wrongSeats_10 (N : Nat) (M : kMem) : Nat → Nat → Int32 → Int32 → Int32 → Option (Int32)
  | 0, _, _, _, _ => none
  | n + 1, a0, x1, x2, x3 =>
    kg (kt M a0 12) <| (F_X12_ofBoard N M a0 x1 0).bind fun r3 =>
    if r3 < x3 then (
      some x2) else
    if x3 = 0 then (
      kl (x3 + 1) fun v4 =>
      F_X12_wrongSeats_10 N M n a0 x1 x2 v4) else
    kg (kt M a0 12) <| (F_X12_onSeat N M a0 x1 x3).bind fun r5 =>
    if r5 = (-1) then (
      kl (x3 + 1) fun v6 =>
      F_X12_wrongSeats_10 N M n a0 x1 x2 v6) else
    kg (kt M a0 12) <| (F_X12_onSeat N M a0 x1 x3).bind fun r7 =>
    kg (kt M a0 12) <| (F_X12_has N M a0 r7 5).bind fun r8 =>
    if r8 = x1 then (
      kg (kt M a0 12) <| (F_X12_onSeat N M a0 x1 x3).bind fun r12 =>
      kg (kt M a0 12) <| (F_X12_has N M a0 r12 6).bind fun r13 =>
      if r13 = x3 then (
        (F_X12_flag N M 0).bind fun r14 =>
        kl (x2 + r14) fun v15 =>
        kl (x3 + 1) fun v16 =>
        F_X12_wrongSeats_10 N M n a0 x1 v15 v16) else
      (F_X12_flag N M 1).bind fun r17 =>
      kl (x2 + r17) fun v18 =>
      kl (x3 + 1) fun v19 =>
      F_X12_wrongSeats_10 N M n a0 x1 v18 v19) else
    (F_X12_flag N M 1).bind fun r9 =>
    kl (x2 + r9) fun v10 =>
    kl (x3 + 1) fun v11 =>
    F_X12_wrongSeats_10 N M n a0 x1 v10 v11
def F_X12_wrongSeats (N : Nat) (M : kMem) (a0 : Nat) (x1 : Int32) : Option (Int32) :=
    kg (kt M a0 12) <| (F_X12_ofBoard N M a0 x1 0).bind fun r1 =>
    kl (-r1) fun v2 =>
    F_X12_wrongSeats_10 N M N a0 x1 0 v2
def F_X12_contradictions_23 (N : Nat) : Nat → kMem → Nat → Int32 → Int32 → Option (Int32 × kMem)
  | 0, _, _, _, _ => none
  | n + 1, M, a0, x1, x2 =>
    kg (kt M a0 12) <|
    kg (kin M (kR M a0 0) 13 7) <|
    if x2 < (kI M (kR M a0 0) (kx 7)) then (
      kg (kt M a0 12) <| (F_X12_torqueOf N M a0 x2).bind fun r4 =>
      kg (kt M a0 12) <| (F_X12_torqueByDistances N M a0 x2).bind fun r5 =>
      (F_X12_bare N M (r4 - r5)).bind fun r6 =>
      kg (kt M a0 12) <| (F_X12_wrongSeats N M a0 x2).bind fun r7 =>
      kl (x1 + (r6 + r7)) fun v8 =>
      kl (x2 + 1) fun v9 =>
      F_X12_contradictions_23 N n M a0 v8 v9) else
    some (x1, M)
def F_X12_contradictions (N : Nat) (M : kMem) (a0 : Nat) : Option (Int32 × kMem) :=
    kg (kt M a0 12) <| kl (ksI M a0 6 0) fun M1 =>
    kg (kt M1 a0 12) <|
    kg (kin M1 (kR M1 a0 0) 13 9) <|
    kg (kt M1 a0 12) <| (F_X12_allCoins N M1 a0).bind fun r2 =>
    (F_X12_bare N M1 ((kI M1 (kR M1 a0 0) (kx 9)) - r2)).bind fun r3 =>
    F_X12_contradictions_23 N N M1 a0 r3 0
def F_X12_ofEvent (N : Nat) (M : kMem) (a0 : Nat) (x1 : Int32) (x2 : Int32) : Option (Int32 × kMem) :=
    kg (kt M a0 12) <| kl (ksI M a0 6 0) fun M1 =>
    kg (kt M1 a0 12) <|
    kg (kin M1 (kR M1 a0 0) 13 13) <|
    (F_X12_in N M1 x1.toInt64 0 (((kI M1 (kR M1 a0 0) (kx 13)) - 1).toInt64)).bind fun r2 =>
    if r2 = 0 then (
      some ((-1), M1)) else
    kg (kt M1 a0 12) <|
    kg (kin M1 (kR M1 a0 0) 13 ((257 + (3 * x1)) + x2)) <|
    some (kI M1 (kR M1 a0 0) (kx ((257 + (3 * x1)) + x2)), M1)
def F_X12_eventKind (N : Nat) (M : kMem) (a0 : Nat) (x1 : Int32) : Option (Int32 × kMem) :=
    kg (kt M a0 12) <| (F_X12_ofEvent N M a0 x1 0).bind fun r1 =>
    some (r1.1, r1.2)
def F_X12_eventTrader (N : Nat) (M : kMem) (a0 : Nat) (x1 : Int32) : Option (Int32 × kMem) :=
    kg (kt M a0 12) <| (F_X12_ofEvent N M a0 x1 1).bind fun r1 =>
    some (r1.1, r1.2)
def F_X12_eventDay (N : Nat) (M : kMem) (a0 : Nat) (x1 : Int32) : Option (Int32 × kMem) :=
    kg (kt M a0 12) <| (F_X12_ofEvent N M a0 x1 2).bind fun r1 =>
    some (r1.1, r1.2)
def F_X12_behind (N : Nat) (M : kMem) (a0 : Nat) (x1 : Int32) (x2 : Int32) : Option (Int32 × kMem) :=
    kg (kt M a0 12) <|
    kg (kt M a0 12) <|
    (F_X12_copies N M (kR M a0 0) 0 (kR M a0 1) 0).bind fun M1 =>
    kg (kt M1 a0 12) <| (F_X12_days1 N M1 a0 x2).bind fun r2 =>
    kl r2.1 fun v3 =>
    kg (kt r2.2 a0 12) <|
    kg (kin r2.2 (kR r2.2 a0 0) 13 x1) <|
    kl (kI r2.2 (kR r2.2 a0 0) (kx x1)) fun v4 =>
    kg (kt r2.2 a0 12) <|
    kg (kt r2.2 a0 12) <|
    (F_X12_copies N r2.2 (kR r2.2 a0 1) 0 (kR r2.2 a0 0) 0).bind fun M5 =>
    some (v4, M5)
def F_X12_purseAfter_31 (N : Nat) (M : kMem) (a0 : Nat) (x1 : Int32) (x2 : Int32) (y0 : Nat) (y1 : Int32) : Option (Int32 × kMem) :=
    kg (kt M y0 12) <| (F_X12_stops N M y0 y1 2).bind fun r4 =>
    if r4.1 = 0 then (
      (F_X12_atTrader N r4.2 x1 2).bind fun r5 =>
      kg (kt r4.2 a0 12) <| (F_X12_behind N r4.2 a0 r5 x2).bind fun r6 =>
      some (r6.1, r6.2)) else
    some (0, r4.2)
def F_X12_purseAfter (N : Nat) (M : kMem) (a0 : Nat) (x1 : Int32) (x2 : Int32) : Option (Int32 × kMem) :=
    kg (kt M a0 12) <| kl (ksI M a0 6 0) fun M1 =>
    kg (kt M1 a0 12) <| (F_X12_noTrader N M1 a0 x1).bind fun r2 =>
    if r2.1 = 0 then (
      (F_X12_in N r2.2 x2.toInt64 0 100).bind fun r3 =>
      if r3 = 0 then (
        F_X12_purseAfter_31 N r2.2 a0 x1 x2 a0 1) else
      F_X12_purseAfter_31 N r2.2 a0 x1 x2 a0 0) else
    some (0, r2.2)
def F_X12_bankAfter_23 (N : Nat) (M : kMem) (a0 : Nat) (x1 : Int32) (y0 : Nat) (y1 : Int32) : Option (Int32 × kMem) :=
    kg (kt M y0 12) <| (F_X12_stops N M y0 y1 1).bind fun r3 =>
    if r3.1 = 0 then (
      kg (kt r3.2 a0 12) <| (F_X12_behind N r3.2 a0 5 x1).bind fun r4 =>
      some (r4.1, r4.2)) else
    some (0, r3.2)
def F_X12_bankAfter (N : Nat) (M : kMem) (a0 : Nat) (x1 : Int32) : Option (Int32 × kMem) :=
    kg (kt M a0 12) <| kl (ksI M a0 6 0) fun M1 =>
    (F_X12_in N M1 x1.toInt64 0 100).bind fun r2 =>
    if r2 = 0 then (
      F_X12_bankAfter_23 N M1 a0 x1 a0 1) else
    F_X12_bankAfter_23 N M1 a0 x1 a0 0
def F_X12_daysUntilFall_62 (N : Nat) (M : kMem) (a0 : Nat) (x1 : Int32) (x2 : Int32) : Option (Int32 × kMem) :=
    kg (kt M a0 12) <|
    kg (kt M a0 12) <|
    (F_X12_copies N M (kR M a0 1) 0 (kR M a0 0) 0).bind fun M5 =>
    kg (kt M5 a0 12) <|
    kg (kin M5 (kR M5 a0 7) 14 x1) <|
    if (kI M5 (kR M5 a0 7) (kx x1)) = 0 then (
      some ((-1), M5)) else
    some (x2, M5)
def F_X12_daysUntilFall_37 (N : Nat) : Nat → kMem → Nat → Int32 → Int32 → Option (Int32 × kMem)
  | 0, _, _, _, _ => none
  | n + 1, M, a0, x1, x2 =>
    if x2 < 100 then (
      kg (kt M a0 12) <|
      kg (kin M (kR M a0 7) 14 x1) <|
      if (kI M (kR M a0 7) (kx x1)) = 0 then (
        kg (kt M a0 12) <| (F_X12_day1 N M a0).bind fun M6 =>
        kl (x2 + 1) fun v7 =>
        F_X12_daysUntilFall_37 N n M6 a0 x1 v7) else
      F_X12_daysUntilFall_62 N M a0 x1 x2) else
    F_X12_daysUntilFall_62 N M a0 x1 x2
def F_X12_daysUntilFall (N : Nat) (M : kMem) (a0 : Nat) (x1 : Int32) : Option (Int32 × kMem) :=
    kg (kt M a0 12) <| kl (ksI M a0 6 0) fun M1 =>
    kg (kt M1 a0 12) <| (F_X12_noTrader N M1 a0 x1).bind fun r2 =>
    if r2.1 = 0 then (
      kg (kt r2.2 a0 12) <|
      kg (kt r2.2 a0 12) <|
      (F_X12_copies N r2.2 (kR r2.2 a0 0) 0 (kR r2.2 a0 1) 0).bind fun M3 =>
      kg (kt M3 a0 12) <|
      kg (kin M3 (kR M3 a0 7) 14 x1 && ((0 : Int32) == 0 || (0 : Int32) == 1)) <| kl (ksI M3 (kR M3 a0 7) (kx x1) 0) fun M4 =>
      F_X12_daysUntilFall_37 N N M4 a0 x1 0) else
    some (0, r2.2)
def F_X12_daysUntilRetirement (N : Nat) (M : kMem) (a0 : Nat) (x1 : Int32) : Option (Int32 × kMem) :=
    kg (kt M a0 12) <| kl (ksI M a0 6 0) fun M1 =>
    kg (kt M1 a0 12) <| (F_X12_noTrader N M1 a0 x1).bind fun r2 =>
    if r2.1 = 0 then (
      kg (kt r2.2 a0 12) <| (F_X12_has N r2.2 a0 x1 4).bind fun r3 =>
      if r3 = 0 then (
        some (0, r2.2)) else
      kg (kt r2.2 a0 12) <|
      kg (kin r2.2 (kR r2.2 a0 0) 13 3) <|
      kg (kt r2.2 a0 12) <| (F_X12_has N r2.2 a0 x1 3).bind fun r4 =>
      some (((kI r2.2 (kR r2.2 a0 0) (kx 3)) + 1) - r4, r2.2)) else
    some (0, r2.2)
def F_X12_writes (N : Nat) (M : kMem) (a0 : Nat) (x1 : Int32) : Option (kMem) :=
    kg (kt M a0 12) <|
    kg (kt M a0 12) <|
    kg (kin M (kR M a0 28) 13 (kI M a0 29)) <| kl (ksI M (kR M a0 28) (kx (kI M a0 29)) x1) fun M1 =>
    kg (kt M1 a0 12) <|
    kg (kt M1 a0 12) <| kl (ksI M1 a0 29 ((kI M1 a0 29) + 1)) fun M2 =>
    some M2
def F_X12_writesSeat_22 (N : Nat) : Nat → kMem → Nat → Int32 → Int32 → Option (kMem)
  | 0, _, _, _, _ => none
  | n + 1, M, a0, x3, x4 =>
    kg (kt M a0 12) <| (F_X12_has N M a0 x3 0).bind fun r2 =>
    (F_X12_lettersOf N M r2).bind fun r3 =>
    if x4 < r3 then (
      kg (kt M a0 12) <| (F_X12_has N M a0 x3 0).bind fun r4 =>
      (F_X12_letterOf N M r4 x4).bind fun r5 =>
      kg (kt M a0 12) <| (F_X12_writes N M a0 r5).bind fun M6 =>
      kl (x4 + 1) fun v7 =>
      F_X12_writesSeat_22 N n M6 a0 x3 v7) else
    some M
def F_X12_writesSeat (N : Nat) (M : kMem) (a0 : Nat) (x1 : Int32) (x2 : Int32) : Option (kMem) :=
    kg (kt M a0 12) <| (F_X12_onSeat N M a0 x1 x2).bind fun r1 =>
    if r1 = (-1) then (
      kg (kt M a0 12) <| (F_X12_writes N M a0 46).bind fun M8 =>
      some M8) else
    F_X12_writesSeat_22 N N M a0 r1 0
def F_X12_writeBoard_51 (N : Nat) (k28 : kMem → Nat → Int32 → Int32 → Option (Int32 × kMem)) (M : kMem) (a0 : Nat) (x1 : Int32) (x2 : Int32) : Option (Int32 × kMem) :=
    if x2 = 0 then (
      kg (kt M a0 12) <| (F_X12_writes N M a0 94).bind fun M9 =>
      kl (x2 + 1) fun v10 =>
      k28 M9 a0 x1 v10) else
    kg (kt M a0 12) <| (F_X12_writesSeat N M a0 x1 x2).bind fun M7 =>
    kl (x2 + 1) fun v8 =>
    k28 M7 a0 x1 v8
def F_X12_writeBoard_28 (N : Nat) : Nat → kMem → Nat → Int32 → Int32 → Option (Int32 × kMem)
  | 0, _, _, _, _ => none
  | n + 1, M, a0, x1, x2 =>
    kg (kt M a0 12) <| (F_X12_ofBoard N M a0 x1 0).bind fun r6 =>
    if r6 < x2 then (
      kg (kt M a0 12) <|
      some (kI M a0 29, M)) else
    kg (kt M a0 12) <|
    if (0 : Int32) < (kI M a0 29) then (
      kg (kt M a0 12) <| (F_X12_writes N M a0 32).bind fun M11 =>
      F_X12_writeBoard_51 N (fun M a0 x1 x2 => F_X12_writeBoard_28 N n M a0 x1 x2) M11 a0 x1 x2) else
    F_X12_writeBoard_51 N (fun M a0 x1 x2 => F_X12_writeBoard_28 N n M a0 x1 x2) M a0 x1 x2
def F_X12_writeBoard (N : Nat) (M : kMem) (a0 : Nat) (x1 : Int32) : Option (Int32 × kMem) :=
    kg (kt M a0 12) <| kl (ksI M a0 6 0) fun M1 =>
    kg (kt M1 a0 12) <| (F_X12_noBoard N M1 a0 x1).bind fun r2 =>
    if r2.1 = 0 then (
      kg (kt r2.2 a0 12) <| kl (ksI r2.2 a0 29 0) fun M3 =>
      kg (kt M3 a0 12) <| (F_X12_ofBoard N M3 a0 x1 0).bind fun r4 =>
      kl (-r4) fun v5 =>
      F_X12_writeBoard_28 N N M3 a0 x1 v5) else
    some (0, r2.2)
def F_X12_outputByte (N : Nat) (M : kMem) (a0 : Nat) (x1 : Int32) : Option (Int32 × kMem) :=
    kg (kt M a0 12) <| kl (ksI M a0 6 0) fun M1 =>
    kg (kt M1 a0 12) <|
    (F_X12_in N M1 x1.toInt64 0 (((kI M1 a0 29) - 1).toInt64)).bind fun r2 =>
    if r2 = 0 then (
      some ((-1), M1)) else
    kg (kt M1 a0 12) <|
    kg (kin M1 (kR M1 a0 28) 13 x1) <|
    some (kI M1 (kR M1 a0 28) (kx x1), M1)
def F_X8_addAll_2 (N : Nat) : Nat → kMem → Nat → Nat → Int32 → Option (kMem)
  | 0, _, _, _, _ => none
  | n + 1, M, a0, s1, x2 =>
    (F_J0_length s1).bind fun r1 =>
    if x2 < r1 then (
      (F_J0_charAt s1 x2).bind fun r2 =>
      kg (kt M a0 8) <| (F_X8_add N M a0 r2).bind fun M3 =>
      kl (x2 + 1) fun v4 =>
      F_X8_addAll_2 N n M3 a0 s1 v4) else
    some M
def F_X8_addAll (N : Nat) (M : kMem) (a0 : Nat) (s1 : Nat) : Option (kMem) :=
    F_X8_addAll_2 N N M a0 s1 0
def F_X9_atWord_38 (N : Nat) (M : kMem) : Nat → Nat → Nat → Int32 → Option (Int32)
  | 0, _, _, _ => none
  | n + 1, a0, s1, x2 =>
    (F_J0_length s1).bind fun r3 =>
    if x2 < r3 then (
      (F_J0_charAt s1 x2).bind fun r4 =>
      kg (kt M a0 9) <|
      kg (kt M a0 9) <|
      kg (kt M a0 9) <|
      kg (kin M (kR M a0 2) 13 (kI M a0 5)) <|
      kg (kt M (kR M a0 0) 8) <| (F_X8_byteAt N M (kR M a0 0) ((kI M (kR M a0 2) (kx (kI M a0 5))) + x2)).bind fun r5 =>
      if r4 = r5 then (
        kl (x2 + 1) fun v6 =>
        F_X9_atWord_38 N M n a0 s1 v6) else
      some 0) else
    some 1
def F_X9_atWord (N : Nat) (M : kMem) (a0 : Nat) (s1 : Nat) : Option (Int32) :=
    kg (kt M a0 9) <| (F_X9_at N M a0 1).bind fun r1 =>
    if r1 = 0 then (
      some 0) else
    (F_J0_length s1).bind fun r2 =>
    kg (kt M a0 9) <|
    kg (kt M a0 9) <|
    kg (kin M (kR M a0 3) 13 (kI M a0 5)) <|
    kg (kt M a0 9) <|
    kg (kt M a0 9) <|
    kg (kin M (kR M a0 2) 13 (kI M a0 5)) <|
    if r2 = ((kI M (kR M a0 3) (kx (kI M a0 5))) - (kI M (kR M a0 2) (kx (kI M a0 5)))) then (
      F_X9_atWord_38 N M N a0 s1 0) else
    some 0
def F_X9_takeWord (N : Nat) (M : kMem) (a0 : Nat) (s1 : Nat) : Option (kMem) :=
    kg (kt M a0 9) <| (F_X9_atWord N M a0 s1).bind fun r1 =>
    kg (kt M a0 9) <| (F_X9_takeIf N M a0 r1).bind fun M2 =>
    some M2
def F_X9_takeSide_14 (N : Nat) (M : kMem) (a0 : Nat) (y0 : Int32) : Option (Int32 × kMem) :=
    kg (kt M a0 9) <| (F_X9_atWord N M a0 7).bind fun r2 =>
    if r2 = 0 then (
      kg (kt M a0 9) <| (F_X9_atWord N M a0 8).bind fun r4 =>
      if r4 = 0 then (
        kg (kt M a0 9) <| (F_X9_takeIf N M a0 0).bind fun M5 =>
        some (y0, M5)) else
      kg (kt M a0 9) <| (F_X9_takeIf N M a0 1).bind fun M6 =>
      some (y0, M6)) else
    kg (kt M a0 9) <| (F_X9_takeIf N M a0 1).bind fun M3 =>
    some (y0, M3)
def F_X9_takeSide (N : Nat) (M : kMem) (a0 : Nat) : Option (Int32 × kMem) :=
    kg (kt M a0 9) <| (F_X9_atWord N M a0 7).bind fun r1 =>
    if r1 = 0 then (
      F_X9_takeSide_14 N M a0 1) else
    F_X9_takeSide_14 N M a0 (-1)
def F_X7_readMarket (N : Nat) (M : kMem) (a0 : Nat) (a1 : Nat) : Option (kMem) :=
    kg (kt M a0 9) <| (F_X9_takeWord N M a0 3).bind fun M1 =>
    kg (kt M1 a0 9) <| (F_X9_takeNumber N M1 a0 0 20).bind fun r2 =>
    kg (kt r2.2 a1 4) <| kl (ksI r2.2 a1 2 r2.1) fun M3 =>
    kg (kt M3 a0 9) <| (F_X9_takeNumber N M3 a0 0 99).bind fun r4 =>
    kg (kt r4.2 a1 4) <| kl (ksI r4.2 a1 3 r4.1) fun M5 =>
    kg (kt M5 a0 9) <| (F_X9_takeNumber N M5 a0 0 99).bind fun r6 =>
    kg (kt r6.2 a1 4) <| kl (ksI r6.2 a1 4 r6.1) fun M7 =>
    kg (kt M7 a0 9) <| (F_X9_takeNumber N M7 a0 1 999).bind fun r8 =>
    kg (kt r8.2 a1 4) <| kl (ksI r8.2 a1 5 r8.1) fun M9 =>
    kg (kt M9 a0 9) <| (F_X9_takeNumber N M9 a0 0 999).bind fun r10 =>
    kg (kt r10.2 a1 4) <| kl (ksI r10.2 a1 6 r10.1) fun M11 =>
    kg (kt M11 a0 9) <| (F_X9_takeNumber N M11 a0 0 99999).bind fun r12 =>
    kg (kt r12.2 a1 4) <| kl (ksI r12.2 a1 1 r12.1) fun M13 =>
    kg (kt M13 a1 4) <|
    kg (kt M13 a1 4) <| kl (ksI M13 a1 7 (kI M13 a1 1)) fun M14 =>
    kg (kt M14 a0 9) <| (F_X9_takeSign N M14 a0 59).bind fun M15 =>
    some M15
def F_X7_readSeat_99 (N : Nat) (M : kMem) (a0 : Nat) (a1 : Nat) (a2 : Nat) (a3 : Nat) (x4 : Int32) (x5 : Int32) : Option (kMem) :=
    kg (kt M a0 9) <| (F_X9_takeSign N M a0 59).bind fun M11 =>
    kg (kt M11 a0 9) <| (F_X9_failed N M11 a0).bind fun r12 =>
    if r12 = 0 then (
      if a2 = 0 then (
        some M11) else
      if a3 = 0 then (
        some M11) else
      kg (kt M11 a1 4) <| (F_X4_seat N M11 a1 a2 a3 (x4 * x5)).bind fun M13 =>
      some M13) else
    some M11
def F_X7_readSeat_73 (N : Nat) (M : kMem) (a0 : Nat) (a1 : Nat) (a2 : Nat) (a3 : Nat) (x4 : Int32) (y0 : Nat) (y1 : Int32) (y2 : Int32) : Option (kMem) :=
    kg (kt M y0 9) <| (F_X9_takeNumber N M y0 y1 y2).bind fun r9 =>
    kl r9.1 fun v10 =>
    if a3 = 0 then (
      F_X7_readSeat_99 N r9.2 a0 a1 a2 a3 x4 v10) else
    kg (kt r9.2 a3 0) <| (F_X0_isFree N r9.2 a3 (x4 * v10)).bind fun r14 =>
    if r14 = 0 then (
      kg (kt r9.2 a0 9) <| (F_X9_refuseTaken N r9.2 a0 3).bind fun M15 =>
      F_X7_readSeat_99 N M15 a0 a1 a2 a3 x4 v10) else
    F_X7_readSeat_99 N r9.2 a0 a1 a2 a3 x4 v10
def F_X7_readSeat_37 (N : Nat) (M : kMem) (a0 : Nat) (a1 : Nat) (a2 : Nat) : Option (kMem) :=
    kg (kt M a1 4) <|
    kg (kt M a0 9) <| (F_X9_takeNumber N M a0 0 ((kI M a1 11) - 1)).bind fun r5 =>
    kg (kt r5.2 a1 4) <| (F_X4_boardNumbered N r5.2 a1 r5.1).bind fun r6 =>
    kg (kt r5.2 a0 9) <| (F_X9_takeSide N r5.2 a0).bind fun r7 =>
    kl r7.1 fun v8 =>
    if r6 = 0 then (
      F_X7_readSeat_73 N r7.2 a0 a1 a2 r6 v8 a0 1 0) else
    kg (kt r7.2 r6 0) <|
    F_X7_readSeat_73 N r7.2 a0 a1 a2 r6 v8 a0 1 (kI r7.2 r6 1)
def F_X7_readSeat (N : Nat) (M : kMem) (a0 : Nat) (a1 : Nat) : Option (kMem) :=
    kg (kt M a0 9) <| (F_X9_takeAnyWord N M a0).bind fun M1 =>
    kg (kt M1 a0 9) <| (F_X9_takeName N M1 a0).bind fun r2 =>
    kg (kt r2.2 a1 4) <| (F_X4_traderNamed N r2.2 a1 r2.1).bind fun r3 =>
    if r3 = 0 then (
      kg (kt r2.2 a0 9) <| (F_X9_refuseTaken N r2.2 a0 4).bind fun M17 =>
      F_X7_readSeat_37 N M17 a0 a1 r3) else
    kg (kt r2.2 r3 10) <| (F_X10_isSeated N r2.2 r3).bind fun r4 =>
    if r4 = 0 then (
      F_X7_readSeat_37 N r2.2 a0 a1 r3) else
    kg (kt r2.2 a0 9) <| (F_X9_refuseTaken N r2.2 a0 3).bind fun M16 =>
    F_X7_readSeat_37 N M16 a0 a1 r3
def F_X7_read_94 (N : Nat) : Nat → kMem → Nat → Nat → Int32 → Option (kMem)
  | 0, _, _, _, _ => none
  | n + 1, M, a0, a1, x2 =>
    if (24 : Int32) < x2 then (
      kg (kt M a0 9) <| (F_X9_takeEnd N M a0).bind fun M5 =>
      some M5) else
    kg (kt M a0 9) <| (F_X9_atWord N M a0 6).bind fun r6 =>
    if r6 = 0 then (
      kg (kt M a0 9) <| (F_X9_takeEnd N M a0).bind fun M7 =>
      some M7) else
    (F_X7_readSeat N M a0 a1).bind fun M8 =>
    kl (x2 + 1) fun v9 =>
    F_X7_read_94 N n M8 a0 a1 v9
def F_X7_read_52 (N : Nat) : Nat → kMem → Nat → Nat → Int32 → Option (kMem)
  | 0, _, _, _, _ => none
  | n + 1, M, a0, a1, x2 =>
    if x2 < 24 then (
      kg (kt M a0 9) <| (F_X9_atWord N M a0 5).bind fun r11 =>
      if r11 = 0 then (
        kg (kt M a0 9) <| (F_X9_atWord N M a0 5).bind fun r12 =>
        if r12 = 0 then (
          F_X7_read_94 N N M a0 a1 0) else
        kg (kt M a0 9) <| (F_X9_refuse N M a0 5).bind fun M13 =>
        F_X7_read_94 N N M13 a0 a1 0) else
      (F_X7_readTrader N M a0 a1).bind fun M14 =>
      kl (x2 + 1) fun v15 =>
      F_X7_read_52 N n M14 a0 a1 v15) else
    kg (kt M a0 9) <| (F_X9_atWord N M a0 5).bind fun r4 =>
    if r4 = 0 then (
      F_X7_read_94 N N M a0 a1 0) else
    kg (kt M a0 9) <| (F_X9_refuse N M a0 5).bind fun M10 =>
    F_X7_read_94 N N M10 a0 a1 0
def F_X7_read_11 (N : Nat) : Nat → kMem → Nat → Nat → Int32 → Option (kMem)
  | 0, _, _, _, _ => none
  | n + 1, M, a0, a1, x2 =>
    if x2 < 5 then (
      kg (kt M a0 9) <| (F_X9_atWord N M a0 4).bind fun r17 =>
      if r17 = 0 then (
        kg (kt M a0 9) <| (F_X9_atWord N M a0 4).bind fun r18 =>
        if r18 = 0 then (
          F_X7_read_52 N N M a0 a1 0) else
        kg (kt M a0 9) <| (F_X9_refuse N M a0 5).bind fun M19 =>
        F_X7_read_52 N N M19 a0 a1 0) else
      (F_X7_readBoard N M a0 a1).bind fun M20 =>
      kl (x2 + 1) fun v21 =>
      F_X7_read_11 N n M20 a0 a1 v21) else
    kg (kt M a0 9) <| (F_X9_atWord N M a0 4).bind fun r3 =>
    if r3 = 0 then (
      F_X7_read_52 N N M a0 a1 0) else
    kg (kt M a0 9) <| (F_X9_refuse N M a0 5).bind fun M16 =>
    F_X7_read_52 N N M16 a0 a1 0
def F_X7_read (N : Nat) (M : kMem) (a0 : Nat) (a1 : Nat) : Option (kMem) :=
    kg (kt M a1 4) <| (F_X4_clear N M a1).bind fun M1 =>
    (F_X7_readMarket N M1 a0 a1).bind fun M2 =>
    F_X7_read_11 N N M2 a0 a1 0
def F_X1_kindOfWord (N : Nat) (M : kMem) (a0 : Nat) : Option (Int32) :=
    kg (kt M a0 9) <| (F_X9_atWord N M a0 9).bind fun r1 =>
    if r1 = 0 then (
      kg (kt M a0 9) <| (F_X9_atWord N M a0 10).bind fun r2 =>
      if r2 = 0 then (
        kg (kt M a0 9) <| (F_X9_atWord N M a0 11).bind fun r3 =>
        if r3 = 0 then (
          kg (kt M a0 9) <| (F_X9_atWord N M a0 12).bind fun r4 =>
          if r4 = 0 then (
            kg (kt M a0 9) <| (F_X9_atWord N M a0 13).bind fun r5 =>
            if r5 = 0 then (
              kg (kt M a0 9) <| (F_X9_atWord N M a0 14).bind fun r6 =>
              if r6 = 0 then (
                kg (kt M a0 9) <| (F_X9_atWord N M a0 15).bind fun r7 =>
                if r7 = 0 then (
                  kg (kt M a0 9) <| (F_X9_atWord N M a0 16).bind fun r8 =>
                  if r8 = 0 then (
                    some (-1)) else
                  some 8) else
                some 7) else
              some 6) else
            some 5) else
          some 4) else
        some 3) else
      some 2) else
    some 1
def F_X1_readWords (N : Nat) (M : kMem) (a0 : Nat) (a1 : Nat) : Option (kMem) :=
    kg (kt M a0 1) <|
    if (kI M a0 0) = 1 then (
      kg (kt M a1 9) <| (F_X9_takeName N M a1).bind fun r1 =>
      kg (kt r1.2 a0 1) <| kl (ksJ r1.2 a0 1 r1.1) fun M2 =>
      kg (kt M2 a1 9) <| (F_X9_takeNumber N M2 a1 1 99).bind fun r3 =>
      kg (kt r3.2 a0 1) <| kl (ksI r3.2 a0 3 r3.1) fun M4 =>
      kg (kt M4 a1 9) <| (F_X9_takeNumber N M4 a1 0 9999).bind fun r5 =>
      kg (kt r5.2 a0 1) <| kl (ksI r5.2 a0 4 r5.1) fun M6 =>
      some M6) else
    if (kI M a0 0) = 2 then (
      kg (kt M a1 9) <| (F_X9_takeName N M a1).bind fun r7 =>
      kg (kt r7.2 a0 1) <| kl (ksJ r7.2 a0 1 r7.1) fun M8 =>
      kg (kt M8 a1 9) <| (F_X9_takeNumber N M8 a1 0 4).bind fun r9 =>
      kg (kt r9.2 a0 1) <| kl (ksI r9.2 a0 3 r9.1) fun M10 =>
      kg (kt M10 a1 9) <| (F_X9_takeSide N M10 a1).bind fun r11 =>
      kg (kt r11.2 a1 9) <| (F_X9_takeNumber N r11.2 a1 1 6).bind fun r12 =>
      kg (kt r12.2 a0 1) <| kl (ksI r12.2 a0 5 (r11.1 * r12.1)) fun M13 =>
      some M13) else
    if (kI M a0 0) = 3 then (
      kg (kt M a1 9) <| (F_X9_takeName N M a1).bind fun r14 =>
      kg (kt r14.2 a0 1) <| kl (ksJ r14.2 a0 1 r14.1) fun M15 =>
      some M15) else
    if (kI M a0 0) = 4 then (
      kg (kt M a0 1) <| (F_X1_readTwoNames N M a0 a1).bind fun M16 =>
      kg (kt M16 a1 9) <| (F_X9_takeNumber N M16 a1 1 50).bind fun r17 =>
      kg (kt r17.2 a0 1) <| kl (ksI r17.2 a0 3 r17.1) fun M18 =>
      some M18) else
    if (kI M a0 0) = 5 then (
      kg (kt M a0 1) <| (F_X1_readTwoNames N M a0 a1).bind fun M19 =>
      some M19) else
    if (kI M a0 0) = 6 then (
      kg (kt M a1 9) <| (F_X9_takeNumber N M a1 0 20).bind fun r20 =>
      kg (kt r20.2 a0 1) <| kl (ksI r20.2 a0 3 r20.1) fun M21 =>
      some M21) else
    if (kI M a0 0) = 7 then (
      kg (kt M a1 9) <| (F_X9_takeNumber N M a1 1 30).bind fun r22 =>
      kg (kt r22.2 a0 1) <| kl (ksI r22.2 a0 3 r22.1) fun M23 =>
      some M23) else
    kg (kt M a1 9) <| (F_X9_takeNumber N M a1 1 20).bind fun r24 =>
    kg (kt r24.2 a0 1) <| kl (ksI r24.2 a0 3 r24.1) fun M25 =>
    some M25
def F_X6_readCommand (N : Nat) (M : kMem) (a0 : Nat) (a1 : Nat) : Option (kMem) :=
    (F_X1_kindOfWord N M a1).bind fun r1 =>
    if r1 = (-1) then (
      kg (kt M a1 9) <| (F_X9_refuse N M a1 1).bind fun M10 =>
      some M10) else
    kg (kt M a0 6) <|
    kg (kt M a0 6) <|
    kg (kt M (kR M a0 0) 19) <|
    if (kI M a0 1) < (Int32.ofNat (kn M (kR M a0 0))) then (
      kg (kt M a0 6) <|
      kg (kt M a0 6) <|
      kg (kin M (kR M a0 0) 19 (kI M a0 1)) <|
      kl (kR M (kR M a0 0) (kx (kI M a0 1))) fun w2 =>
      kg (kt M a0 6) <|
      kg (kt M a0 6) <| kl (ksI M a0 1 ((kI M a0 1) + 1)) fun M3 =>
      kg (kt M3 w2 1) <| kl (ksI M3 w2 0 r1) fun M4 =>
      kg (kt M4 a1 9) <| (F_X9_takeAnyWord N M4 a1).bind fun M5 =>
      kg (kt M5 w2 1) <| (F_X1_readWords N M5 w2 a1).bind fun M6 =>
      if r1 = 8 then (
        kg (kt M6 a0 6) <| (F_X6_openBracket N M6 a0 a1).bind fun M8 =>
        some M8) else
      kg (kt M6 a1 9) <| (F_X9_takeSign N M6 a1 59).bind fun M7 =>
      some M7) else
    kg (kt M a1 9) <| (F_X9_refuse N M a1 5).bind fun M9 =>
    some M9
def F_X6_read_78 (N : Nat) (M : kMem) (a0 : Nat) (a1 : Nat) : Option (kMem) :=
    kg (kt M a1 9) <| (F_X9_failed N M a1).bind fun r4 =>
    if r4 = 0 then (
      kg (kt M a0 6) <|
      kg (kt M a0 6) <| (F_X6_unroll N 3 M a0 0 (kI M a0 1) 0).bind fun M5 =>
      some M5) else
    some M
def F_X6_read_66 (N : Nat) (M : kMem) (a0 : Nat) (a1 : Nat) : Option (kMem) :=
    kg (kt M a0 6) <|
    if (0 : Int32) < (kI M a0 3) then (
      kg (kt M a1 9) <| (F_X9_refuse N M a1 1).bind fun M6 =>
      F_X6_read_78 N M6 a0 a1) else
    F_X6_read_78 N M a0 a1
def F_X6_read_17 (N : Nat) : Nat → kMem → Nat → Nat → Int32 → Option (kMem)
  | 0, _, _, _, _ => none
  | n + 1, M, a0, a1, x2 =>
    if x2 < 800 then (
      kg (kt M a1 9) <| (F_X9_atEnd N M a1).bind fun r7 =>
      if r7 = 0 then (
        kg (kt M a0 6) <|
        if (0 : Int32) < (kI M a0 3) then (
          kg (kt M a1 9) <| (F_X9_atSign N M a1 41).bind fun r10 =>
          if r10 = 0 then (
            kg (kt M a0 6) <| (F_X6_readCommand N M a0 a1).bind fun M11 =>
            kl (x2 + 1) fun v12 =>
            F_X6_read_17 N n M11 a0 a1 v12) else
          kg (kt M a0 6) <| (F_X6_closeBracket N M a0 a1).bind fun M13 =>
          kl (x2 + 1) fun v14 =>
          F_X6_read_17 N n M13 a0 a1 v14) else
        kg (kt M a0 6) <| (F_X6_readCommand N M a0 a1).bind fun M8 =>
        kl (x2 + 1) fun v9 =>
        F_X6_read_17 N n M8 a0 a1 v9) else
      F_X6_read_66 N M a0 a1) else
    F_X6_read_66 N M a0 a1
def F_X6_read (N : Nat) (M : kMem) (a0 : Nat) (a1 : Nat) : Option (kMem) :=
    kg (kt M a0 6) <| kl (ksI M a0 1 0) fun M1 =>
    kg (kt M1 a0 6) <| kl (ksI M1 a0 3 0) fun M2 =>
    kg (kt M2 a0 6) <| kl (ksI M2 a0 5 0) fun M3 =>
    F_X6_read_17 N N M3 a0 a1 0
def F_X11_beginMarketOfText_57 (N : Nat) : Nat → kMem → Nat → Int32 → Option (kMem)
  | 0, _, _, _ => none
  | n + 1, M, a0, x1 =>
    kg (kt M a0 11) <|
    kg (kt M (kR M a0 8) 14) <|
    if x1 < (Int32.ofNat (kn M (kR M a0 8))) then (
      kg (kt M a0 11) <|
      kg (kin M (kR M a0 8) 14 x1 && ((0 : Int32) == 0 || (0 : Int32) == 1)) <| kl (ksI M (kR M a0 8) (kx x1) 0) fun M7 =>
      kl (x1 + 1) fun v8 =>
      F_X11_beginMarketOfText_57 N n M7 a0 v8) else
    some M
def F_X11_beginMarketOfText (N : Nat) (M : kMem) (a0 : Nat) : Option (kMem) :=
    kg (kt M a0 11) <|
    kg (kt M (kR M a0 2) 9) <| (F_X9_begin N M (kR M a0 2)).bind fun M1 =>
    kg (kt M1 a0 11) <|
    kg (kt M1 a0 11) <|
    (F_X7_read N M1 (kR M1 a0 2) (kR M1 a0 5)).bind fun M2 =>
    kg (kt M2 a0 11) <|
    kg (kt M2 (kR M2 a0 0) 8) <| kl (ksI M2 (kR M2 a0 0) 1 0) fun M3 =>
    kg (kt M3 a0 11) <|
    kg (kt M3 (kR M3 a0 2) 9) <| (F_X9_failed N M3 (kR M3 a0 2)).bind fun r4 =>
    if r4 = 0 then (
      kg (kt M3 a0 11) <|
      kg (kt M3 a0 11) <|
      kg (kt M3 (kR M3 a0 4) 4) <| (F_X4_copyFrom N M3 (kR M3 a0 4) (kR M3 a0 5)).bind fun M5 =>
      kg (kt M5 a0 11) <|
      kg (kt M5 (kR M5 a0 6) 3) <| (F_X3_forget N M5 (kR M5 a0 6)).bind fun M6 =>
      F_X11_beginMarketOfText_57 N N M6 a0 0) else
    some M3
def F_X11_load (N : Nat) (M : kMem) (a0 : Nat) : Option (Int32 × kMem) :=
    kg (kt M a0 11) <| (F_X11_beginMarketOfText N M a0).bind fun M1 =>
    kg (kt M1 a0 11) <|
    kg (kt M1 (kR M1 a0 2) 9) <|
    some (kI M1 (kR M1 a0 2) 6, M1)
def F_X11_runScript_51 (N : Nat) : Nat → kMem → Nat → Int32 → Option (Int32 × kMem)
  | 0, _, _, _ => none
  | n + 1, M, a0, x1 =>
    kg (kt M a0 11) <|
    kg (kt M (kR M a0 3) 6) <|
    if x1 < (kI M (kR M a0 3) 5) then (
      kg (kt M a0 11) <|
      kg (kt M (kR M a0 3) 6) <| (F_X6_stepAt N M (kR M a0 3) x1).bind fun r6 =>
      kg (kt M a0 11) <|
      kg (kt M r6 1) <| (F_X1_performOn N M r6 (kR M a0 4)).bind fun r7 =>
      if r7.1 = 0 then (
        some (x1, r7.2)) else
      kl (x1 + 1) fun v8 =>
      F_X11_runScript_51 N n r7.2 a0 v8) else
    some (x1, M)
def F_X11_runScript (N : Nat) (M : kMem) (a0 : Nat) : Option (Int32 × kMem) :=
    kg (kt M a0 11) <|
    kg (kt M (kR M a0 2) 9) <| (F_X9_begin N M (kR M a0 2)).bind fun M1 =>
    kg (kt M1 a0 11) <|
    kg (kt M1 a0 11) <|
    kg (kt M1 (kR M1 a0 3) 6) <| (F_X6_read N M1 (kR M1 a0 3) (kR M1 a0 2)).bind fun M2 =>
    kg (kt M2 a0 11) <|
    kg (kt M2 (kR M2 a0 0) 8) <| kl (ksI M2 (kR M2 a0 0) 1 0) fun M3 =>
    kg (kt M3 a0 11) <|
    kg (kt M3 (kR M3 a0 2) 9) <| (F_X9_failed N M3 (kR M3 a0 2)).bind fun r4 =>
    if r4 = 0 then (
      kg (kt M3 a0 11) <|
      kg (kt M3 a0 11) <|
      kg (kt M3 (kR M3 a0 6) 3) <| (F_X3_record N M3 (kR M3 a0 6) (kR M3 a0 4)).bind fun M5 =>
      F_X11_runScript_51 N N M5 a0 0) else
    some ((-1), M3)
def F_X11_append (N : Nat) (M : kMem) (a0 : Nat) (x1 : Int32) (x2 : Int32) (x3 : Int32) (x4 : Int32) (x5 : Int32) : Option ((Int32 ⊕ Nat) × kMem) :=
    (F_X11_bytesIn N M x1).bind fun r1 =>
    (F_X11_bytesIn N M x2).bind fun r2 =>
    (F_X11_bytesIn N M x3).bind fun r3 =>
    (F_X11_bytesIn N M x4).bind fun r4 =>
    (F_X11_bytesIn N M x5).bind fun r5 =>
    kl ((((r1 + r2) + r3) + r4) + r5) fun v6 =>
    kg (kt M a0 11) <|
    kg (kt M (kR M a0 0) 8) <|
    if (800 : Int32) < ((kI M (kR M a0 0) 1) + v6) then (
      some (.inr 3, M)) else
    kg (kt M a0 11) <|
    kg (kt M (kR M a0 0) 8) <| (F_X8_addBytesOf N M (kR M a0 0) x1).bind fun M7 =>
    kg (kt M7 a0 11) <|
    kg (kt M7 (kR M7 a0 0) 8) <| (F_X8_addBytesOf N M7 (kR M7 a0 0) x2).bind fun M8 =>
    kg (kt M8 a0 11) <|
    kg (kt M8 (kR M8 a0 0) 8) <| (F_X8_addBytesOf N M8 (kR M8 a0 0) x3).bind fun M9 =>
    kg (kt M9 a0 11) <|
    kg (kt M9 (kR M9 a0 0) 8) <| (F_X8_addBytesOf N M9 (kR M9 a0 0) x4).bind fun M10 =>
    kg (kt M10 a0 11) <|
    kg (kt M10 (kR M10 a0 0) 8) <| (F_X8_addBytesOf N M10 (kR M10 a0 0) x5).bind fun M11 =>
    kg (kt M11 a0 11) <|
    kg (kt M11 (kR M11 a0 0) 8) <|
    some (.inl (kI M11 (kR M11 a0 0) 1), M11)
def F_X11_requireRange (N : Nat) (M : kMem) (x0 : Int32) (x1 : Int32) (x2 : Int32) : Option ((Unit ⊕ Nat) × kMem) :=
    if x0 < x1 then (
      some (.inr 2, M)) else
    if x2 < x0 then (
      some (.inr 2, M)) else
    some (.inl (), M)
def F_X11_truncate (N : Nat) (M : kMem) (a0 : Nat) (x1 : Int32) : Option ((Int32 ⊕ Nat) × kMem) :=
    kg (kt M a0 11) <|
    kg (kt M (kR M a0 0) 8) <|
    kbx (F_X11_requireRange N M x1 0 (kI M (kR M a0 0) 1)) fun r1 M2 =>
    kg (kt M2 a0 11) <|
    kg (kt M2 (kR M2 a0 0) 8) <| kl (ksI M2 (kR M2 a0 0) 1 x1) fun M3 =>
    some (.inl x1, M3)
def F_X11_existingBoard (N : Nat) (M : kMem) (a0 : Nat) (x1 : Int32) : Option ((Nat ⊕ Nat) × kMem) :=
    kg (kt M a0 11) <|
    kg (kt M (kR M a0 4) 4) <| (F_X4_boardNumbered N M (kR M a0 4) x1).bind fun r1 =>
    if r1 = 0 then (
      some (.inr 1, M)) else
    some (.inl r1, M)
def F_X11_armLength (N : Nat) (M : kMem) (a0 : Nat) (x1 : Int32) : Option ((Int32 ⊕ Nat) × kMem) :=
    kg (kt M a0 11) <| kbx (F_X11_existingBoard N M a0 x1) fun r1 M2 =>
    kg (kt M2 r1 0) <|
    some (.inl (kI M2 r1 1), M2)
def F_X11_stiffness (N : Nat) (M : kMem) (a0 : Nat) (x1 : Int32) : Option ((Int32 ⊕ Nat) × kMem) :=
    kg (kt M a0 11) <| kbx (F_X11_existingBoard N M a0 x1) fun r1 M2 =>
    kg (kt M2 r1 0) <|
    some (.inl (kI M2 r1 2), M2)
def F_X11_torque (N : Nat) (M : kMem) (a0 : Nat) (x1 : Int32) : Option ((Int32 ⊕ Nat) × kMem) :=
    kg (kt M a0 11) <|
    kg (kt M a0 11) <| kbx (F_X11_existingBoard N M a0 x1) fun r1 M2 =>
    kg (kt M2 (kR M a0 4) 4) <| (F_X4_torqueOn N M2 (kR M a0 4) r1).bind fun r3 =>
    some (.inl r3, M2)
def F_X11_tilt (N : Nat) (M : kMem) (a0 : Nat) (x1 : Int32) : Option ((Int32 ⊕ Nat) × kMem) :=
    kg (kt M a0 11) <| kbx (F_X11_existingBoard N M a0 x1) fun r1 M2 =>
    kg (kt M2 a0 11) <|
    kg (kt M2 (kR M2 a0 4) 4) <| (F_X4_torqueOn N M2 (kR M2 a0 4) r1).bind fun r3 =>
    kg (kt M2 r1 0) <| (F_X0_tiltUnder N M2 r1 r3).bind fun r4 =>
    some (.inl r4, M2)
def F_X11_isBalanced (N : Nat) (M : kMem) (a0 : Nat) (x1 : Int32) : Option ((Int32 ⊕ Nat) × kMem) :=
    kg (kt M a0 11) <|
    kg (kt M a0 11) <| kbx (F_X11_existingBoard N M a0 x1) fun r1 M2 =>
    kg (kt M2 (kR M a0 4) 4) <| (F_X4_torqueOn N M2 (kR M a0 4) r1).bind fun r3 =>
    if r3 = 0 then (
      some (.inl 1, M2)) else
    some (.inl 0, M2)
def F_X11_boardWithSeat (N : Nat) (M : kMem) (a0 : Nat) (x1 : Int32) (x2 : Int32) : Option ((Nat ⊕ Nat) × kMem) :=
    kg (kt M a0 11) <| kbx (F_X11_existingBoard N M a0 x1) fun r1 M2 =>
    kg (kt M2 r1 0) <| (F_X0_hasSeat N M2 r1 x2).bind fun r3 =>
    if r3 = 0 then (
      some (.inr 1, M2)) else
    some (.inl r1, M2)
def F_X11_seatOwner (N : Nat) (M : kMem) (a0 : Nat) (x1 : Int32) (x2 : Int32) : Option ((Int32 ⊕ Nat) × kMem) :=
    kg (kt M a0 11) <| kbx (F_X11_boardWithSeat N M a0 x1 x2) fun r1 M2 =>
    kg (kt M2 r1 0) <| (F_X0_ownerAt N M2 r1 x2).bind fun r3 =>
    some (.inl r3, M2)
def F_X11_seatHeight (N : Nat) (M : kMem) (a0 : Nat) (x1 : Int32) (x2 : Int32) : Option ((Int32 ⊕ Nat) × kMem) :=
    kg (kt M a0 11) <|
    kg (kt M a0 11) <| kbx (F_X11_boardWithSeat N M a0 x1 x2) fun r1 M2 =>
    kg (kt M2 (kR M a0 4) 4) <| (F_X4_heightOn N M2 (kR M a0 4) r1 x2).bind fun r3 =>
    some (.inl r3, M2)
def F_X11_seatPrice (N : Nat) (M : kMem) (a0 : Nat) (x1 : Int32) (x2 : Int32) : Option ((Int32 ⊕ Nat) × kMem) :=
    kg (kt M a0 11) <|
    kg (kt M a0 11) <| kbx (F_X11_boardWithSeat N M a0 x1 x2) fun r1 M2 =>
    kg (kt M2 (kR M a0 4) 4) <| (F_X4_priceOn N M2 (kR M a0 4) r1 x2).bind fun r3 =>
    some (.inl r3, M2)
def F_X11_balancingSeat (N : Nat) (M : kMem) (a0 : Nat) (x1 : Int32) (x2 : Int32) : Option ((Int32 ⊕ Nat) × kMem) :=
    kg (kt M a0 11) <| kbx (F_X11_existingBoard N M a0 x1) fun r1 M2 =>
    kbx (F_X11_requireRange N M2 x2 1 99) fun r3 M4 =>
    kg (kt M4 a0 11) <|
    kg (kt M4 (kR M4 a0 4) 4) <| (F_X4_mostBalancingSeat N M4 (kR M4 a0 4) r1 x2).bind fun r5 =>
    some (.inl r5, M4)
def F_X11_existingTrader (N : Nat) (M : kMem) (a0 : Nat) (x1 : Int32) : Option ((Nat ⊕ Nat) × kMem) :=
    kg (kt M a0 11) <|
    kg (kt M (kR M a0 4) 4) <| (F_X4_traderNumbered N M (kR M a0 4) x1).bind fun r1 =>
    if r1 = 0 then (
      some (.inr 1, M)) else
    some (.inl r1, M)
def F_X11_nameLetter (N : Nat) (M : kMem) (a0 : Nat) (x1 : Int32) (x2 : Int32) : Option ((Int32 ⊕ Nat) × kMem) :=
    kg (kt M a0 11) <| kbx (F_X11_existingTrader N M a0 x1) fun r1 M2 =>
    kg (kt M2 r1 10) <|
    (F_X11_letterOf N M2 (kJ M2 r1 1) x2).bind fun r3 =>
    some (.inl r3, M2)
def F_X11_weightOf (N : Nat) (M : kMem) (a0 : Nat) (x1 : Int32) : Option ((Int32 ⊕ Nat) × kMem) :=
    kg (kt M a0 11) <| kbx (F_X11_existingTrader N M a0 x1) fun r1 M2 =>
    kg (kt M2 r1 10) <|
    some (.inl (kI M2 r1 2), M2)
def F_X11_purseOf (N : Nat) (M : kMem) (a0 : Nat) (x1 : Int32) : Option ((Int32 ⊕ Nat) × kMem) :=
    kg (kt M a0 11) <| kbx (F_X11_existingTrader N M a0 x1) fun r1 M2 =>
    kg (kt M2 r1 10) <|
    some (.inl (kI M2 r1 3), M2)
def F_X11_ageOf (N : Nat) (M : kMem) (a0 : Nat) (x1 : Int32) : Option ((Int32 ⊕ Nat) × kMem) :=
    kg (kt M a0 11) <| kbx (F_X11_existingTrader N M a0 x1) fun r1 M2 =>
    kg (kt M2 r1 10) <|
    some (.inl (kI M2 r1 4), M2)
def F_X11_isPresent (N : Nat) (M : kMem) (a0 : Nat) (x1 : Int32) : Option ((Int32 ⊕ Nat) × kMem) :=
    kg (kt M a0 11) <| kbx (F_X11_existingTrader N M a0 x1) fun r1 M2 =>
    kg (kt M2 r1 10) <|
    kg ((kI M2 r1 5) == 0 || (kI M2 r1 5) == 1) <| some (.inl (kI M2 r1 5), M2)
def F_X11_boardOf (N : Nat) (M : kMem) (a0 : Nat) (x1 : Int32) : Option ((Int32 ⊕ Nat) × kMem) :=
    kg (kt M a0 11) <| kbx (F_X11_existingTrader N M a0 x1) fun r1 M2 =>
    kg (kt M2 r1 10) <|
    some (.inl (kI M2 r1 6), M2)
def F_X11_positionOf (N : Nat) (M : kMem) (a0 : Nat) (x1 : Int32) : Option ((Int32 ⊕ Nat) × kMem) :=
    kg (kt M a0 11) <| kbx (F_X11_existingTrader N M a0 x1) fun r1 M2 =>
    kg (kt M2 r1 10) <|
    some (.inl (kI M2 r1 7), M2)
def F_X11_incomeOf (N : Nat) (M : kMem) (a0 : Nat) (x1 : Int32) : Option ((Int32 ⊕ Nat) × kMem) :=
    kg (kt M a0 11) <|
    kg (kt M a0 11) <| kbx (F_X11_existingTrader N M a0 x1) fun r1 M2 =>
    kg (kt M2 (kR M a0 4) 4) <| (F_X4_incomeFor N M2 (kR M a0 4) r1).bind fun r3 =>
    some (.inl r3, M2)
def F_X11_reasonAgainstSeat (N : Nat) (M : kMem) (a0 : Nat) (x1 : Int32) (x2 : Int32) (x3 : Int32) : Option ((Int32 ⊕ Nat) × kMem) :=
    kg (kt M a0 11) <| kbx (F_X11_existingTrader N M a0 x1) fun r1 M2 =>
    kg (kt M2 a0 11) <|
    kg (kt M2 a0 11) <| kbx (F_X11_boardWithSeat N M2 a0 x2 x3) fun r3 M4 =>
    kg (kt M4 (kR M2 a0 4) 4) <| (F_X4_whyNotSeat N M4 (kR M2 a0 4) r1 r3 x3).bind fun r5 =>
    some (.inl r5, M4)
def F_X11_requireDifferent (N : Nat) (M : kMem) (x0 : Int32) (x1 : Int32) : Option ((Unit ⊕ Nat) × kMem) :=
    if x0 = x1 then (
      some (.inr 2, M)) else
    some (.inl (), M)
def F_X11_reasonAgainstSale (N : Nat) (M : kMem) (a0 : Nat) (x1 : Int32) (x2 : Int32) (x3 : Int32) : Option ((Int32 ⊕ Nat) × kMem) :=
    kg (kt M a0 11) <| kbx (F_X11_existingTrader N M a0 x1) fun r1 M2 =>
    kg (kt M2 a0 11) <| kbx (F_X11_existingTrader N M2 a0 x2) fun r3 M4 =>
    kbx (F_X11_requireDifferent N M4 x1 x2) fun r5 M6 =>
    kbx (F_X11_requireRange N M6 x3 1 50) fun r7 M8 =>
    kg (kt M8 a0 11) <|
    kg (kt M8 (kR M8 a0 4) 4) <| (F_X4_whyNotSale N M8 (kR M8 a0 4) r1 r3 x3).bind fun r9 =>
    some (.inl r9, M8)
def F_X11_reasonAgainstSwap (N : Nat) (M : kMem) (a0 : Nat) (x1 : Int32) (x2 : Int32) : Option ((Int32 ⊕ Nat) × kMem) :=
    kg (kt M a0 11) <| kbx (F_X11_existingTrader N M a0 x1) fun r1 M2 =>
    kg (kt M2 a0 11) <| kbx (F_X11_existingTrader N M2 a0 x2) fun r3 M4 =>
    kbx (F_X11_requireDifferent N M4 x1 x2) fun r5 M6 =>
    kg (kt M6 a0 11) <|
    kg (kt M6 (kR M6 a0 4) 4) <| (F_X4_whyNotSwap N M6 (kR M6 a0 4) r1 r3).bind fun r7 =>
    some (.inl r7, M6)
def F_X11_requireSeat (N : Nat) (M : kMem) (a0 : Nat) : Option ((Unit ⊕ Nat) × kMem) :=
    kg (kt M a0 10) <| (F_X10_isSeated N M a0).bind fun r1 =>
    if r1 = 0 then (
      some (.inr 3, M)) else
    some (.inl (), M)
def F_X11_weightUnitPrice (N : Nat) (M : kMem) (a0 : Nat) (x1 : Int32) (x2 : Int32) : Option ((Int32 ⊕ Nat) × kMem) :=
    kg (kt M a0 11) <| kbx (F_X11_existingTrader N M a0 x1) fun r1 M2 =>
    kg (kt M2 a0 11) <| kbx (F_X11_existingTrader N M2 a0 x2) fun r3 M4 =>
    kbx (F_X11_requireSeat N M4 r1) fun r5 M6 =>
    kbx (F_X11_requireSeat N M6 r3) fun r7 M8 =>
    kg (kt M8 a0 11) <|
    kg (kt M8 (kR M8 a0 4) 4) <| (F_X4_unitPrice N M8 (kR M8 a0 4) r1 r3).bind fun r9 =>
    some (.inl r9, M8)
def F_X11_bestSeat (N : Nat) (M : kMem) (a0 : Nat) (x1 : Int32) (x2 : Int32) : Option ((Int32 ⊕ Nat) × kMem) :=
    kg (kt M a0 11) <| kbx (F_X11_existingTrader N M a0 x1) fun r1 M2 =>
    kg (kt M2 a0 11) <|
    kg (kt M2 a0 11) <| kbx (F_X11_existingBoard N M2 a0 x2) fun r3 M4 =>
    kg (kt M4 (kR M2 a0 4) 4) <| (F_X4_mostPayingSeat N M4 (kR M2 a0 4) r1 r3).bind fun r5 =>
    some (.inl r5, M4)
def F_X11_purseAfter (N : Nat) (M : kMem) (a0 : Nat) (x1 : Int32) (x2 : Int32) : Option ((Int32 ⊕ Nat) × kMem) :=
    kg (kt M a0 11) <| kbx (F_X11_existingTrader N M a0 x1) fun r1 M2 =>
    kg (kt M2 r1 10) <|
    kl (kI M2 r1 0) fun v3 =>
    kbx (F_X11_requireRange N M2 x2 0 100) fun r4 M5 =>
    kg (kt M5 a0 11) <|
    kg (kt M5 a0 11) <|
    kg (kt M5 (kR M5 a0 5) 4) <| (F_X4_copyFrom N M5 (kR M5 a0 5) (kR M5 a0 4)).bind fun M6 =>
    kg (kt M6 a0 11) <|
    kg (kt M6 (kR M6 a0 5) 4) <| (F_X4_passDays N M6 (kR M6 a0 5) x2).bind fun r7 =>
    kg (kt r7.2 a0 11) <|
    kg (kt r7.2 (kR r7.2 a0 5) 4) <| (F_X4_traderNumbered N r7.2 (kR r7.2 a0 5) v3).bind fun r8 =>
    if r8 = 0 then (
      some (.inl 0, r7.2)) else
    kg (kt r7.2 r8 10) <|
    some (.inl (kI r7.2 r8 3), r7.2)
def F_X11_bankAfter (N : Nat) (M : kMem) (a0 : Nat) (x1 : Int32) : Option ((Int32 ⊕ Nat) × kMem) :=
    kbx (F_X11_requireRange N M x1 0 100) fun r1 M2 =>
    kg (kt M2 a0 11) <|
    kg (kt M2 a0 11) <|
    kg (kt M2 (kR M2 a0 5) 4) <| (F_X4_copyFrom N M2 (kR M2 a0 5) (kR M2 a0 4)).bind fun M3 =>
    kg (kt M3 a0 11) <|
    kg (kt M3 (kR M3 a0 5) 4) <| (F_X4_passDays N M3 (kR M3 a0 5) x1).bind fun r4 =>
    kg (kt r4.2 a0 11) <|
    kg (kt r4.2 (kR r4.2 a0 5) 4) <|
    some (.inl (kI r4.2 (kR r4.2 a0 5) 1), r4.2)
def F_X11_daysUntilFall (N : Nat) (M : kMem) (a0 : Nat) (x1 : Int32) : Option ((Int32 ⊕ Nat) × kMem) :=
    kg (kt M a0 11) <| kbx (F_X11_existingTrader N M a0 x1) fun r1 M2 =>
    kg (kt M2 r1 10) <|
    kl (kI M2 r1 0) fun v3 =>
    kg (kt M2 a0 11) <|
    kg (kt M2 a0 11) <|
    kg (kt M2 (kR M2 a0 5) 4) <| (F_X4_copyFrom N M2 (kR M2 a0 5) (kR M2 a0 4)).bind fun M4 =>
    kg (kt M4 a0 11) <|
    kg (kt M4 a0 11) <|
    kg (kt M4 (kR M4 a0 5) 4) <| (F_X4_traderNumbered N M4 (kR M4 a0 5) v3).bind fun r5 =>
    kg (kt M4 (kR M4 a0 5) 4) <| (F_X4_passDaysUntilFall N M4 (kR M4 a0 5) r5).bind fun r6 =>
    some (.inl r6.1, r6.2)
def F_X11_daysUntilRetirement (N : Nat) (M : kMem) (a0 : Nat) (x1 : Int32) : Option ((Int32 ⊕ Nat) × kMem) :=
    kg (kt M a0 11) <| kbx (F_X11_existingTrader N M a0 x1) fun r1 M2 =>
    kg (kt M2 r1 10) <|
    if (kI M2 r1 5) = 0 then (
      some (.inl 0, M2)) else
    kg (kt M2 a0 11) <|
    kg (kt M2 (kR M2 a0 4) 4) <|
    kg (kt M2 r1 10) <|
    some (.inl (((kI M2 (kR M2 a0 4) 5) - (kI M2 r1 4)) + 1), M2)
def F_X11_join (N : Nat) (M : kMem) (a0 : Nat) (x1 : Int32) (x2 : Int32) : Option ((Int32 ⊕ Nat) × kMem) :=
    kbx (F_X11_requireRange N M x1 1 99) fun r1 M2 =>
    kbx (F_X11_requireRange N M2 x2 0 9999) fun r3 M4 =>
    kg (kt M4 a0 11) <|
    kg (kt M4 a0 11) <|
    kg (kt M4 (kR M4 a0 0) 8) <|
    kg (kt M4 (kR M4 a0 0) 8) <| (F_X8_nameBetween N M4 (kR M4 a0 0) 0 (kI M4 (kR M4 a0 0) 1)).bind fun r5 =>
    kg (kt M4 a0 11) <|
    kg (kt M4 (kR M4 a0 4) 4) <| (F_X4_canAdmit N M4 (kR M4 a0 4) r5).bind fun r6 =>
    if r6 = 0 then (
      some (.inr 3, M4)) else
    kg (kt M4 a0 11) <|
    kg (kt M4 a0 11) <|
    kg (kt M4 (kR M4 a0 6) 3) <| (F_X3_record N M4 (kR M4 a0 6) (kR M4 a0 4)).bind fun M7 =>
    kg (kt M7 a0 11) <|
    kg (kt M7 (kR M7 a0 0) 8) <| kl (ksI M7 (kR M7 a0 0) 1 0) fun M8 =>
    kg (kt M8 a0 11) <|
    kg (kt M8 (kR M8 a0 4) 4) <| (F_X4_admit N M8 (kR M8 a0 4) r5 x1 x2 0).bind fun r9 =>
    some (.inl r9.1, r9.2)
def F_X11_requirePossible (N : Nat) (M : kMem) (x0 : Int32) : Option ((Unit ⊕ Nat) × kMem) :=
    if x0 = 0 then (
      some (.inl (), M)) else
    some (.inr 3, M)
def F_X11_buySeat (N : Nat) (M : kMem) (a0 : Nat) (x1 : Int32) (x2 : Int32) (x3 : Int32) : Option ((Int32 ⊕ Nat) × kMem) :=
    kg (kt M a0 11) <| kbx (F_X11_existingTrader N M a0 x1) fun r1 M2 =>
    kg (kt M2 a0 11) <| kbx (F_X11_boardWithSeat N M2 a0 x2 x3) fun r3 M4 =>
    kg (kt M4 a0 11) <|
    kg (kt M4 (kR M4 a0 4) 4) <| (F_X4_whyNotSeat N M4 (kR M4 a0 4) r1 r3 x3).bind fun r5 =>
    kbx (F_X11_requirePossible N M4 r5) fun r6 M7 =>
    kg (kt M7 a0 11) <|
    kg (kt M7 a0 11) <|
    kg (kt M7 (kR M7 a0 6) 3) <| (F_X3_record N M7 (kR M7 a0 6) (kR M7 a0 4)).bind fun M8 =>
    kg (kt M8 a0 11) <|
    kg (kt M8 (kR M8 a0 4) 4) <| (F_X4_sellSeat N M8 (kR M8 a0 4) r1 r3 x3).bind fun r9 =>
    some (.inl r9.1, r9.2)
def F_X11_leaveSeat (N : Nat) (M : kMem) (a0 : Nat) (x1 : Int32) : Option ((Int32 ⊕ Nat) × kMem) :=
    kg (kt M a0 11) <| kbx (F_X11_existingTrader N M a0 x1) fun r1 M2 =>
    kbx (F_X11_requireSeat N M2 r1) fun r3 M4 =>
    kg (kt M4 a0 11) <|
    kg (kt M4 a0 11) <|
    kg (kt M4 (kR M4 a0 6) 3) <| (F_X3_record N M4 (kR M4 a0 6) (kR M4 a0 4)).bind fun M5 =>
    kg (kt M5 r1 10) <|
    kl (kI M5 r1 6) fun v6 =>
    kg (kt M5 a0 11) <|
    kg (kt M5 (kR M5 a0 4) 4) <| (F_X4_unseat N M5 (kR M5 a0 4) r1).bind fun M7 =>
    some (.inl v6, M7)
def F_X11_sellWeight (N : Nat) (M : kMem) (a0 : Nat) (x1 : Int32) (x2 : Int32) (x3 : Int32) : Option ((Int32 ⊕ Nat) × kMem) :=
    kg (kt M a0 11) <| kbx (F_X11_existingTrader N M a0 x1) fun r1 M2 =>
    kg (kt M2 a0 11) <| kbx (F_X11_existingTrader N M2 a0 x2) fun r3 M4 =>
    kbx (F_X11_requireDifferent N M4 x1 x2) fun r5 M6 =>
    kbx (F_X11_requireRange N M6 x3 1 50) fun r7 M8 =>
    kg (kt M8 a0 11) <|
    kg (kt M8 (kR M8 a0 4) 4) <| (F_X4_whyNotSale N M8 (kR M8 a0 4) r1 r3 x3).bind fun r9 =>
    kbx (F_X11_requirePossible N M8 r9) fun r10 M11 =>
    kg (kt M11 a0 11) <|
    kg (kt M11 a0 11) <|
    kg (kt M11 (kR M11 a0 6) 3) <| (F_X3_record N M11 (kR M11 a0 6) (kR M11 a0 4)).bind fun M12 =>
    kg (kt M12 a0 11) <|
    kg (kt M12 (kR M12 a0 4) 4) <| (F_X4_moveWeight N M12 (kR M12 a0 4) r1 r3 x3).bind fun r13 =>
    some (.inl r13.1, r13.2)
def F_X11_swapSeats (N : Nat) (M : kMem) (a0 : Nat) (x1 : Int32) (x2 : Int32) : Option ((Int32 ⊕ Nat) × kMem) :=
    kg (kt M a0 11) <| kbx (F_X11_existingTrader N M a0 x1) fun r1 M2 =>
    kg (kt M2 a0 11) <| kbx (F_X11_existingTrader N M2 a0 x2) fun r3 M4 =>
    kbx (F_X11_requireDifferent N M4 x1 x2) fun r5 M6 =>
    kg (kt M6 a0 11) <|
    kg (kt M6 (kR M6 a0 4) 4) <| (F_X4_whyNotSwap N M6 (kR M6 a0 4) r1 r3).bind fun r7 =>
    kbx (F_X11_requirePossible N M6 r7) fun r8 M9 =>
    kg (kt M9 a0 11) <|
    kg (kt M9 a0 11) <|
    kg (kt M9 (kR M9 a0 6) 3) <| (F_X3_record N M9 (kR M9 a0 6) (kR M9 a0 4)).bind fun M10 =>
    kg (kt M10 a0 11) <|
    kg (kt M10 (kR M10 a0 4) 4) <| (F_X4_exchangeSeats N M10 (kR M10 a0 4) r1 r3).bind fun r11 =>
    some (.inl r11.1, r11.2)
def F_X11_setWage (N : Nat) (M : kMem) (a0 : Nat) (x1 : Int32) : Option ((Int32 ⊕ Nat) × kMem) :=
    kbx (F_X11_requireRange N M x1 0 20) fun r1 M2 =>
    kg (kt M2 a0 11) <|
    kg (kt M2 a0 11) <|
    kg (kt M2 (kR M2 a0 6) 3) <| (F_X3_record N M2 (kR M2 a0 6) (kR M2 a0 4)).bind fun M3 =>
    kg (kt M3 a0 11) <|
    kg (kt M3 (kR M3 a0 4) 4) <|
    kl (kI M3 (kR M3 a0 4) 2) fun v4 =>
    kg (kt M3 a0 11) <|
    kg (kt M3 (kR M3 a0 4) 4) <| kl (ksI M3 (kR M3 a0 4) 2 x1) fun M5 =>
    some (.inl v4, M5)
def F_X11_advance (N : Nat) (M : kMem) (a0 : Nat) (x1 : Int32) : Option ((Int32 ⊕ Nat) × kMem) :=
    kbx (F_X11_requireRange N M x1 1 30) fun r1 M2 =>
    kg (kt M2 a0 11) <|
    kg (kt M2 (kR M2 a0 4) 4) <| (F_X4_allowsDays N M2 (kR M2 a0 4) x1).bind fun r3 =>
    if r3 = 0 then (
      some (.inr 3, M2)) else
    kg (kt M2 a0 11) <|
    kg (kt M2 a0 11) <|
    kg (kt M2 (kR M2 a0 6) 3) <| (F_X3_record N M2 (kR M2 a0 6) (kR M2 a0 4)).bind fun M4 =>
    kg (kt M4 a0 11) <|
    kg (kt M4 (kR M4 a0 4) 4) <| (F_X4_passDays N M4 (kR M4 a0 4) x1).bind fun r5 =>
    some (.inl r5.1, r5.2)
def F_X11_writeBoard_20 (N : Nat) : Nat → kMem → Nat → Nat → Int32 → Option ((Int32 ⊕ Nat) × kMem)
  | 0, _, _, _, _ => none
  | n + 1, M, a0, a2, x3 =>
    kg (kt M a2 0) <|
    if (kI M a2 1) < x3 then (
      kg (kt M a0 11) <|
      kg (kt M (kR M a0 1) 8) <|
      some (.inl (kI M (kR M a0 1) 1), M)) else
    kg (kt M a0 11) <|
    kg (kt M (kR M a0 1) 8) <|
    if (0 : Int32) < (kI M (kR M a0 1) 1) then (
      kg (kt M a0 11) <|
      kg (kt M (kR M a0 1) 8) <| (F_X8_add N M (kR M a0 1) 32).bind fun M7 =>
      kg (kt M7 a0 11) <| (F_X11_writePlace N M7 a0 a2 x3).bind fun M8 =>
      kl (x3 + 1) fun v9 =>
      F_X11_writeBoard_20 N n M8 a0 a2 v9) else
    kg (kt M a0 11) <| (F_X11_writePlace N M a0 a2 x3).bind fun M5 =>
    kl (x3 + 1) fun v6 =>
    F_X11_writeBoard_20 N n M5 a0 a2 v6
def F_X11_writeBoard (N : Nat) (M : kMem) (a0 : Nat) (x1 : Int32) : Option ((Int32 ⊕ Nat) × kMem) :=
    kg (kt M a0 11) <| kbx (F_X11_existingBoard N M a0 x1) fun r1 M2 =>
    kg (kt M2 a0 11) <|
    kg (kt M2 (kR M2 a0 1) 8) <| kl (ksI M2 (kR M2 a0 1) 1 0) fun M3 =>
    kg (kt M3 r1 0) <|
    kl (-(kI M3 r1 1)) fun v4 =>
    F_X11_writeBoard_20 N N M3 a0 r1 v4
def F_X11_undo (N : Nat) (M : kMem) (a0 : Nat) : Option ((Int32 ⊕ Nat) × kMem) :=
    kg (kt M a0 11) <|
    kg (kt M (kR M a0 6) 3) <|
    if (kI M (kR M a0 6) 2) = 0 then (
      some (.inr 3, M)) else
    kg (kt M a0 11) <|
    kg (kt M a0 11) <|
    kg (kt M (kR M a0 6) 3) <| (F_X3_takeBack N M (kR M a0 6) (kR M a0 4)).bind fun M1 =>
    kg (kt M1 a0 11) <|
    kg (kt M1 (kR M1 a0 6) 3) <|
    some (.inl (kI M1 (kR M1 a0 6) 2), M1)
def F_X11_existingSlot (N : Nat) (M : kMem) (a0 : Nat) (x1 : Int32) : Option ((Nat ⊕ Nat) × kMem) :=
    if x1 < 0 then (
      some (.inr 1, M)) else
    kg (kt M a0 11) <|
    kg (kt M (kR M a0 7) 18) <|
    if x1 < (Int32.ofNat (kn M (kR M a0 7))) then (
      kg (kt M a0 11) <|
      kg (kin M (kR M a0 7) 18 x1) <|
      some (.inl (kR M (kR M a0 7) (kx x1)), M)) else
    some (.inr 1, M)
def F_X11_save (N : Nat) (M : kMem) (a0 : Nat) (x1 : Int32) : Option ((Int32 ⊕ Nat) × kMem) :=
    kg (kt M a0 11) <| kbx (F_X11_existingSlot N M a0 x1) fun r1 M2 =>
    kg (kt M2 a0 11) <|
    kg (kt M2 r1 4) <| (F_X4_copyFrom N M2 r1 (kR M2 a0 4)).bind fun M3 =>
    kg (kt M3 a0 11) <|
    kg (kin M3 (kR M3 a0 8) 14 x1 && ((1 : Int32) == 0 || (1 : Int32) == 1)) <| kl (ksI M3 (kR M3 a0 8) (kx x1) 1) fun M4 =>
    kg (kt M4 a0 11) <|
    kg (kt M4 (kR M4 a0 4) 4) <|
    some (.inl (kI M4 (kR M4 a0 4) 0), M4)
def F_X11_restore (N : Nat) (M : kMem) (a0 : Nat) (x1 : Int32) : Option ((Int32 ⊕ Nat) × kMem) :=
    kg (kt M a0 11) <| kbx (F_X11_existingSlot N M a0 x1) fun r1 M2 =>
    kg (kt M2 a0 11) <|
    kg (kin M2 (kR M2 a0 8) 14 x1) <|
    if (kI M2 (kR M2 a0 8) (kx x1)) = 0 then (
      some (.inr 3, M2)) else
    kg (kt M2 a0 11) <|
    kg (kt M2 (kR M2 a0 4) 4) <| (F_X4_copyFrom N M2 (kR M2 a0 4) r1).bind fun M3 =>
    kg (kt M3 a0 11) <|
    kg (kt M3 (kR M3 a0 6) 3) <| (F_X3_forget N M3 (kR M3 a0 6)).bind fun M4 =>
    kg (kt M4 a0 11) <|
    kg (kt M4 (kR M4 a0 4) 4) <|
    some (.inl (kI M4 (kR M4 a0 4) 0), M4)
