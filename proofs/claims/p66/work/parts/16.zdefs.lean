def F_AC_init (N : Nat) (M : kMem) (a0 : Nat) : Option (Unit) :=
    kg (!(a0 == 0)) <|
    some ()
def F_AB_init (N : Nat) (M : kMem) (a0 : Nat) : Option (kMem) :=
    kg (!(a0 == 0)) <| (F_AC_init N M a0).bind fun r1 =>
    kg (kt M a0 33) <| kl (ksI M a0 0 0) fun M2 =>
    some M2
def F_AL_init (N : Nat) (M : kMem) (a0 : Nat) : Option (kMem) :=
    kg (!(a0 == 0)) <| (F_AB_init N M a0).bind fun r1 =>
    kg (kt r1 a0 33) <| kl (ksE r1 a0 1) fun M2 =>
    some M2
def F_AL_size (N : Nat) (M : kMem) (a0 : Nat) : Option (Int32) :=
    kg (kt M a0 33) <|
    some (kI M a0 2)
def F_AL_ed (N : Nat) (M : kMem) (a0 : Nat) (x1 : Int32) : Option (Nat) :=
    kg (kt M a0 33) <|
    if kR M a0 1 = 0 then (
      kg (!(kI M a0 1 == 0)) <|
      none) else
    kg (kin M (kR M a0 1) 21 x1) <|
    some (kR M (kR M a0 1) (kx x1))
def F_OJ_chk (N : Nat) (M : kMem) (x0 : Int32) (x1 : Int32) : Option (Int32) :=
    (F_J3_check x0 x1).bind fun r1 =>
    some r1
def F_AL_get (N : Nat) (M : kMem) (a0 : Nat) (x1 : Int32) : Option (Nat) :=
    kg (kt M a0 33) <|
    (F_OJ_chk N M x1 (kI M a0 2)).bind fun r1 =>
    kg (kt M a0 33) <| (F_AL_ed N M a0 x1).bind fun r2 =>
    some r2
def F_IN_valueOf (N : Nat) (M : kMem) (x0 : Int32) : Option (Int32 × kMem) :=
    if x0 < (-128) then (
      none) else
    if (127 : Int32) < x0 then (
      none) else
    kg (decide ((0 : Int32) ≤ (x0 + 128)) && decide ((x0 + 128) < (256 : Int32))) <|
    some ((x0 + 128) - 128, M)
def F_IN_compare (N : Nat) (M : kMem) (x0 : Int32) (x1 : Int32) : Option (Int32) :=
    if x0 < x1 then (
      some (-1)) else
    if x0 = x1 then (
      some 0) else
    some 1
def F_IN_cmpT (N : Nat) (M : kMem) (x0 : Int32) (x1 : Int32) : Option (Int32) :=
    kg (kBk x0) <|
    kg (kBk x1) <|
    (F_IN_compare N M x0 x1).bind fun r1 =>
    some r1
def F_IN_cmpTo (N : Nat) (M : kMem) (x0 : Int32) (x1 : Int32) : Option (Int32) :=
    kg (kBk x1) <|
    kg (kBk x0) <| (F_IN_cmpT N M x0 x1).bind fun r1 =>
    some r1
def F_OJ_rnn (N : Nat) (M : kMem) (x0 : Int32) : Option (Int32) :=
    some x0
def F_TE_init (N : Nat) (M : kMem) (a0 : Nat) (x1 : Int32) (a2 : Nat) (a3 : Nat) : Option (kMem) :=
    kg (!(a0 == 0)) <|
    kg (kt M a0 35 && ((1 : Int32) == 0 || (1 : Int32) == 1)) <| kl (ksI M a0 5 1) fun M1 =>
    kg (kt M1 a0 35) <| kl (ksK M1 a0 0 x1) fun M2 =>
    kg (kt M2 a0 35) <| kl (ksR M2 a0 1 a2) fun M3 =>
    kg (kt M3 a0 35) <| kl (ksR M3 a0 4 a3) fun M4 =>
    some M4
def F_TE_getKey (N : Nat) (M : kMem) (a0 : Nat) : Option (Int32) :=
    kg (kt M a0 35 && !(kR M a0 0 == 0)) <|
    some (kI M a0 0)
def F_TE_getValue (N : Nat) (M : kMem) (a0 : Nat) : Option (Nat) :=
    kg (kt M a0 35) <|
    some (kR M a0 1)
def F_SE_init (N : Nat) (M : kMem) (a0 : Nat) (a1 : Nat) : Option (kMem) :=
    kg (!(a0 == 0)) <|
    kg (kt M a1 35) <| (F_TE_getKey N M a1).bind fun r1 =>
    kg (kt M a0 38) <| kl (ksK M a0 0 r1) fun M2 =>
    kg (kt M2 a1 35) <| (F_TE_getValue N M2 a1).bind fun r3 =>
    kg (kt M2 a0 38) <| kl (ksR M2 a0 1 r3) fun M4 =>
    some M4
def F_SE_getValue (N : Nat) (M : kMem) (a0 : Nat) : Option (Nat) :=
    kg (kt M a0 38) <|
    some (kR M a0 1)
def F_AM_init (N : Nat) (M : kMem) (a0 : Nat) : Option (Unit) :=
    kg (!(a0 == 0)) <|
    some ()
def F_TM_init (N : Nat) (M : kMem) (a0 : Nat) : Option (kMem) :=
    kg (!(a0 == 0)) <| (F_AM_init N M a0).bind fun r1 =>
    kg (kt M a0 34) <| kl (ksI M a0 4 0) fun M2 =>
    kg (kt M2 a0 34) <| kl (ksI M2 a0 5 0) fun M3 =>
    kg (kt M3 a0 34) <| kl (ksR M3 a0 2 0) fun M4 =>
    some M4
def F_TM_compare (N : Nat) (M : kMem) (a0 : Nat) (x1 : Int32) (x2 : Int32) : Option (Int32) :=
    kg (kt M a0 34) <|
    if (kR M a0 2) = 0 then (
      kg (kBk x1) <|
      kg (kBk x1) <| (F_IN_cmpTo N M x1 x2).bind fun r1 =>
      some r1) else
    none
def F_TM_getEntry_28 (N : Nat) (M : kMem) : Nat → Int32 → Nat → Option (Nat)
  | 0, _, _ => none
  | n + 1, x2, a3 =>
    if a3 = 0 then (
      some 0) else
    kg (kt M a3 35 && !(kR M a3 0 == 0)) <|
    kg (kBk x2) <| (F_IN_cmpTo N M x2 (kI M a3 0)).bind fun r3 =>
    if r3 < 0 then (
      kg (kt M a3 35) <|
      kl (kR M a3 2) fun w5 =>
      F_TM_getEntry_28 N M n x2 w5) else
    if (0 : Int32) < r3 then (
      kg (kt M a3 35) <|
      kl (kR M a3 3) fun w4 =>
      F_TM_getEntry_28 N M n x2 w4) else
    some a3
def F_TM_getEntry (N : Nat) (M : kMem) (a0 : Nat) (x1 : Int32) : Option (Nat) :=
    kg (kt M a0 34) <|
    if (kR M a0 2) = 0 then (
      (F_OJ_rnn N M x1).bind fun r1 =>
      kg (kBk x1) <|
      kg (kt M a0 34) <|
      kl (kR M a0 3) fun w2 =>
      F_TM_getEntry_28 N M N x1 w2) else
    none
def F_TM_containsKey (N : Nat) (M : kMem) (a0 : Nat) (x1 : Int32) : Option (Int32) :=
    kg (kt M a0 34) <| (F_TM_getEntry N M a0 x1).bind fun r1 =>
    if r1 = 0 then (
      some 0) else
    some 1
def F_TM_get (N : Nat) (M : kMem) (a0 : Nat) (x1 : Int32) : Option (Nat) :=
    kg (kt M a0 34) <| (F_TM_getEntry N M a0 x1).bind fun r1 =>
    if r1 = 0 then (
      some 0) else
    kg (kt M r1 35) <|
    some (kR M r1 1)
def F_TM_getFirstEntry_9 (N : Nat) (M : kMem) : Nat → Nat → Option (Nat)
  | 0, _ => none
  | n + 1, a1 =>
    kg (kt M a1 35) <|
    if (kR M a1 2) = 0 then (
      some a1) else
    kg (kt M a1 35) <|
    kl (kR M a1 2) fun w2 =>
    F_TM_getFirstEntry_9 N M n w2
def F_TM_getFirstEntry (N : Nat) (M : kMem) (a0 : Nat) : Option (Nat) :=
    kg (kt M a0 34) <|
    kl (kR M a0 3) fun w1 =>
    if w1 = 0 then (
      some w1) else
    F_TM_getFirstEntry_9 N M N w1
def F_TM_getLastEntry_9 (N : Nat) (M : kMem) : Nat → Nat → Option (Nat)
  | 0, _ => none
  | n + 1, a1 =>
    kg (kt M a1 35) <|
    if (kR M a1 3) = 0 then (
      some a1) else
    kg (kt M a1 35) <|
    kl (kR M a1 3) fun w2 =>
    F_TM_getLastEntry_9 N M n w2
def F_TM_getLastEntry (N : Nat) (M : kMem) (a0 : Nat) : Option (Nat) :=
    kg (kt M a0 34) <|
    kl (kR M a0 3) fun w1 =>
    if w1 = 0 then (
      some w1) else
    F_TM_getLastEntry_9 N M N w1
def F_TM_successor_42 (N : Nat) (M : kMem) : Nat → Nat → Nat → Option (Nat)
  | 0, _, _ => none
  | n + 1, a1, a2 =>
    if a1 = 0 then (
      some a1) else
    kg (kt M a1 35) <|
    if a2 = (kR M a1 3) then (
      kg (kt M a1 35) <|
      kl (kR M a1 4) fun w2 =>
      F_TM_successor_42 N M n w2 a1) else
    some a1
def F_TM_successor_18 (N : Nat) (M : kMem) : Nat → Nat → Option (Nat)
  | 0, _ => none
  | n + 1, a1 =>
    kg (kt M a1 35) <|
    if (kR M a1 2) = 0 then (
      some a1) else
    kg (kt M a1 35) <|
    kl (kR M a1 2) fun w4 =>
    F_TM_successor_18 N M n w4
def F_TM_successor (N : Nat) (M : kMem) (a0 : Nat) : Option (Nat) :=
    if a0 = 0 then (
      some 0) else
    kg (kt M a0 35) <|
    if (kR M a0 3) = 0 then (
      kg (kt M a0 35) <|
      kl (kR M a0 4) fun w1 =>
      F_TM_successor_42 N M N w1 a0) else
    kg (kt M a0 35) <|
    kl (kR M a0 3) fun w3 =>
    F_TM_successor_18 N M N w3
def F_TM_colorOf (N : Nat) (M : kMem) (a0 : Nat) : Option (Int32) :=
    if a0 = 0 then (
      some 1) else
    kg (kt M a0 35) <|
    kg ((kI M a0 5) == 0 || (kI M a0 5) == 1) <| some (kI M a0 5)
def F_TM_parentOf (N : Nat) (M : kMem) (a0 : Nat) : Option (Nat) :=
    if a0 = 0 then (
      some 0) else
    kg (kt M a0 35) <|
    some (kR M a0 4)
def F_TM_leftOf (N : Nat) (M : kMem) (a0 : Nat) : Option (Nat) :=
    if a0 = 0 then (
      some 0) else
    kg (kt M a0 35) <|
    some (kR M a0 2)
def F_TM_rightOf (N : Nat) (M : kMem) (a0 : Nat) : Option (Nat) :=
    if a0 = 0 then (
      some 0) else
    kg (kt M a0 35) <|
    some (kR M a0 3)
def F_TM_setColor (N : Nat) (M : kMem) (a0 : Nat) (x1 : Int32) : Option (kMem) :=
    if a0 = 0 then (
      some M) else
    kg (kt M a0 35 && (x1 == 0 || x1 == 1)) <| kl (ksI M a0 5 x1) fun M1 =>
    some M1
def F_TM_rotateLeft_32 (N : Nat) (M : kMem) (a0 : Nat) (a1 : Nat) (a2 : Nat) : Option (kMem) :=
    kg (kt M a1 35) <|
    kg (kt M a2 35) <| kl (ksR M a2 4 (kR M a1 4)) fun M3 =>
    kg (kt M3 a1 35) <|
    if (kR M3 a1 4) = 0 then (
      kg (kt M3 a0 34) <| kl (ksR M3 a0 3 a2) fun M10 =>
      kg (kt M10 a2 35) <| kl (ksR M10 a2 2 a1) fun M11 =>
      kg (kt M11 a1 35) <| kl (ksR M11 a1 4 a2) fun M12 =>
      some M12) else
    kg (kt M3 a1 35) <|
    kg (kt M3 (kR M3 a1 4) 35) <|
    if (kR M3 (kR M3 a1 4) 2) = a1 then (
      kg (kt M3 a1 35) <|
      kg (kt M3 (kR M3 a1 4) 35) <| kl (ksR M3 (kR M3 a1 4) 2 a2) fun M7 =>
      kg (kt M7 a2 35) <| kl (ksR M7 a2 2 a1) fun M8 =>
      kg (kt M8 a1 35) <| kl (ksR M8 a1 4 a2) fun M9 =>
      some M9) else
    kg (kt M3 a1 35) <|
    kg (kt M3 (kR M3 a1 4) 35) <| kl (ksR M3 (kR M3 a1 4) 3 a2) fun M4 =>
    kg (kt M4 a2 35) <| kl (ksR M4 a2 2 a1) fun M5 =>
    kg (kt M5 a1 35) <| kl (ksR M5 a1 4 a2) fun M6 =>
    some M6
def F_TM_rotateLeft (N : Nat) (M : kMem) (a0 : Nat) (a1 : Nat) : Option (kMem) :=
    if a1 = 0 then (
      some M) else
    kg (kt M a1 35) <|
    kl (kR M a1 3) fun w1 =>
    kg (kt M w1 35) <|
    kg (kt M a1 35) <| kl (ksR M a1 3 (kR M w1 2)) fun M2 =>
    kg (kt M2 w1 35) <|
    if (kR M2 w1 2) = 0 then (
      F_TM_rotateLeft_32 N M2 a0 a1 w1) else
    kg (kt M2 w1 35) <|
    kg (kt M2 (kR M2 w1 2) 35) <| kl (ksR M2 (kR M2 w1 2) 4 a1) fun M13 =>
    F_TM_rotateLeft_32 N M13 a0 a1 w1
def F_TM_rotateRight_32 (N : Nat) (M : kMem) (a0 : Nat) (a1 : Nat) (a2 : Nat) : Option (kMem) :=
    kg (kt M a1 35) <|
    kg (kt M a2 35) <| kl (ksR M a2 4 (kR M a1 4)) fun M3 =>
    kg (kt M3 a1 35) <|
    if (kR M3 a1 4) = 0 then (
      kg (kt M3 a0 34) <| kl (ksR M3 a0 3 a2) fun M10 =>
      kg (kt M10 a2 35) <| kl (ksR M10 a2 3 a1) fun M11 =>
      kg (kt M11 a1 35) <| kl (ksR M11 a1 4 a2) fun M12 =>
      some M12) else
    kg (kt M3 a1 35) <|
    kg (kt M3 (kR M3 a1 4) 35) <|
    if (kR M3 (kR M3 a1 4) 3) = a1 then (
      kg (kt M3 a1 35) <|
      kg (kt M3 (kR M3 a1 4) 35) <| kl (ksR M3 (kR M3 a1 4) 3 a2) fun M7 =>
      kg (kt M7 a2 35) <| kl (ksR M7 a2 3 a1) fun M8 =>
      kg (kt M8 a1 35) <| kl (ksR M8 a1 4 a2) fun M9 =>
      some M9) else
    kg (kt M3 a1 35) <|
    kg (kt M3 (kR M3 a1 4) 35) <| kl (ksR M3 (kR M3 a1 4) 2 a2) fun M4 =>
    kg (kt M4 a2 35) <| kl (ksR M4 a2 3 a1) fun M5 =>
    kg (kt M5 a1 35) <| kl (ksR M5 a1 4 a2) fun M6 =>
    some M6
def F_TM_rotateRight (N : Nat) (M : kMem) (a0 : Nat) (a1 : Nat) : Option (kMem) :=
    if a1 = 0 then (
      some M) else
    kg (kt M a1 35) <|
    kl (kR M a1 2) fun w1 =>
    kg (kt M w1 35) <|
    kg (kt M a1 35) <| kl (ksR M a1 2 (kR M w1 3)) fun M2 =>
    kg (kt M2 w1 35) <|
    if (kR M2 w1 3) = 0 then (
      F_TM_rotateRight_32 N M2 a0 a1 w1) else
    kg (kt M2 w1 35) <|
    kg (kt M2 (kR M2 w1 3) 35) <| kl (ksR M2 (kR M2 w1 3) 4 a1) fun M13 =>
    F_TM_rotateRight_32 N M13 a0 a1 w1
def F_TM_fixAfterInsertion_225 (N : Nat) (k5 : kMem → Nat → Nat → Option (kMem)) (M : kMem) (a0 : Nat) (a1 : Nat) : Option (kMem) :=
    (F_TM_parentOf N M a1).bind fun r15 =>
    (F_TM_setColor N M r15 1).bind fun r16 =>
    (F_TM_parentOf N r16 a1).bind fun r17 =>
    (F_TM_parentOf N r16 r17).bind fun r18 =>
    (F_TM_setColor N r16 r18 0).bind fun r19 =>
    (F_TM_parentOf N r19 a1).bind fun r20 =>
    (F_TM_parentOf N r19 r20).bind fun r21 =>
    kg (kt r19 a0 34) <| (F_TM_rotateLeft N r19 a0 r21).bind fun r22 =>
    k5 r22 a0 a1
def F_TM_fixAfterInsertion_118 (N : Nat) (k5 : kMem → Nat → Nat → Option (kMem)) (M : kMem) (a0 : Nat) (a1 : Nat) : Option (kMem) :=
    (F_TM_parentOf N M a1).bind fun r39 =>
    (F_TM_setColor N M r39 1).bind fun r40 =>
    (F_TM_parentOf N r40 a1).bind fun r41 =>
    (F_TM_parentOf N r40 r41).bind fun r42 =>
    (F_TM_setColor N r40 r42 0).bind fun r43 =>
    (F_TM_parentOf N r43 a1).bind fun r44 =>
    (F_TM_parentOf N r43 r44).bind fun r45 =>
    kg (kt r43 a0 34) <| (F_TM_rotateRight N r43 a0 r45).bind fun r46 =>
    k5 r46 a0 a1
def F_TM_fixAfterInsertion_5 (N : Nat) : Nat → kMem → Nat → Nat → Option (kMem)
  | 0, _, _, _ => none
  | n + 1, M, a0, a1 =>
    if a1 = 0 then (
      kg (kt M a0 34) <|
      kg (kt M (kR M a0 3) 35 && ((1 : Int32) == 0 || (1 : Int32) == 1)) <| kl (ksI M (kR M a0 3) 5 1) fun M2 =>
      some M2) else
    kg (kt M a0 34) <|
    if a1 = (kR M a0 3) then (
      kg (kt M a0 34) <|
      kg (kt M (kR M a0 3) 35 && ((1 : Int32) == 0 || (1 : Int32) == 1)) <| kl (ksI M (kR M a0 3) 5 1) fun M3 =>
      some M3) else
    kg (kt M a1 35) <|
    kg (kt M (kR M a1 4) 35) <|
    if (kI M (kR M a1 4) 5) = 0 then (
      (F_TM_parentOf N M a1).bind fun r5 =>
      (F_TM_parentOf N M a1).bind fun r6 =>
      (F_TM_parentOf N M r6).bind fun r7 =>
      (F_TM_leftOf N M r7).bind fun r8 =>
      if r5 = r8 then (
        (F_TM_parentOf N M a1).bind fun r33 =>
        (F_TM_parentOf N M r33).bind fun r34 =>
        (F_TM_rightOf N M r34).bind fun r35 =>
        (F_TM_colorOf N M r35).bind fun r36 =>
        if r36 = 0 then (
          (F_TM_parentOf N M a1).bind fun r49 =>
          (F_TM_setColor N M r49 1).bind fun r50 =>
          (F_TM_setColor N r50 r35 1).bind fun r51 =>
          (F_TM_parentOf N r51 a1).bind fun r52 =>
          (F_TM_parentOf N r51 r52).bind fun r53 =>
          (F_TM_setColor N r51 r53 0).bind fun r54 =>
          (F_TM_parentOf N r54 a1).bind fun r55 =>
          (F_TM_parentOf N r54 r55).bind fun r56 =>
          F_TM_fixAfterInsertion_5 N n r54 a0 r56) else
        (F_TM_parentOf N M a1).bind fun r37 =>
        (F_TM_rightOf N M r37).bind fun r38 =>
        if a1 = r38 then (
          (F_TM_parentOf N M a1).bind fun r47 =>
          kg (kt M a0 34) <| (F_TM_rotateLeft N M a0 r47).bind fun r48 =>
          F_TM_fixAfterInsertion_118 N (fun M a0 a1 => F_TM_fixAfterInsertion_5 N n M a0 a1) r48 a0 r47) else
        F_TM_fixAfterInsertion_118 N (fun M a0 a1 => F_TM_fixAfterInsertion_5 N n M a0 a1) M a0 a1) else
      (F_TM_parentOf N M a1).bind fun r9 =>
      (F_TM_parentOf N M r9).bind fun r10 =>
      (F_TM_leftOf N M r10).bind fun r11 =>
      (F_TM_colorOf N M r11).bind fun r12 =>
      if r12 = 0 then (
        (F_TM_parentOf N M a1).bind fun r25 =>
        (F_TM_setColor N M r25 1).bind fun r26 =>
        (F_TM_setColor N r26 r11 1).bind fun r27 =>
        (F_TM_parentOf N r27 a1).bind fun r28 =>
        (F_TM_parentOf N r27 r28).bind fun r29 =>
        (F_TM_setColor N r27 r29 0).bind fun r30 =>
        (F_TM_parentOf N r30 a1).bind fun r31 =>
        (F_TM_parentOf N r30 r31).bind fun r32 =>
        F_TM_fixAfterInsertion_5 N n r30 a0 r32) else
      (F_TM_parentOf N M a1).bind fun r13 =>
      (F_TM_leftOf N M r13).bind fun r14 =>
      if a1 = r14 then (
        (F_TM_parentOf N M a1).bind fun r23 =>
        kg (kt M a0 34) <| (F_TM_rotateRight N M a0 r23).bind fun r24 =>
        F_TM_fixAfterInsertion_225 N (fun M a0 a1 => F_TM_fixAfterInsertion_5 N n M a0 a1) r24 a0 r23) else
      F_TM_fixAfterInsertion_225 N (fun M a0 a1 => F_TM_fixAfterInsertion_5 N n M a0 a1) M a0 a1) else
    kg (kt M a0 34) <|
    kg (kt M (kR M a0 3) 35 && ((1 : Int32) == 0 || (1 : Int32) == 1)) <| kl (ksI M (kR M a0 3) 5 1) fun M4 =>
    some M4
def F_TM_fixAfterInsertion (N : Nat) (M : kMem) (a0 : Nat) (a1 : Nat) : Option (kMem) :=
    kg (kt M a1 35 && ((0 : Int32) == 0 || (0 : Int32) == 1)) <| kl (ksI M a1 5 0) fun M1 =>
    F_TM_fixAfterInsertion_5 N N M1 a0 a1
def F_TM_fixAfterDeletion_302 (N : Nat) (k0 : kMem → Nat → Nat → Option (kMem)) (M : kMem) (a0 : Nat) (a1 : Nat) (a2 : Nat) : Option (kMem) :=
    (F_TM_parentOf N M a1).bind fun r13 =>
    (F_TM_colorOf N M r13).bind fun r14 =>
    (F_TM_setColor N M a2 r14).bind fun r15 =>
    (F_TM_parentOf N r15 a1).bind fun r16 =>
    (F_TM_setColor N r15 r16 1).bind fun r17 =>
    (F_TM_leftOf N r17 a2).bind fun r18 =>
    (F_TM_setColor N r17 r18 1).bind fun r19 =>
    (F_TM_parentOf N r19 a1).bind fun r20 =>
    kg (kt r19 a0 34) <| (F_TM_rotateRight N r19 a0 r20).bind fun r21 =>
    kg (kt r21 a0 34) <|
    kl (kR r21 a0 3) fun w22 =>
    k0 r21 a0 w22
def F_TM_fixAfterDeletion_265 (N : Nat) (k0 : kMem → Nat → Nat → Option (kMem)) (M : kMem) (a0 : Nat) (a1 : Nat) (a2 : Nat) : Option (kMem) :=
    (F_TM_leftOf N M a2).bind fun r11 =>
    (F_TM_colorOf N M r11).bind fun r12 =>
    if r12 = 1 then (
      (F_TM_rightOf N M a2).bind fun r23 =>
      (F_TM_setColor N M r23 1).bind fun r24 =>
      (F_TM_setColor N r24 a2 0).bind fun r25 =>
      kg (kt r25 a0 34) <| (F_TM_rotateLeft N r25 a0 a2).bind fun r26 =>
      (F_TM_parentOf N r26 a1).bind fun r27 =>
      (F_TM_leftOf N r26 r27).bind fun r28 =>
      F_TM_fixAfterDeletion_302 N k0 r26 a0 a1 r28) else
    F_TM_fixAfterDeletion_302 N k0 M a0 a1 a2
def F_TM_fixAfterDeletion_230 (N : Nat) (k0 : kMem → Nat → Nat → Option (kMem)) (M : kMem) (a0 : Nat) (a1 : Nat) (a2 : Nat) : Option (kMem) :=
    (F_TM_rightOf N M a2).bind fun r9 =>
    (F_TM_colorOf N M r9).bind fun r10 =>
    if r10 = 1 then (
      (F_TM_leftOf N M a2).bind fun r29 =>
      (F_TM_colorOf N M r29).bind fun r30 =>
      if r30 = 1 then (
        (F_TM_setColor N M a2 0).bind fun r31 =>
        (F_TM_parentOf N r31 a1).bind fun r32 =>
        k0 r31 a0 r32) else
      F_TM_fixAfterDeletion_265 N k0 M a0 a1 a2) else
    F_TM_fixAfterDeletion_265 N k0 M a0 a1 a2
def F_TM_fixAfterDeletion_143 (N : Nat) (k0 : kMem → Nat → Nat → Option (kMem)) (M : kMem) (a0 : Nat) (a1 : Nat) (a2 : Nat) : Option (kMem) :=
    (F_TM_parentOf N M a1).bind fun r47 =>
    (F_TM_colorOf N M r47).bind fun r48 =>
    (F_TM_setColor N M a2 r48).bind fun r49 =>
    (F_TM_parentOf N r49 a1).bind fun r50 =>
    (F_TM_setColor N r49 r50 1).bind fun r51 =>
    (F_TM_rightOf N r51 a2).bind fun r52 =>
    (F_TM_setColor N r51 r52 1).bind fun r53 =>
    (F_TM_parentOf N r53 a1).bind fun r54 =>
    kg (kt r53 a0 34) <| (F_TM_rotateLeft N r53 a0 r54).bind fun r55 =>
    kg (kt r55 a0 34) <|
    kl (kR r55 a0 3) fun w56 =>
    k0 r55 a0 w56
def F_TM_fixAfterDeletion_106 (N : Nat) (k0 : kMem → Nat → Nat → Option (kMem)) (M : kMem) (a0 : Nat) (a1 : Nat) (a2 : Nat) : Option (kMem) :=
    (F_TM_rightOf N M a2).bind fun r45 =>
    (F_TM_colorOf N M r45).bind fun r46 =>
    if r46 = 1 then (
      (F_TM_leftOf N M a2).bind fun r57 =>
      (F_TM_setColor N M r57 1).bind fun r58 =>
      (F_TM_setColor N r58 a2 0).bind fun r59 =>
      kg (kt r59 a0 34) <| (F_TM_rotateRight N r59 a0 a2).bind fun r60 =>
      (F_TM_parentOf N r60 a1).bind fun r61 =>
      (F_TM_rightOf N r60 r61).bind fun r62 =>
      F_TM_fixAfterDeletion_143 N k0 r60 a0 a1 r62) else
    F_TM_fixAfterDeletion_143 N k0 M a0 a1 a2
def F_TM_fixAfterDeletion_71 (N : Nat) (k0 : kMem → Nat → Nat → Option (kMem)) (M : kMem) (a0 : Nat) (a1 : Nat) (a2 : Nat) : Option (kMem) :=
    (F_TM_leftOf N M a2).bind fun r43 =>
    (F_TM_colorOf N M r43).bind fun r44 =>
    if r44 = 1 then (
      (F_TM_rightOf N M a2).bind fun r63 =>
      (F_TM_colorOf N M r63).bind fun r64 =>
      if r64 = 1 then (
        (F_TM_setColor N M a2 0).bind fun r65 =>
        (F_TM_parentOf N r65 a1).bind fun r66 =>
        k0 r65 a0 r66) else
      F_TM_fixAfterDeletion_106 N k0 M a0 a1 a2) else
    F_TM_fixAfterDeletion_106 N k0 M a0 a1 a2
def F_TM_fixAfterDeletion_0 (N : Nat) : Nat → kMem → Nat → Nat → Option (kMem)
  | 0, _, _, _ => none
  | n + 1, M, a0, a1 =>
    kg (kt M a0 34) <|
    if a1 = (kR M a0 3) then (
      (F_TM_setColor N M a1 1).bind fun r1 =>
      some r1) else
    (F_TM_colorOf N M a1).bind fun r2 =>
    if r2 = 1 then (
      (F_TM_parentOf N M a1).bind fun r4 =>
      (F_TM_leftOf N M r4).bind fun r5 =>
      if a1 = r5 then (
        (F_TM_parentOf N M a1).bind fun r40 =>
        (F_TM_rightOf N M r40).bind fun r41 =>
        (F_TM_colorOf N M r41).bind fun r42 =>
        if r42 = 0 then (
          (F_TM_setColor N M r41 1).bind fun r67 =>
          (F_TM_parentOf N r67 a1).bind fun r68 =>
          (F_TM_setColor N r67 r68 0).bind fun r69 =>
          (F_TM_parentOf N r69 a1).bind fun r70 =>
          kg (kt r69 a0 34) <| (F_TM_rotateLeft N r69 a0 r70).bind fun r71 =>
          (F_TM_parentOf N r71 a1).bind fun r72 =>
          (F_TM_rightOf N r71 r72).bind fun r73 =>
          F_TM_fixAfterDeletion_71 N (fun M a0 a1 => F_TM_fixAfterDeletion_0 N n M a0 a1) r71 a0 a1 r73) else
        F_TM_fixAfterDeletion_71 N (fun M a0 a1 => F_TM_fixAfterDeletion_0 N n M a0 a1) M a0 a1 r41) else
      (F_TM_parentOf N M a1).bind fun r6 =>
      (F_TM_leftOf N M r6).bind fun r7 =>
      (F_TM_colorOf N M r7).bind fun r8 =>
      if r8 = 0 then (
        (F_TM_setColor N M r7 1).bind fun r33 =>
        (F_TM_parentOf N r33 a1).bind fun r34 =>
        (F_TM_setColor N r33 r34 0).bind fun r35 =>
        (F_TM_parentOf N r35 a1).bind fun r36 =>
        kg (kt r35 a0 34) <| (F_TM_rotateRight N r35 a0 r36).bind fun r37 =>
        (F_TM_parentOf N r37 a1).bind fun r38 =>
        (F_TM_leftOf N r37 r38).bind fun r39 =>
        F_TM_fixAfterDeletion_230 N (fun M a0 a1 => F_TM_fixAfterDeletion_0 N n M a0 a1) r37 a0 a1 r39) else
      F_TM_fixAfterDeletion_230 N (fun M a0 a1 => F_TM_fixAfterDeletion_0 N n M a0 a1) M a0 a1 r7) else
    (F_TM_setColor N M a1 1).bind fun r3 =>
    some r3
def F_TM_fixAfterDeletion (N : Nat) (M : kMem) (a0 : Nat) (a1 : Nat) : Option (kMem) :=
    F_TM_fixAfterDeletion_0 N N M a0 a1
def F_TM_deleteEntry_192 (N : Nat) (M : kMem) (a1 : Nat) : Option (kMem) :=
    kg (kt M a1 35) <|
    if (kR M a1 4) = 0 then (
      some M) else
    kg (kt M a1 35) <|
    kg (kt M (kR M a1 4) 35) <|
    if a1 = (kR M (kR M a1 4) 2) then (
      kg (kt M a1 35) <|
      kg (kt M (kR M a1 4) 35) <| kl (ksR M (kR M a1 4) 2 0) fun M6 =>
      kg (kt M6 a1 35) <| kl (ksR M6 a1 4 0) fun M7 =>
      some M7) else
    kg (kt M a1 35) <|
    kg (kt M (kR M a1 4) 35) <|
    if a1 = (kR M (kR M a1 4) 3) then (
      kg (kt M a1 35) <|
      kg (kt M (kR M a1 4) 35) <| kl (ksR M (kR M a1 4) 3 0) fun M4 =>
      kg (kt M4 a1 35) <| kl (ksR M4 a1 4 0) fun M5 =>
      some M5) else
    kg (kt M a1 35) <| kl (ksR M a1 4 0) fun M3 =>
    some M3
def F_TM_deleteEntry_133 (N : Nat) (M : kMem) (a0 : Nat) (a1 : Nat) (a2 : Nat) : Option (kMem) :=
    kg (kt M a1 35) <| kl (ksR M a1 4 0) fun M12 =>
    kg (kt M12 a1 35) <| kl (ksR M12 a1 3 0) fun M13 =>
    kg (kt M13 a1 35) <| kl (ksR M13 a1 2 0) fun M14 =>
    kg (kt M14 a1 35) <|
    if (kI M14 a1 5) = 1 then (
      kg (kt M14 a0 34) <| (F_TM_fixAfterDeletion N M14 a0 a2).bind fun r15 =>
      some r15) else
    some M14
def F_TM_deleteEntry_75 (N : Nat) (M : kMem) (a0 : Nat) (a1 : Nat) (y0 : Nat) : Option (kMem) :=
    if y0 = 0 then (
      kg (kt M a1 35) <|
      if (kR M a1 4) = 0 then (
        kg (kt M a0 34) <| kl (ksR M a0 3 0) fun M9 =>
        some M9) else
      kg (kt M a1 35) <|
      if (kI M a1 5) = 1 then (
        kg (kt M a0 34) <| (F_TM_fixAfterDeletion N M a0 a1).bind fun r8 =>
        F_TM_deleteEntry_192 N r8 a1) else
      F_TM_deleteEntry_192 N M a1) else
    kg (kt M a1 35) <|
    kg (kt M y0 35) <| kl (ksR M y0 4 (kR M a1 4)) fun M10 =>
    kg (kt M10 a1 35) <|
    if (kR M10 a1 4) = 0 then (
      kg (kt M10 a0 34) <| kl (ksR M10 a0 3 y0) fun M17 =>
      F_TM_deleteEntry_133 N M17 a0 a1 y0) else
    kg (kt M10 a1 35) <|
    kg (kt M10 (kR M10 a1 4) 35) <|
    if a1 = (kR M10 (kR M10 a1 4) 2) then (
      kg (kt M10 a1 35) <|
      kg (kt M10 (kR M10 a1 4) 35) <| kl (ksR M10 (kR M10 a1 4) 2 y0) fun M16 =>
      F_TM_deleteEntry_133 N M16 a0 a1 y0) else
    kg (kt M10 a1 35) <|
    kg (kt M10 (kR M10 a1 4) 35) <| kl (ksR M10 (kR M10 a1 4) 3 y0) fun M11 =>
    F_TM_deleteEntry_133 N M11 a0 a1 y0
def F_TM_deleteEntry_57 (N : Nat) (M : kMem) (a0 : Nat) (a1 : Nat) : Option (kMem) :=
    kg (kt M a1 35) <|
    if (kR M a1 2) = 0 then (
      kg (kt M a1 35) <|
      F_TM_deleteEntry_75 N M a0 a1 (kR M a1 3)) else
    kg (kt M a1 35) <|
    F_TM_deleteEntry_75 N M a0 a1 (kR M a1 2)
def F_TM_deleteEntry (N : Nat) (M : kMem) (a0 : Nat) (a1 : Nat) : Option (kMem) :=
    kg (kt M a0 34) <|
    kg (kt M a0 34) <| kl (ksI M a0 5 ((kI M a0 5) + 1)) fun M1 =>
    kg (kt M1 a0 34) <|
    kg (kt M1 a0 34) <| kl (ksI M1 a0 4 ((kI M1 a0 4) - 1)) fun M2 =>
    kg (kt M2 a1 35) <|
    if (kR M2 a1 2) = 0 then (
      F_TM_deleteEntry_57 N M2 a0 a1) else
    kg (kt M2 a1 35) <|
    if (kR M2 a1 3) = 0 then (
      F_TM_deleteEntry_57 N M2 a0 a1) else
    (F_TM_successor N M2 a1).bind fun r18 =>
    kg (kt M2 r18 35 && !(kR M2 r18 0 == 0)) <|
    kg (kt M2 a1 35) <| kl (ksK M2 a1 0 (kI M2 r18 0)) fun M19 =>
    kg (kt M19 r18 35) <|
    kg (kt M19 a1 35) <| kl (ksR M19 a1 1 (kR M19 r18 1)) fun M20 =>
    F_TM_deleteEntry_57 N M20 a0 r18
def F_TM_addEntry_32 (N : Nat) (M : kMem) (a0 : Nat) (a5 : Nat) : Option (kMem) :=
    kg (kt M a0 34) <| (F_TM_fixAfterInsertion N M a0 a5).bind fun r5 =>
    kg (kt r5 a0 34) <|
    kg (kt r5 a0 34) <| kl (ksI r5 a0 4 ((kI r5 a0 4) + 1)) fun M6 =>
    kg (kt M6 a0 34) <|
    kg (kt M6 a0 34) <| kl (ksI M6 a0 5 ((kI M6 a0 5) + 1)) fun M7 =>
    some M7
def F_TM_addEntry (N : Nat) (M : kMem) (a0 : Nat) (x1 : Int32) (a2 : Nat) (a3 : Nat) (x4 : Int32) : Option (kMem) :=
    kl (M.1.length + 1) fun w1 => kl (kNew M 35 6) fun M2 =>
    kg (!(w1 == 0)) <| (F_TE_init N M2 w1 x1 a2 a3).bind fun r3 =>
    if x4 = 0 then (
      kg (kt r3 a3 35) <| kl (ksR r3 a3 3 w1) fun M4 =>
      F_TM_addEntry_32 N M4 a0 w1) else
    kg (kt r3 a3 35) <| kl (ksR r3 a3 2 w1) fun M8 =>
    F_TM_addEntry_32 N M8 a0 w1
def F_TM_addEntryToEmptyMap (N : Nat) (M : kMem) (a0 : Nat) (x1 : Int32) (a2 : Nat) : Option (kMem) :=
    kg (kt M a0 34) <| (F_TM_compare N M a0 x1 x1).bind fun r1 =>
    kl (M.1.length + 1) fun w2 => kl (kNew M 35 6) fun M3 =>
    kg (!(w2 == 0)) <| (F_TE_init N M3 w2 x1 a2 0).bind fun r4 =>
    kg (kt r4 a0 34) <| kl (ksR r4 a0 3 w2) fun M5 =>
    kg (kt M5 a0 34) <| kl (ksI M5 a0 4 1) fun M6 =>
    kg (kt M6 a0 34) <|
    kg (kt M6 a0 34) <| kl (ksI M6 a0 5 ((kI M6 a0 5) + 1)) fun M7 =>
    some M7
def F_TM_put__196 (N : Nat) (k123 : kMem → Nat → Int32 → Nat → Int32 → Nat → Int32 → Option (Nat × kMem)) (M : kMem) (a0 : Nat) (x1 : Int32) (a2 : Nat) (x3 : Int32) (a4 : Nat) (x5 : Int32) (a6 : Nat) (x8 : Int32) : Option (Nat × kMem) :=
    if a4 = 0 then (
      if x5 < 0 then (
        kg (kt M a0 34) <| (F_TM_addEntry N M a0 x1 a2 a6 1).bind fun r10 =>
        some (0, r10)) else
      kg (kt M a0 34) <| (F_TM_addEntry N M a0 x1 a2 a6 0).bind fun r9 =>
      some (0, r9)) else
    k123 M a0 x1 a2 x3 a4 x8
def F_TM_put__123 (N : Nat) : Nat → kMem → Nat → Int32 → Nat → Int32 → Nat → Int32 → Option (Nat × kMem)
  | 0, _, _, _, _, _, _, _ => none
  | n + 1, M, a0, x1, a2, x3, a4, x8 =>
    kg (kt M a4 35 && !(kR M a4 0 == 0)) <|
    kg (kBk x8) <| (F_IN_cmpTo N M x8 (kI M a4 0)).bind fun r4 =>
    if r4 < 0 then (
      kg (kt M a4 35) <|
      kl (kR M a4 2) fun w11 =>
      F_TM_put__196 N (fun M a0 x1 a2 x3 a4 x8 => F_TM_put__123 N n M a0 x1 a2 x3 a4 x8) M a0 x1 a2 x3 w11 r4 a4 x8) else
    if (0 : Int32) < r4 then (
      kg (kt M a4 35) <|
      kl (kR M a4 3) fun w8 =>
      F_TM_put__196 N (fun M a0 x1 a2 x3 a4 x8 => F_TM_put__123 N n M a0 x1 a2 x3 a4 x8) M a0 x1 a2 x3 w8 r4 a4 x8) else
    kg (kt M a4 35) <|
    kl (kR M a4 1) fun w5 =>
    if x3 = 0 then (
      if w5 = 0 then (
        kg (kt M a4 35) <| kl (ksR M a4 1 a2) fun M7 =>
        some (w5, M7)) else
      some (w5, M)) else
    kg (kt M a4 35) <| kl (ksR M a4 1 a2) fun M6 =>
    some (w5, M6)
def F_TM_put__30 (N : Nat) : Nat → kMem → Nat → Int32 → Nat → Int32 → Nat → Nat → Option (Nat × kMem)
  | 0, _, _, _, _, _, _, _ => none
  | n + 1, M, a0, x1, a2, x3, a4, a7 =>
    none
def F_TM_put_ (N : Nat) (M : kMem) (a0 : Nat) (x1 : Int32) (a2 : Nat) (x3 : Int32) : Option (Nat × kMem) :=
    kg (kt M a0 34) <|
    kl (kR M a0 3) fun w1 =>
    if w1 = 0 then (
      kg (kt M a0 34) <| (F_TM_addEntryToEmptyMap N M a0 x1 a2).bind fun r12 =>
      some (0, r12)) else
    kg (kt M a0 34) <|
    kl (kR M a0 2) fun w2 =>
    if w2 = 0 then (
      (F_OJ_rnn N M x1).bind fun r3 =>
      kg (kBk x1) <|
      F_TM_put__123 N N M a0 x1 a2 x3 w1 x1) else
    F_TM_put__30 N N M a0 x1 a2 x3 w1 w2
def F_TM_put (N : Nat) (M : kMem) (a0 : Nat) (x1 : Int32) (a2 : Nat) : Option (Nat × kMem) :=
    kg (kt M a0 34) <| (F_TM_put_ N M a0 x1 a2 1).bind fun r1 =>
    some (r1.1, r1.2)
def F_TM_remove (N : Nat) (M : kMem) (a0 : Nat) (x1 : Int32) : Option (Nat × kMem) :=
    kg (kt M a0 34) <| (F_TM_getEntry N M a0 x1).bind fun r1 =>
    if r1 = 0 then (
      some (0, M)) else
    kg (kt M r1 35) <|
    kl (kR M r1 1) fun w2 =>
    kg (kt M a0 34) <| (F_TM_deleteEntry N M a0 r1).bind fun r3 =>
    some (w2, r3)
def F_TM_exportEntry (N : Nat) (M : kMem) (a0 : Nat) : Option (Nat × kMem) :=
    if a0 = 0 then (
      some (0, M)) else
    kl (M.1.length + 1) fun w1 => kl (kNew M 38 2) fun M2 =>
    kg (!(w1 == 0)) <| (F_SE_init N M2 w1 a0).bind fun r3 =>
    some (w1, r3)
def F_TM_firstEntry (N : Nat) (M : kMem) (a0 : Nat) : Option (Nat × kMem) :=
    kg (kt M a0 34) <| (F_TM_getFirstEntry N M a0).bind fun r1 =>
    (F_TM_exportEntry N M r1).bind fun r2 =>
    some (r2.1, r2.2)
def F_TM_lastEntry (N : Nat) (M : kMem) (a0 : Nat) : Option (Nat × kMem) :=
    kg (kt M a0 34) <| (F_TM_getLastEntry N M a0).bind fun r1 =>
    (F_TM_exportEntry N M r1).bind fun r2 =>
    some (r2.1, r2.2)
def F_TV_init (N : Nat) (M : kMem) (a0 : Nat) (a1 : Nat) : Option (kMem) :=
    kg (kt M a0 36) <| kl (ksR M a0 0 a1) fun M1 =>
    kg (!(a0 == 0)) <| (F_AC_init N M1 a0).bind fun r2 =>
    some M1
def F_TM_values (N : Nat) (M : kMem) (a0 : Nat) : Option (Nat × kMem) :=
    kg (kt M a0 34) <|
    kl (kR M a0 1) fun w1 =>
    if w1 = 0 then (
      kl (M.1.length + 1) fun w2 => kl (kNew M 36 1) fun M3 =>
      kg (!(w2 == 0)) <| (F_TV_init N M3 w2 a0).bind fun r4 =>
      kg (kt r4 a0 34) <| kl (ksR r4 a0 1 w2) fun M5 =>
      some (w2, M5)) else
    some (w1, M)
def F_PI_init (N : Nat) (M : kMem) (a0 : Nat) (a1 : Nat) (a2 : Nat) : Option (kMem) :=
    kg (kt M a0 37) <| kl (ksR M a0 3 a1) fun M1 =>
    kg (!(a0 == 0)) <|
    kg (kt M1 a1 34) <|
    kg (kt M1 a0 37) <| kl (ksI M1 a0 2 (kI M1 a1 5)) fun M2 =>
    kg (kt M2 a0 37) <| kl (ksR M2 a0 1 0) fun M3 =>
    kg (kt M3 a0 37) <| kl (ksR M3 a0 0 a2) fun M4 =>
    some M4
def F_TI_init (N : Nat) (M : kMem) (a0 : Nat) (a1 : Nat) (a2 : Nat) : Option (kMem) :=
    kg (!(a0 == 0)) <| (F_PI_init N M a0 a1 a2).bind fun r1 =>
    some r1
def F_TV_iterator (N : Nat) (M : kMem) (a0 : Nat) : Option (Nat × kMem) :=
    kl (M.1.length + 1) fun w1 => kl (kNew M 37 4) fun M2 =>
    kg (kt M2 a0 36) <|
    kg (kt M2 a0 36) <|
    kg (kt M2 (kR M2 a0 0) 34) <| (F_TM_getFirstEntry N M2 (kR M2 a0 0)).bind fun r3 =>
    kg (!(w1 == 0)) <| (F_TI_init N M2 w1 (kR M2 a0 0) r3).bind fun r4 =>
    some (w1, r4)
def F_PI_hasNext (N : Nat) (M : kMem) (a0 : Nat) : Option (Int32) :=
    kg (kt M a0 37) <|
    if (kR M a0 0) = 0 then (
      some 0) else
    some 1
def F_PI_nextEntry (N : Nat) (M : kMem) (a0 : Nat) : Option (Nat × kMem) :=
    kg (kt M a0 37) <|
    kl (kR M a0 0) fun w1 =>
    if w1 = 0 then (
      none) else
    kg (kt M a0 37) <|
    kg (kt M (kR M a0 3) 34) <|
    kg (kt M a0 37) <|
    if (kI M (kR M a0 3) 5) = (kI M a0 2) then (
      (F_TM_successor N M w1).bind fun r2 =>
      kg (kt M a0 37) <| kl (ksR M a0 0 r2) fun M3 =>
      kg (kt M3 a0 37) <| kl (ksR M3 a0 1 w1) fun M4 =>
      some (w1, M4)) else
    none
def F_TI_next (N : Nat) (M : kMem) (a0 : Nat) : Option (Nat × kMem) :=
    kg (kt M a0 37) <| (F_PI_nextEntry N M a0).bind fun r1 =>
    kg (kt r1.2 r1.1 35) <|
    some (kR r1.2 r1.1 1, r1.2)
def F_AS_isLatin1 (N : Nat) (M : kMem) (a0 : Nat) : Option (Int32) :=
    if (1 : Int32) = 0 then (
      some 0) else
    kg (kt M a0 39) <|
    if (kI M a0 1) = 0 then (
      some 1) else
    some 0
def F_AS_getValue (N : Nat) (M : kMem) (a0 : Nat) : Option (Nat) :=
    kg (kt M a0 39) <|
    some (kR M a0 0)
def F_AS_length (N : Nat) (M : kMem) (a0 : Nat) : Option (Int32) :=
    kg (kt M a0 39) <|
    some (kI M a0 3)
def F_SB_length (N : Nat) (M : kMem) (a0 : Nat) : Option (Int32) :=
    kg (kt M a0 39) <| (F_AS_length N M a0).bind fun r1 =>
    some r1
def F_AX_newLength (N : Nat) (M : kMem) (x0 : Int32) (x1 : Int32) (x2 : Int32) : Option (Int32) :=
    kl (x0 + (kmax x1 x2)) fun v1 =>
    if (0 : Int32) < v1 then (
      if (2147483639 : Int32) < v1 then (
        none) else
      some v1) else
    none
def F_AS_newCapacity (N : Nat) (M : kMem) (a0 : Nat) (x1 : Int32) : Option (Int32) :=
    kg (kt M a0 39) <|
    kg (kt M (kR M a0 0) 20) <|
    kl (Int32.ofNat (kn M (kR M a0 0))) fun v1 =>
    kg (kt M a0 39) <|
    kl (x1 <<< ((kI M a0 1) &&& 31)) fun v2 =>
    kl (v2 - v1) fun v3 =>
    kg (kt M a0 39) <|
    (F_AX_newLength N M v1 v3 (v1 + (2 <<< ((kI M a0 1) &&& 31)))).bind fun r4 =>
    if r4 = 2147483647 then (
      none) else
    kg (kt M a0 39) <|
    some (r4 >>> ((kI M a0 1) &&& 31))
def F_AR_checkLength (N : Nat) (M : kMem) (x0 : Int32) (x1 : Int32) : Option (Unit) :=
    if x1 < x0 then (
      none) else
    some ()
def F_AR_copyOfRangeByte (N : Nat) (M : kMem) (a0 : Nat) (x1 : Int32) (x2 : Int32) : Option (Nat × kMem) :=
    (F_AR_checkLength N M x1 x2).bind fun r1 =>
    kl (x2 - x1) fun v2 =>
    kg (decide (0 ≤ v2) && decide (v2.toNatClampNeg ≤ 60000)) <| kl (M.1.length + 1) fun w3 => kl (kNew M 20 v2.toNatClampNeg) fun M4 =>
    kg (kt M4 a0 20) <|
    kg (kcpB M4 a0 x1 w3 0 (kmin ((Int32.ofNat (kn M4 a0)) - x1) v2)) <| kl (kcp M4 a0 x1 w3 0 (kmin ((Int32.ofNat (kn M4 a0)) - x1) v2)) fun M5 =>
    some (w3, M5)
def F_AR_copyOfRange (N : Nat) (M : kMem) (a0 : Nat) (x1 : Int32) (x2 : Int32) : Option (Nat × kMem) :=
    if x1 = 0 then (
      kg (kt M a0 20) <|
      if x2 = (Int32.ofNat (kn M a0)) then (
        kg (kt M a0 20 && kFitA M a0) <| kl (M.1.length + 1) fun w2 => kl (kClB M a0) fun M3 =>
        kg (kt M3 w2 20) <|
        some (w2, M3)) else
      (F_AR_copyOfRangeByte N M a0 x1 x2).bind fun r4 =>
      some (r4.1, r4.2)) else
    (F_AR_copyOfRangeByte N M a0 x1 x2).bind fun r1 =>
    some (r1.1, r1.2)
def F_AR_copyOf (N : Nat) (M : kMem) (a0 : Nat) (x1 : Int32) : Option (Nat × kMem) :=
    kg (kt M a0 20) <|
    if x1 = (Int32.ofNat (kn M a0)) then (
      kg (kt M a0 20 && kFitA M a0) <| kl (M.1.length + 1) fun w4 => kl (kClB M a0) fun M5 =>
      kg (kt M5 w4 20) <|
      some (w4, M5)) else
    kg (decide (0 ≤ x1) && decide (x1.toNatClampNeg ≤ 60000)) <| kl (M.1.length + 1) fun w1 => kl (kNew M 20 x1.toNatClampNeg) fun M2 =>
    kg (kt M2 a0 20) <|
    kg (kcpB M2 a0 0 w1 0 (kmin (Int32.ofNat (kn M2 a0)) x1)) <| kl (kcp M2 a0 0 w1 0 (kmin (Int32.ofNat (kn M2 a0)) x1)) fun M3 =>
    some (w1, M3)
def F_AS_ensure (N : Nat) (M : kMem) (a0 : Nat) (x1 : Int32) : Option (kMem) :=
    kg (kt M a0 39) <|
    kg (kt M (kR M a0 0) 20) <|
    kg (kt M a0 39) <|
    kl ((Int32.ofNat (kn M (kR M a0 0))) >>> ((kI M a0 1) &&& 31)) fun v1 =>
    if (0 : Int32) < (x1 - v1) then (
      kg (kt M a0 39) <|
      kg (kt M a0 39) <| (F_AS_newCapacity N M a0 x1).bind fun r2 =>
      kg (kt M a0 39) <|
      (F_AR_copyOf N M (kR M a0 0) (r2 <<< ((kI M a0 1) &&& 31))).bind fun r3 =>
      kg (kt r3.2 a0 39) <| kl (ksR r3.2 a0 0 r3.1) fun M4 =>
      some M4) else
    some M
def F_AS_inflateIf (N : Nat) (M : kMem) (a0 : Nat) (s1 : Nat) : Option (Unit) :=
    if (1 : Int32) = 0 then (
      some ()) else
    kg (kt M a0 39) <|
    (F_J0_coder s1).bind fun r1 =>
    if (kI M a0 1) = r1 then (
      some ()) else
    none
def F_J0_getBytesS (N : Nat) (M : kMem) (s0 : Nat) (a1 : Nat) (x2 : Int32) (x3 : Int32) : Option (kMem) :=
    (F_J0_coder s0).bind fun r1 =>
    if r1 = x3 then (
      kg (decide (s0 < kSn)) <|
      kg (decide (s0 < kSn)) <|
      kg (decide (s0 < kSn)) <|
      kg (kcpTOk M s0 0 a1 (x2 <<< (x3 &&& 31)) (Int32.ofNat (kSlen.getD s0 0))) <| kl (kcpT M s0 0 a1 (x2 <<< (x3 &&& 31)) (Int32.ofNat (kSlen.getD s0 0))) fun M2 =>
      some M2) else
    none
def F_AS_putStringAt (N : Nat) (M : kMem) (a0 : Nat) (x1 : Int32) (s2 : Nat) : Option (kMem) :=
    kg (kt M a0 39) <| (F_AS_inflateIf N M a0 s2).bind fun r1 =>
    kg (kt M a0 39) <|
    kg (kt M a0 39) <|
    kg (decide (s2 < kSn)) <| (F_J0_getBytesS N M s2 (kR M a0 0) x1 (kI M a0 1)).bind fun r2 =>
    some r2
def F_AS_appendS (N : Nat) (M : kMem) (a0 : Nat) (s1 : Nat) : Option (Nat × kMem) :=
    (F_J0_length s1).bind fun r1 =>
    kg (kt M a0 39) <|
    kg (kt M a0 39) <| (F_AS_ensure N M a0 ((kI M a0 3) + r1)).bind fun r2 =>
    kg (kt r2 a0 39) <|
    kg (kt r2 a0 39) <| (F_AS_putStringAt N r2 a0 (kI r2 a0 3) s1).bind fun r3 =>
    kg (kt r3 a0 39) <|
    kg (kt r3 a0 39) <| kl (ksI r3 a0 3 ((kI r3 a0 3) + r1)) fun M4 =>
    some (a0, M4)
def F_J1_canEncode (N : Nat) (M : kMem) (x0 : Int32) : Option (Int32) :=
    if (255 : Int32) < x0 then (
      some 0) else
    some 1
def F_AS_appendC_56 (N : Nat) (M : kMem) (a0 : Nat) (x1 : Int32) : Option (Nat × kMem) :=
    none
def F_AS_appendC_45 (N : Nat) (M : kMem) (a0 : Nat) (x1 : Int32) : Option (Nat × kMem) :=
    kg (kt M a0 39) <| (F_AS_isLatin1 N M a0).bind fun r3 =>
    if r3 = 0 then (
      F_AS_appendC_56 N M a0 x1) else
    none
def F_AS_appendC (N : Nat) (M : kMem) (a0 : Nat) (x1 : Int32) : Option (Nat × kMem) :=
    kg (kt M a0 39) <|
    kg (kt M a0 39) <| (F_AS_ensure N M a0 ((kI M a0 3) + 1)).bind fun r1 =>
    kg (kt r1 a0 39) <| (F_AS_isLatin1 N r1 a0).bind fun r2 =>
    if r2 = 0 then (
      F_AS_appendC_45 N r1 a0 x1) else
    (F_J1_canEncode N r1 x1).bind fun r5 =>
    if r5 = 0 then (
      F_AS_appendC_45 N r1 a0 x1) else
    kg (kt r1 a0 39) <|
    kg (kt r1 a0 39) <|
    kg (kt r1 a0 39) <| kl (ksI r1 a0 3 ((kI r1 a0 3) + 1)) fun M6 =>
    kg (kin M6 (kR r1 a0 0) 20 (kI r1 a0 3)) <| kl (ksI M6 (kR r1 a0 0) (kx (kI r1 a0 3)) (x1.toInt8.toInt32).toInt8.toInt32) fun M7 =>
    some (a0, M7)
def F_IN_stringSize_16 (N : Nat) (M : kMem) : Nat → Int32 → Int32 → Int32 → Int32 → Option (Int32)
  | 0, _, _, _, _ => none
  | n + 1, x0, x1, x2, x3 =>
    if x3 < 10 then (
      if x2 < x0 then (
        some (x3 + x1)) else
      kl (10 * x2) fun v1 =>
      kl (x3 + 1) fun v2 =>
      F_IN_stringSize_16 N M n x0 x1 v1 v2) else
    some (10 + x1)
def F_IN_stringSize (N : Nat) (M : kMem) (x0 : Int32) : Option (Int32) :=
    if x0 < 0 then (
      F_IN_stringSize_16 N M N x0 1 (-10) 1) else
    kl (-x0) fun v3 =>
    F_IN_stringSize_16 N M N v3 0 (-10) 1
def F_IN_getChars_22 (N : Nat) : Nat → kMem → Int32 → Nat → Int32 → Int32 → Option (Int32 × kMem)
  | 0, _, _, _, _, _ => none
  | n + 1, M, x0, a2, x5, x6 =>
    if (-100 : Int32) < x0 then (
      kl (x5 + (-1)) fun v1 =>
      kg (decide ((0 : Int32) ≤ (-x0)) && decide ((-x0) < (100 : Int32))) <|
      kg (kin M a2 20 v1) <| kl (ksI M a2 (kx v1) (nI (48 + (-x0).toNatClampNeg % 10)).toInt8.toInt32) fun M2 =>
      if x0 < (-9) then (
        kl (v1 + (-1)) fun v5 =>
        kg (decide ((0 : Int32) ≤ (-x0)) && decide ((-x0) < (100 : Int32))) <|
        kg (kin M2 a2 20 v5) <| kl (ksI M2 a2 (kx v5) (nI (48 + (-x0).toNatClampNeg / 10)).toInt8.toInt32) fun M6 =>
        if x6 = 0 then (
          some (v5, M6)) else
        kl (v5 + (-1)) fun v7 =>
        kg (kin M6 a2 20 v7) <| kl (ksI M6 a2 (kx v7) (45).toInt8.toInt32) fun M8 =>
        some (v7, M8)) else
      if x6 = 0 then (
        some (v1, M2)) else
      kl (v1 + (-1)) fun v3 =>
      kg (kin M2 a2 20 v3) <| kl (ksI M2 a2 (kx v3) (45).toInt8.toInt32) fun M4 =>
      some (v3, M4)) else
    kg (!((100 : Int32) == 0)) <|
    kl (x0 / 100) fun v9 =>
    kl ((v9 * 100) - x0) fun v10 =>
    kl (x5 + (-1)) fun v11 =>
    kg (decide ((0 : Int32) ≤ v10) && decide (v10 < (100 : Int32))) <|
    kg (kin M a2 20 v11) <| kl (ksI M a2 (kx v11) (nI (48 + v10.toNatClampNeg % 10)).toInt8.toInt32) fun M12 =>
    kl (v11 + (-1)) fun v13 =>
    kg (decide ((0 : Int32) ≤ v10) && decide (v10 < (100 : Int32))) <|
    kg (kin M12 a2 20 v13) <| kl (ksI M12 a2 (kx v13) (nI (48 + v10.toNatClampNeg / 10)).toInt8.toInt32) fun M14 =>
    F_IN_getChars_22 N n M14 v9 a2 v13 x6
def F_IN_getChars (N : Nat) (M : kMem) (x0 : Int32) (x1 : Int32) (a2 : Nat) : Option (Int32 × kMem) :=
    if x0 < 0 then (
      if (1 : Int32) = 0 then (
        kl (-x0) fun v16 =>
        F_IN_getChars_22 N N M v16 a2 x1 1) else
      F_IN_getChars_22 N N M x0 a2 x1 1) else
    if (0 : Int32) = 0 then (
      kl (-x0) fun v15 =>
      F_IN_getChars_22 N N M v15 a2 x1 0) else
    F_IN_getChars_22 N N M x0 a2 x1 0
def F_AS_appendI (N : Nat) (M : kMem) (a0 : Nat) (x1 : Int32) : Option (Nat × kMem) :=
    kg (kt M a0 39) <|
    kl (kI M a0 3) fun v1 =>
    (F_IN_stringSize N M x1).bind fun r2 =>
    kl (v1 + r2) fun v3 =>
    kg (kt M a0 39) <| (F_AS_ensure N M a0 v3).bind fun r4 =>
    kg (kt r4 a0 39) <| (F_AS_isLatin1 N r4 a0).bind fun r5 =>
    if r5 = 0 then (
      none) else
    kg (kt r4 a0 39) <|
    (F_IN_getChars N r4 x1 v3 (kR r4 a0 0)).bind fun r6 =>
    kg (kt r6.2 a0 39) <| kl (ksI r6.2 a0 3 v3) fun M7 =>
    some (a0, M7)
def F_SB_appendS (N : Nat) (M : kMem) (a0 : Nat) (s1 : Nat) : Option (Nat × kMem) :=
    kg (kt M a0 39) <| (F_AS_appendS N M a0 s1).bind fun r1 =>
    some (a0, r1.2)
def F_SB_appendB (N : Nat) (M : kMem) (a0 : Nat) (s1 : Nat) : Option (Nat × kMem) :=
    kg (kt M a0 39) <| (F_SB_appendS N M a0 s1).bind fun r1 =>
    some (r1.1, r1.2)
def F_SB_appendC (N : Nat) (M : kMem) (a0 : Nat) (x1 : Int32) : Option (Nat × kMem) :=
    kg (kt M a0 39) <| (F_AS_appendC N M a0 x1).bind fun r1 =>
    some (a0, r1.2)
def F_SB_appendI (N : Nat) (M : kMem) (a0 : Nat) (x1 : Int32) : Option (Nat × kMem) :=
    kg (kt M a0 39) <| (F_AS_appendI N M a0 x1).bind fun r1 =>
    some (a0, r1.2)
def F_AS_init_24 (N : Nat) (M : kMem) (a0 : Nat) (s1 : Nat) (y0 : Int32) : Option (kMem) :=
    (F_J0_coder s1).bind fun r2 =>
    kg (kt M a0 39 && decide (r2.toInt8.toInt32 = r2)) <| kl (ksI M a0 1 r2) fun M3 =>
    if r2 = 0 then (
      kg (decide (0 ≤ y0) && decide (y0.toNatClampNeg ≤ 60000)) <| kl (M3.1.length + 1) fun w4 => kl (kNew M3 20 y0.toNatClampNeg) fun M5 =>
      kg (kt M5 a0 39) <| kl (ksR M5 a0 0 w4) fun M6 =>
      kg (kt M6 a0 39) <| (F_SB_appendB N M6 a0 s1).bind fun r7 =>
      some r7.2) else
    none
def F_AS_init (N : Nat) (M : kMem) (a0 : Nat) (s1 : Nat) : Option (kMem) :=
    kg (!(a0 == 0)) <|
    (F_J0_length s1).bind fun r1 =>
    if r1 < 2147483631 then (
      F_AS_init_24 N M a0 s1 (r1 + 16)) else
    F_AS_init_24 N M a0 s1 2147483647
def F_SB_init (N : Nat) (M : kMem) (a0 : Nat) (s1 : Nat) : Option (kMem) :=
    kg (!(a0 == 0)) <| (F_AS_init N M a0 s1).bind fun r1 =>
    some r1
def F_J0_coderR (N : Nat) (M : kMem) (a0 : Nat) : Option (Int32) :=
    if (1 : Int32) = 0 then (
      kg (decide ((1 : Int32).toInt8.toInt32 = 1)) <| some 1) else
    kg (kt M a0 40) <|
    kg (decide ((kI M a0 1).toInt8.toInt32 = (kI M a0 1))) <| some (kI M a0 1)
def F_J0_isLatin1R (N : Nat) (M : kMem) (a0 : Nat) : Option (Int32) :=
    if (1 : Int32) = 0 then (
      some 0) else
    kg (kt M a0 40) <|
    if (kI M a0 1) = 0 then (
      some 1) else
    some 0
def F_J0_lengthR (N : Nat) (M : kMem) (a0 : Nat) : Option (Int32) :=
    kg (kt M a0 40) <|
    kg (kt M (kR M a0 0) 20) <|
    kg (kt M a0 40) <| (F_J0_coderR N M a0).bind fun r1 =>
    some ((Int32.ofNat (kn M (kR M a0 0))) >>> (r1 &&& 31))
def F_J1_charAtR (N : Nat) (M : kMem) (a0 : Nat) (x1 : Int32) : Option (Int32) :=
    kg (kt M a0 20) <|
    (F_J3_check x1 (Int32.ofNat (kn M a0))).bind fun r1 =>
    kg (kin M a0 20 x1) <|
    kg (decide ((((((kI M a0 (kx x1)) &&& 255).toUInt32 % 65536).toInt32).toUInt32 % 65536).toInt32 = ((((kI M a0 (kx x1)) &&& 255).toUInt32 % 65536).toInt32))) <| some ((((kI M a0 (kx x1)) &&& 255).toUInt32 % 65536).toInt32)
def F_J0_charAtR (N : Nat) (M : kMem) (a0 : Nat) (x1 : Int32) : Option (Int32) :=
    kg (kt M a0 40) <| (F_J0_isLatin1R N M a0).bind fun r1 =>
    if r1 = 0 then (
      none) else
    kg (kt M a0 40) <|
    (F_J1_charAtR N M (kR M a0 0) x1).bind fun r2 =>
    kg (decide ((r2.toUInt32 % 65536).toInt32 = r2)) <| some r2
def F_J0_init2_79 (N : Nat) (M : kMem) (a0 : Nat) (a3 : Nat) (x4 : Int32) : Option (kMem) :=
    kg (kt M a0 40 && decide ((1 : Int32).toInt8.toInt32 = 1)) <| kl (ksI M a0 1 1) fun M4 =>
    (F_AR_copyOfRange N M4 a3 0 (x4 <<< (1 &&& 31))).bind fun r5 =>
    kg (kt r5.2 a0 40) <| kl (ksR r5.2 a0 0 r5.1) fun M6 =>
    some M6
def F_J0_init2 (N : Nat) (M : kMem) (a0 : Nat) (a1 : Nat) (a2 : Nat) : Option (kMem) :=
    kg (!(a0 == 0)) <|
    kg (kt M a1 39) <| (F_AS_getValue N M a1).bind fun r1 =>
    kg (kt M a1 39) <| (F_SB_length N M a1).bind fun r2 =>
    kg (kt M a1 39) <| (F_AS_isLatin1 N M a1).bind fun r3 =>
    if r3 = 0 then (
      if (1 : Int32) = 0 then (
        F_J0_init2_79 N M a0 r1 r2) else
      kg (kt M a1 39) <|
      if (kI M a1 2) = 0 then (
        F_J0_init2_79 N M a0 r1 r2) else
      none) else
    kg (kt M a0 40 && decide ((0 : Int32).toInt8.toInt32 = 0)) <| kl (ksI M a0 1 0) fun M7 =>
    (F_AR_copyOfRange N M7 r1 0 r2).bind fun r8 =>
    kg (kt r8.2 a0 40) <| kl (ksR r8.2 a0 0 r8.1) fun M9 =>
    some M9
def F_J0_init1 (N : Nat) (M : kMem) (a0 : Nat) (a1 : Nat) : Option (kMem) :=
    kg (!(a0 == 0)) <| (F_J0_init2 N M a0 a1 0).bind fun r1 =>
    some r1
def F_SB_toString (N : Nat) (M : kMem) (a0 : Nat) : Option (Nat × kMem) :=
    kl (M.1.length + 1) fun w1 => kl (kNew M 40 4) fun M2 =>
    kg (!(w1 == 0)) <| (F_J0_init1 N M2 w1 a0).bind fun r3 =>
    some (w1, r3)
def F_LB_init (N : Nat) (M : kMem) (a0 : Nat) (x1 : Int32) (x2 : Int32) (x3 : Int32) (x4 : Int32) : Option (kMem) :=
    kg (!(a0 == 0)) <|
    kl (M.1.length + 1) fun w1 => kl (kNew M 34 9) fun M2 =>
    kg (!(w1 == 0)) <| (F_TM_init N M2 w1).bind fun r3 =>
    kg (kt r3 a0 31) <| kl (ksR r3 a0 4 w1) fun M4 =>
    kg (kt M4 a0 31) <| kl (ksI M4 a0 0 x1) fun M5 =>
    kg (kt M5 a0 31) <| kl (ksI M5 a0 1 x2) fun M6 =>
    kg (kt M6 a0 31) <| kl (ksI M6 a0 2 x3) fun M7 =>
    kg (kt M7 a0 31) <| kl (ksI M7 a0 3 x4) fun M8 =>
    some M8
def F_LB_torque_15 (N : Nat) : Nat → kMem → Int32 → Nat → Option (Int32 × kMem)
  | 0, _, _, _ => none
  | n + 1, M, x1, a2 =>
    kg (kt M a2 37) <| (F_PI_hasNext N M a2).bind fun r4 =>
    if r4 = 0 then (
      some (x1, M)) else
    kg (kt M a2 37) <| (F_TI_next N M a2).bind fun r5 =>
    kg (r5.1 == 0 || kt r5.2 r5.1 32) <|
    kl r5.1 fun w6 =>
    kg (kt r5.2 w6 32) <|
    kg (kt r5.2 w6 32) <|
    kl (x1 + ((kI r5.2 w6 4) * (kI r5.2 w6 1))) fun v7 =>
    F_LB_torque_15 N n r5.2 v7 a2
def F_LB_torque (N : Nat) (M : kMem) (a0 : Nat) : Option (Int32 × kMem) :=
    kg (kt M a0 31) <|
    kg (kt M (kR M a0 4) 34) <| (F_TM_values N M (kR M a0 4)).bind fun r1 =>
    kg (kt r1.2 r1.1 36) <| (F_TV_iterator N r1.2 r1.1).bind fun r2 =>
    kl r2.1 fun w3 =>
    F_LB_torque_15 N N r2.2 0 w3
def F_LB_tilt (N : Nat) (M : kMem) (a0 : Nat) : Option (Int32 × kMem) :=
    kg (kt M a0 31) <| (F_LB_torque N M a0).bind fun r1 =>
    kg (kt r1.2 a0 31) <|
    kg (!((kI r1.2 a0 2) == 0)) <|
    kl (r1.1 / (kI r1.2 a0 2)) fun v2 =>
    if (9 : Int32) < v2 then (
      some (9, r1.2)) else
    if v2 < (-9) then (
      some ((-9), r1.2)) else
    some (v2, r1.2)
def F_LB_height (N : Nat) (M : kMem) (a0 : Nat) (x1 : Int32) : Option (Int32 × kMem) :=
    kg (kt M a0 31) <| (F_LB_tilt N M a0).bind fun r1 =>
    some (-(x1 * r1.1), r1.2)
def F_LT_init (N : Nat) (M : kMem) (a0 : Nat) (x1 : Int32) (x2 : Int32) (x3 : Int32) (x4 : Int32) : Option (kMem) :=
    kg (!(a0 == 0)) <|
    kg (kt M a0 32 && ((1 : Int32) == 0 || (1 : Int32) == 1)) <| kl (ksI M a0 5 1) fun M1 =>
    kg (kt M1 a0 32) <| kl (ksI M1 a0 0 x1) fun M2 =>
    kg (kt M2 a0 32) <| kl (ksI M2 a0 1 x2) fun M3 =>
    kg (kt M3 a0 32) <| kl (ksI M3 a0 2 x3) fun M4 =>
    kg (kt M4 a0 32) <| kl (ksI M4 a0 3 x4) fun M5 =>
    some M5
def F_LT_rises (N : Nat) (M : kMem) (a0 : Nat) : Option (kMem) :=
    kg (kt M a0 32) <|
    if (kR M a0 6) = 0 then (
      some M) else
    kg (kt M a0 32) <|
    kg (kt M (kR M a0 6) 31) <|
    kg (kt M a0 32) <|
    (F_IN_valueOf N M (kI M a0 4)).bind fun r1 =>
    kg (kt r1.2 (kR M (kR M a0 6) 4) 34) <| (F_TM_remove N r1.2 (kR M (kR M a0 6) 4) r1.1).bind fun r2 =>
    kg (r2.1 == 0 || kt r2.2 r2.1 32) <|
    kl r2.1 fun w3 =>
    kg (kt r2.2 a0 32) <| kl (ksR r2.2 a0 6 0) fun M4 =>
    kg (kt M4 a0 32) <| kl (ksI M4 a0 4 0) fun M5 =>
    some M5
def F_LT_sits (N : Nat) (M : kMem) (a0 : Nat) (a1 : Nat) (x2 : Int32) : Option (kMem) :=
    kg (kt M a1 31) <|
    (F_IN_valueOf N M x2).bind fun r1 =>
    kg (kt r1.2 (kR M a1 4) 34) <| (F_TM_put N r1.2 (kR M a1 4) r1.1 a0).bind fun r2 =>
    kg (r2.1 == 0 || kt r2.2 r2.1 32) <|
    kl r2.1 fun w3 =>
    kg (kt r2.2 a0 32) <| kl (ksR r2.2 a0 6 a1) fun M4 =>
    kg (kt M4 a0 32) <| kl (ksI M4 a0 4 x2) fun M5 =>
    some M5
def F_L_init (N : Nat) (M : kMem) (a0 : Nat) : Option (kMem) :=
    kg (!(a0 == 0)) <|
    kl (M.1.length + 1) fun w1 => kl (kNew M 33 3) fun M2 =>
    kg (!(w1 == 0)) <| (F_AL_init N M2 w1).bind fun r3 =>
    kg (kt r3 a0 30) <| kl (ksR r3 a0 0 w1) fun M4 =>
    kl (M4.1.length + 1) fun w5 => kl (kNew M4 33 3) fun M6 =>
    kg (!(w5 == 0)) <| (F_AL_init N M6 w5).bind fun r7 =>
    kg (kt r7 a0 30) <| kl (ksR r7 a0 1 w5) fun M8 =>
    some M8
def F_L_draw (N : Nat) (M : kMem) (a0 : Nat) (x1 : Int32) : Option (Int32 × kMem) :=
    kg (kin M a0 13 0) <|
    kg (kin M a0 13 0) <| kl (ksI M a0 (kx 0) (((kI M a0 (kx 0)) * 1664525) + 1013904223)) fun M1 =>
    kg (kin M1 a0 13 0) <|
    kg (!(x1 == 0)) <|
    some ((((kI M1 a0 (kx 0)).toUInt32 >>> ((8 : Int32).toUInt32 &&& Int32.toUInt32 31)).toInt32) - ((((kI M1 a0 (kx 0)).toUInt32 >>> ((8 : Int32).toUInt32 &&& Int32.toUInt32 31)).toInt32) / x1) * x1, M1)
def F_L_price (N : Nat) (M : kMem) (a0 : Nat) (a1 : Nat) (x2 : Int32) : Option (Int32 × kMem) :=
    kg (kt M a0 30) <|
    kg (kt M a1 31) <| (F_LB_height N M a1 x2).bind fun r1 =>
    some (((kI M a0 3) + (kabs x2)) + (kmax 0 r1.1), r1.2)
def F_L_earns_42 (N : Nat) (M : kMem) (a0 : Nat) (a1 : Nat) (y0 : Int32) : Option (kMem) :=
    kg (kt M a1 32) <|
    kg (kt M a1 32) <| kl (ksI M a1 2 ((kI M a1 2) + y0)) fun M3 =>
    kg (kt M3 a0 30) <|
    kg (kt M3 a0 30) <| kl (ksI M3 a0 7 ((kI M3 a0 7) - y0)) fun M4 =>
    some M4
def F_L_earns (N : Nat) (M : kMem) (a0 : Nat) (a1 : Nat) : Option (kMem) :=
    kg (kt M a0 30) <|
    kg (kt M a1 32) <|
    kg (kt M a1 32) <|
    kg (kt M (kR M a1 6) 31) <| (F_LB_height N M (kR M a1 6) (kI M a1 4)).bind fun r1 =>
    kl ((kI M a0 2) + r1.1) fun v2 =>
    if (0 : Int32) < v2 then (
      kg (kt r1.2 a0 30) <|
      F_L_earns_42 N r1.2 a0 a1 (kmin v2 (kI r1.2 a0 7))) else
    kg (kt r1.2 a1 32) <|
    F_L_earns_42 N r1.2 a0 a1 (-(kmin (-v2) (kI r1.2 a1 2)))
def F_L_pays (N : Nat) (M : kMem) (a0 : Nat) (a1 : Nat) (x2 : Int32) : Option (kMem) :=
    kg (kt M a1 32) <|
    kl (kmin x2 (kI M a1 2)) fun v1 =>
    kg (kt M a1 32) <|
    kg (kt M a1 32) <| kl (ksI M a1 2 ((kI M a1 2) - v1)) fun M2 =>
    kg (kt M2 a0 30) <|
    kg (kt M2 a0 30) <| kl (ksI M2 a0 7 ((kI M2 a0 7) + v1)) fun M3 =>
    some M3
def F_L_passes_236 (N : Nat) (k155 : kMem → Nat → Int32 → Int32 → Option (Int32 × kMem)) (k182 : kMem → Nat → Int32 → Int32 → Nat → Option (Int32 × kMem)) (M : kMem) (a0 : Nat) (x1 : Int32) (x2 : Int32) (a3 : Nat) (y0 : Nat) : Option (Int32 × kMem) :=
    kg (kt M y0 32) <| (F_LT_rises N M y0).bind fun r12 =>
    kg (kt r12 a0 30) <|
    kg (kt r12 a0 30) <| (F_L_pays N r12 a0 y0 (kI r12 a0 6)).bind fun r13 =>
    kg (kt r13 a0 30) <|
    kg (kt r13 a0 30) <| kl (ksI r13 a0 11 ((kI r13 a0 11) + 1)) fun M14 =>
    k182 M14 a0 x1 x2 a3
def F_L_passes_182 (N : Nat) (k155 : kMem → Nat → Int32 → Int32 → Option (Int32 × kMem)) : Nat → kMem → Nat → Int32 → Int32 → Nat → Option (Int32 × kMem)
  | 0, _, _, _, _, _ => none
  | n + 1, M, a0, x1, x2, a3 =>
    kg (kt M a3 31) <| (F_LB_torque N M a3).bind fun r7 =>
    kg (kt r7.2 a3 31) <|
    if (kI r7.2 a3 3) < (kabs r7.1) then (
      kg (kt r7.2 a3 31) <| (F_LB_torque N r7.2 a3).bind fun r9 =>
      if (0 : Int32) < r9.1 then (
        kg (kt r9.2 a3 31) <|
        kg (kt r9.2 (kR r9.2 a3 4) 34) <| (F_TM_lastEntry N r9.2 (kR r9.2 a3 4)).bind fun r15 =>
        kg (kt r15.2 r15.1 38) <| (F_SE_getValue N r15.2 r15.1).bind fun r16 =>
        kg (r16 == 0 || kt r15.2 r16 32) <|
        F_L_passes_236 N k155 (fun M a0 x1 x2 a3 => F_L_passes_182 N k155 n M a0 x1 x2 a3) r15.2 a0 x1 x2 a3 r16) else
      kg (kt r9.2 a3 31) <|
      kg (kt r9.2 (kR r9.2 a3 4) 34) <| (F_TM_firstEntry N r9.2 (kR r9.2 a3 4)).bind fun r10 =>
      kg (kt r10.2 r10.1 38) <| (F_SE_getValue N r10.2 r10.1).bind fun r11 =>
      kg (r11 == 0 || kt r10.2 r11 32) <|
      F_L_passes_236 N k155 (fun M a0 x1 x2 a3 => F_L_passes_182 N k155 n M a0 x1 x2 a3) r10.2 a0 x1 x2 a3 r11) else
    kl (x2 + 1) fun v8 =>
    k155 r7.2 a0 x1 v8
def F_L_passes_155 (N : Nat) : Nat → kMem → Nat → Int32 → Int32 → Option (Int32 × kMem)
  | 0, _, _, _, _ => none
  | n + 1, M, a0, x1, x2 =>
    kg (kt M a0 30) <|
    kg (kt M (kR M a0 0) 33) <| (F_AL_size N M (kR M a0 0)).bind fun r5 =>
    if x2 < r5 then (
      kg (kt M a0 30) <|
      kg (kt M (kR M a0 0) 33) <| (F_AL_get N M (kR M a0 0) x2).bind fun r6 =>
      kg (r6 == 0 || kt M r6 31) <|
      F_L_passes_182 N (fun M a0 x1 x2 => F_L_passes_155 N n M a0 x1 x2) N M a0 x1 x2 r6) else
    kg (kt M a0 30) <|
    some ((kI M a0 11) - x1, M)
def F_L_passes_74 (N : Nat) : Nat → kMem → Nat → Int32 → Int32 → Option (Int32 × kMem)
  | 0, _, _, _, _ => none
  | n + 1, M, a0, x1, x2 =>
    kg (kt M a0 30) <|
    kg (kt M (kR M a0 1) 33) <| (F_AL_size N M (kR M a0 1)).bind fun r4 =>
    if x2 < r4 then (
      kg (kt M a0 30) <|
      kg (kt M (kR M a0 1) 33) <| (F_AL_get N M (kR M a0 1) x2).bind fun r17 =>
      kg (r17 == 0 || kt M r17 32) <|
      kg (kt M r17 32) <|
      if (kI M r17 5) = 0 then (
        kl (x2 + 1) fun v18 =>
        F_L_passes_74 N n M a0 x1 v18) else
      kg (kt M r17 32) <|
      kg (kt M r17 32) <| kl (ksI M r17 3 ((kI M r17 3) + 1)) fun M19 =>
      kg (kt M19 a0 30) <|
      if (kI M19 a0 5) < ((kI M r17 3) + 1) then (
        kg (kt M19 r17 32) <| (F_LT_rises N M19 r17).bind fun r20 =>
        kg (kt r20 r17 32) <|
        kg (kt r20 a0 30) <| (F_L_pays N r20 a0 r17 (kI r20 r17 2)).bind fun r21 =>
        kg (kt r21 r17 32 && ((0 : Int32) == 0 || (0 : Int32) == 1)) <| kl (ksI r21 r17 5 0) fun M22 =>
        kl (x2 + 1) fun v23 =>
        F_L_passes_74 N n M22 a0 x1 v23) else
      kl (x2 + 1) fun v24 =>
      F_L_passes_74 N n M19 a0 x1 v24) else
    F_L_passes_155 N N M a0 x1 0
def F_L_passes_17 (N : Nat) : Nat → kMem → Nat → Int32 → Int32 → Option (Int32 × kMem)
  | 0, _, _, _, _ => none
  | n + 1, M, a0, x1, x2 =>
    kg (kt M a0 30) <|
    kg (kt M (kR M a0 1) 33) <| (F_AL_size N M (kR M a0 1)).bind fun r3 =>
    if x2 < r3 then (
      kg (kt M a0 30) <|
      kg (kt M (kR M a0 1) 33) <| (F_AL_get N M (kR M a0 1) x2).bind fun r25 =>
      kg (r25 == 0 || kt M r25 32) <|
      kg (kt M r25 32) <|
      if (kR M r25 6) = 0 then (
        kl (x2 + 1) fun v26 =>
        F_L_passes_17 N n M a0 x1 v26) else
      kg (kt M a0 30) <|
      kg (kt M (kR M a0 1) 33) <| (F_AL_get N M (kR M a0 1) x2).bind fun r27 =>
      kg (r27 == 0 || kt M r27 32) <|
      kg (kt M a0 30) <| (F_L_earns N M a0 r27).bind fun r28 =>
      kl (x2 + 1) fun v29 =>
      F_L_passes_17 N n r28 a0 x1 v29) else
    F_L_passes_74 N N M a0 x1 0
def F_L_passes (N : Nat) (M : kMem) (a0 : Nat) : Option (Int32 × kMem) :=
    kg (kt M a0 30) <|
    kg (kt M a0 30) <| kl (ksI M a0 8 ((kI M a0 8) + 1)) fun M1 =>
    kg (kt M1 a0 30) <|
    kl (kI M1 a0 11) fun v2 =>
    F_L_passes_17 N N M1 a0 v2 0
def F_L_against (N : Nat) (M : kMem) (a0 : Nat) (a1 : Nat) (a2 : Nat) (x3 : Int32) : Option (Int32 × kMem) :=
    kg (kt M a1 32) <|
    if (kI M a1 5) = 0 then (
      some (1, M)) else
    kg (kt M a2 31) <|
    (F_IN_valueOf N M x3).bind fun r1 =>
    kg (kt r1.2 (kR M a2 4) 34) <| (F_TM_containsKey N r1.2 (kR M a2 4) r1.1).bind fun r2 =>
    if r2 = 0 then (
      kg (kt r1.2 a1 32) <|
      kg (kt r1.2 a0 30) <| (F_L_price N r1.2 a0 a2 x3).bind fun r3 =>
      if (kI r1.2 a1 2) < r3.1 then (
        some (3, r3.2)) else
      kg (kt r3.2 a2 31) <| (F_LB_torque N r3.2 a2).bind fun r4 =>
      kg (kt r4.2 a1 32) <|
      kg (kt r4.2 a1 32) <|
      if (kR r4.2 a1 6) = a2 then (
        kg (kt r4.2 a1 32) <|
        kg (kt r4.2 a1 32) <|
        kl ((r4.1 + (x3 * (kI r4.2 a1 1))) - ((kI r4.2 a1 4) * (kI r4.2 a1 1))) fun v6 =>
        kg (kt r4.2 a2 31) <|
        if (kI r4.2 a2 3) < (kabs v6) then (
          some (4, r4.2)) else
        some (0, r4.2)) else
      kl ((r4.1 + (x3 * (kI r4.2 a1 1))) - 0) fun v5 =>
      kg (kt r4.2 a2 31) <|
      if (kI r4.2 a2 3) < (kabs v5) then (
        some (4, r4.2)) else
      some (0, r4.2)) else
    some (2, r1.2)
def F_L_unit (N : Nat) (M : kMem) (a0 : Nat) (a1 : Nat) (a2 : Nat) : Option (Int32 × kMem) :=
    kg (kt M a0 30) <|
    kg (kt M a2 32) <|
    kg (kt M a2 32) <|
    kg (kt M (kR M a2 6) 31) <| (F_LB_height N M (kR M a2 6) (kI M a2 4)).bind fun r1 =>
    kg (kt r1.2 a1 32) <|
    kg (kt r1.2 a1 32) <|
    kg (kt r1.2 (kR r1.2 a1 6) 31) <| (F_LB_height N r1.2 (kR r1.2 a1 6) (kI r1.2 a1 4)).bind fun r2 =>
    some (kmax 1 (((kI M a0 4) + r1.1) - r2.1), r2.2)
def F_L_more (N : Nat) (M : kMem) (a0 : Nat) (a1 : Nat) : Option (Int32 × kMem) :=
    kg (kt M a1 32) <|
    kg (kt M a1 32) <|
    kg (kt M (kR M a1 6) 31) <| (F_LB_height N M (kR M a1 6) (kI M a1 4)).bind fun r1 =>
    kg (kt r1.2 a0 32) <|
    kg (kt r1.2 a0 32) <|
    kg (kt r1.2 (kR r1.2 a0 6) 31) <| (F_LB_height N r1.2 (kR r1.2 a0 6) (kI r1.2 a0 4)).bind fun r2 =>
    some (r1.1 - r2.1, r2.2)
def F_L_exchange (N : Nat) (M : kMem) (a0 : Nat) (a1 : Nat) : Option (kMem) :=
    kg (kt M a0 32) <|
    kl (kR M a0 6) fun w1 =>
    kg (kt M a0 32) <|
    kl (kI M a0 4) fun v2 =>
    kg (kt M a1 32) <|
    kl (kR M a1 6) fun w3 =>
    kg (kt M a1 32) <|
    kl (kI M a1 4) fun v4 =>
    kg (kt M a0 32) <| (F_LT_rises N M a0).bind fun r5 =>
    kg (kt r5 a1 32) <| (F_LT_rises N r5 a1).bind fun r6 =>
    kg (kt r6 a0 32) <| (F_LT_sits N r6 a0 w3 v4).bind fun r7 =>
    kg (kt r7 a1 32) <| (F_LT_sits N r7 a1 w1 v2).bind fun r8 =>
    some r8
def F_L_against___88 (N : Nat) (M : kMem) (a0 : Nat) (a1 : Nat) : Option (Int32 × kMem) :=
    (F_L_exchange N M a0 a1).bind fun r5 =>
    if (1 : Int32) = 0 then (
      some (0, r5)) else
    some (4, r5)
def F_L_against___31 (N : Nat) (M : kMem) (a0 : Nat) (a1 : Nat) (x2 : Int32) (y0 : Nat) : Option (Int32 × kMem) :=
    kg (kt M y0 32) <|
    if (kI M y0 2) < (kabs x2) then (
      some (3, M)) else
    (F_L_exchange N M a0 a1).bind fun r3 =>
    kg (kt r3 a0 32) <|
    kg (kt r3 (kR r3 a0 6) 31) <| (F_LB_torque N r3 (kR r3 a0 6)).bind fun r4 =>
    kg (kt r4.2 a0 32) <|
    kg (kt r4.2 (kR r4.2 a0 6) 31) <|
    if (kI r4.2 (kR r4.2 a0 6) 3) < (kabs r4.1) then (
      F_L_against___88 N r4.2 a0 a1) else
    kg (kt r4.2 a1 32) <|
    kg (kt r4.2 (kR r4.2 a1 6) 31) <| (F_LB_torque N r4.2 (kR r4.2 a1 6)).bind fun r6 =>
    kg (kt r6.2 a1 32) <|
    kg (kt r6.2 (kR r6.2 a1 6) 31) <|
    if (kI r6.2 (kR r6.2 a1 6) 3) < (kabs r6.1) then (
      F_L_against___88 N r6.2 a0 a1) else
    (F_L_exchange N r6.2 a0 a1).bind fun r7 =>
    if (0 : Int32) = 0 then (
      some (0, r7)) else
    some (4, r7)
def F_L_against__ (N : Nat) (M : kMem) (a0 : Nat) (a1 : Nat) : Option (Int32 × kMem) :=
    kg (kt M a0 32) <|
    if (kR M a0 6) = 0 then (
      some (5, M)) else
    kg (kt M a1 32) <|
    if (kR M a1 6) = 0 then (
      some (5, M)) else
    (F_L_more N M a0 a1).bind fun r1 =>
    kl r1.1 fun v2 =>
    if (0 : Int32) < v2 then (
      F_L_against___31 N r1.2 a0 a1 v2 a0) else
    F_L_against___31 N r1.2 a0 a1 v2 a1
def F_L_position (N : Nat) (M : kMem) (a0 : Nat) (a1 : Nat) : Option (Int32 × kMem) :=
    kg (kt M a0 31) <|
    (F_L_draw N M a1 (kI M a0 1)).bind fun r1 =>
    kl (1 + r1.1) fun v2 =>
    (F_L_draw N r1.2 a1 2).bind fun r3 =>
    if r3.1 = 0 then (
      some (v2, r3.2)) else
    some (-v2, r3.2)
def F_L_feeds_24 (N : Nat) (k8 : kMem → Nat → Nat → Int32 → Int32 → Option (Int32 × kMem)) : Nat → kMem → Nat → Nat → Int32 → Int32 → Nat → Int32 → Option (Int32 × kMem)
  | 0, _, _, _, _, _, _, _ => none
  | n + 1, M, a0, a1, x2, x3, a4, x5 =>
    if x5 < 20 then (
      kg (!((4 : Int32) == 0)) <|
      kg (!((4 : Int32) == 0)) <|
      kg (kin M a4 13 (x5 / 4)) <|
      kg (kt M a1 40) <| (F_J0_lengthR N M a1).bind fun r11 =>
      if (x3 + x5) < r11 then (
        kg (kt M a1 40) <| (F_J0_charAtR N M a1 (x3 + x5)).bind fun r14 =>
        kg (kin M a4 13 (x5 / 4)) <| kl (ksI M a4 (kx (x5 / 4)) (((kI M a4 (kx (x5 / 4))) <<< (8 &&& 31)) ||| r14)) fun M15 =>
        kl (x5 + 1) fun v16 =>
        F_L_feeds_24 N k8 n M15 a0 a1 x2 x3 a4 v16) else
      kg (kin M a4 13 (x5 / 4)) <| kl (ksI M a4 (kx (x5 / 4)) (((kI M a4 (kx (x5 / 4))) <<< (8 &&& 31)) ||| 32)) fun M12 =>
      kl (x5 + 1) fun v13 =>
      F_L_feeds_24 N k8 n M12 a0 a1 x2 x3 a4 v13) else
    kg (kin M a4 13 0) <|
    kg (kin M a4 13 1) <|
    kg (kin M a4 13 2) <|
    kg (kin M a4 13 3) <|
    kg (kin M a4 13 4) <|
    kg (kt M a0 11) <| (kSm (fun r : Int32 × kMem => (some (.int r.1), r.2)) M (F_X11_append N M a0 (kI M a4 (kx 0)) (kI M a4 (kx 1)) (kI M a4 (kx 2)) (kI M a4 (kx 3)) (kI M a4 (kx 4)))).bind fun r9 =>
    if r9.1 = (x3 + 20) then (
      kl (x3 + 20) fun v10 =>
      k8 r9.2 a0 a1 x2 v10) else
    some (0, r9.2)
def F_L_feeds_8 (N : Nat) : Nat → kMem → Nat → Nat → Int32 → Int32 → Option (Int32 × kMem)
  | 0, _, _, _, _, _ => none
  | n + 1, M, a0, a1, x2, x3 =>
    kg (kt M a1 40) <| (F_J0_lengthR N M a1).bind fun r3 =>
    if x3 < r3 then (
      kg (decide (0 ≤ (5 : Int32)) && decide ((5 : Int32).toNatClampNeg ≤ 60000)) <| kl (M.1.length + 1) fun w7 => kl (kNew M 13 (5 : Int32).toNatClampNeg) fun M8 =>
      F_L_feeds_24 N (fun M a0 a1 x2 x3 => F_L_feeds_8 N n M a0 a1 x2 x3) N M8 a0 a1 x2 x3 w7 0) else
    if x2 = 0 then (
      kg (kt M a1 40) <| (F_J0_lengthR N M a1).bind fun r4 =>
      kg (kt M a0 11) <| (kSm (fun r : Int32 × kMem => (some (.int r.1), r.2)) M (F_X11_truncate N M a0 r4)).bind fun r5 =>
      kg (kt r5.2 a1 40) <| (F_J0_lengthR N r5.2 a1).bind fun r6 =>
      if r5.1 = r6 then (
        some (1, r5.2)) else
      some (0, r5.2)) else
    some (0, M)
def F_L_feeds (N : Nat) (M : kMem) (a0 : Nat) (a1 : Nat) : Option (Int32 × kMem) :=
    kg (kt M a0 11) <| (kSm (fun r : Int32 × kMem => (some (.int r.1), r.2)) M (F_X11_truncate N M a0 0)).bind fun r1 =>
    kl r1.1 fun v2 =>
    F_L_feeds_8 N N r1.2 a0 a1 v2 0
def F_L_still_341 (N : Nat) (k226 : kMem → Nat → Nat → Int32 → Option (Int32 × kMem)) (k286 : kMem → Nat → Nat → Int32 → Nat → Int32 → Option (Int32 × kMem)) (M : kMem) (a0 : Nat) (a1 : Nat) (x2 : Int32) (a3 : Nat) (x4 : Int32) (y0 : Int32) (y1 : Int32) : Option (Int32 × kMem) :=
    if y0 = y1 then (
      kg (kt M a0 11) <| (kSm (fun r : Int32 => (some (.int r), M)) M (F_X11_seatHeight N M a0 x2 x4)).bind fun r19 =>
      kg (kt M a3 31) <| (F_LB_height N M a3 x4).bind fun r20 =>
      if r19 = r20.1 then (
        kg (kt r20.2 a0 11) <| (kSm (fun r : Int32 => (some (.int r), r20.2)) r20.2 (F_X11_seatPrice N r20.2 a0 x2 x4)).bind fun r21 =>
        kg (kt r20.2 a1 30) <| (F_L_price N r20.2 a1 a3 x4).bind fun r22 =>
        if r21 = r22.1 then (
          kl (x4 + 1) fun v23 =>
          k286 r22.2 a0 a1 x2 a3 v23) else
        some (0, r22.2)) else
      some (0, r20.2)) else
    some (0, M)
def F_L_still_286 (N : Nat) (k226 : kMem → Nat → Nat → Int32 → Option (Int32 × kMem)) : Nat → kMem → Nat → Nat → Int32 → Nat → Int32 → Option (Int32 × kMem)
  | 0, _, _, _, _, _, _ => none
  | n + 1, M, a0, a1, x2, a3, x4 =>
    kg (kt M a3 31) <|
    if (kI M a3 1) < x4 then (
      kl (x2 + 1) fun v15 =>
      k226 M a0 a1 v15) else
    if x4 = 0 then (
      kl (x4 + 1) fun v24 =>
      F_L_still_286 N k226 n M a0 a1 x2 a3 v24) else
    kg (kt M a3 31) <|
    (F_IN_valueOf N M x4).bind fun r16 =>
    kg (kt r16.2 (kR M a3 4) 34) <| (F_TM_get N r16.2 (kR M a3 4) r16.1).bind fun r17 =>
    kg (r17 == 0 || kt r16.2 r17 32) <|
    kg (kt r16.2 a0 11) <| (kSm (fun r : Int32 => (some (.int r), r16.2)) r16.2 (F_X11_seatOwner N r16.2 a0 x2 x4)).bind fun r18 =>
    if r17 = 0 then (
      F_L_still_341 N k226 (fun M a0 a1 x2 a3 x4 => F_L_still_286 N k226 n M a0 a1 x2 a3 x4) r16.2 a0 a1 x2 a3 x4 r18 (-1)) else
    kg (kt r16.2 r17 32) <|
    F_L_still_341 N k226 (fun M a0 a1 x2 a3 x4 => F_L_still_286 N k226 n M a0 a1 x2 a3 x4) r16.2 a0 a1 x2 a3 x4 r18 (kI r16.2 r17 0)
def F_L_still_226 (N : Nat) : Nat → kMem → Nat → Nat → Int32 → Option (Int32 × kMem)
  | 0, _, _, _, _ => none
  | n + 1, M, a0, a1, x2 =>
    kg (kt M a1 30) <|
    kg (kt M (kR M a1 0) 33) <| (F_AL_size N M (kR M a1 0)).bind fun r8 =>
    if x2 < r8 then (
      kg (kt M a1 30) <|
      kg (kt M (kR M a1 0) 33) <| (F_AL_get N M (kR M a1 0) x2).bind fun r9 =>
      kg (r9 == 0 || kt M r9 31) <|
      kg (kt M a0 11) <| (kSm (fun r : Int32 => (some (.int r), M)) M (F_X11_torque N M a0 x2)).bind fun r10 =>
      kg (kt M r9 31) <| (F_LB_torque N M r9).bind fun r11 =>
      if r10 = r11.1 then (
        kg (kt r11.2 a0 11) <| (kSm (fun r : Int32 => (some (.int r), r11.2)) r11.2 (F_X11_tilt N r11.2 a0 x2)).bind fun r12 =>
        kg (kt r11.2 r9 31) <| (F_LB_tilt N r11.2 r9).bind fun r13 =>
        if r12 = r13.1 then (
          kg (kt r13.2 r9 31) <|
          kl (-(kI r13.2 r9 1)) fun v14 =>
          F_L_still_286 N (fun M a0 a1 x2 => F_L_still_226 N n M a0 a1 x2) N r13.2 a0 a1 x2 r9 v14) else
        some (0, r13.2)) else
      some (0, r11.2)) else
    some (1, M)
def F_L_still_176 (N : Nat) (k66 : kMem → Nat → Nat → Int32 → Option (Int32 × kMem)) (M : kMem) (a0 : Nat) (a1 : Nat) (x2 : Int32) (a3 : Nat) (y0 : Int32) (y1 : Int32) : Option (Int32 × kMem) :=
    if y0 = y1 then (
      kg (kt M a0 11) <| (kSm (fun r : Int32 => (some (.int r), M)) M (F_X11_incomeOf N M a0 x2)).bind fun r32 =>
      kg (kt M a3 32) <|
      if (kR M a3 6) = 0 then (
        if r32 = 0 then (
          kl (x2 + 1) fun v35 =>
          k66 M a0 a1 v35) else
        some (0, M)) else
      kg (kt M a1 30) <|
      kg (kt M a3 32) <|
      kg (kt M a3 32) <|
      kg (kt M (kR M a3 6) 31) <| (F_LB_height N M (kR M a3 6) (kI M a3 4)).bind fun r33 =>
      if r32 = ((kI M a1 2) + r33.1) then (
        kl (x2 + 1) fun v34 =>
        k66 r33.2 a0 a1 v34) else
      some (0, r33.2)) else
    some (0, M)
def F_L_still_66 (N : Nat) : Nat → kMem → Nat → Nat → Int32 → Option (Int32 × kMem)
  | 0, _, _, _, _ => none
  | n + 1, M, a0, a1, x2 =>
    kg (kt M a1 30) <|
    kg (kt M (kR M a1 1) 33) <| (F_AL_size N M (kR M a1 1)).bind fun r7 =>
    if x2 < r7 then (
      kg (kt M a1 30) <|
      kg (kt M (kR M a1 1) 33) <| (F_AL_get N M (kR M a1 1) x2).bind fun r25 =>
      kg (r25 == 0 || kt M r25 32) <|
      kg (kt M a0 11) <| (kSm (fun r : Int32 => (some (.int r), M)) M (F_X11_weightOf N M a0 x2)).bind fun r26 =>
      kg (kt M r25 32) <|
      if r26 = (kI M r25 1) then (
        kg (kt M a0 11) <| (kSm (fun r : Int32 => (some (.int r), M)) M (F_X11_purseOf N M a0 x2)).bind fun r27 =>
        kg (kt M r25 32) <|
        if r27 = (kI M r25 2) then (
          kg (kt M a0 11) <| (kSm (fun r : Int32 => (some (.int r), M)) M (F_X11_ageOf N M a0 x2)).bind fun r28 =>
          kg (kt M r25 32) <|
          if r28 = (kI M r25 3) then (
            kg (kt M a0 11) <| (kSm (fun r : Int32 => (some (.int r), M)) M (F_X11_isPresent N M a0 x2)).bind fun r29 =>
            kg (kt M r25 32) <|
            if r29 = (kI M r25 5) then (
              kg (kt M a0 11) <| (kSm (fun r : Int32 => (some (.int r), M)) M (F_X11_positionOf N M a0 x2)).bind fun r30 =>
              kg (kt M r25 32) <|
              if r30 = (kI M r25 4) then (
                kg (kt M a0 11) <| (kSm (fun r : Int32 => (some (.int r), M)) M (F_X11_boardOf N M a0 x2)).bind fun r31 =>
                kg (kt M r25 32) <|
                if (kR M r25 6) = 0 then (
                  F_L_still_176 N (fun M a0 a1 x2 => F_L_still_66 N n M a0 a1 x2) M a0 a1 x2 r25 r31 (-1)) else
                kg (kt M r25 32) <|
                kg (kt M (kR M r25 6) 31) <|
                F_L_still_176 N (fun M a0 a1 x2 => F_L_still_66 N n M a0 a1 x2) M a0 a1 x2 r25 r31 (kI M (kR M r25 6) 0)) else
              some (0, M)) else
            some (0, M)) else
          some (0, M)) else
        some (0, M)) else
      some (0, M)) else
    F_L_still_226 N N M a0 a1 0
def F_L_still (N : Nat) (M : kMem) (a0 : Nat) (a1 : Nat) : Option (Int32 × kMem) :=
    kg (kt M a0 11) <| (kSm (fun r : Int32 => (some (.int r), M)) M (F_X11_contradictions N M a0)).bind fun r1 =>
    if r1 = 0 then (
      kg (kt M a0 11) <| (kSm (fun r : Int32 => (some (.int r), M)) M (F_X11_day N M a0)).bind fun r2 =>
      kg (kt M a1 30) <|
      if r2 = (kI M a1 8) then (
        kg (kt M a0 11) <| (kSm (fun r : Int32 => (some (.int r), M)) M (F_X11_bank N M a0)).bind fun r3 =>
        kg (kt M a1 30) <|
        if r3 = (kI M a1 7) then (
          kg (kt M a0 11) <| (kSm (fun r : Int32 => (some (.int r), M)) M (F_X11_seatsSold N M a0)).bind fun r4 =>
          kg (kt M a1 30) <|
          if r4 = (kI M a1 9) then (
            kg (kt M a0 11) <| (kSm (fun r : Int32 => (some (.int r), M)) M (F_X11_weightSold N M a0)).bind fun r5 =>
            kg (kt M a1 30) <|
            if r5 = (kI M a1 10) then (
              kg (kt M a0 11) <| (kSm (fun r : Int32 => (some (.int r), M)) M (F_X11_fallCount N M a0)).bind fun r6 =>
              kg (kt M a1 30) <|
              if r6 = (kI M a1 11) then (
                F_L_still_66 N N M a0 a1 0) else
              some (0, M)) else
            some (0, M)) else
          some (0, M)) else
        some (0, M)) else
      some (0, M)) else
    some (0, M)
def F_AL_grow1_20 (N : Nat) (M : kMem) (a0 : Nat) (x1 : Int32) (x2 : Int32) : Option (Nat × kMem) :=
    (F_AX_newLength N M x2 (x1 - x2) (x2 >>> (1 &&& 31))).bind fun r1 =>
    kg (kt M a0 33) <|
    if kR M a0 1 = 0 then (
      kg (!(kI M a0 1 == 0)) <|
      none) else
    none
def F_AL_grow1 (N : Nat) (M : kMem) (a0 : Nat) (x1 : Int32) : Option (Nat × kMem) :=
    kg (kt M a0 33) <|
    if kR M a0 1 = 0 then (
      kg (!(kI M a0 1 == 0)) <|
      if (0 : Int32) < 0 then (
        F_AL_grow1_20 N M a0 x1 0) else
      kg (kt M a0 33) <|
      if kR M a0 1 = 0 then (
        kg (!(kI M a0 1 == 0)) <|
        kg (decide (0 ≤ (kmax 10 x1)) && decide ((kmax 10 x1).toNatClampNeg ≤ 60000)) <| kl (M.1.length + 1) fun w2 => kl (kNew M 21 (kmax 10 x1).toNatClampNeg) fun M3 =>
        kg (kt M3 a0 33 && !(w2 == 0)) <| kl (ksR M3 a0 1 w2) fun M4 =>
        some (w2, M4)) else
      none) else
    kg (kt M (kR M a0 1) 21) <|
    kl (Int32.ofNat (kn M (kR M a0 1))) fun v5 =>
    if (0 : Int32) < v5 then (
      F_AL_grow1_20 N M a0 x1 v5) else
    kg (kt M a0 33) <|
    if kR M a0 1 = 0 then (
      kg (!(kI M a0 1 == 0)) <|
      kg (decide (0 ≤ (kmax 10 x1)) && decide ((kmax 10 x1).toNatClampNeg ≤ 60000)) <| kl (M.1.length + 1) fun w6 => kl (kNew M 21 (kmax 10 x1).toNatClampNeg) fun M7 =>
      kg (kt M7 a0 33 && !(w6 == 0)) <| kl (ksR M7 a0 1 w6) fun M8 =>
      some (w6, M8)) else
    none
def F_AL_grow (N : Nat) (M : kMem) (a0 : Nat) : Option (Nat × kMem) :=
    kg (kt M a0 33) <|
    kg (kt M a0 33) <| (F_AL_grow1 N M a0 ((kI M a0 2) + 1)).bind fun r1 =>
    some (r1.1, r1.2)
def F_AL_add3E (N : Nat) (M : kMem) (a0 : Nat) (a1 : Nat) (x3 : Int32) : Option (kMem) :=
    if x3 = 0 then (
      kg (kt M a0 33) <| (F_AL_grow N M a0).bind fun r1 =>
      kl r1.1 fun w2 =>
      kg (kin r1.2 w2 21 x3 && (kt r1.2 a1 31 || kt r1.2 a1 32)) <| kl (ksR r1.2 w2 (kx x3) a1) fun M3 =>
      kg (kt M3 a0 33) <| kl (ksI M3 a0 2 (x3 + 1)) fun M4 =>
      some M4) else
    none
def F_AL_add3R (N : Nat) (M : kMem) (a0 : Nat) (a1 : Nat) (a2 : Nat) (x3 : Int32) : Option (kMem) :=
    kg (kt M a2 21) <|
    if x3 = (Int32.ofNat (kn M a2)) then (
      kg (kt M a0 33) <| (F_AL_grow N M a0).bind fun r3 =>
      kl r3.1 fun w4 =>
      kg (kin r3.2 w4 21 x3 && (kt r3.2 a1 31 || kt r3.2 a1 32)) <| kl (ksR r3.2 w4 (kx x3) a1) fun M5 =>
      kg (kt M5 a0 33) <| kl (ksI M5 a0 2 (x3 + 1)) fun M6 =>
      some M6) else
    kg (kin M a2 21 x3 && (kt M a1 31 || kt M a1 32)) <| kl (ksR M a2 (kx x3) a1) fun M1 =>
    kg (kt M1 a0 33) <| kl (ksI M1 a0 2 (x3 + 1)) fun M2 =>
    some M2
def F_AL_add (N : Nat) (M : kMem) (a0 : Nat) (a1 : Nat) : Option (Int32 × kMem) :=
    kg (kt M a0 33) <|
    kg (kt M a0 33) <| kl (ksI M a0 0 ((kI M a0 0) + 1)) fun M1 =>
    kg (kt M1 a0 33) <|
    if kR M1 a0 1 = 0 then (
      kg (!(kI M1 a0 1 == 0)) <|
      kg (kt M1 a0 33) <|
      kg (kt M1 a0 33) <| (F_AL_add3E N M1 a0 a1 (kI M1 a0 2)).bind fun r2 =>
      some (1, r2)) else
    kg (kt M1 a0 33) <|
    kg (kt M1 a0 33) <| (F_AL_add3R N M1 a0 a1 (kR M1 a0 1) (kI M1 a0 2)).bind fun r3 =>
    some (1, r3)
def F_L_against_ (N : Nat) (M : kMem) (a0 : Nat) (a1 : Nat) (a2 : Nat) (x3 : Int32) : Option (Int32 × kMem) :=
    kg (kt M a1 32) <|
    if (kR M a1 6) = 0 then (
      some (5, M)) else
    kg (kt M a2 32) <|
    if (kR M a2 6) = 0 then (
      some (5, M)) else
    kg (kt M a1 32) <|
    kg (kt M a2 32) <|
    if (kR M a1 6) = (kR M a2 6) then (
      kg (kt M a1 32) <|
      if x3 < (kI M a1 1) then (
        kg (kt M a2 32) <|
        if (99 : Int32) < ((kI M a2 1) + x3) then (
          some (7, M)) else
        kg (kt M a2 32) <|
        kg (kt M a0 30) <| (F_L_unit N M a0 a1 a2).bind fun r1 =>
        if (kI M a2 2) < (x3 * r1.1) then (
          some (3, r1.2)) else
        kg (kt r1.2 a1 32) <|
        kg (kt r1.2 (kR r1.2 a1 6) 31) <| (F_LB_torque N r1.2 (kR r1.2 a1 6)).bind fun r2 =>
        kg (kt r2.2 a1 32) <|
        kg (kt r2.2 a2 32) <|
        kl ((r2.1 - ((kI r2.2 a1 4) * x3)) + ((kI r2.2 a2 4) * x3)) fun v3 =>
        kg (kt r2.2 a1 32) <|
        kg (kt r2.2 (kR r2.2 a1 6) 31) <|
        if (kI r2.2 (kR r2.2 a1 6) 3) < (kabs v3) then (
          some (4, r2.2)) else
        some (0, r2.2)) else
      some (7, M)) else
    some (6, M)
def F_L_begins_417 (N : Nat) : Nat → kMem → Nat → Nat → Nat → Nat → Int32 → Option (Nat × kMem)
  | 0, _, _, _, _, _, _ => none
  | n + 1, M, a0, a1, a2, a3, x4 =>
    kg (kt M a2 30) <|
    kg (kt M (kR M a2 1) 33) <| (F_AL_size N M (kR M a2 1)).bind fun r36 =>
    if x4 < r36 then (
      kg (kt M a2 30) <|
      kg (kt M a2 30) <|
      kg (kt M (kR M a2 0) 33) <| (F_AL_size N M (kR M a2 0)).bind fun r41 =>
      (F_L_draw N M a1 r41).bind fun r42 =>
      kg (kt r42.2 (kR M a2 0) 33) <| (F_AL_get N r42.2 (kR M a2 0) r42.1).bind fun r43 =>
      kg (r43 == 0 || kt r42.2 r43 31) <|
      (F_L_position N r42.2 r43 a1).bind fun r44 =>
      kl r44.1 fun v45 =>
      (F_L_draw N r44.2 a1 4).bind fun r46 =>
      if r46.1 = 0 then (
        kl (x4 + 1) fun v47 =>
        F_L_begins_417 N n r46.2 a0 a1 a2 a3 v47) else
      kg (kt r46.2 r43 31) <|
      (F_IN_valueOf N r46.2 v45).bind fun r48 =>
      kg (kt r48.2 (kR r46.2 r43 4) 34) <| (F_TM_containsKey N r48.2 (kR r46.2 r43 4) r48.1).bind fun r49 =>
      if r49 = 0 then (
        kg (kt r48.2 a2 30) <|
        kg (kt r48.2 (kR r48.2 a2 1) 33) <| (F_AL_get N r48.2 (kR r48.2 a2 1) x4).bind fun r50 =>
        kg (r50 == 0 || kt r48.2 r50 32) <|
        kg (kt r48.2 r50 32) <| (F_LT_sits N r48.2 r50 r43 v45).bind fun r51 =>
        kg (kt r51 a3 39) <| (F_SB_appendS N r51 a3 12).bind fun r52 =>
        kg (kt r52.2 r52.1 39) <| (F_SB_appendC N r52.2 r52.1 (((97 + x4).toUInt32 % 65536).toInt32)).bind fun r53 =>
        kg (kt r53.2 r53.1 39) <| (F_SB_appendC N r53.2 r53.1 32).bind fun r54 =>
        kg (kt r54.2 r43 31) <|
        kg (kt r54.2 r54.1 39) <| (F_SB_appendI N r54.2 r54.1 (kI r54.2 r43 0)).bind fun r55 =>
        if v45 < 0 then (
          kg (kt r55.2 r55.1 39) <| (F_SB_appendS N r55.2 r55.1 13).bind fun r60 =>
          kg (kt r60.2 r60.1 39) <| (F_SB_appendI N r60.2 r60.1 (kabs v45)).bind fun r61 =>
          kg (kt r61.2 r61.1 39) <| (F_SB_appendC N r61.2 r61.1 59).bind fun r62 =>
          kl (x4 + 1) fun v63 =>
          F_L_begins_417 N n r62.2 a0 a1 a2 a3 v63) else
        kg (kt r55.2 r55.1 39) <| (F_SB_appendS N r55.2 r55.1 14).bind fun r56 =>
        kg (kt r56.2 r56.1 39) <| (F_SB_appendI N r56.2 r56.1 (kabs v45)).bind fun r57 =>
        kg (kt r57.2 r57.1 39) <| (F_SB_appendC N r57.2 r57.1 59).bind fun r58 =>
        kl (x4 + 1) fun v59 =>
        F_L_begins_417 N n r58.2 a0 a1 a2 a3 v59) else
      kl (x4 + 1) fun v64 =>
      F_L_begins_417 N n r48.2 a0 a1 a2 a3 v64) else
    kg (kt M a3 39) <| (F_SB_toString N M a3).bind fun r37 =>
    (F_L_feeds N r37.2 a0 r37.1).bind fun r38 =>
    if r38.1 = 0 then (
      some (0, r38.2)) else
    kg (kt r38.2 a0 11) <| (kSm (fun r : Int32 × kMem => (some (.int r.1), r.2)) r38.2 (F_X11_load N r38.2 a0)).bind fun r39 =>
    if r39.1 = 0 then (
      kg (kt r39.2 a0 11) <| (kSm (fun r : Int32 => (some (.int r), r39.2)) r39.2 (F_X11_errorPosition N r39.2 a0)).bind fun r40 =>
      if r40 = (-1) then (
        some (a2, r39.2)) else
      some (0, r39.2)) else
    some (0, r39.2)
def F_L_begins_285 (N : Nat) : Nat → kMem → Nat → Nat → Nat → Nat → Int32 → Option (Nat × kMem)
  | 0, _, _, _, _, _, _ => none
  | n + 1, M, a0, a1, a2, a3, x4 =>
    if (0 : Int32) < x4 then (
      kl (M.1.length + 1) fun w65 => kl (kNew M 32 7) fun M66 =>
      kg (kt M66 a2 30) <|
      kg (kt M66 (kR M66 a2 1) 33) <| (F_AL_size N M66 (kR M66 a2 1)).bind fun r67 =>
      (F_L_draw N M66 a1 20).bind fun r68 =>
      (F_L_draw N r68.2 a1 60).bind fun r69 =>
      kg (kt r69.2 a2 30) <|
      (F_L_draw N r69.2 a1 ((kI r69.2 a2 5) + 1)).bind fun r70 =>
      kg (!(w65 == 0)) <| (F_LT_init N r70.2 w65 r67 (1 + r68.1) r69.1 r70.1).bind fun r71 =>
      kg (kt r71 a2 30) <|
      kg (kt r71 (kR r71 a2 1) 33) <| (F_AL_add N r71 (kR r71 a2 1) w65).bind fun r72 =>
      kl r72.1 fun v73 =>
      kg (kt r72.2 a3 39) <| (F_SB_appendS N r72.2 a3 11).bind fun r74 =>
      kg (kt r74.2 w65 32) <|
      kg (kt r74.2 r74.1 39) <| (F_SB_appendC N r74.2 r74.1 (((97 + (kI r74.2 w65 0)).toUInt32 % 65536).toInt32)).bind fun r75 =>
      kg (kt r75.2 r75.1 39) <| (F_SB_appendC N r75.2 r75.1 32).bind fun r76 =>
      kg (kt r76.2 w65 32) <|
      kg (kt r76.2 r76.1 39) <| (F_SB_appendI N r76.2 r76.1 (kI r76.2 w65 1)).bind fun r77 =>
      kg (kt r77.2 r77.1 39) <| (F_SB_appendC N r77.2 r77.1 32).bind fun r78 =>
      kg (kt r78.2 w65 32) <|
      kg (kt r78.2 r78.1 39) <| (F_SB_appendI N r78.2 r78.1 (kI r78.2 w65 2)).bind fun r79 =>
      kg (kt r79.2 r79.1 39) <| (F_SB_appendC N r79.2 r79.1 32).bind fun r80 =>
      kg (kt r80.2 w65 32) <|
      kg (kt r80.2 r80.1 39) <| (F_SB_appendI N r80.2 r80.1 (kI r80.2 w65 3)).bind fun r81 =>
      kg (kt r81.2 r81.1 39) <| (F_SB_appendC N r81.2 r81.1 59).bind fun r82 =>
      kl (x4 + (-1)) fun v83 =>
      F_L_begins_285 N n r82.2 a0 a1 a2 a3 v83) else
    F_L_begins_417 N N M a0 a1 a2 a3 0
def F_L_begins_163 (N : Nat) : Nat → kMem → Nat → Nat → Nat → Nat → Int32 → Option (Nat × kMem)
  | 0, _, _, _, _, _, _ => none
  | n + 1, M, a0, a1, a2, a3, x4 =>
    if (0 : Int32) < x4 then (
      kl (M.1.length + 1) fun w84 => kl (kNew M 31 5) fun M85 =>
      kg (kt M85 a2 30) <|
      kg (kt M85 (kR M85 a2 0) 33) <| (F_AL_size N M85 (kR M85 a2 0)).bind fun r86 =>
      (F_L_draw N M85 a1 5).bind fun r87 =>
      (F_L_draw N r87.2 a1 15).bind fun r88 =>
      (F_L_draw N r88.2 a1 60).bind fun r89 =>
      kg (!(w84 == 0)) <| (F_LB_init N r89.2 w84 r86 (1 + r87.1) (2 + r88.1) (10 + r89.1)).bind fun r90 =>
      kg (kt r90 a2 30) <|
      kg (kt r90 (kR r90 a2 0) 33) <| (F_AL_add N r90 (kR r90 a2 0) w84).bind fun r91 =>
      kl r91.1 fun v92 =>
      kg (kt r91.2 a3 39) <| (F_SB_appendS N r91.2 a3 10).bind fun r93 =>
      kg (kt r93.2 w84 31) <|
      kg (kt r93.2 r93.1 39) <| (F_SB_appendI N r93.2 r93.1 (kI r93.2 w84 1)).bind fun r94 =>
      kg (kt r94.2 r94.1 39) <| (F_SB_appendC N r94.2 r94.1 32).bind fun r95 =>
      kg (kt r95.2 w84 31) <|
      kg (kt r95.2 r95.1 39) <| (F_SB_appendI N r95.2 r95.1 (kI r95.2 w84 2)).bind fun r96 =>
      kg (kt r96.2 r96.1 39) <| (F_SB_appendC N r96.2 r96.1 32).bind fun r97 =>
      kg (kt r97.2 w84 31) <|
      kg (kt r97.2 r97.1 39) <| (F_SB_appendI N r97.2 r97.1 (kI r97.2 w84 3)).bind fun r98 =>
      kg (kt r98.2 r98.1 39) <| (F_SB_appendC N r98.2 r98.1 59).bind fun r99 =>
      kl (x4 + (-1)) fun v100 =>
      F_L_begins_163 N n r99.2 a0 a1 a2 a3 v100) else
    (F_L_draw N M a1 6).bind fun r34 =>
    kl (2 + r34.1) fun v35 =>
    F_L_begins_285 N N r34.2 a0 a1 a2 a3 v35
def F_L_begins (N : Nat) (M : kMem) (a0 : Nat) (a1 : Nat) : Option (Nat × kMem) :=
    kl (M.1.length + 1) fun w1 => kl (kNew M 30 12) fun M2 =>
    kg (!(w1 == 0)) <| (F_L_init N M2 w1).bind fun r3 =>
    (F_L_draw N r3 a1 8).bind fun r4 =>
    kg (kt r4.2 w1 30) <| kl (ksI r4.2 w1 2 r4.1) fun M5 =>
    (F_L_draw N M5 a1 9).bind fun r6 =>
    kg (kt r6.2 w1 30) <| kl (ksI r6.2 w1 3 r6.1) fun M7 =>
    (F_L_draw N M7 a1 6).bind fun r8 =>
    kg (kt r8.2 w1 30) <| kl (ksI r8.2 w1 4 r8.1) fun M9 =>
    (F_L_draw N M9 a1 30).bind fun r10 =>
    kg (kt r10.2 w1 30) <| kl (ksI r10.2 w1 5 (8 + r10.1)) fun M11 =>
    (F_L_draw N M11 a1 12).bind fun r12 =>
    kg (kt r12.2 w1 30) <| kl (ksI r12.2 w1 6 r12.1) fun M13 =>
    (F_L_draw N M13 a1 200).bind fun r14 =>
    kg (kt r14.2 w1 30) <| kl (ksI r14.2 w1 7 r14.1) fun M15 =>
    kl (M15.1.length + 1) fun w16 => kl (kNew M15 39 4) fun M17 =>
    kg (!(w16 == 0)) <| (F_SB_init N M17 w16 9).bind fun r18 =>
    kg (kt r18 w1 30) <|
    kg (kt r18 w16 39) <| (F_SB_appendI N r18 w16 (kI r18 w1 2)).bind fun r19 =>
    kg (kt r19.2 r19.1 39) <| (F_SB_appendC N r19.2 r19.1 32).bind fun r20 =>
    kg (kt r20.2 w1 30) <|
    kg (kt r20.2 r20.1 39) <| (F_SB_appendI N r20.2 r20.1 (kI r20.2 w1 3)).bind fun r21 =>
    kg (kt r21.2 r21.1 39) <| (F_SB_appendC N r21.2 r21.1 32).bind fun r22 =>
    kg (kt r22.2 w1 30) <|
    kg (kt r22.2 r22.1 39) <| (F_SB_appendI N r22.2 r22.1 (kI r22.2 w1 4)).bind fun r23 =>
    kg (kt r23.2 r23.1 39) <| (F_SB_appendC N r23.2 r23.1 32).bind fun r24 =>
    kg (kt r24.2 w1 30) <|
    kg (kt r24.2 r24.1 39) <| (F_SB_appendI N r24.2 r24.1 (kI r24.2 w1 5)).bind fun r25 =>
    kg (kt r25.2 r25.1 39) <| (F_SB_appendC N r25.2 r25.1 32).bind fun r26 =>
    kg (kt r26.2 w1 30) <|
    kg (kt r26.2 r26.1 39) <| (F_SB_appendI N r26.2 r26.1 (kI r26.2 w1 6)).bind fun r27 =>
    kg (kt r27.2 r27.1 39) <| (F_SB_appendC N r27.2 r27.1 32).bind fun r28 =>
    kg (kt r28.2 w1 30) <|
    kg (kt r28.2 r28.1 39) <| (F_SB_appendI N r28.2 r28.1 (kI r28.2 w1 7)).bind fun r29 =>
    kg (kt r29.2 r29.1 39) <| (F_SB_appendC N r29.2 r29.1 59).bind fun r30 =>
    kl r30.1 fun w31 =>
    (F_L_draw N r30.2 a1 3).bind fun r32 =>
    kl (1 + r32.1) fun v33 =>
    F_L_begins_163 N N r32.2 a0 a1 w1 w31 v33
def F_L_act_538 (N : Nat) : Nat → kMem → Nat → Nat → Int32 → Int32 → Int32 → Option (Int32 × kMem)
  | 0, _, _, _, _, _, _ => none
  | n + 1, M, a0, a1, x7, x8, x9 =>
    if x9 < x7 then (
      kg (kt M a1 30) <| (F_L_passes N M a1).bind fun r98 =>
      kl (x8 + r98.1) fun v99 =>
      kl (x9 + 1) fun v100 =>
      F_L_act_538 N n r98.2 a0 a1 x7 v99 v100) else
    kg (kt M a0 11) <| (kSm (fun r : Int32 × kMem => (some (.int r.1), r.2)) M (F_X11_advance N M a0 x7)).bind fun r97 =>
    if r97.1 = x8 then (
      some (1, r97.2)) else
    some (0, r97.2)
def F_L_act (N : Nat) (M : kMem) (a0 : Nat) (a1 : Nat) (a2 : Nat) : Option (Int32 × kMem) :=
    kg (kt M a1 30) <|
    kg (kt M (kR M a1 1) 33) <| (F_AL_size N M (kR M a1 1)).bind fun r1 =>
    (F_L_draw N M a2 r1).bind fun r2 =>
    kl r2.1 fun v3 =>
    kg (kt r2.2 a1 30) <|
    kg (kt r2.2 (kR r2.2 a1 1) 33) <| (F_AL_get N r2.2 (kR r2.2 a1 1) v3).bind fun r4 =>
    kg (r4 == 0 || kt r2.2 r4 32) <|
    kg (kt r2.2 a1 30) <|
    kg (kt r2.2 (kR r2.2 a1 1) 33) <| (F_AL_size N r2.2 (kR r2.2 a1 1)).bind fun r5 =>
    (F_L_draw N r2.2 a2 (r5 - 1)).bind fun r6 =>
    kg (kt r6.2 a1 30) <|
    kg (kt r6.2 (kR r6.2 a1 1) 33) <| (F_AL_size N r6.2 (kR r6.2 a1 1)).bind fun r7 =>
    kg (!(r7 == 0)) <|
    kl (((v3 + 1) + r6.1) - (((v3 + 1) + r6.1) / r7) * r7) fun v8 =>
    kg (kt r6.2 a1 30) <|
    kg (kt r6.2 (kR r6.2 a1 1) 33) <| (F_AL_get N r6.2 (kR r6.2 a1 1) v8).bind fun r9 =>
    kg (r9 == 0 || kt r6.2 r9 32) <|
    (F_L_draw N r6.2 a2 9).bind fun r10 =>
    if r10.1 = 0 then (
      kg (kt r10.2 a1 30) <|
      kg (kt r10.2 a1 30) <|
      kg (kt r10.2 (kR r10.2 a1 0) 33) <| (F_AL_size N r10.2 (kR r10.2 a1 0)).bind fun r11 =>
      (F_L_draw N r10.2 a2 r11).bind fun r12 =>
      kg (kt r12.2 (kR r10.2 a1 0) 33) <| (F_AL_get N r12.2 (kR r10.2 a1 0) r12.1).bind fun r13 =>
      kg (r13 == 0 || kt r12.2 r13 31) <|
      (F_L_position N r12.2 r13 a2).bind fun r14 =>
      kl r14.1 fun v15 =>
      kg (kt r14.2 a1 30) <| (F_L_against N r14.2 a1 r4 r13 v15).bind fun r16 =>
      kl r16.1 fun v17 =>
      kg (kt r16.2 r13 31) <|
      kg (kt r16.2 a0 11) <| (kSm (fun r : Int32 => (some (.int r), r16.2)) r16.2 (F_X11_reasonAgainstSeat N r16.2 a0 v3 (kI r16.2 r13 0) v15)).bind fun r18 =>
      if r18 = v17 then (
        if v17 = 0 then (
          kg (kt r16.2 a1 30) <| (F_L_price N r16.2 a1 r13 v15).bind fun r19 =>
          kl r19.1 fun v20 =>
          kg (kt r19.2 a1 30) <| (F_L_pays N r19.2 a1 r4 v20).bind fun r21 =>
          kg (kt r21 r4 32) <| (F_LT_rises N r21 r4).bind fun r22 =>
          kg (kt r22 r4 32) <| (F_LT_sits N r22 r4 r13 v15).bind fun r23 =>
          kg (kt r23 a1 30) <|
          kg (kt r23 a1 30) <| kl (ksI r23 a1 9 ((kI r23 a1 9) + 1)) fun M24 =>
          kg (kt M24 r13 31) <|
          kg (kt M24 a0 11) <| (kSm (fun r : Int32 × kMem => (some (.int r.1), r.2)) M24 (F_X11_buySeat N M24 a0 v3 (kI M24 r13 0) v15)).bind fun r25 =>
          if r25.1 = v20 then (
            some (1, r25.2)) else
          some (0, r25.2)) else
        some (1, r16.2)) else
      some (0, r16.2)) else
    if r10.1 = 1 then (
      kg (kt r10.2 a1 30) <|
      kg (kt r10.2 a1 30) <|
      kg (kt r10.2 (kR r10.2 a1 0) 33) <| (F_AL_size N r10.2 (kR r10.2 a1 0)).bind fun r26 =>
      (F_L_draw N r10.2 a2 r26).bind fun r27 =>
      kg (kt r27.2 (kR r10.2 a1 0) 33) <| (F_AL_get N r27.2 (kR r10.2 a1 0) r27.1).bind fun r28 =>
      kg (r28 == 0 || kt r27.2 r28 31) <|
      (F_L_position N r27.2 r28 a2).bind fun r29 =>
      kl r29.1 fun v30 =>
      kg (kt r29.2 a1 30) <| (F_L_against N r29.2 a1 r4 r28 v30).bind fun r31 =>
      kl r31.1 fun v32 =>
      kg (kt r31.2 r28 31) <|
      kg (kt r31.2 a0 11) <| (kSm (fun r : Int32 => (some (.int r), r31.2)) r31.2 (F_X11_reasonAgainstSeat N r31.2 a0 v3 (kI r31.2 r28 0) v30)).bind fun r33 =>
      if r33 = v32 then (
        if v32 = 0 then (
          kg (kt r31.2 a1 30) <| (F_L_price N r31.2 a1 r28 v30).bind fun r34 =>
          kl r34.1 fun v35 =>
          kg (kt r34.2 a1 30) <| (F_L_pays N r34.2 a1 r4 v35).bind fun r36 =>
          kg (kt r36 r4 32) <| (F_LT_rises N r36 r4).bind fun r37 =>
          kg (kt r37 r4 32) <| (F_LT_sits N r37 r4 r28 v30).bind fun r38 =>
          kg (kt r38 a1 30) <|
          kg (kt r38 a1 30) <| kl (ksI r38 a1 9 ((kI r38 a1 9) + 1)) fun M39 =>
          kg (kt M39 r28 31) <|
          kg (kt M39 a0 11) <| (kSm (fun r : Int32 × kMem => (some (.int r.1), r.2)) M39 (F_X11_buySeat N M39 a0 v3 (kI M39 r28 0) v30)).bind fun r40 =>
          if r40.1 = v35 then (
            some (1, r40.2)) else
          some (0, r40.2)) else
        some (1, r31.2)) else
      some (0, r31.2)) else
    if r10.1 = 2 then (
      kg (kt r10.2 a1 30) <|
      kg (kt r10.2 a1 30) <|
      kg (kt r10.2 (kR r10.2 a1 0) 33) <| (F_AL_size N r10.2 (kR r10.2 a1 0)).bind fun r41 =>
      (F_L_draw N r10.2 a2 r41).bind fun r42 =>
      kg (kt r42.2 (kR r10.2 a1 0) 33) <| (F_AL_get N r42.2 (kR r10.2 a1 0) r42.1).bind fun r43 =>
      kg (r43 == 0 || kt r42.2 r43 31) <|
      (F_L_position N r42.2 r43 a2).bind fun r44 =>
      kl r44.1 fun v45 =>
      kg (kt r44.2 a1 30) <| (F_L_against N r44.2 a1 r4 r43 v45).bind fun r46 =>
      kl r46.1 fun v47 =>
      kg (kt r46.2 r43 31) <|
      kg (kt r46.2 a0 11) <| (kSm (fun r : Int32 => (some (.int r), r46.2)) r46.2 (F_X11_reasonAgainstSeat N r46.2 a0 v3 (kI r46.2 r43 0) v45)).bind fun r48 =>
      if r48 = v47 then (
        if v47 = 0 then (
          kg (kt r46.2 a1 30) <| (F_L_price N r46.2 a1 r43 v45).bind fun r49 =>
          kl r49.1 fun v50 =>
          kg (kt r49.2 a1 30) <| (F_L_pays N r49.2 a1 r4 v50).bind fun r51 =>
          kg (kt r51 r4 32) <| (F_LT_rises N r51 r4).bind fun r52 =>
          kg (kt r52 r4 32) <| (F_LT_sits N r52 r4 r43 v45).bind fun r53 =>
          kg (kt r53 a1 30) <|
          kg (kt r53 a1 30) <| kl (ksI r53 a1 9 ((kI r53 a1 9) + 1)) fun M54 =>
          kg (kt M54 r43 31) <|
          kg (kt M54 a0 11) <| (kSm (fun r : Int32 × kMem => (some (.int r.1), r.2)) M54 (F_X11_buySeat N M54 a0 v3 (kI M54 r43 0) v45)).bind fun r55 =>
          if r55.1 = v50 then (
            some (1, r55.2)) else
          some (0, r55.2)) else
        some (1, r46.2)) else
      some (0, r46.2)) else
    if r10.1 = 3 then (
      (F_L_draw N r10.2 a2 9).bind fun r56 =>
      kl (1 + r56.1) fun v57 =>
      kg (kt r56.2 a1 30) <| (F_L_against_ N r56.2 a1 r4 r9 v57).bind fun r58 =>
      kl r58.1 fun v59 =>
      kg (kt r58.2 a0 11) <| (kSm (fun r : Int32 × kMem => (some (.int r.1), r.2)) r58.2 (F_X11_reasonAgainstSale N r58.2 a0 v3 v8 v57)).bind fun r60 =>
      if r60.1 = v59 then (
        if v59 = 0 then (
          kg (kt r60.2 a1 30) <| (F_L_unit N r60.2 a1 r4 r9).bind fun r61 =>
          kl (v57 * r61.1) fun v62 =>
          kg (kt r61.2 r4 32) <|
          kg (kt r61.2 r4 32) <| kl (ksI r61.2 r4 1 ((kI r61.2 r4 1) - v57)) fun M63 =>
          kg (kt M63 r9 32) <|
          kg (kt M63 r9 32) <| kl (ksI M63 r9 1 ((kI M63 r9 1) + v57)) fun M64 =>
          kg (kt M64 r4 32) <|
          kg (kt M64 r4 32) <| kl (ksI M64 r4 2 ((kI M64 r4 2) + v62)) fun M65 =>
          kg (kt M65 r9 32) <|
          kg (kt M65 r9 32) <| kl (ksI M65 r9 2 ((kI M65 r9 2) - v62)) fun M66 =>
          kg (kt M66 a1 30) <|
          kg (kt M66 a1 30) <| kl (ksI M66 a1 10 ((kI M66 a1 10) + v57)) fun M67 =>
          kg (kt M67 a0 11) <| (kSm (fun r : Int32 × kMem => (some (.int r.1), r.2)) M67 (F_X11_sellWeight N M67 a0 v3 v8 v57)).bind fun r68 =>
          if r68.1 = v62 then (
            some (1, r68.2)) else
          some (0, r68.2)) else
        some (1, r60.2)) else
      some (0, r60.2)) else
    if r10.1 = 4 then (
      (F_L_draw N r10.2 a2 9).bind fun r69 =>
      kl (1 + r69.1) fun v70 =>
      kg (kt r69.2 a1 30) <| (F_L_against_ N r69.2 a1 r4 r9 v70).bind fun r71 =>
      kl r71.1 fun v72 =>
      kg (kt r71.2 a0 11) <| (kSm (fun r : Int32 × kMem => (some (.int r.1), r.2)) r71.2 (F_X11_reasonAgainstSale N r71.2 a0 v3 v8 v70)).bind fun r73 =>
      if r73.1 = v72 then (
        if v72 = 0 then (
          kg (kt r73.2 a1 30) <| (F_L_unit N r73.2 a1 r4 r9).bind fun r74 =>
          kl (v70 * r74.1) fun v75 =>
          kg (kt r74.2 r4 32) <|
          kg (kt r74.2 r4 32) <| kl (ksI r74.2 r4 1 ((kI r74.2 r4 1) - v70)) fun M76 =>
          kg (kt M76 r9 32) <|
          kg (kt M76 r9 32) <| kl (ksI M76 r9 1 ((kI M76 r9 1) + v70)) fun M77 =>
          kg (kt M77 r4 32) <|
          kg (kt M77 r4 32) <| kl (ksI M77 r4 2 ((kI M77 r4 2) + v75)) fun M78 =>
          kg (kt M78 r9 32) <|
          kg (kt M78 r9 32) <| kl (ksI M78 r9 2 ((kI M78 r9 2) - v75)) fun M79 =>
          kg (kt M79 a1 30) <|
          kg (kt M79 a1 30) <| kl (ksI M79 a1 10 ((kI M79 a1 10) + v70)) fun M80 =>
          kg (kt M80 a0 11) <| (kSm (fun r : Int32 × kMem => (some (.int r.1), r.2)) M80 (F_X11_sellWeight N M80 a0 v3 v8 v70)).bind fun r81 =>
          if r81.1 = v75 then (
            some (1, r81.2)) else
          some (0, r81.2)) else
        some (1, r73.2)) else
      some (0, r73.2)) else
    if r10.1 = 5 then (
      (F_L_against__ N r10.2 r4 r9).bind fun r82 =>
      kl r82.1 fun v83 =>
      kg (kt r82.2 a0 11) <| (kSm (fun r : Int32 × kMem => (some (.int r.1), r.2)) r82.2 (F_X11_reasonAgainstSwap N r82.2 a0 v3 v8)).bind fun r84 =>
      if r84.1 = v83 then (
        if v83 = 0 then (
          (F_L_more N r84.2 r4 r9).bind fun r85 =>
          kl r85.1 fun v86 =>
          kg (kt r85.2 r4 32) <|
          kg (kt r85.2 r4 32) <| kl (ksI r85.2 r4 2 ((kI r85.2 r4 2) - v86)) fun M87 =>
          kg (kt M87 r9 32) <|
          kg (kt M87 r9 32) <| kl (ksI M87 r9 2 ((kI M87 r9 2) + v86)) fun M88 =>
          (F_L_exchange N M88 r4 r9).bind fun r89 =>
          kg (kt r89 a0 11) <| (kSm (fun r : Int32 × kMem => (some (.int r.1), r.2)) r89 (F_X11_swapSeats N r89 a0 v3 v8)).bind fun r90 =>
          if r90.1 = v86 then (
            some (1, r90.2)) else
          some (0, r90.2)) else
        some (1, r84.2)) else
      some (0, r84.2)) else
    if r10.1 = 6 then (
      kg (kt r10.2 a1 30) <|
      kl (kI r10.2 a1 2) fun v91 =>
      (F_L_draw N r10.2 a2 12).bind fun r92 =>
      kg (kt r92.2 a1 30) <| kl (ksI r92.2 a1 2 r92.1) fun M93 =>
      kg (kt M93 a1 30) <|
      kg (kt M93 a0 11) <| (kSm (fun r : Int32 × kMem => (some (.int r.1), r.2)) M93 (F_X11_setWage N M93 a0 (kI M93 a1 2))).bind fun r94 =>
      if r94.1 = v91 then (
        some (1, r94.2)) else
      some (0, r94.2)) else
    (F_L_draw N r10.2 a2 6).bind fun r95 =>
    kl (1 + r95.1) fun v96 =>
    F_L_act_538 N N r95.2 a0 a1 v96 0 0
