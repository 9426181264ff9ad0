theorem q_oi : Cond.instanceMethod objectInit ∈ WT := kw 162 (by decide +kernel) rfl
theorem q_oc : Cond.code objectInit ⟨#[0xb1]⟩ 1 none ∈ WT := kw 163 (by decide +kernel) rfl
theorem hdefX0 : ∀ j, j < 5 → ∃ x, (kKinds 0)[j]? = some x ∧ defaultValue (tyX0 j) = (match x with | 0 => Value.int 0 | 1 => .null | _ => Value.long 0) := fun j hj => match j, hj with
  | 0, _ => ⟨_, rfl, rfl⟩
  | 1, _ => ⟨_, rfl, rfl⟩
  | 2, _ => ⟨_, rfl, rfl⟩
  | 3, _ => ⟨_, rfl, rfl⟩
  | 4, _ => ⟨_, rfl, rfl⟩
  | _ + 5, h => absurd h (by omega)
theorem hdefX1 : ∀ j, j < 7 → ∃ x, (kKinds 1)[j]? = some x ∧ defaultValue (tyX1 j) = (match x with | 0 => Value.int 0 | 1 => .null | _ => Value.long 0) := fun j hj => match j, hj with
  | 0, _ => ⟨_, rfl, rfl⟩
  | 1, _ => ⟨_, rfl, rfl⟩
  | 2, _ => ⟨_, rfl, rfl⟩
  | 3, _ => ⟨_, rfl, rfl⟩
  | 4, _ => ⟨_, rfl, rfl⟩
  | 5, _ => ⟨_, rfl, rfl⟩
  | 6, _ => ⟨_, rfl, rfl⟩
  | _ + 7, h => absurd h (by omega)
theorem hdefX2 : ∀ j, j < 4 → ∃ x, (kKinds 2)[j]? = some x ∧ defaultValue (tyX2 j) = (match x with | 0 => Value.int 0 | 1 => .null | _ => Value.long 0) := fun j hj => match j, hj with
  | 0, _ => ⟨_, rfl, rfl⟩
  | 1, _ => ⟨_, rfl, rfl⟩
  | 2, _ => ⟨_, rfl, rfl⟩
  | 3, _ => ⟨_, rfl, rfl⟩
  | _ + 4, h => absurd h (by omega)
theorem hdefX3 : ∀ j, j < 3 → ∃ x, (kKinds 3)[j]? = some x ∧ defaultValue (tyX3 j) = (match x with | 0 => Value.int 0 | 1 => .null | _ => Value.long 0) := fun j hj => match j, hj with
  | 0, _ => ⟨_, rfl, rfl⟩
  | 1, _ => ⟨_, rfl, rfl⟩
  | 2, _ => ⟨_, rfl, rfl⟩
  | _ + 3, h => absurd h (by omega)
theorem hdefX4 : ∀ j, j < 16 → ∃ x, (kKinds 4)[j]? = some x ∧ defaultValue (tyX4 j) = (match x with | 0 => Value.int 0 | 1 => .null | _ => Value.long 0) := fun j hj => match j, hj with
  | 0, _ => ⟨_, rfl, rfl⟩
  | 1, _ => ⟨_, rfl, rfl⟩
  | 2, _ => ⟨_, rfl, rfl⟩
  | 3, _ => ⟨_, rfl, rfl⟩
  | 4, _ => ⟨_, rfl, rfl⟩
  | 5, _ => ⟨_, rfl, rfl⟩
  | 6, _ => ⟨_, rfl, rfl⟩
  | 7, _ => ⟨_, rfl, rfl⟩
  | 8, _ => ⟨_, rfl, rfl⟩
  | 9, _ => ⟨_, rfl, rfl⟩
  | 10, _ => ⟨_, rfl, rfl⟩
  | 11, _ => ⟨_, rfl, rfl⟩
  | 12, _ => ⟨_, rfl, rfl⟩
  | 13, _ => ⟨_, rfl, rfl⟩
  | 14, _ => ⟨_, rfl, rfl⟩
  | 15, _ => ⟨_, rfl, rfl⟩
  | _ + 16, h => absurd h (by omega)
theorem hdefX5 : ∀ j, j < 2 → ∃ x, (kKinds 5)[j]? = some x ∧ defaultValue (tyX5 j) = (match x with | 0 => Value.int 0 | 1 => .null | _ => Value.long 0) := fun j hj => match j, hj with
  | 0, _ => ⟨_, rfl, rfl⟩
  | 1, _ => ⟨_, rfl, rfl⟩
  | _ + 2, h => absurd h (by omega)
theorem hdefX6 : ∀ j, j < 6 → ∃ x, (kKinds 6)[j]? = some x ∧ defaultValue (tyX6 j) = (match x with | 0 => Value.int 0 | 1 => .null | _ => Value.long 0) := fun j hj => match j, hj with
  | 0, _ => ⟨_, rfl, rfl⟩
  | 1, _ => ⟨_, rfl, rfl⟩
  | 2, _ => ⟨_, rfl, rfl⟩
  | 3, _ => ⟨_, rfl, rfl⟩
  | 4, _ => ⟨_, rfl, rfl⟩
  | 5, _ => ⟨_, rfl, rfl⟩
  | _ + 6, h => absurd h (by omega)
theorem hdefX7 : ∀ j, j < 1 → ∃ x, (kKinds 7)[j]? = some x ∧ defaultValue (tyX7 j) = (match x with | 0 => Value.int 0 | 1 => .null | _ => Value.long 0) := fun j hj => match j, hj with
  | 0, _ => ⟨_, rfl, rfl⟩
  | _ + 1, h => absurd h (by omega)
theorem hdefX8 : ∀ j, j < 2 → ∃ x, (kKinds 8)[j]? = some x ∧ defaultValue (tyX8 j) = (match x with | 0 => Value.int 0 | 1 => .null | _ => Value.long 0) := fun j hj => match j, hj with
  | 0, _ => ⟨_, rfl, rfl⟩
  | 1, _ => ⟨_, rfl, rfl⟩
  | _ + 2, h => absurd h (by omega)
theorem hdefX9 : ∀ j, j < 8 → ∃ x, (kKinds 9)[j]? = some x ∧ defaultValue (tyX9 j) = (match x with | 0 => Value.int 0 | 1 => .null | _ => Value.long 0) := fun j hj => match j, hj with
  | 0, _ => ⟨_, rfl, rfl⟩
  | 1, _ => ⟨_, rfl, rfl⟩
  | 2, _ => ⟨_, rfl, rfl⟩
  | 3, _ => ⟨_, rfl, rfl⟩
  | 4, _ => ⟨_, rfl, rfl⟩
  | 5, _ => ⟨_, rfl, rfl⟩
  | 6, _ => ⟨_, rfl, rfl⟩
  | 7, _ => ⟨_, rfl, rfl⟩
  | _ + 8, h => absurd h (by omega)
theorem hdefX10 : ∀ j, j < 8 → ∃ x, (kKinds 10)[j]? = some x ∧ defaultValue (tyX10 j) = (match x with | 0 => Value.int 0 | 1 => .null | _ => Value.long 0) := fun j hj => match j, hj with
  | 0, _ => ⟨_, rfl, rfl⟩
  | 1, _ => ⟨_, rfl, rfl⟩
  | 2, _ => ⟨_, rfl, rfl⟩
  | 3, _ => ⟨_, rfl, rfl⟩
  | 4, _ => ⟨_, rfl, rfl⟩
  | 5, _ => ⟨_, rfl, rfl⟩
  | 6, _ => ⟨_, rfl, rfl⟩
  | 7, _ => ⟨_, rfl, rfl⟩
  | _ + 8, h => absurd h (by omega)
theorem hdefX11 : ∀ j, j < 11 → ∃ x, (kKinds 11)[j]? = some x ∧ defaultValue (tyX11 j) = (match x with | 0 => Value.int 0 | 1 => .null | _ => Value.long 0) := fun j hj => match j, hj with
  | 0, _ => ⟨_, rfl, rfl⟩
  | 1, _ => ⟨_, rfl, rfl⟩
  | 2, _ => ⟨_, rfl, rfl⟩
  | 3, _ => ⟨_, rfl, rfl⟩
  | 4, _ => ⟨_, rfl, rfl⟩
  | 5, _ => ⟨_, rfl, rfl⟩
  | 6, _ => ⟨_, rfl, rfl⟩
  | 7, _ => ⟨_, rfl, rfl⟩
  | 8, _ => ⟨_, rfl, rfl⟩
  | 9, _ => ⟨_, rfl, rfl⟩
  | 10, _ => ⟨_, rfl, rfl⟩
  | _ + 11, h => absurd h (by omega)
theorem hdefX12 : ∀ j, j < 30 → ∃ x, (kKinds 12)[j]? = some x ∧ defaultValue (tyX12 j) = (match x with | 0 => Value.int 0 | 1 => .null | _ => Value.long 0) := fun j hj => match j, hj with
  | 0, _ => ⟨_, rfl, rfl⟩
  | 1, _ => ⟨_, rfl, rfl⟩
  | 2, _ => ⟨_, rfl, rfl⟩
  | 3, _ => ⟨_, rfl, rfl⟩
  | 4, _ => ⟨_, rfl, rfl⟩
  | 5, _ => ⟨_, rfl, rfl⟩
  | 6, _ => ⟨_, rfl, rfl⟩
  | 7, _ => ⟨_, rfl, rfl⟩
  | 8, _ => ⟨_, rfl, rfl⟩
  | 9, _ => ⟨_, rfl, rfl⟩
  | 10, _ => ⟨_, rfl, rfl⟩
  | 11, _ => ⟨_, rfl, rfl⟩
  | 12, _ => ⟨_, rfl, rfl⟩
  | 13, _ => ⟨_, rfl, rfl⟩
  | 14, _ => ⟨_, rfl, rfl⟩
  | 15, _ => ⟨_, rfl, rfl⟩
  | 16, _ => ⟨_, rfl, rfl⟩
  | 17, _ => ⟨_, rfl, rfl⟩
  | 18, _ => ⟨_, rfl, rfl⟩
  | 19, _ => ⟨_, rfl, rfl⟩
  | 20, _ => ⟨_, rfl, rfl⟩
  | 21, _ => ⟨_, rfl, rfl⟩
  | 22, _ => ⟨_, rfl, rfl⟩
  | 23, _ => ⟨_, rfl, rfl⟩
  | 24, _ => ⟨_, rfl, rfl⟩
  | 25, _ => ⟨_, rfl, rfl⟩
  | 26, _ => ⟨_, rfl, rfl⟩
  | 27, _ => ⟨_, rfl, rfl⟩
  | 28, _ => ⟨_, rfl, rfl⟩
  | 29, _ => ⟨_, rfl, rfl⟩
  | _ + 30, h => absurd h (by omega)
theorem kc_b_m2 : (Int8.ofInt (-2)).toInt32 = (-2) := by decide
theorem kc_b_25 : (Int8.ofInt (25)).toInt32 = 25 := by decide
theorem kc_b_38 : (Int8.ofInt (38)).toInt32 = 38 := by decide
theorem kc_b_60 : (Int8.ofInt (60)).toInt32 = 60 := by decide
theorem kc_s_200 : (Int16.ofInt (200)).toInt32 = 200 := by decide
theorem kc_s_586 : (Int16.ofInt (586)).toInt32 = 586 := by decide
theorem kc_s_801 : (Int16.ofInt (801)).toInt32 = 801 := by decide
theorem kc_s_1486 : (Int16.ofInt (1486)).toInt32 = 1486 := by decide
theorem kc_s_2344 : (Int16.ofInt (2344)).toInt32 = 2344 := by decide
theorem kc_s_2530 : (Int16.ofInt (2530)).toInt32 = 2530 := by decide
theorem kc_s_3124 : (Int16.ofInt (3124)).toInt32 = 3124 := by decide
theorem kc_s_4142 : (Int16.ofInt (4142)).toInt32 = 4142 := by decide
theorem q_132 : Cond.initialized RX8 ∈ WT := kw 132 (by decide +kernel) rfl
theorem q_133 : Cond.initialized RX9 ∈ WT := kw 133 (by decide +kernel) rfl
theorem q_134 : Cond.initialized RX7 ∈ WT := kw 134 (by decide +kernel) rfl
theorem q_135 : Cond.initialized RX5 ∈ WT := kw 135 (by decide +kernel) rfl
theorem q_136 : Cond.initialized RX6 ∈ WT := kw 136 (by decide +kernel) rfl
theorem q_137 : Cond.initialized RX1 ∈ WT := kw 137 (by decide +kernel) rfl
theorem q_138 : Cond.initialized RX4 ∈ WT := kw 138 (by decide +kernel) rfl
theorem q_139 : Cond.initialized RX2 ∈ WT := kw 139 (by decide +kernel) rfl
theorem q_140 : Cond.initialized RX0 ∈ WT := kw 140 (by decide +kernel) rfl
theorem q_141 : Cond.initialized RX10 ∈ WT := kw 141 (by decide +kernel) rfl
theorem q_142 : Cond.initialized RX3 ∈ WT := kw 142 (by decide +kernel) rfl
theorem q_161 : Cond.methodLink RX11 1 objectInit ∈ WT := kw 161 (by decide +kernel) rfl
theorem q_164 : Cond.classLink RX11 7 RX8 ∈ WT := kw 164 (by decide +kernel) rfl
theorem q_165 : Cond.instantiable RX8 2 ∈ WT := kw 165 (by decide +kernel) rfl
theorem q_166 : (RX11, 9, yX8_init, "SeesawMarket") ∈ kNests := by decide +kernel
theorem q_169 : Cond.methodLink RX8 3 objectInit ∈ WT := kw 169 (by decide +kernel) rfl
theorem q_180 : Cond.classLink RX11 19 RX9 ∈ WT := kw 180 (by decide +kernel) rfl
theorem q_181 : Cond.instantiable RX9 8 ∈ WT := kw 181 (by decide +kernel) rfl
theorem q_182 : Cond.methodLink RX11 21 yX9_init ∈ WT := kw 182 (by decide +kernel) rfl
theorem q_185 : Cond.methodLink RX9 3 objectInit ∈ WT := kw 185 (by decide +kernel) rfl
theorem q_213 : Cond.classLink RX11 28 RX7 ∈ WT := kw 213 (by decide +kernel) rfl
theorem q_214 : Cond.instantiable RX7 1 ∈ WT := kw 214 (by decide +kernel) rfl
theorem q_215 : (RX11, 30, yX7_init, "SeesawMarket") ∈ kNests := by decide +kernel
theorem q_218 : Cond.methodLink RX7 3 objectInit ∈ WT := kw 218 (by decide +kernel) rfl
theorem q_219 : Cond.classLink RX7 9 RX5 ∈ WT := kw 219 (by decide +kernel) rfl
theorem q_220 : Cond.instantiable RX5 2 ∈ WT := kw 220 (by decide +kernel) rfl
theorem q_221 : (RX7, 11, yX5_init, "SeesawMarket") ∈ kNests := by decide +kernel
theorem q_224 : Cond.methodLink RX5 3 objectInit ∈ WT := kw 224 (by decide +kernel) rfl
theorem q_237 : Cond.classLink RX11 35 RX6 ∈ WT := kw 237 (by decide +kernel) rfl
theorem q_238 : Cond.instantiable RX6 6 ∈ WT := kw 238 (by decide +kernel) rfl
theorem q_239 : Cond.methodLink RX11 37 yX6_init ∈ WT := kw 239 (by decide +kernel) rfl
theorem q_242 : Cond.methodLink RX6 3 objectInit ∈ WT := kw 242 (by decide +kernel) rfl
theorem q_243 : Cond.classLink RX6 9 RX1 ∈ WT := kw 243 (by decide +kernel) rfl
theorem q_245 : Cond.instantiable RX1 7 ∈ WT := kw 245 (by decide +kernel) rfl
theorem q_246 : (RX6, 24, yX1_init, "SeesawMarket") ∈ kNests := by decide +kernel
theorem q_249 : Cond.methodLink RX1 3 objectInit ∈ WT := kw 249 (by decide +kernel) rfl
theorem q_250 : Cond.classLink RX1 9 RX5 ∈ WT := kw 250 (by decide +kernel) rfl
theorem q_251 : (RX1, 11, yX5_init, "SeesawMarket") ∈ kNests := by decide +kernel
theorem q_296 : Cond.classLink RX11 42 RX5 ∈ WT := kw 296 (by decide +kernel) rfl
theorem q_297 : (RX11, 44, yX5_init, "SeesawMarket") ∈ kNests := by decide +kernel
theorem q_298 : Cond.classLink RX11 49 RX4 ∈ WT := kw 298 (by decide +kernel) rfl
theorem q_299 : Cond.instantiable RX4 16 ∈ WT := kw 299 (by decide +kernel) rfl
theorem q_300 : Cond.methodLink RX11 51 yX4_init ∈ WT := kw 300 (by decide +kernel) rfl
theorem q_303 : Cond.methodLink RX4 3 objectInit ∈ WT := kw 303 (by decide +kernel) rfl
theorem q_304 : Cond.classLink RX4 9 RX0 ∈ WT := kw 304 (by decide +kernel) rfl
theorem q_306 : Cond.classLink RX4 17 RX10 ∈ WT := kw 306 (by decide +kernel) rfl
theorem q_308 : Cond.classLink RX4 23 RX2 ∈ WT := kw 308 (by decide +kernel) rfl
theorem q_309 : Cond.instantiable RX2 4 ∈ WT := kw 309 (by decide +kernel) rfl
theorem q_310 : (RX4, 25, yX2_init, "SeesawMarket") ∈ kNests := by decide +kernel
theorem q_313 : Cond.methodLink RX2 3 objectInit ∈ WT := kw 313 (by decide +kernel) rfl
theorem q_328 : Cond.instantiable RX0 5 ∈ WT := kw 328 (by decide +kernel) rfl
theorem q_329 : Cond.methodLink RX4 30 yX0_init ∈ WT := kw 329 (by decide +kernel) rfl
theorem q_332 : Cond.methodLink RX0 3 objectInit ∈ WT := kw 332 (by decide +kernel) rfl
theorem q_354 : Cond.instantiable RX10 8 ∈ WT := kw 354 (by decide +kernel) rfl
theorem q_355 : Cond.methodLink RX4 33 yX10_init ∈ WT := kw 355 (by decide +kernel) rfl
theorem q_358 : Cond.methodLink RX10 3 objectInit ∈ WT := kw 358 (by decide +kernel) rfl
theorem q_359 : Cond.classLink RX10 9 RX5 ∈ WT := kw 359 (by decide +kernel) rfl
theorem q_360 : (RX10, 11, yX5_init, "SeesawMarket") ∈ kNests := by decide +kernel
theorem q_471 : Cond.classLink RX11 59 RX3 ∈ WT := kw 471 (by decide +kernel) rfl
theorem q_472 : Cond.instantiable RX3 3 ∈ WT := kw 472 (by decide +kernel) rfl
theorem q_473 : Cond.methodLink RX11 61 yX3_init ∈ WT := kw 473 (by decide +kernel) rfl
theorem q_476 : Cond.methodLink RX3 3 objectInit ∈ WT := kw 476 (by decide +kernel) rfl
theorem q_477 : Cond.classLink RX3 9 RX4 ∈ WT := kw 477 (by decide +kernel) rfl
theorem q_479 : Cond.methodLink RX3 17 yX4_init ∈ WT := kw 479 (by decide +kernel) rfl
theorem q_492 : Cond.methodLink RX11 76 yX8_addAll ∈ WT := kw 492 (by decide +kernel) rfl
theorem q_494 : Cond.selects RX8 yX8_addAll yX8_addAll ∈ WT := kw 494 (by decide +kernel) rfl
theorem q_1663 : Cond.methodLink RX12 1 objectInit ∈ WT := kw 1663 (by decide +kernel) rfl
section kInst
variable {β : Type} {p : Program} {l : Launch} {e : Env} {R : Room} {s : State} {m : MethodId} {args : Array Value} {below : List Frame} {meth : Method} {c : Code} {cc : ByteArray} {nL : Nat} {g : kG} {dep : Nat} {Q : β → State → Prop} {k n : Nat} {o : Option β} {pc : Nat} {lv : List (Nat × Value)} {st : List Value} {M : kMem}
end kInst
theorem lk_X5_init : kLk yX5_init cX5_init 1 none 0 := ⟨kw 223 (by decide +kernel) rfl, kw 222 (by decide +kernel) rfl, kw 135 (by decide +kernel) rfl, ⟨by decide, by decide, by decide +kernel⟩, Nat.le_of_ble_eq_true rfl⟩
theorem lk_X1_init : kLk yX1_init cX1_init 1 none 0 := ⟨kw 248 (by decide +kernel) rfl, kw 247 (by decide +kernel) rfl, kw 137 (by decide +kernel) rfl, ⟨by decide, by decide, by decide +kernel⟩, Nat.le_of_ble_eq_true rfl⟩
theorem lk_X2_init : kLk yX2_init cX2_init 1 none 0 := ⟨kw 312 (by decide +kernel) rfl, kw 311 (by decide +kernel) rfl, kw 139 (by decide +kernel) rfl, ⟨by decide, by decide, by decide +kernel⟩, Nat.le_of_ble_eq_true rfl⟩
theorem lk_X10_init : kLk yX10_init cX10_init 2 none 1 := ⟨kw 357 (by decide +kernel) rfl, kw 356 (by decide +kernel) rfl, kw 141 (by decide +kernel) rfl, ⟨by decide, by decide, by decide +kernel⟩, Nat.le_of_ble_eq_true rfl⟩
theorem lk_X0_init : kLk yX0_init cX0_init 2 none 1 := ⟨kw 331 (by decide +kernel) rfl, kw 330 (by decide +kernel) rfl, kw 140 (by decide +kernel) rfl, ⟨by decide, by decide, by decide +kernel⟩, Nat.le_of_ble_eq_true rfl⟩
theorem lk_X4_init : kLk yX4_init cX4_init 2 none 0 := ⟨kw 302 (by decide +kernel) rfl, kw 301 (by decide +kernel) rfl, kw 138 (by decide +kernel) rfl, ⟨by decide, by decide, by decide +kernel⟩, Nat.le_of_ble_eq_true rfl⟩
theorem lk_X8_init : kLk yX8_init cX8_init 1 none 0 := ⟨kw 168 (by decide +kernel) rfl, kw 167 (by decide +kernel) rfl, kw 132 (by decide +kernel) rfl, ⟨by decide, by decide, by decide +kernel⟩, Nat.le_of_ble_eq_true rfl⟩
theorem lk_X9_init : kLk yX9_init cX9_init 2 none 1 := ⟨kw 184 (by decide +kernel) rfl, kw 183 (by decide +kernel) rfl, kw 133 (by decide +kernel) rfl, ⟨by decide, by decide, by decide +kernel⟩, Nat.le_of_ble_eq_true rfl⟩
theorem lk_X7_init : kLk yX7_init cX7_init 1 none 0 := ⟨kw 217 (by decide +kernel) rfl, kw 216 (by decide +kernel) rfl, kw 134 (by decide +kernel) rfl, ⟨by decide, by decide, by decide +kernel⟩, Nat.le_of_ble_eq_true rfl⟩
theorem lk_X6_init : kLk yX6_init cX6_init 2 none 0 := ⟨kw 241 (by decide +kernel) rfl, kw 240 (by decide +kernel) rfl, kw 136 (by decide +kernel) rfl, ⟨by decide, by decide, by decide +kernel⟩, Nat.le_of_ble_eq_true rfl⟩
theorem lk_X3_init : kLk yX3_init cX3_init 2 none 0 := ⟨kw 475 (by decide +kernel) rfl, kw 474 (by decide +kernel) rfl, kw 142 (by decide +kernel) rfl, ⟨by decide, by decide, by decide +kernel⟩, Nat.le_of_ble_eq_true rfl⟩
theorem lk_X8_addAll : kLk yX8_addAll cX8_addAll 3 none 1 := ⟨kw 495 (by decide +kernel) rfl, kw 493 (by decide +kernel) rfl, kw 132 (by decide +kernel) rfl, ⟨by decide, by decide, by decide +kernel⟩, Nat.le_of_ble_eq_true rfl⟩
