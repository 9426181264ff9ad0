theorem q_oi : Cond.instanceMethod objectInit ∈ WT := kw 159 (by decide +kernel) rfl
theorem q_oc : Cond.code objectInit ⟨#[0xb1]⟩ 1 none ∈ WT := kw 160 (by decide +kernel) rfl
theorem hdefX0 : ∀ j, j < 5 → ∃ x, (kKinds 0)[j]? = some x ∧ defaultValue (tyX0 j) = (match x with | 0 => Value.int 0 | 1 => .null | _ => Value.long 0) := fun j hj => match j, hj with
  | 0, _ => ⟨_, rfl, rfl⟩
  | 1, _ => ⟨_, rfl, rfl⟩
  | 2, _ => ⟨_, rfl, rfl⟩
  | 3, _ => ⟨_, rfl, rfl⟩
  | 4, _ => ⟨_, rfl, rfl⟩
  | _ + 5, h => absurd h (by omega)
theorem hdefX1 : ∀ j, j < 7 → ∃ x, (kKinds 1)[j]? = some x ∧ defaultValue (tyX1 j) = (match x with | 0 => Value.int 0 | 1 => .null | _ => Value.long 0) := fun j hj => match j, hj with
  | 0, _ => ⟨_, rfl, rfl⟩
  | 1, _ => ⟨_, rfl, rfl⟩
  | 2, _ => ⟨_, rfl, rfl⟩
  | 3, _ => ⟨_, rfl, rfl⟩
  | 4, _ => ⟨_, rfl, rfl⟩
  | 5, _ => ⟨_, rfl, rfl⟩
  | 6, _ => ⟨_, rfl, rfl⟩
  | _ + 7, h => absurd h (by omega)
theorem hdefX2 : ∀ j, j < 4 → ∃ x, (kKinds 2)[j]? = some x ∧ defaultValue (tyX2 j) = (match x with | 0 => Value.int 0 | 1 => .null | _ => Value.long 0) := fun j hj => match j, hj with
  | 0, _ => ⟨_, rfl, rfl⟩
  | 1, _ => ⟨_, rfl, rfl⟩
  | 2, _ => ⟨_, rfl, rfl⟩
  | 3, _ => ⟨_, rfl, rfl⟩
  | _ + 4, h => absurd h (by omega)
theorem hdefX3 : ∀ j, j < 3 → ∃ x, (kKinds 3)[j]? = some x ∧ defaultValue (tyX3 j) = (match x with | 0 => Value.int 0 | 1 => .null | _ => Value.long 0) := fun j hj => match j, hj with
  | 0, _ => ⟨_, rfl, rfl⟩
  | 1, _ => ⟨_, rfl, rfl⟩
  | 2, _ => ⟨_, rfl, rfl⟩
  | _ + 3, h => absurd h (by omega)
theorem hdefX4 : ∀ j, j < 16 → ∃ x, (kKinds 4)[j]? = some x ∧ defaultValue (tyX4 j) = (match x with | 0 => Value.int 0 | 1 => .null | _ => Value.long 0) := fun j hj => match j, hj with
  | 0, _ => ⟨_, rfl, rfl⟩
  | 1, _ => ⟨_, rfl, rfl⟩
  | 2, _ => ⟨_, rfl, rfl⟩
  | 3, _ => ⟨_, rfl, rfl⟩
  | 4, _ => ⟨_, rfl, rfl⟩
  | 5, _ => ⟨_, rfl, rfl⟩
  | 6, _ => ⟨_, rfl, rfl⟩
  | 7, _ => ⟨_, rfl, rfl⟩
  | 8, _ => ⟨_, rfl, rfl⟩
  | 9, _ => ⟨_, rfl, rfl⟩
  | 10, _ => ⟨_, rfl, rfl⟩
  | 11, _ => ⟨_, rfl, rfl⟩
  | 12, _ => ⟨_, rfl, rfl⟩
  | 13, _ => ⟨_, rfl, rfl⟩
  | 14, _ => ⟨_, rfl, rfl⟩
  | 15, _ => ⟨_, rfl, rfl⟩
  | _ + 16, h => absurd h (by omega)
theorem hdefX6 : ∀ j, j < 6 → ∃ x, (kKinds 6)[j]? = some x ∧ defaultValue (tyX6 j) = (match x with | 0 => Value.int 0 | 1 => .null | _ => Value.long 0) := fun j hj => match j, hj with
  | 0, _ => ⟨_, rfl, rfl⟩
  | 1, _ => ⟨_, rfl, rfl⟩
  | 2, _ => ⟨_, rfl, rfl⟩
  | 3, _ => ⟨_, rfl, rfl⟩
  | 4, _ => ⟨_, rfl, rfl⟩
  | 5, _ => ⟨_, rfl, rfl⟩
  | _ + 6, h => absurd h (by omega)
theorem hdefX8 : ∀ j, j < 2 → ∃ x, (kKinds 8)[j]? = some x ∧ defaultValue (tyX8 j) = (match x with | 0 => Value.int 0 | 1 => .null | _ => Value.long 0) := fun j hj => match j, hj with
  | 0, _ => ⟨_, rfl, rfl⟩
  | 1, _ => ⟨_, rfl, rfl⟩
  | _ + 2, h => absurd h (by omega)
theorem hdefX9 : ∀ j, j < 8 → ∃ x, (kKinds 9)[j]? = some x ∧ defaultValue (tyX9 j) = (match x with | 0 => Value.int 0 | 1 => .null | _ => Value.long 0) := fun j hj => match j, hj with
  | 0, _ => ⟨_, rfl, rfl⟩
  | 1, _ => ⟨_, rfl, rfl⟩
  | 2, _ => ⟨_, rfl, rfl⟩
  | 3, _ => ⟨_, rfl, rfl⟩
  | 4, _ => ⟨_, rfl, rfl⟩
  | 5, _ => ⟨_, rfl, rfl⟩
  | 6, _ => ⟨_, rfl, rfl⟩
  | 7, _ => ⟨_, rfl, rfl⟩
  | _ + 8, h => absurd h (by omega)
theorem hdefX10 : ∀ j, j < 8 → ∃ x, (kKinds 10)[j]? = some x ∧ defaultValue (tyX10 j) = (match x with | 0 => Value.int 0 | 1 => .null | _ => Value.long 0) := fun j hj => match j, hj with
  | 0, _ => ⟨_, rfl, rfl⟩
  | 1, _ => ⟨_, rfl, rfl⟩
  | 2, _ => ⟨_, rfl, rfl⟩
  | 3, _ => ⟨_, rfl, rfl⟩
  | 4, _ => ⟨_, rfl, rfl⟩
  | 5, _ => ⟨_, rfl, rfl⟩
  | 6, _ => ⟨_, rfl, rfl⟩
  | 7, _ => ⟨_, rfl, rfl⟩
  | _ + 8, h => absurd h (by omega)
theorem hdefX11 : ∀ j, j < 9 → ∃ x, (kKinds 11)[j]? = some x ∧ defaultValue (tyX11 j) = (match x with | 0 => Value.int 0 | 1 => .null | _ => Value.long 0) := fun j hj => match j, hj with
  | 0, _ => ⟨_, rfl, rfl⟩
  | 1, _ => ⟨_, rfl, rfl⟩
  | 2, _ => ⟨_, rfl, rfl⟩
  | 3, _ => ⟨_, rfl, rfl⟩
  | 4, _ => ⟨_, rfl, rfl⟩
  | 5, _ => ⟨_, rfl, rfl⟩
  | 6, _ => ⟨_, rfl, rfl⟩
  | 7, _ => ⟨_, rfl, rfl⟩
  | 8, _ => ⟨_, rfl, rfl⟩
  | _ + 9, h => absurd h (by omega)
theorem hdefX12 : ∀ j, j < 30 → ∃ x, (kKinds 12)[j]? = some x ∧ defaultValue (tyX12 j) = (match x with | 0 => Value.int 0 | 1 => .null | _ => Value.long 0) := fun j hj => match j, hj with
  | 0, _ => ⟨_, rfl, rfl⟩
  | 1, _ => ⟨_, rfl, rfl⟩
  | 2, _ => ⟨_, rfl, rfl⟩
  | 3, _ => ⟨_, rfl, rfl⟩
  | 4, _ => ⟨_, rfl, rfl⟩
  | 5, _ => ⟨_, rfl, rfl⟩
  | 6, _ => ⟨_, rfl, rfl⟩
  | 7, _ => ⟨_, rfl, rfl⟩
  | 8, _ => ⟨_, rfl, rfl⟩
  | 9, _ => ⟨_, rfl, rfl⟩
  | 10, _ => ⟨_, rfl, rfl⟩
  | 11, _ => ⟨_, rfl, rfl⟩
  | 12, _ => ⟨_, rfl, rfl⟩
  | 13, _ => ⟨_, rfl, rfl⟩
  | 14, _ => ⟨_, rfl, rfl⟩
  | 15, _ => ⟨_, rfl, rfl⟩
  | 16, _ => ⟨_, rfl, rfl⟩
  | 17, _ => ⟨_, rfl, rfl⟩
  | 18, _ => ⟨_, rfl, rfl⟩
  | 19, _ => ⟨_, rfl, rfl⟩
  | 20, _ => ⟨_, rfl, rfl⟩
  | 21, _ => ⟨_, rfl, rfl⟩
  | 22, _ => ⟨_, rfl, rfl⟩
  | 23, _ => ⟨_, rfl, rfl⟩
  | 24, _ => ⟨_, rfl, rfl⟩
  | 25, _ => ⟨_, rfl, rfl⟩
  | 26, _ => ⟨_, rfl, rfl⟩
  | 27, _ => ⟨_, rfl, rfl⟩
  | 28, _ => ⟨_, rfl, rfl⟩
  | 29, _ => ⟨_, rfl, rfl⟩
  | _ + 30, h => absurd h (by omega)
theorem kc_b_m2 : (Int8.ofInt (-2)).toInt32 = (-2) := by decide
theorem kc_b_25 : (Int8.ofInt (25)).toInt32 = 25 := by decide
theorem kc_b_38 : (Int8.ofInt (38)).toInt32 = 38 := by decide
theorem kc_b_60 : (Int8.ofInt (60)).toInt32 = 60 := by decide
theorem kc_s_200 : (Int16.ofInt (200)).toInt32 = 200 := by decide
theorem kc_s_586 : (Int16.ofInt (586)).toInt32 = 586 := by decide
theorem kc_s_801 : (Int16.ofInt (801)).toInt32 = 801 := by decide
theorem kc_s_1486 : (Int16.ofInt (1486)).toInt32 = 1486 := by decide
theorem kc_s_2344 : (Int16.ofInt (2344)).toInt32 = 2344 := by decide
theorem kc_s_2530 : (Int16.ofInt (2530)).toInt32 = 2530 := by decide
theorem kc_s_3124 : (Int16.ofInt (3124)).toInt32 = 3124 := by decide
theorem kc_s_4142 : (Int16.ofInt (4142)).toInt32 = 4142 := by decide
theorem q_130 : Cond.initialized RX8 ∈ WT := kw 130 (by decide +kernel) rfl
theorem q_131 : Cond.initialized RX9 ∈ WT := kw 131 (by decide +kernel) rfl
theorem q_132 : Cond.initialized RX6 ∈ WT := kw 132 (by decide +kernel) rfl
theorem q_133 : Cond.initialized RX1 ∈ WT := kw 133 (by decide +kernel) rfl
theorem q_134 : Cond.initialized RX4 ∈ WT := kw 134 (by decide +kernel) rfl
theorem q_135 : Cond.initialized RX2 ∈ WT := kw 135 (by decide +kernel) rfl
theorem q_136 : Cond.initialized RX0 ∈ WT := kw 136 (by decide +kernel) rfl
theorem q_137 : Cond.initialized RX10 ∈ WT := kw 137 (by decide +kernel) rfl
theorem q_138 : Cond.initialized RX3 ∈ WT := kw 138 (by decide +kernel) rfl
theorem q_158 : Cond.methodLink RX11 1 objectInit ∈ WT := kw 158 (by decide +kernel) rfl
theorem q_161 : Cond.classLink RX11 7 RX8 ∈ WT := kw 161 (by decide +kernel) rfl
theorem q_162 : Cond.instantiable RX8 2 ∈ WT := kw 162 (by decide +kernel) rfl
theorem q_163 : (RX11, 9, yX8_init, "SeesawMarket") ∈ kNests := by decide +kernel
theorem q_166 : Cond.methodLink RX8 3 objectInit ∈ WT := kw 166 (by decide +kernel) rfl
theorem q_177 : Cond.classLink RX11 19 RX9 ∈ WT := kw 177 (by decide +kernel) rfl
theorem q_178 : Cond.instantiable RX9 8 ∈ WT := kw 178 (by decide +kernel) rfl
theorem q_179 : Cond.methodLink RX11 21 yX9_init ∈ WT := kw 179 (by decide +kernel) rfl
theorem q_182 : Cond.methodLink RX9 3 objectInit ∈ WT := kw 182 (by decide +kernel) rfl
theorem q_210 : Cond.classLink RX11 28 RX6 ∈ WT := kw 210 (by decide +kernel) rfl
theorem q_211 : Cond.instantiable RX6 6 ∈ WT := kw 211 (by decide +kernel) rfl
theorem q_212 : Cond.methodLink RX11 30 yX6_init ∈ WT := kw 212 (by decide +kernel) rfl
theorem q_215 : Cond.methodLink RX6 3 objectInit ∈ WT := kw 215 (by decide +kernel) rfl
theorem q_216 : Cond.classLink RX6 9 RX1 ∈ WT := kw 216 (by decide +kernel) rfl
theorem q_218 : Cond.instantiable RX1 7 ∈ WT := kw 218 (by decide +kernel) rfl
theorem q_219 : (RX6, 24, yX1_init, "SeesawMarket") ∈ kNests := by decide +kernel
theorem q_222 : Cond.methodLink RX1 3 objectInit ∈ WT := kw 222 (by decide +kernel) rfl
theorem q_267 : Cond.classLink RX11 35 RX4 ∈ WT := kw 267 (by decide +kernel) rfl
theorem q_268 : Cond.instantiable RX4 16 ∈ WT := kw 268 (by decide +kernel) rfl
theorem q_269 : Cond.methodLink RX11 37 yX4_init ∈ WT := kw 269 (by decide +kernel) rfl
theorem q_272 : Cond.methodLink RX4 3 objectInit ∈ WT := kw 272 (by decide +kernel) rfl
theorem q_273 : Cond.classLink RX4 9 RX0 ∈ WT := kw 273 (by decide +kernel) rfl
theorem q_275 : Cond.classLink RX4 17 RX10 ∈ WT := kw 275 (by decide +kernel) rfl
theorem q_277 : Cond.classLink RX4 23 RX2 ∈ WT := kw 277 (by decide +kernel) rfl
theorem q_278 : Cond.instantiable RX2 4 ∈ WT := kw 278 (by decide +kernel) rfl
theorem q_279 : (RX4, 25, yX2_init, "SeesawMarket") ∈ kNests := by decide +kernel
theorem q_282 : Cond.methodLink RX2 3 objectInit ∈ WT := kw 282 (by decide +kernel) rfl
theorem q_297 : Cond.instantiable RX0 5 ∈ WT := kw 297 (by decide +kernel) rfl
theorem q_298 : Cond.methodLink RX4 30 yX0_init ∈ WT := kw 298 (by decide +kernel) rfl
theorem q_301 : Cond.methodLink RX0 3 objectInit ∈ WT := kw 301 (by decide +kernel) rfl
theorem q_323 : Cond.instantiable RX10 8 ∈ WT := kw 323 (by decide +kernel) rfl
theorem q_324 : Cond.methodLink RX4 33 yX10_init ∈ WT := kw 324 (by decide +kernel) rfl
theorem q_327 : Cond.methodLink RX10 3 objectInit ∈ WT := kw 327 (by decide +kernel) rfl
theorem q_438 : Cond.classLink RX11 45 RX3 ∈ WT := kw 438 (by decide +kernel) rfl
theorem q_439 : Cond.instantiable RX3 3 ∈ WT := kw 439 (by decide +kernel) rfl
theorem q_440 : Cond.methodLink RX11 47 yX3_init ∈ WT := kw 440 (by decide +kernel) rfl
theorem q_443 : Cond.methodLink RX3 3 objectInit ∈ WT := kw 443 (by decide +kernel) rfl
theorem q_444 : Cond.classLink RX3 9 RX4 ∈ WT := kw 444 (by decide +kernel) rfl
theorem q_446 : Cond.methodLink RX3 17 yX4_init ∈ WT := kw 446 (by decide +kernel) rfl
theorem q_459 : Cond.methodLink RX11 62 yX8_addAll ∈ WT := kw 459 (by decide +kernel) rfl
theorem q_461 : Cond.selects RX8 yX8_addAll yX8_addAll ∈ WT := kw 461 (by decide +kernel) rfl
theorem q_1609 : Cond.methodLink RX12 1 objectInit ∈ WT := kw 1609 (by decide +kernel) rfl
section kInst
variable {β : Type} {p : Program} {l : Launch} {e : Env} {R : Room} {s : State} {m : MethodId} {args : Array Value} {below : List Frame} {meth : Method} {c : Code} {cc : ByteArray} {nL : Nat} {g : kG} {dep : Nat} {Q : β → State → Prop} {k n : Nat} {o : Option β} {pc : Nat} {lv : List (Nat × Value)} {st : List Value} {M : kMem}
end kInst
theorem lk_X1_init : kLk yX1_init cX1_init 1 none 0 := ⟨kw 221 (by decide +kernel) rfl, kw 220 (by decide +kernel) rfl, kw 133 (by decide +kernel) rfl, ⟨by decide, by decide, by decide +kernel⟩, Nat.le_of_ble_eq_true rfl⟩
theorem lk_X2_init : kLk yX2_init cX2_init 1 none 0 := ⟨kw 281 (by decide +kernel) rfl, kw 280 (by decide +kernel) rfl, kw 135 (by decide +kernel) rfl, ⟨by decide, by decide, by decide +kernel⟩, Nat.le_of_ble_eq_true rfl⟩
theorem lk_X10_init : kLk yX10_init cX10_init 2 none 1 := ⟨kw 326 (by decide +kernel) rfl, kw 325 (by decide +kernel) rfl, kw 137 (by decide +kernel) rfl, ⟨by decide, by decide, by decide +kernel⟩, Nat.le_of_ble_eq_true rfl⟩
theorem lk_X0_init : kLk yX0_init cX0_init 2 none 1 := ⟨kw 300 (by decide +kernel) rfl, kw 299 (by decide +kernel) rfl, kw 136 (by decide +kernel) rfl, ⟨by decide, by decide, by decide +kernel⟩, Nat.le_of_ble_eq_true rfl⟩
theorem lk_X4_init : kLk yX4_init cX4_init 2 none 0 := ⟨kw 271 (by decide +kernel) rfl, kw 270 (by decide +kernel) rfl, kw 134 (by decide +kernel) rfl, ⟨by decide, by decide, by decide +kernel⟩, Nat.le_of_ble_eq_true rfl⟩
theorem lk_X8_init : kLk yX8_init cX8_init 1 none 0 := ⟨kw 165 (by decide +kernel) rfl, kw 164 (by decide +kernel) rfl, kw 130 (by decide +kernel) rfl, ⟨by decide, by decide, by decide +kernel⟩, Nat.le_of_ble_eq_true rfl⟩
theorem lk_X9_init : kLk yX9_init cX9_init 2 none 1 := ⟨kw 181 (by decide +kernel) rfl, kw 180 (by decide +kernel) rfl, kw 131 (by decide +kernel) rfl, ⟨by decide, by decide, by decide +kernel⟩, Nat.le_of_ble_eq_true rfl⟩
theorem lk_X6_init : kLk yX6_init cX6_init 2 none 0 := ⟨kw 214 (by decide +kernel) rfl, kw 213 (by decide +kernel) rfl, kw 132 (by decide +kernel) rfl, ⟨by decide, by decide, by decide +kernel⟩, Nat.le_of_ble_eq_true rfl⟩
theorem lk_X3_init : kLk yX3_init cX3_init 2 none 0 := ⟨kw 442 (by decide +kernel) rfl, kw 441 (by decide +kernel) rfl, kw 138 (by decide +kernel) rfl, ⟨by decide, by decide, by decide +kernel⟩, Nat.le_of_ble_eq_true rfl⟩
theorem lk_X8_addAll : kLk yX8_addAll cX8_addAll 3 none 1 := ⟨kw 462 (by decide +kernel) rfl, kw 460 (by decide +kernel) rfl, kw 130 (by decide +kernel) rfl, ⟨by decide, by decide, by decide +kernel⟩, Nat.le_of_ble_eq_true rfl⟩
