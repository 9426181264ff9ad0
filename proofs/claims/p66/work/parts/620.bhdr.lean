theorem q_oi : Cond.instanceMethod objectInit ∈ WT := kw 95 (by decide +kernel) rfl
theorem q_oc : Cond.code objectInit ⟨#[0xb1]⟩ 1 none ∈ WT := kw 96 (by decide +kernel) rfl
theorem hdefX0 : ∀ j, j < 5 → ∃ x, (kKinds 0)[j]? = some x ∧ defaultValue (tyX0 j) = kD0 x := fun j hj => match j, hj with
  | 0, _ => ⟨_, rfl, rfl⟩
  | 1, _ => ⟨_, rfl, rfl⟩
  | 2, _ => ⟨_, rfl, rfl⟩
  | 3, _ => ⟨_, rfl, rfl⟩
  | 4, _ => ⟨_, rfl, rfl⟩
  | _ + 5, h => absurd h (by omega)
theorem inX1 : ∀ w ∈ u_ws RX1 TX1 7, w ∈ WT := by
  intro w hw
  have h9 : u_ws RX1 TX1 7 = [159, 161, 163, 165, 167, 169, 171].filterMap (fun i => lw_tbl[i]?) := by decide +kernel
  have h8 : (u_ws RX1 TX1 7).all goodWord = true := by decide +kernel
  have h7 := List.all_eq_true.mp h8 w hw
  rw [h9] at hw
  obtain ⟨i, -, hi⟩ := List.mem_filterMap.mp hw
  exact kw i hi h7
theorem hdefX1 : ∀ j, j < 7 → ∃ x, (kKinds 1)[j]? = some x ∧ defaultValue (tyX1 j) = kD0 x := fun j hj => match j, hj with
  | 0, _ => ⟨_, rfl, rfl⟩
  | 1, _ => ⟨_, rfl, rfl⟩
  | 2, _ => ⟨_, rfl, rfl⟩
  | 3, _ => ⟨_, rfl, rfl⟩
  | 4, _ => ⟨_, rfl, rfl⟩
  | 5, _ => ⟨_, rfl, rfl⟩
  | 6, _ => ⟨_, rfl, rfl⟩
  | _ + 7, h => absurd h (by omega)
theorem hdefX2 : ∀ j, j < 4 → ∃ x, (kKinds 2)[j]? = some x ∧ defaultValue (tyX2 j) = kD0 x := fun j hj => match j, hj with
  | 0, _ => ⟨_, rfl, rfl⟩
  | 1, _ => ⟨_, rfl, rfl⟩
  | 2, _ => ⟨_, rfl, rfl⟩
  | 3, _ => ⟨_, rfl, rfl⟩
  | _ + 4, h => absurd h (by omega)
theorem hdefX3 : ∀ j, j < 3 → ∃ x, (kKinds 3)[j]? = some x ∧ defaultValue (tyX3 j) = kD0 x := fun j hj => match j, hj with
  | 0, _ => ⟨_, rfl, rfl⟩
  | 1, _ => ⟨_, rfl, rfl⟩
  | 2, _ => ⟨_, rfl, rfl⟩
  | _ + 3, h => absurd h (by omega)
theorem hdefX4 : ∀ j, j < 16 → ∃ x, (kKinds 4)[j]? = some x ∧ defaultValue (tyX4 j) = kD0 x := fun j hj => match j, hj with
  | 0, _ => ⟨_, rfl, rfl⟩
  | 1, _ => ⟨_, rfl, rfl⟩
  | 2, _ => ⟨_, rfl, rfl⟩
  | 3, _ => ⟨_, rfl, rfl⟩
  | 4, _ => ⟨_, rfl, rfl⟩
  | 5, _ => ⟨_, rfl, rfl⟩
  | 6, _ => ⟨_, rfl, rfl⟩
  | 7, _ => ⟨_, rfl, rfl⟩
  | 8, _ => ⟨_, rfl, rfl⟩
  | 9, _ => ⟨_, rfl, rfl⟩
  | 10, _ => ⟨_, rfl, rfl⟩
  | 11, _ => ⟨_, rfl, rfl⟩
  | 12, _ => ⟨_, rfl, rfl⟩
  | 13, _ => ⟨_, rfl, rfl⟩
  | 14, _ => ⟨_, rfl, rfl⟩
  | 15, _ => ⟨_, rfl, rfl⟩
  | _ + 16, h => absurd h (by omega)
theorem hdefX6 : ∀ j, j < 6 → ∃ x, (kKinds 6)[j]? = some x ∧ defaultValue (tyX6 j) = kD0 x := fun j hj => match j, hj with
  | 0, _ => ⟨_, rfl, rfl⟩
  | 1, _ => ⟨_, rfl, rfl⟩
  | 2, _ => ⟨_, rfl, rfl⟩
  | 3, _ => ⟨_, rfl, rfl⟩
  | 4, _ => ⟨_, rfl, rfl⟩
  | 5, _ => ⟨_, rfl, rfl⟩
  | _ + 6, h => absurd h (by omega)
theorem hdefX8 : ∀ j, j < 2 → ∃ x, (kKinds 8)[j]? = some x ∧ defaultValue (tyX8 j) = kD0 x := fun j hj => match j, hj with
  | 0, _ => ⟨_, rfl, rfl⟩
  | 1, _ => ⟨_, rfl, rfl⟩
  | _ + 2, h => absurd h (by omega)
theorem hdefX9 : ∀ j, j < 8 → ∃ x, (kKinds 9)[j]? = some x ∧ defaultValue (tyX9 j) = kD0 x := fun j hj => match j, hj with
  | 0, _ => ⟨_, rfl, rfl⟩
  | 1, _ => ⟨_, rfl, rfl⟩
  | 2, _ => ⟨_, rfl, rfl⟩
  | 3, _ => ⟨_, rfl, rfl⟩
  | 4, _ => ⟨_, rfl, rfl⟩
  | 5, _ => ⟨_, rfl, rfl⟩
  | 6, _ => ⟨_, rfl, rfl⟩
  | 7, _ => ⟨_, rfl, rfl⟩
  | _ + 8, h => absurd h (by omega)
theorem hdefX10 : ∀ j, j < 8 → ∃ x, (kKinds 10)[j]? = some x ∧ defaultValue (tyX10 j) = kD0 x := fun j hj => match j, hj with
  | 0, _ => ⟨_, rfl, rfl⟩
  | 1, _ => ⟨_, rfl, rfl⟩
  | 2, _ => ⟨_, rfl, rfl⟩
  | 3, _ => ⟨_, rfl, rfl⟩
  | 4, _ => ⟨_, rfl, rfl⟩
  | 5, _ => ⟨_, rfl, rfl⟩
  | 6, _ => ⟨_, rfl, rfl⟩
  | 7, _ => ⟨_, rfl, rfl⟩
  | _ + 8, h => absurd h (by omega)
theorem hdefX11 : ∀ j, j < 9 → ∃ x, (kKinds 11)[j]? = some x ∧ defaultValue (tyX11 j) = kD0 x := fun j hj => match j, hj with
  | 0, _ => ⟨_, rfl, rfl⟩
  | 1, _ => ⟨_, rfl, rfl⟩
  | 2, _ => ⟨_, rfl, rfl⟩
  | 3, _ => ⟨_, rfl, rfl⟩
  | 4, _ => ⟨_, rfl, rfl⟩
  | 5, _ => ⟨_, rfl, rfl⟩
  | 6, _ => ⟨_, rfl, rfl⟩
  | 7, _ => ⟨_, rfl, rfl⟩
  | 8, _ => ⟨_, rfl, rfl⟩
  | _ + 9, h => absurd h (by omega)
theorem kc_b_13 : (Int8.ofInt (13)).toInt32 = 13 := by decide
theorem kc_b_40 : (Int8.ofInt (40)).toInt32 = 40 := by decide
theorem kc_s_801 : (Int16.ofInt (801)).toInt32 = 801 := by decide
theorem q_43 : Cond.initialized RX8 ∈ WT := kw 43 (by decide +kernel) rfl
theorem q_44 : Cond.initialized RX9 ∈ WT := kw 44 (by decide +kernel) rfl
theorem q_45 : Cond.initialized RX6 ∈ WT := kw 45 (by decide +kernel) rfl
theorem q_46 : Cond.initialized RX1 ∈ WT := kw 46 (by decide +kernel) rfl
theorem q_47 : Cond.initialized RX4 ∈ WT := kw 47 (by decide +kernel) rfl
theorem q_48 : Cond.initialized RX2 ∈ WT := kw 48 (by decide +kernel) rfl
theorem q_49 : Cond.initialized RX0 ∈ WT := kw 49 (by decide +kernel) rfl
theorem q_50 : Cond.initialized RX10 ∈ WT := kw 50 (by decide +kernel) rfl
theorem q_51 : Cond.initialized RX3 ∈ WT := kw 51 (by decide +kernel) rfl
theorem q_94 : Cond.methodLink RX11 1 objectInit ∈ WT := kw 94 (by decide +kernel) rfl
theorem q_97 : Cond.classLink RX11 7 RX8 ∈ WT := kw 97 (by decide +kernel) rfl
theorem q_98 : Cond.instantiable RX8 2 ∈ WT := kw 98 (by decide +kernel) rfl
theorem q_99 : (RX11, 9, yX8_init, "SeesawMarket") ∈ kNests := by decide +kernel
theorem q_102 : Cond.methodLink RX8 3 objectInit ∈ WT := kw 102 (by decide +kernel) rfl
theorem q_113 : Cond.classLink RX11 19 RX9 ∈ WT := kw 113 (by decide +kernel) rfl
theorem q_114 : Cond.instantiable RX9 8 ∈ WT := kw 114 (by decide +kernel) rfl
theorem q_115 : Cond.methodLink RX11 21 yX9_init ∈ WT := kw 115 (by decide +kernel) rfl
theorem q_118 : Cond.methodLink RX9 3 objectInit ∈ WT := kw 118 (by decide +kernel) rfl
theorem q_146 : Cond.classLink RX11 28 RX6 ∈ WT := kw 146 (by decide +kernel) rfl
theorem q_147 : Cond.instantiable RX6 6 ∈ WT := kw 147 (by decide +kernel) rfl
theorem q_148 : Cond.methodLink RX11 30 yX6_init ∈ WT := kw 148 (by decide +kernel) rfl
theorem q_151 : Cond.methodLink RX6 3 objectInit ∈ WT := kw 151 (by decide +kernel) rfl
theorem q_152 : Cond.classLink RX6 9 RX1 ∈ WT := kw 152 (by decide +kernel) rfl
theorem q_154 : Cond.instantiable RX1 7 ∈ WT := kw 154 (by decide +kernel) rfl
theorem q_155 : (RX6, 24, yX1_init, "SeesawMarket") ∈ kNests := by decide +kernel
theorem q_158 : Cond.methodLink RX1 3 objectInit ∈ WT := kw 158 (by decide +kernel) rfl
theorem q_190 : Cond.classLink RX11 35 RX4 ∈ WT := kw 190 (by decide +kernel) rfl
theorem q_191 : Cond.instantiable RX4 16 ∈ WT := kw 191 (by decide +kernel) rfl
theorem q_192 : Cond.methodLink RX11 37 yX4_init ∈ WT := kw 192 (by decide +kernel) rfl
theorem q_195 : Cond.methodLink RX4 3 objectInit ∈ WT := kw 195 (by decide +kernel) rfl
theorem q_196 : Cond.classLink RX4 9 RX0 ∈ WT := kw 196 (by decide +kernel) rfl
theorem q_198 : Cond.classLink RX4 17 RX10 ∈ WT := kw 198 (by decide +kernel) rfl
theorem q_200 : Cond.classLink RX4 23 RX2 ∈ WT := kw 200 (by decide +kernel) rfl
theorem q_201 : Cond.instantiable RX2 4 ∈ WT := kw 201 (by decide +kernel) rfl
theorem q_202 : (RX4, 25, yX2_init, "SeesawMarket") ∈ kNests := by decide +kernel
theorem q_205 : Cond.methodLink RX2 3 objectInit ∈ WT := kw 205 (by decide +kernel) rfl
theorem q_220 : Cond.instantiable RX0 5 ∈ WT := kw 220 (by decide +kernel) rfl
theorem q_221 : Cond.methodLink RX4 30 yX0_init ∈ WT := kw 221 (by decide +kernel) rfl
theorem q_224 : Cond.methodLink RX0 3 objectInit ∈ WT := kw 224 (by decide +kernel) rfl
theorem q_244 : Cond.instantiable RX10 8 ∈ WT := kw 244 (by decide +kernel) rfl
theorem q_245 : Cond.methodLink RX4 33 yX10_init ∈ WT := kw 245 (by decide +kernel) rfl
theorem q_248 : Cond.methodLink RX10 3 objectInit ∈ WT := kw 248 (by decide +kernel) rfl
theorem q_351 : Cond.classLink RX11 45 RX3 ∈ WT := kw 351 (by decide +kernel) rfl
theorem q_352 : Cond.instantiable RX3 3 ∈ WT := kw 352 (by decide +kernel) rfl
theorem q_353 : Cond.methodLink RX11 47 yX3_init ∈ WT := kw 353 (by decide +kernel) rfl
theorem q_356 : Cond.methodLink RX3 3 objectInit ∈ WT := kw 356 (by decide +kernel) rfl
theorem q_357 : Cond.classLink RX3 9 RX4 ∈ WT := kw 357 (by decide +kernel) rfl
theorem q_359 : Cond.methodLink RX3 17 yX4_init ∈ WT := kw 359 (by decide +kernel) rfl
theorem q_371 : Cond.methodLink RX11 62 yX8_addAll ∈ WT := kw 371 (by decide +kernel) rfl
theorem q_373 : Cond.selects RX8 yX8_addAll yX8_addAll ∈ WT := kw 373 (by decide +kernel) rfl
theorem inX6 : ∀ w ∈ u_ws RX6 TX6 6, w ∈ WT := by
  intro w hw
  have h9 : u_ws RX6 TX6 6 = [177, 179, 181, 183, 185, 187].filterMap (fun i => lw_tbl[i]?) := by decide +kernel
  have h8 : (u_ws RX6 TX6 6).all goodWord = true := by decide +kernel
  have h7 := List.all_eq_true.mp h8 w hw
  rw [h9] at hw
  obtain ⟨i, -, hi⟩ := List.mem_filterMap.mp hw
  exact kw i hi h7
section kInst
variable {β : Type} {p : Program} {l : Launch} {e : Env} {R : Room} {s : State} {m : MethodId} {args : Array Value} {below : List Frame} {meth : Method} {c : Code} {cc : ByteArray} {nL : Nat} {g : kG} {dep : Nat} {Q : β → State → Prop} {k n : Nat} {o : Option β} {pc : Nat} {lv : List (Nat × Value)} {st : List Value} {M : kMem}
theorem r_X11_52 (q : Nat) (hX : Cok (p, l, e, R, s, m, args, below, meth, c, cc, nL, RX11, g, dep)) {a : Nat} (d : decode cc pc = .ok (.getfield 52, 3)) (e9 : pc + 3 = q) (kk : GG (p, l, e, R, s, m, args, below, meth, c, cc, nL, RX11, g, dep) Q k n o q lv (.ref (kR M a 7) :: st) M) : GG (p, l, e, R, s, m, args, below, meth, c, cc, nL, RX11, g, dep) Q k n (kg (kt M a 11) o) pc lv (.ref a :: st) M := g_getR q hX (ci := 11) (f := 7) (i := 52) (C := RX11) (T := TX11) (N := 9) rfl (Nat.le_of_ble_eq_true rfl) inX11 (Nat.le_of_ble_eq_true rfl) (kw 638 (by decide +kernel) rfl) rfl d e9 kk
theorem r_X6_11 (q : Nat) (hX : Cok (p, l, e, R, s, m, args, below, meth, c, cc, nL, RX6, g, dep)) {a : Nat} (d : decode cc pc = .ok (.getfield 11, 3)) (e9 : pc + 3 = q) (kk : GG (p, l, e, R, s, m, args, below, meth, c, cc, nL, RX6, g, dep) Q k n o q lv (.ref (kR M a 0) :: st) M) : GG (p, l, e, R, s, m, args, below, meth, c, cc, nL, RX6, g, dep) Q k n (kg (kt M a 6) o) pc lv (.ref a :: st) M := g_getR q hX (ci := 6) (f := 0) (i := 11) (C := RX6) (T := TX6) (N := 6) rfl (Nat.le_of_ble_eq_true rfl) inX6 (Nat.le_of_ble_eq_true rfl) (kw 174 (by decide +kernel) rfl) rfl d e9 kk
end kInst
theorem lk_X1_init : kLk yX1_init cX1_init 1 none 0 := ⟨kw 157 (by decide +kernel) rfl, kw 156 (by decide +kernel) rfl, kw 46 (by decide +kernel) rfl, ⟨by decide, by decide, by decide +kernel⟩, Nat.le_of_ble_eq_true rfl⟩
theorem lk_X2_init : kLk yX2_init cX2_init 1 none 0 := ⟨kw 204 (by decide +kernel) rfl, kw 203 (by decide +kernel) rfl, kw 48 (by decide +kernel) rfl, ⟨by decide, by decide, by decide +kernel⟩, Nat.le_of_ble_eq_true rfl⟩
theorem lk_X10_init : kLk yX10_init cX10_init 2 none 1 := ⟨kw 247 (by decide +kernel) rfl, kw 246 (by decide +kernel) rfl, kw 50 (by decide +kernel) rfl, ⟨by decide, by decide, by decide +kernel⟩, Nat.le_of_ble_eq_true rfl⟩
theorem lk_X0_init : kLk yX0_init cX0_init 2 none 1 := ⟨kw 223 (by decide +kernel) rfl, kw 222 (by decide +kernel) rfl, kw 49 (by decide +kernel) rfl, ⟨by decide, by decide, by decide +kernel⟩, Nat.le_of_ble_eq_true rfl⟩
theorem lk_X4_init : kLk yX4_init cX4_init 2 none 0 := ⟨kw 194 (by decide +kernel) rfl, kw 193 (by decide +kernel) rfl, kw 47 (by decide +kernel) rfl, ⟨by decide, by decide, by decide +kernel⟩, Nat.le_of_ble_eq_true rfl⟩
theorem lk_X8_init : kLk yX8_init cX8_init 1 none 0 := ⟨kw 101 (by decide +kernel) rfl, kw 100 (by decide +kernel) rfl, kw 43 (by decide +kernel) rfl, ⟨by decide, by decide, by decide +kernel⟩, Nat.le_of_ble_eq_true rfl⟩
theorem lk_X9_init : kLk yX9_init cX9_init 2 none 1 := ⟨kw 117 (by decide +kernel) rfl, kw 116 (by decide +kernel) rfl, kw 44 (by decide +kernel) rfl, ⟨by decide, by decide, by decide +kernel⟩, Nat.le_of_ble_eq_true rfl⟩
theorem lk_X6_init : kLk yX6_init cX6_init 2 none 0 := ⟨kw 150 (by decide +kernel) rfl, kw 149 (by decide +kernel) rfl, kw 45 (by decide +kernel) rfl, ⟨by decide, by decide, by decide +kernel⟩, Nat.le_of_ble_eq_true rfl⟩
theorem lk_X3_init : kLk yX3_init cX3_init 2 none 0 := ⟨kw 355 (by decide +kernel) rfl, kw 354 (by decide +kernel) rfl, kw 51 (by decide +kernel) rfl, ⟨by decide, by decide, by decide +kernel⟩, Nat.le_of_ble_eq_true rfl⟩
theorem lk_X8_addAll : kLk yX8_addAll cX8_addAll 3 none 1 := ⟨kw 374 (by decide +kernel) rfl, kw 372 (by decide +kernel) rfl, kw 43 (by decide +kernel) rfl, ⟨by decide, by decide, by decide +kernel⟩, Nat.le_of_ble_eq_true rfl⟩
