theorem nimg (a b c : Nat) : va_up (va_up (va_up (fun _ => (none : Option Nat)) 0 (some a)) 1 (some b)) 2 (some c) = fun k => ([a, b, c] : List Nat)[k]? := by
  funext k
  match k with
  | 0 => rfl
  | 1 => rfl
  | 2 => rfl
  | k + 3 => simp [va_up]
theorem nall : upd (fun _ => i32 0) (i32 6).toNatClampNeg (i32 (-1)) = fun (k : Nat) => i32 (if (k : Int) = 6 then -1 else 0) := by
  rw [show (i32 6).toNatClampNeg = 6 from by decide]
  funext k
  unfold upd
  by_cases h : k = 6
  · rw [if_pos h, if_pos (by omega)]
  · rw [if_neg h, if_neg (by omega)]
set_option maxRecDepth 100000 in
theorem wA_int : Cond.arrayClass .int ∈ gTbl := gT_of 191 rfl rfl
set_option maxRecDepth 100000 in
theorem wA_byte : Cond.arrayClass .byte ∈ gTbl := gT_of 190 rfl rfl
set_option maxRecDepth 100000 in
theorem wA_boolean : Cond.arrayClass .boolean ∈ gTbl := gT_of 241 rfl rfl
set_option maxRecDepth 100000 in
theorem wA_long : Cond.arrayClass .long ∈ gTbl := gT_of 457 rfl rfl
set_option maxRecDepth 100000 in
theorem wO_i : Cond.instanceMethod Lib.objectInit ∈ gTbl := gT_of 152 rfl rfl
set_option maxRecDepth 100000 in
theorem wO_c : Cond.code Lib.objectInit ⟨#[0xb1]⟩ 1 none ∈ gTbl := gT_of 153 rfl rfl
set_option maxRecDepth 100000 in
theorem joX0_3 : Cond.methodLink RX0 3 Lib.objectInit ∈ gTbl := gT_of 253 rfl rfl
set_option maxRecDepth 100000 in
theorem jfX0_9 : nFld RX0 9 0 1 (tyX0 1) true := ⟨TX0, 8, tyX0, rfl, by decide, gin_X0, gT_of 257 rfl rfl, rfl, tyX0_ok 1 (by decide), tyX0_ok, nmX0, rfl⟩
set_option maxRecDepth 100000 in
theorem jfX0_15 : nFld RX0 15 0 2 (tyX0 2) true := ⟨TX0, 8, tyX0, rfl, by decide, gin_X0, gT_of 258 rfl rfl, rfl, tyX0_ok 2 (by decide), tyX0_ok, nmX0, rfl⟩
set_option maxRecDepth 100000 in
theorem jfX0_18 : nFld RX0 18 0 3 (tyX0 3) true := ⟨TX0, 8, tyX0, rfl, by decide, gin_X0, gT_of 260 rfl rfl, rfl, tyX0_ok 3 (by decide), tyX0_ok, nmX0, rfl⟩
set_option maxRecDepth 100000 in
theorem jfX0_22 : nFld RX0 22 0 4 (tyX0 4) true := ⟨TX0, 8, tyX0, rfl, by decide, gin_X0, gT_of 261 rfl rfl, rfl, tyX0_ok 4 (by decide), tyX0_ok, nmX0, rfl⟩
set_option maxRecDepth 100000 in
theorem jfX0_25 : nFld RX0 25 0 5 (tyX0 5) true := ⟨TX0, 8, tyX0, rfl, by decide, gin_X0, gT_of 262 rfl rfl, rfl, tyX0_ok 5 (by decide), tyX0_ok, nmX0, rfl⟩
set_option maxRecDepth 100000 in
theorem jfX0_28 : nFld RX0 28 0 6 (tyX0 6) true := ⟨TX0, 8, tyX0, rfl, by decide, gin_X0, gT_of 265 rfl rfl, rfl, tyX0_ok 6 (by decide), tyX0_ok, nmX0, rfl⟩
set_option maxRecDepth 100000 in
theorem jfX0_31 : nFld RX0 31 0 7 (tyX0 7) true := ⟨TX0, 8, tyX0, rfl, by decide, gin_X0, gT_of 266 rfl rfl, rfl, tyX0_ok 7 (by decide), tyX0_ok, nmX0, rfl⟩
abbrev mX0_init : gM := (yX0_init, cX0_init, 1, none, { frames := 1, cells := 7, slots := 2520, locals := 12 })
set_option maxRecDepth 100000 in
theorem joX1_3 : Cond.methodLink RX1 3 Lib.objectInit ∈ gTbl := gT_of 536 rfl rfl
set_option maxRecDepth 100000 in
theorem jfX1_9 : nFld RX1 9 1 3 (tyX1 3) true := ⟨TX1, 6, tyX1, rfl, by decide, gin_X1, gT_of 541 rfl rfl, rfl, tyX1_ok 3 (by decide), tyX1_ok, nmX1, rfl⟩
set_option maxRecDepth 100000 in
theorem jfX1_15 : nFld RX1 15 1 4 (tyX1 4) true := ⟨TX1, 6, tyX1, rfl, by decide, gin_X1, gT_of 542 rfl rfl, rfl, tyX1_ok 4 (by decide), tyX1_ok, nmX1, rfl⟩
set_option maxRecDepth 100000 in
theorem jfX1_18 : nFld RX1 18 1 5 (tyX1 5) true := ⟨TX1, 6, tyX1, rfl, by decide, gin_X1, gT_of 543 rfl rfl, rfl, tyX1_ok 5 (by decide), tyX1_ok, nmX1, rfl⟩
abbrev mX1_init : gM := (yX1_init, cX1_init, 1, none, { frames := 1, cells := 3, slots := 8671, locals := 12 })
set_option maxRecDepth 100000 in
theorem joX3_3 : Cond.methodLink RX3 3 Lib.objectInit ∈ gTbl := gT_of 463 rfl rfl
set_option maxRecDepth 100000 in
theorem jfX3_9 : nFld RX3 9 3 0 (tyX3 0) true := ⟨TX3, 2, tyX3, rfl, by decide, gin_X3, gT_of 464 rfl rfl, rfl, tyX3_ok 0 (by decide), tyX3_ok, nmX3, rfl⟩
abbrev mX3_init : gM := (yX3_init, cX3_init, 1, none, { frames := 1, cells := 1, slots := 448, locals := 12 })
set_option maxRecDepth 100000 in
theorem joX4_3 : Cond.methodLink RX4 3 Lib.objectInit ∈ gTbl := gT_of 317 rfl rfl
set_option maxRecDepth 100000 in
theorem jfX4_9 : nFld RX4 9 4 0 (tyX4 0) false := ⟨TX4, 8, tyX4, rfl, by decide, gin_X4, gT_of 318 rfl rfl, rfl, tyX4_ok 0 (by decide), tyX4_ok, nmX4, rfl⟩
set_option maxRecDepth 100000 in
theorem jfX4_15 : nFld RX4 15 4 1 (tyX4 1) true := ⟨TX4, 8, tyX4, rfl, by decide, gin_X4, gT_of 322 rfl rfl, rfl, tyX4_ok 1 (by decide), tyX4_ok, nmX4, rfl⟩
set_option maxRecDepth 100000 in
theorem jfX4_19 : nFld RX4 19 4 2 (tyX4 2) true := ⟨TX4, 8, tyX4, rfl, by decide, gin_X4, gT_of 325 rfl rfl, rfl, tyX4_ok 2 (by decide), tyX4_ok, nmX4, rfl⟩
set_option maxRecDepth 100000 in
theorem jfX4_22 : nFld RX4 22 4 3 (tyX4 3) true := ⟨TX4, 8, tyX4, rfl, by decide, gin_X4, gT_of 328 rfl rfl, rfl, tyX4_ok 3 (by decide), tyX4_ok, nmX4, rfl⟩
set_option maxRecDepth 100000 in
theorem jfX4_25 : nFld RX4 25 4 4 (tyX4 4) true := ⟨TX4, 8, tyX4, rfl, by decide, gin_X4, gT_of 331 rfl rfl, rfl, tyX4_ok 4 (by decide), tyX4_ok, nmX4, rfl⟩
set_option maxRecDepth 100000 in
theorem jfX4_28 : nFld RX4 28 4 7 (tyX4 7) true := ⟨TX4, 8, tyX4, rfl, by decide, gin_X4, gT_of 344 rfl rfl, rfl, tyX4_ok 7 (by decide), tyX4_ok, nmX4, rfl⟩
abbrev mX4_init : gM := (yX4_init, cX4_init, 1, none, { frames := 1, cells := 5, slots := 30, locals := 12 })
set_option maxRecDepth 100000 in
theorem joX5_3 : Cond.methodLink RX5 3 Lib.objectInit ∈ gTbl := gT_of 520 rfl rfl
set_option maxRecDepth 100000 in
theorem jfX5_9 : nFld RX5 9 5 1 (tyX5 1) true := ⟨TX5, 3, tyX5, rfl, by decide, gin_X5, gT_of 522 rfl rfl, rfl, tyX5_ok 1 (by decide), tyX5_ok, nmX5, rfl⟩
set_option maxRecDepth 100000 in
theorem jfX5_15 : nFld RX5 15 5 2 (tyX5 2) true := ⟨TX5, 3, tyX5, rfl, by decide, gin_X5, gT_of 523 rfl rfl, rfl, tyX5_ok 2 (by decide), tyX5_ok, nmX5, rfl⟩
abbrev mX5_init : gM := (yX5_init, cX5_init, 1, none, { frames := 1, cells := 2, slots := 72, locals := 12 })
set_option maxRecDepth 100000 in
theorem joX6_3 : Cond.methodLink RX6 3 Lib.objectInit ∈ gTbl := gT_of 291 rfl rfl
set_option maxRecDepth 100000 in
theorem jfX6_9 : nFld RX6 9 6 1 (tyX6 1) true := ⟨TX6, 4, tyX6, rfl, by decide, gin_X6, gT_of 296 rfl rfl, rfl, tyX6_ok 1 (by decide), tyX6_ok, nmX6, rfl⟩
set_option maxRecDepth 100000 in
theorem jfX6_15 : nFld RX6 15 6 2 (tyX6 2) true := ⟨TX6, 4, tyX6, rfl, by decide, gin_X6, gT_of 299 rfl rfl, rfl, tyX6_ok 2 (by decide), tyX6_ok, nmX6, rfl⟩
set_option maxRecDepth 100000 in
theorem jfX6_18 : nFld RX6 18 6 3 (tyX6 3) true := ⟨TX6, 4, tyX6, rfl, by decide, gin_X6, gT_of 301 rfl rfl, rfl, tyX6_ok 3 (by decide), tyX6_ok, nmX6, rfl⟩
abbrev mX6_init : gM := (yX6_init, cX6_init, 1, none, { frames := 1, cells := 3, slots := 1080, locals := 12 })
set_option maxRecDepth 100000 in
theorem joX7_3 : Cond.methodLink RX7 3 Lib.objectInit ∈ gTbl := gT_of 198 rfl rfl
set_option maxRecDepth 100000 in
theorem jfX7_9 : nFld RX7 9 7 0 (tyX7 0) true := ⟨TX7, 12, tyX7, rfl, by decide, gin_X7, gT_of 199 rfl rfl, rfl, tyX7_ok 0 (by decide), tyX7_ok, nmX7, rfl⟩
set_option maxRecDepth 100000 in
theorem jfX7_17 : nFld RX7 17 7 1 (tyX7 1) true := ⟨TX7, 12, tyX7, rfl, by decide, gin_X7, gT_of 201 rfl rfl, rfl, tyX7_ok 1 (by decide), tyX7_ok, nmX7, rfl⟩
set_option maxRecDepth 100000 in
theorem jfX7_20 : nFld RX7 20 7 5 (tyX7 5) true := ⟨TX7, 12, tyX7, rfl, by decide, gin_X7, gT_of 209 rfl rfl, rfl, tyX7_ok 5 (by decide), tyX7_ok, nmX7, rfl⟩
set_option maxRecDepth 100000 in
theorem jfX7_23 : nFld RX7 23 7 6 (tyX7 6) false := ⟨TX7, 12, tyX7, rfl, by decide, gin_X7, gT_of 210 rfl rfl, rfl, tyX7_ok 6 (by decide), tyX7_ok, nmX7, rfl⟩
abbrev mX7_init : gM := (yX7_init, cX7_init, 1, none, { frames := 1, cells := 4, slots := 167, locals := 12 })
set_option maxRecDepth 100000 in
theorem joX9_3 : Cond.methodLink RX9 3 Lib.objectInit ∈ gTbl := gT_of 476 rfl rfl
set_option maxRecDepth 100000 in
theorem jfX9_9 : nFld RX9 9 9 1 (tyX9 1) true := ⟨TX9, 12, tyX9, rfl, by decide, gin_X9, gT_of 479 rfl rfl, rfl, tyX9_ok 1 (by decide), tyX9_ok, nmX9, rfl⟩
set_option maxRecDepth 100000 in
theorem jfX9_15 : nFld RX9 15 9 2 (tyX9 2) true := ⟨TX9, 12, tyX9, rfl, by decide, gin_X9, gT_of 480 rfl rfl, rfl, tyX9_ok 2 (by decide), tyX9_ok, nmX9, rfl⟩
set_option maxRecDepth 100000 in
theorem jfX9_18 : nFld RX9 18 9 3 (tyX9 3) true := ⟨TX9, 12, tyX9, rfl, by decide, gin_X9, gT_of 481 rfl rfl, rfl, tyX9_ok 3 (by decide), tyX9_ok, nmX9, rfl⟩
set_option maxRecDepth 100000 in
theorem jfX9_21 : nFld RX9 21 9 4 (tyX9 4) true := ⟨TX9, 12, tyX9, rfl, by decide, gin_X9, gT_of 482 rfl rfl, rfl, tyX9_ok 4 (by decide), tyX9_ok, nmX9, rfl⟩
set_option maxRecDepth 100000 in
theorem jfX9_24 : nFld RX9 24 9 5 (tyX9 5) true := ⟨TX9, 12, tyX9, rfl, by decide, gin_X9, gT_of 483 rfl rfl, rfl, tyX9_ok 5 (by decide), tyX9_ok, nmX9, rfl⟩
set_option maxRecDepth 100000 in
theorem jfX9_27 : nFld RX9 27 9 6 (tyX9 6) true := ⟨TX9, 12, tyX9, rfl, by decide, gin_X9, gT_of 484 rfl rfl, rfl, tyX9_ok 6 (by decide), tyX9_ok, nmX9, rfl⟩
set_option maxRecDepth 100000 in
theorem jfX9_30 : nFld RX9 30 9 7 (tyX9 7) true := ⟨TX9, 12, tyX9, rfl, by decide, gin_X9, gT_of 485 rfl rfl, rfl, tyX9_ok 7 (by decide), tyX9_ok, nmX9, rfl⟩
set_option maxRecDepth 100000 in
theorem jfX9_33 : nFld RX9 33 9 8 (tyX9 8) true := ⟨TX9, 12, tyX9, rfl, by decide, gin_X9, gT_of 486 rfl rfl, rfl, tyX9_ok 8 (by decide), tyX9_ok, nmX9, rfl⟩
set_option maxRecDepth 100000 in
theorem jfX9_36 : nFld RX9 36 9 9 (tyX9 9) true := ⟨TX9, 12, tyX9, rfl, by decide, gin_X9, gT_of 487 rfl rfl, rfl, tyX9_ok 9 (by decide), tyX9_ok, nmX9, rfl⟩
set_option maxRecDepth 100000 in
theorem jfX9_39 : nFld RX9 39 9 10 (tyX9 10) true := ⟨TX9, 12, tyX9, rfl, by decide, gin_X9, gT_of 488 rfl rfl, rfl, tyX9_ok 10 (by decide), tyX9_ok, nmX9, rfl⟩
set_option maxRecDepth 100000 in
theorem jfX9_43 : nFld RX9 43 9 11 (tyX9 11) true := ⟨TX9, 12, tyX9, rfl, by decide, gin_X9, gT_of 489 rfl rfl, rfl, tyX9_ok 11 (by decide), tyX9_ok, nmX9, rfl⟩
abbrev mX9_init : gM := (yX9_init, cX9_init, 1, none, { frames := 1, cells := 11, slots := 504, locals := 12 })
set_option maxRecDepth 100000 in
theorem joX10_3 : Cond.methodLink RX10 3 Lib.objectInit ∈ gTbl := gT_of 159 rfl rfl
set_option maxRecDepth 100000 in
theorem jfX10_9 : nFld RX10 9 10 0 (tyX10 0) true := ⟨TX10, 8, tyX10, rfl, by decide, gin_X10, gT_of 160 rfl rfl, rfl, tyX10_ok 0 (by decide), tyX10_ok, nmX10, rfl⟩
set_option maxRecDepth 100000 in
theorem jfX10_15 : nFld RX10 15 10 1 (tyX10 1) false := ⟨TX10, 8, tyX10, rfl, by decide, gin_X10, gT_of 162 rfl rfl, rfl, tyX10_ok 1 (by decide), tyX10_ok, nmX10, rfl⟩
set_option maxRecDepth 100000 in
theorem jfX10_19 : nFld RX10 19 10 2 (tyX10 2) false := ⟨TX10, 8, tyX10, rfl, by decide, gin_X10, gT_of 164 rfl rfl, rfl, tyX10_ok 2 (by decide), tyX10_ok, nmX10, rfl⟩
set_option maxRecDepth 100000 in
theorem jfX10_22 : nFld RX10 22 10 3 (tyX10 3) false := ⟨TX10, 8, tyX10, rfl, by decide, gin_X10, gT_of 166 rfl rfl, rfl, tyX10_ok 3 (by decide), tyX10_ok, nmX10, rfl⟩
set_option maxRecDepth 100000 in
theorem jfX10_25 : nFld RX10 25 10 4 (tyX10 4) true := ⟨TX10, 8, tyX10, rfl, by decide, gin_X10, gT_of 168 rfl rfl, rfl, tyX10_ok 4 (by decide), tyX10_ok, nmX10, rfl⟩
set_option maxRecDepth 100000 in
theorem jfX10_29 : nFld RX10 29 10 5 (tyX10 5) true := ⟨TX10, 8, tyX10, rfl, by decide, gin_X10, gT_of 170 rfl rfl, rfl, tyX10_ok 5 (by decide), tyX10_ok, nmX10, rfl⟩
set_option maxRecDepth 100000 in
theorem jfX10_32 : nFld RX10 32 10 6 (tyX10 6) true := ⟨TX10, 8, tyX10, rfl, by decide, gin_X10, gT_of 171 rfl rfl, rfl, tyX10_ok 6 (by decide), tyX10_ok, nmX10, rfl⟩
set_option maxRecDepth 100000 in
theorem jfX10_35 : nFld RX10 35 10 7 (tyX10 7) true := ⟨TX10, 8, tyX10, rfl, by decide, gin_X10, gT_of 172 rfl rfl, rfl, tyX10_ok 7 (by decide), tyX10_ok, nmX10, rfl⟩
abbrev mX10_init : gM := (yX10_init, cX10_init, 1, none, { frames := 1, cells := 5, slots := 1255, locals := 12 })
set_option maxRecDepth 100000 in
theorem joX2_3 : Cond.methodLink RX2 3 Lib.objectInit ∈ gTbl := gT_of 435 rfl rfl
set_option maxRecDepth 100000 in
theorem jnX2_9 : nNew RX2 9 4 [vI 0, .null, .null, .null, .null, vI 0, vI 0, .null] 8 := ⟨RX4, TX4, tyX4, rfl, gin_X4, tyX4_ok, by decide +kernel, gT_of 436 rfl rfl, gT_of 313 rfl rfl, gT_of 132 rfl rfl⟩
set_option maxRecDepth 100000 in
theorem jmX2_11 : nCw RX2 11 mX4_init := ⟨⟨gT_of 437 rfl rfl, gT_of 315 rfl rfl, gT_of 132 rfl rfl, gT_of 316 rfl rfl⟩, rfl, rfl, by decide +kernel, by decide +kernel, by decide +kernel⟩
set_option maxRecDepth 100000 in
theorem jfX2_12 : nFld RX2 12 2 0 (tyX2 0) true := ⟨TX2, 6, tyX2, rfl, by decide, gin_X2, gT_of 438 rfl rfl, rfl, tyX2_ok 0 (by decide), tyX2_ok, nmX2, rfl⟩
set_option maxRecDepth 100000 in
theorem jfX2_18 : nFld RX2 18 2 2 (tyX2 2) true := ⟨TX2, 6, tyX2, rfl, by decide, gin_X2, gT_of 440 rfl rfl, rfl, tyX2_ok 2 (by decide), tyX2_ok, nmX2, rfl⟩
set_option maxRecDepth 100000 in
theorem jfX2_22 : nFld RX2 22 2 3 (tyX2 3) true := ⟨TX2, 6, tyX2, rfl, by decide, gin_X2, gT_of 441 rfl rfl, rfl, tyX2_ok 3 (by decide), tyX2_ok, nmX2, rfl⟩
abbrev mX2_init : gM := (yX2_init, cX2_init, 1, none, { frames := 2, cells := 8, slots := 159, locals := 32 })
set_option maxRecDepth 100000 in
theorem joX8_3 : Cond.methodLink RX8 3 Lib.objectInit ∈ gTbl := gT_of 247 rfl rfl
set_option maxRecDepth 100000 in
theorem jnX8_9 : nNew RX8 9 0 [vI 0, .null, .null, .null, .null, .null, .null, .null] 8 := ⟨RX0, TX0, tyX0, rfl, gin_X0, tyX0_ok, by decide +kernel, gT_of 248 rfl rfl, gT_of 249 rfl rfl, gT_of 130 rfl rfl⟩
set_option maxRecDepth 100000 in
theorem jmX8_11 : nCw RX8 11 mX0_init := ⟨⟨gT_of 250 rfl rfl, gT_of 251 rfl rfl, gT_of 130 rfl rfl, gT_of 252 rfl rfl⟩, rfl, rfl, by decide +kernel, by decide +kernel, by decide +kernel⟩
set_option maxRecDepth 100000 in
theorem jfX8_12 : nFld RX8 12 8 0 (tyX8 0) true := ⟨TX8, 19, tyX8, rfl, by decide, gin_X8, gT_of 362 rfl rfl, rfl, tyX8_ok 0 (by decide), tyX8_ok, nmX8, rfl⟩
set_option maxRecDepth 100000 in
theorem jnX8_18 : nNew RX8 18 6 [vI 0, .null, .null, .null] 4 := ⟨RX6, TX6, tyX6, rfl, gin_X6, tyX6_ok, by decide +kernel, gT_of 286 rfl rfl, gT_of 287 rfl rfl, gT_of 131 rfl rfl⟩
set_option maxRecDepth 100000 in
theorem jmX8_20 : nCw RX8 20 mX6_init := ⟨⟨gT_of 288 rfl rfl, gT_of 289 rfl rfl, gT_of 131 rfl rfl, gT_of 290 rfl rfl⟩, rfl, rfl, by decide +kernel, by decide +kernel, by decide +kernel⟩
set_option maxRecDepth 100000 in
theorem jfX8_21 : nFld RX8 21 8 1 (tyX8 1) true := ⟨TX8, 19, tyX8, rfl, by decide, gin_X8, gT_of 365 rfl rfl, rfl, tyX8_ok 1 (by decide), tyX8_ok, nmX8, rfl⟩
set_option maxRecDepth 100000 in
theorem jnX8_25 : nNew RX8 25 4 [vI 0, .null, .null, .null, .null, vI 0, vI 0, .null] 8 := ⟨RX4, TX4, tyX4, rfl, gin_X4, tyX4_ok, by decide +kernel, gT_of 312 rfl rfl, gT_of 313 rfl rfl, gT_of 132 rfl rfl⟩
set_option maxRecDepth 100000 in
theorem jmX8_27 : nCw RX8 27 mX4_init := ⟨⟨gT_of 314 rfl rfl, gT_of 315 rfl rfl, gT_of 132 rfl rfl, gT_of 316 rfl rfl⟩, rfl, rfl, by decide +kernel, by decide +kernel, by decide +kernel⟩
set_option maxRecDepth 100000 in
theorem jfX8_28 : nFld RX8 28 8 2 (tyX8 2) true := ⟨TX8, 19, tyX8, rfl, by decide, gin_X8, gT_of 368 rfl rfl, rfl, tyX8_ok 2 (by decide), tyX8_ok, nmX8, rfl⟩
set_option maxRecDepth 100000 in
theorem jfX8_32 : nFld RX8 32 8 3 (tyX8 3) false := ⟨TX8, 19, tyX8, rfl, by decide, gin_X8, gT_of 370 rfl rfl, rfl, tyX8_ok 3 (by decide), tyX8_ok, nmX8, rfl⟩
set_option maxRecDepth 100000 in
theorem jfX8_36 : nFld RX8 36 8 11 (tyX8 11) true := ⟨TX8, 19, tyX8, rfl, by decide, gin_X8, gT_of 380 rfl rfl, rfl, tyX8_ok 11 (by decide), tyX8_ok, nmX8, rfl⟩
set_option maxRecDepth 100000 in
theorem jfX8_40 : nFld RX8 40 8 12 (tyX8 12) true := ⟨TX8, 19, tyX8, rfl, by decide, gin_X8, gT_of 381 rfl rfl, rfl, tyX8_ok 12 (by decide), tyX8_ok, nmX8, rfl⟩
set_option maxRecDepth 100000 in
theorem jfX8_43 : nFld RX8 43 8 13 (tyX8 13) true := ⟨TX8, 19, tyX8, rfl, by decide, gin_X8, gT_of 382 rfl rfl, rfl, tyX8_ok 13 (by decide), tyX8_ok, nmX8, rfl⟩
set_option maxRecDepth 100000 in
theorem jfX8_46 : nFld RX8 46 8 14 (tyX8 14) true := ⟨TX8, 19, tyX8, rfl, by decide, gin_X8, gT_of 385 rfl rfl, rfl, tyX8_ok 14 (by decide), tyX8_ok, nmX8, rfl⟩
set_option maxRecDepth 100000 in
theorem jfX8_49 : nFld RX8 49 8 15 (tyX8 15) true := ⟨TX8, 19, tyX8, rfl, by decide, gin_X8, gT_of 386 rfl rfl, rfl, tyX8_ok 15 (by decide), tyX8_ok, nmX8, rfl⟩
set_option maxRecDepth 100000 in
theorem jfX8_52 : nFld RX8 52 8 16 (tyX8 16) true := ⟨TX8, 19, tyX8, rfl, by decide, gin_X8, gT_of 388 rfl rfl, rfl, tyX8_ok 16 (by decide), tyX8_ok, nmX8, rfl⟩
set_option maxRecDepth 100000 in
theorem jfX8_55 : nFld RX8 55 8 17 (tyX8 17) true := ⟨TX8, 19, tyX8, rfl, by decide, gin_X8, gT_of 389 rfl rfl, rfl, tyX8_ok 17 (by decide), tyX8_ok, nmX8, rfl⟩
abbrev mX8_init : gM := (yX8_init, cX8_init, 1, none, { frames := 2, cells := 25, slots := 4088, locals := 32 })
set_option maxRecDepth 100000 in
theorem joX12_1 : Cond.methodLink RX12 1 Lib.objectInit ∈ gTbl := gT_of 1236 rfl rfl
set_option maxRecDepth 100000 in
theorem jfX12_7 : nFld RX12 7 12 0 (tyX12 0) true := ⟨TX12, 69, tyX12, rfl, by decide, gin_X12, gT_of 1238 rfl rfl, rfl, tyX12_ok 0 (by decide), tyX12_ok, nmX12, rfl⟩
set_option maxRecDepth 100000 in
theorem jfX12_13 : nFld RX12 13 12 1 (tyX12 1) true := ⟨TX12, 69, tyX12, rfl, by decide, gin_X12, gT_of 1239 rfl rfl, rfl, tyX12_ok 1 (by decide), tyX12_ok, nmX12, rfl⟩
set_option maxRecDepth 100000 in
theorem jfX12_17 : nFld RX12 17 12 9 (tyX12 9) true := ⟨TX12, 69, tyX12, rfl, by decide, gin_X12, gT_of 1247 rfl rfl, rfl, tyX12_ok 9 (by decide), tyX12_ok, nmX12, rfl⟩
set_option maxRecDepth 100000 in
theorem jfX12_20 : nFld RX12 20 12 15 (tyX12 15) true := ⟨TX12, 69, tyX12, rfl, by decide, gin_X12, gT_of 1253 rfl rfl, rfl, tyX12_ok 15 (by decide), tyX12_ok, nmX12, rfl⟩
set_option maxRecDepth 100000 in
theorem jfX12_23 : nFld RX12 23 12 16 (tyX12 16) true := ⟨TX12, 69, tyX12, rfl, by decide, gin_X12, gT_of 1254 rfl rfl, rfl, tyX12_ok 16 (by decide), tyX12_ok, nmX12, rfl⟩
set_option maxRecDepth 100000 in
theorem jfX12_26 : nFld RX12 26 12 17 (tyX12 17) true := ⟨TX12, 69, tyX12, rfl, by decide, gin_X12, gT_of 1255 rfl rfl, rfl, tyX12_ok 17 (by decide), tyX12_ok, nmX12, rfl⟩
set_option maxRecDepth 100000 in
theorem jfX12_29 : nFld RX12 29 12 18 (tyX12 18) true := ⟨TX12, 69, tyX12, rfl, by decide, gin_X12, gT_of 1256 rfl rfl, rfl, tyX12_ok 18 (by decide), tyX12_ok, nmX12, rfl⟩
set_option maxRecDepth 100000 in
theorem jfX12_32 : nFld RX12 32 12 19 (tyX12 19) true := ⟨TX12, 69, tyX12, rfl, by decide, gin_X12, gT_of 1257 rfl rfl, rfl, tyX12_ok 19 (by decide), tyX12_ok, nmX12, rfl⟩
set_option maxRecDepth 100000 in
theorem jfX12_35 : nFld RX12 35 12 20 (tyX12 20) true := ⟨TX12, 69, tyX12, rfl, by decide, gin_X12, gT_of 1258 rfl rfl, rfl, tyX12_ok 20 (by decide), tyX12_ok, nmX12, rfl⟩
set_option maxRecDepth 100000 in
theorem jfX12_38 : nFld RX12 38 12 21 (tyX12 21) true := ⟨TX12, 69, tyX12, rfl, by decide, gin_X12, gT_of 1259 rfl rfl, rfl, tyX12_ok 21 (by decide), tyX12_ok, nmX12, rfl⟩
set_option maxRecDepth 100000 in
theorem jfX12_41 : nFld RX12 41 12 22 (tyX12 22) true := ⟨TX12, 69, tyX12, rfl, by decide, gin_X12, gT_of 1260 rfl rfl, rfl, tyX12_ok 22 (by decide), tyX12_ok, nmX12, rfl⟩
set_option maxRecDepth 100000 in
theorem jfX12_44 : nFld RX12 44 12 30 (tyX12 30) true := ⟨TX12, 69, tyX12, rfl, by decide, gin_X12, gT_of 1268 rfl rfl, rfl, tyX12_ok 30 (by decide), tyX12_ok, nmX12, rfl⟩
set_option maxRecDepth 100000 in
theorem jfX12_47 : nFld RX12 47 12 31 (tyX12 31) true := ⟨TX12, 69, tyX12, rfl, by decide, gin_X12, gT_of 1269 rfl rfl, rfl, tyX12_ok 31 (by decide), tyX12_ok, nmX12, rfl⟩
set_option maxRecDepth 100000 in
theorem jfX12_50 : nFld RX12 50 12 32 (tyX12 32) true := ⟨TX12, 69, tyX12, rfl, by decide, gin_X12, gT_of 1270 rfl rfl, rfl, tyX12_ok 32 (by decide), tyX12_ok, nmX12, rfl⟩
set_option maxRecDepth 100000 in
theorem jfX12_53 : nFld RX12 53 12 33 (tyX12 33) true := ⟨TX12, 69, tyX12, rfl, by decide, gin_X12, gT_of 1271 rfl rfl, rfl, tyX12_ok 33 (by decide), tyX12_ok, nmX12, rfl⟩
set_option maxRecDepth 100000 in
theorem jfX12_56 : nFld RX12 56 12 34 (tyX12 34) true := ⟨TX12, 69, tyX12, rfl, by decide, gin_X12, gT_of 1272 rfl rfl, rfl, tyX12_ok 34 (by decide), tyX12_ok, nmX12, rfl⟩
set_option maxRecDepth 100000 in
theorem jfX12_59 : nFld RX12 59 12 35 (tyX12 35) true := ⟨TX12, 69, tyX12, rfl, by decide, gin_X12, gT_of 1273 rfl rfl, rfl, tyX12_ok 35 (by decide), tyX12_ok, nmX12, rfl⟩
set_option maxRecDepth 100000 in
theorem jfX12_62 : nFld RX12 62 12 36 (tyX12 36) true := ⟨TX12, 69, tyX12, rfl, by decide, gin_X12, gT_of 1274 rfl rfl, rfl, tyX12_ok 36 (by decide), tyX12_ok, nmX12, rfl⟩
set_option maxRecDepth 100000 in
theorem jfX12_65 : nFld RX12 65 12 37 (tyX12 37) true := ⟨TX12, 69, tyX12, rfl, by decide, gin_X12, gT_of 1275 rfl rfl, rfl, tyX12_ok 37 (by decide), tyX12_ok, nmX12, rfl⟩
set_option maxRecDepth 100000 in
theorem jfX12_68 : nFld RX12 68 12 38 (tyX12 38) true := ⟨TX12, 69, tyX12, rfl, by decide, gin_X12, gT_of 1276 rfl rfl, rfl, tyX12_ok 38 (by decide), tyX12_ok, nmX12, rfl⟩
set_option maxRecDepth 100000 in
theorem jfX12_71 : nFld RX12 71 12 39 (tyX12 39) true := ⟨TX12, 69, tyX12, rfl, by decide, gin_X12, gT_of 1277 rfl rfl, rfl, tyX12_ok 39 (by decide), tyX12_ok, nmX12, rfl⟩
set_option maxRecDepth 100000 in
theorem jfX12_74 : nFld RX12 74 12 40 (tyX12 40) true := ⟨TX12, 69, tyX12, rfl, by decide, gin_X12, gT_of 1278 rfl rfl, rfl, tyX12_ok 40 (by decide), tyX12_ok, nmX12, rfl⟩
set_option maxRecDepth 100000 in
theorem jfX12_77 : nFld RX12 77 12 43 (tyX12 43) true := ⟨TX12, 69, tyX12, rfl, by decide, gin_X12, gT_of 1281 rfl rfl, rfl, tyX12_ok 43 (by decide), tyX12_ok, nmX12, rfl⟩
set_option maxRecDepth 100000 in
theorem jfX12_80 : nFld RX12 80 12 44 (tyX12 44) true := ⟨TX12, 69, tyX12, rfl, by decide, gin_X12, gT_of 1282 rfl rfl, rfl, tyX12_ok 44 (by decide), tyX12_ok, nmX12, rfl⟩
set_option maxRecDepth 100000 in
theorem jfX12_83 : nFld RX12 83 12 45 (tyX12 45) true := ⟨TX12, 69, tyX12, rfl, by decide, gin_X12, gT_of 1283 rfl rfl, rfl, tyX12_ok 45 (by decide), tyX12_ok, nmX12, rfl⟩
set_option maxRecDepth 100000 in
theorem jfX12_86 : nFld RX12 86 12 46 (tyX12 46) true := ⟨TX12, 69, tyX12, rfl, by decide, gin_X12, gT_of 1284 rfl rfl, rfl, tyX12_ok 46 (by decide), tyX12_ok, nmX12, rfl⟩
set_option maxRecDepth 100000 in
theorem jfX12_89 : nFld RX12 89 12 47 (tyX12 47) true := ⟨TX12, 69, tyX12, rfl, by decide, gin_X12, gT_of 1285 rfl rfl, rfl, tyX12_ok 47 (by decide), tyX12_ok, nmX12, rfl⟩
set_option maxRecDepth 100000 in
theorem jfX12_92 : nFld RX12 92 12 48 (tyX12 48) true := ⟨TX12, 69, tyX12, rfl, by decide, gin_X12, gT_of 1286 rfl rfl, rfl, tyX12_ok 48 (by decide), tyX12_ok, nmX12, rfl⟩
set_option maxRecDepth 100000 in
theorem jfX12_95 : nFld RX12 95 12 49 (tyX12 49) true := ⟨TX12, 69, tyX12, rfl, by decide, gin_X12, gT_of 1287 rfl rfl, rfl, tyX12_ok 49 (by decide), tyX12_ok, nmX12, rfl⟩
set_option maxRecDepth 100000 in
theorem jfX12_98 : nFld RX12 98 12 51 (tyX12 51) true := ⟨TX12, 69, tyX12, rfl, by decide, gin_X12, gT_of 1289 rfl rfl, rfl, tyX12_ok 51 (by decide), tyX12_ok, nmX12, rfl⟩
set_option maxRecDepth 100000 in
theorem jfX12_101 : nFld RX12 101 12 52 (tyX12 52) true := ⟨TX12, 69, tyX12, rfl, by decide, gin_X12, gT_of 1290 rfl rfl, rfl, tyX12_ok 52 (by decide), tyX12_ok, nmX12, rfl⟩
set_option maxRecDepth 100000 in
theorem jfX12_104 : nFld RX12 104 12 53 (tyX12 53) true := ⟨TX12, 69, tyX12, rfl, by decide, gin_X12, gT_of 1291 rfl rfl, rfl, tyX12_ok 53 (by decide), tyX12_ok, nmX12, rfl⟩
set_option maxRecDepth 100000 in
theorem jfX12_107 : nFld RX12 107 12 54 (tyX12 54) true := ⟨TX12, 69, tyX12, rfl, by decide, gin_X12, gT_of 1292 rfl rfl, rfl, tyX12_ok 54 (by decide), tyX12_ok, nmX12, rfl⟩
set_option maxRecDepth 100000 in
theorem jfX12_110 : nFld RX12 110 12 55 (tyX12 55) true := ⟨TX12, 69, tyX12, rfl, by decide, gin_X12, gT_of 1293 rfl rfl, rfl, tyX12_ok 55 (by decide), tyX12_ok, nmX12, rfl⟩
set_option maxRecDepth 100000 in
theorem jfX12_113 : nFld RX12 113 12 56 (tyX12 56) true := ⟨TX12, 69, tyX12, rfl, by decide, gin_X12, gT_of 1294 rfl rfl, rfl, tyX12_ok 56 (by decide), tyX12_ok, nmX12, rfl⟩
set_option maxRecDepth 100000 in
theorem jfX12_116 : nFld RX12 116 12 57 (tyX12 57) true := ⟨TX12, 69, tyX12, rfl, by decide, gin_X12, gT_of 1295 rfl rfl, rfl, tyX12_ok 57 (by decide), tyX12_ok, nmX12, rfl⟩
set_option maxRecDepth 100000 in
theorem jfX12_119 : nFld RX12 119 12 58 (tyX12 58) true := ⟨TX12, 69, tyX12, rfl, by decide, gin_X12, gT_of 1296 rfl rfl, rfl, tyX12_ok 58 (by decide), tyX12_ok, nmX12, rfl⟩
set_option maxRecDepth 100000 in
theorem jfX12_122 : nFld RX12 122 12 59 (tyX12 59) true := ⟨TX12, 69, tyX12, rfl, by decide, gin_X12, gT_of 1297 rfl rfl, rfl, tyX12_ok 59 (by decide), tyX12_ok, nmX12, rfl⟩
set_option maxRecDepth 100000 in
theorem jfX12_125 : nFld RX12 125 12 60 (tyX12 60) true := ⟨TX12, 69, tyX12, rfl, by decide, gin_X12, gT_of 1298 rfl rfl, rfl, tyX12_ok 60 (by decide), tyX12_ok, nmX12, rfl⟩
set_option maxRecDepth 100000 in
theorem jfX12_128 : nFld RX12 128 12 62 (tyX12 62) true := ⟨TX12, 69, tyX12, rfl, by decide, gin_X12, gT_of 1300 rfl rfl, rfl, tyX12_ok 62 (by decide), tyX12_ok, nmX12, rfl⟩
set_option maxRecDepth 100000 in
theorem jfX12_131 : nFld RX12 131 12 63 (tyX12 63) true := ⟨TX12, 69, tyX12, rfl, by decide, gin_X12, gT_of 1301 rfl rfl, rfl, tyX12_ok 63 (by decide), tyX12_ok, nmX12, rfl⟩
set_option maxRecDepth 100000 in
theorem jfX12_134 : nFld RX12 134 12 66 (tyX12 66) true := ⟨TX12, 69, tyX12, rfl, by decide, gin_X12, gT_of 1304 rfl rfl, rfl, tyX12_ok 66 (by decide), tyX12_ok, nmX12, rfl⟩
set_option maxRecDepth 100000 in
theorem jcX12_137 : Cond.constant RX12 137 (60480) ∈ gTbl := gT_of 1237 rfl rfl
set_option maxRecDepth 100000 in
theorem jfX12_138 : nFld RX12 138 12 67 (tyX12 67) true := ⟨TX12, 69, tyX12, rfl, by decide, gin_X12, gT_of 1305 rfl rfl, rfl, tyX12_ok 67 (by decide), tyX12_ok, nmX12, rfl⟩
abbrev mX12_init : gM := (yX12_init, cX12_init, 1, none, { frames := 1, cells := 43, slots := 90098, locals := 12 })
set_option maxRecDepth 100000 in
theorem joX11_3 : Cond.methodLink RX11 3 Lib.objectInit ∈ gTbl := gT_of 151 rfl rfl
set_option maxRecDepth 100000 in
theorem jnX11_9 : nNew RX11 9 10 [.null, vI 0, vI 0, vI 0, .null, .null, .null, .null] 8 := ⟨RX10, TX10, tyX10, rfl, gin_X10, tyX10_ok, by decide +kernel, gT_of 154 rfl rfl, gT_of 155 rfl rfl, gT_of 127 rfl rfl⟩
set_option maxRecDepth 100000 in
theorem jmX11_11 : nCw RX11 11 mX10_init := ⟨⟨gT_of 156 rfl rfl, gT_of 157 rfl rfl, gT_of 127 rfl rfl, gT_of 158 rfl rfl⟩, rfl, rfl, by decide +kernel, by decide +kernel, by decide +kernel⟩
set_option maxRecDepth 100000 in
theorem jfX11_12 : nFld RX11 12 11 0 (tyX11 0) true := ⟨TX11, 10, tyX11, rfl, by decide, gin_X11, gT_of 557 rfl rfl, rfl, tyX11_ok 0 (by decide), tyX11_ok, nmX11, rfl⟩
set_option maxRecDepth 100000 in
theorem jqX11_9 : Cond.classLink RX11 9 RX10 ∈ gTbl := gT_of 154 rfl rfl
set_option maxRecDepth 100000 in
theorem jfX11_16 : nFld RX11 16 11 1 (tyX11 1) true := ⟨TX11, 10, tyX11, rfl, by decide, gin_X11, gT_of 558 rfl rfl, rfl, tyX11_ok 1 (by decide), tyX11_ok, nmX11, rfl⟩
set_option maxRecDepth 100000 in
theorem jfX11_20 : nFld RX11 20 11 2 (tyX11 2) true := ⟨TX11, 10, tyX11, rfl, by decide, gin_X11, gT_of 559 rfl rfl, rfl, tyX11_ok 2 (by decide), tyX11_ok, nmX11, rfl⟩
set_option maxRecDepth 100000 in
theorem jnX11_24 : nNew RX11 24 7 [.null, .null, vI 0, vI 0, vI 0, .null, .null, vI 0, vI 0, vI 0, vI 0, vI 0] 12 := ⟨RX7, TX7, tyX7, rfl, gin_X7, tyX7_ok, by decide +kernel, gT_of 193 rfl rfl, gT_of 194 rfl rfl, gT_of 128 rfl rfl⟩
set_option maxRecDepth 100000 in
theorem jmX11_26 : nCw RX11 26 mX7_init := ⟨⟨gT_of 195 rfl rfl, gT_of 196 rfl rfl, gT_of 128 rfl rfl, gT_of 197 rfl rfl⟩, rfl, rfl, by decide +kernel, by decide +kernel, by decide +kernel⟩
set_option maxRecDepth 100000 in
theorem jfX11_27 : nFld RX11 27 11 3 (tyX11 3) true := ⟨TX11, 10, tyX11, rfl, by decide, gin_X11, gT_of 560 rfl rfl, rfl, tyX11_ok 3 (by decide), tyX11_ok, nmX11, rfl⟩
set_option maxRecDepth 100000 in
theorem jnX11_31 : nNew RX11 31 8 [.null, .null, .null, vI 0, vI 0, vI 0, vI 0, vI 0, vI 0, vI 0, vI 0, .null, .null, .null, .null, .null, .null, .null, vI 0] 19 := ⟨RX8, TX8, tyX8, rfl, gin_X8, tyX8_ok, by decide +kernel, gT_of 242 rfl rfl, gT_of 243 rfl rfl, gT_of 129 rfl rfl⟩
set_option maxRecDepth 100000 in
theorem jmX11_33 : nCw RX11 33 mX8_init := ⟨⟨gT_of 244 rfl rfl, gT_of 245 rfl rfl, gT_of 129 rfl rfl, gT_of 246 rfl rfl⟩, rfl, rfl, by decide +kernel, by decide +kernel, by decide +kernel⟩
set_option maxRecDepth 100000 in
theorem jfX11_34 : nFld RX11 34 11 4 (tyX11 4) true := ⟨TX11, 10, tyX11, rfl, by decide, gin_X11, gT_of 561 rfl rfl, rfl, tyX11_ok 4 (by decide), tyX11_ok, nmX11, rfl⟩
set_option maxRecDepth 100000 in
theorem jnX11_38 : nNew RX11 38 2 [.null, vI 0, .null, .null, vI 0, vI 0] 6 := ⟨RX2, TX2, tyX2, rfl, gin_X2, tyX2_ok, by decide +kernel, gT_of 430 rfl rfl, gT_of 431 rfl rfl, gT_of 133 rfl rfl⟩
set_option maxRecDepth 100000 in
theorem jmX11_40 : nCw RX11 40 mX2_init := ⟨⟨gT_of 432 rfl rfl, gT_of 433 rfl rfl, gT_of 133 rfl rfl, gT_of 434 rfl rfl⟩, rfl, rfl, by decide +kernel, by decide +kernel, by decide +kernel⟩
set_option maxRecDepth 100000 in
theorem jfX11_41 : nFld RX11 41 11 5 (tyX11 5) true := ⟨TX11, 10, tyX11, rfl, by decide, gin_X11, gT_of 562 rfl rfl, rfl, tyX11_ok 5 (by decide), tyX11_ok, nmX11, rfl⟩
set_option maxRecDepth 100000 in
theorem jnX11_45 : nNew RX11 45 3 [.null, vI 0] 2 := ⟨RX3, TX3, tyX3, rfl, gin_X3, tyX3_ok, by decide +kernel, gT_of 458 rfl rfl, gT_of 459 rfl rfl, gT_of 134 rfl rfl⟩
set_option maxRecDepth 100000 in
theorem jmX11_47 : nCw RX11 47 mX3_init := ⟨⟨gT_of 460 rfl rfl, gT_of 461 rfl rfl, gT_of 134 rfl rfl, gT_of 462 rfl rfl⟩, rfl, rfl, by decide +kernel, by decide +kernel, by decide +kernel⟩
set_option maxRecDepth 100000 in
theorem jfX11_48 : nFld RX11 48 11 6 (tyX11 6) true := ⟨TX11, 10, tyX11, rfl, by decide, gin_X11, gT_of 563 rfl rfl, rfl, tyX11_ok 6 (by decide), tyX11_ok, nmX11, rfl⟩
set_option maxRecDepth 100000 in
theorem jnX11_52 : nNew RX11 52 9 [vI 0, .null, .null, .null, .null, .null, .null, .null, .null, .null, .null, .null] 12 := ⟨RX9, TX9, tyX9, rfl, gin_X9, tyX9_ok, by decide +kernel, gT_of 471 rfl rfl, gT_of 472 rfl rfl, gT_of 135 rfl rfl⟩
set_option maxRecDepth 100000 in
theorem jmX11_54 : nCw RX11 54 mX9_init := ⟨⟨gT_of 473 rfl rfl, gT_of 474 rfl rfl, gT_of 135 rfl rfl, gT_of 475 rfl rfl⟩, rfl, rfl, by decide +kernel, by decide +kernel, by decide +kernel⟩
set_option maxRecDepth 100000 in
theorem jfX11_55 : nFld RX11 55 11 7 (tyX11 7) true := ⟨TX11, 10, tyX11, rfl, by decide, gin_X11, gT_of 564 rfl rfl, rfl, tyX11_ok 7 (by decide), tyX11_ok, nmX11, rfl⟩
set_option maxRecDepth 100000 in
theorem jnX11_59 : nNew RX11 59 5 [vI 0, .null, .null] 3 := ⟨RX5, TX5, tyX5, rfl, gin_X5, tyX5_ok, by decide +kernel, gT_of 515 rfl rfl, gT_of 516 rfl rfl, gT_of 136 rfl rfl⟩
set_option maxRecDepth 100000 in
theorem jmX11_61 : nCw RX11 61 mX5_init := ⟨⟨gT_of 517 rfl rfl, gT_of 518 rfl rfl, gT_of 136 rfl rfl, gT_of 519 rfl rfl⟩, rfl, rfl, by decide +kernel, by decide +kernel, by decide +kernel⟩
set_option maxRecDepth 100000 in
theorem jfX11_62 : nFld RX11 62 11 8 (tyX11 8) true := ⟨TX11, 10, tyX11, rfl, by decide, gin_X11, gT_of 565 rfl rfl, rfl, tyX11_ok 8 (by decide), tyX11_ok, nmX11, rfl⟩
set_option maxRecDepth 100000 in
theorem jnX11_66 : nNew RX11 66 1 [vI 0, vI 0, vI 0, .null, .null, .null] 6 := ⟨RX1, TX1, tyX1, rfl, gin_X1, tyX1_ok, by decide +kernel, gT_of 531 rfl rfl, gT_of 532 rfl rfl, gT_of 137 rfl rfl⟩
set_option maxRecDepth 100000 in
theorem jmX11_68 : nCw RX11 68 mX1_init := ⟨⟨gT_of 533 rfl rfl, gT_of 534 rfl rfl, gT_of 137 rfl rfl, gT_of 535 rfl rfl⟩, rfl, rfl, by decide +kernel, by decide +kernel, by decide +kernel⟩
set_option maxRecDepth 100000 in
theorem jfX11_69 : nFld RX11 69 11 9 (tyX11 9) true := ⟨TX11, 10, tyX11, rfl, by decide, gin_X11, gT_of 566 rfl rfl, rfl, tyX11_ok 9 (by decide), tyX11_ok, nmX11, rfl⟩
abbrev mX11_init : gM := (yX11_init, cX11_init, 2, none, { frames := 3, cells := 87, slots := 19227, locals := 52 })
