def tX0 (cA : FieldType → ClassId) (q : Nat → Nat) : va_W := (q 0, .inr (0, [vI 0, .ref (q 1), .ref (q 2), .ref (q 3), .ref (q 4), .ref (q 5), .ref (q 6), .ref (q 7)])) :: ((((((([] ++ [(q 1, .inl (cA .int, 360, .inl (fun _ => i32 0)))]) ++ [(q 2, .inl (cA .int, 360, .inl (fun _ => i32 0)))]) ++ [(q 3, .inl (cA .boolean, 360, .inl (fun _ => i32 0)))]) ++ [(q 4, .inl (cA .int, 360, .inl (fun _ => i32 0)))]) ++ [(q 5, .inl (cA .int, 360, .inl (fun _ => i32 0)))]) ++ [(q 6, .inl (cA .boolean, 360, .inl (fun _ => i32 0)))]) ++ [(q 7, .inl (cA .int, 360, .inl (fun _ => i32 0)))])
set_option maxRecDepth 100000 in
set_option maxHeartbeats 4000000 in
theorem cX0_init_ (l : Launch) (D : va_G) (cA : FieldType → ClassId) : nCt l D cA mX0_init (.inr (0, [vI 0, .null, .null, .null, .null, .null, .null, .null])) (tX0 cA) := by
  intro h0 sz
  refine n_entry rfl rfl (Nat.le_of_ble_eq_true rfl) (fun A => ?_)
  refine n_aload 0 dX0_init_0 rfl rfl ?_
  refine n_obj dX0_init_1 ⟨joX0_3, wO_i, wO_c⟩ (Nat.le_of_ble_eq_true rfl) (Nat.le_of_ble_eq_true rfl) ?_
  refine n_aload 0 dX0_init_4 rfl rfl ?_
  refine n_sipush dX0_init_5 (by decide) ?_
  refine n_newa (t0 := 0) (ty := .int) (N := 360) (z := .inl (fun _ => i32 0)) dX0_init_8 wA_int rfl rfl (fun _ _ h => h) (fun _ => rfl) (by decide) (by decide) (Nat.le_of_ble_eq_true rfl) (Nat.le_of_ble_eq_true rfl) (Nat.le_of_ble_eq_true rfl) (fun a1 => ?_)
  refine n_putF (fs' := [vI 0, .ref a1, .null, .null, .null, .null, .null, .null]) dX0_init_10 jfX0_9 rfl rfl (Nat.le_of_ble_eq_true rfl) rfl ?_
  refine n_aload 0 dX0_init_13 rfl rfl ?_
  refine n_sipush dX0_init_14 (by decide) ?_
  refine n_newa (t0 := 0) (ty := .int) (N := 360) (z := .inl (fun _ => i32 0)) dX0_init_17 wA_int rfl rfl (fun _ _ h => h) (fun _ => rfl) (by decide) (by decide) (Nat.le_of_ble_eq_true rfl) (Nat.le_of_ble_eq_true rfl) (Nat.le_of_ble_eq_true rfl) (fun a2 => ?_)
  refine n_putF (fs' := [vI 0, .ref a1, .ref a2, .null, .null, .null, .null, .null]) dX0_init_19 jfX0_15 rfl rfl (Nat.le_of_ble_eq_true rfl) rfl ?_
  refine n_aload 0 dX0_init_22 rfl rfl ?_
  refine n_sipush dX0_init_23 (by decide) ?_
  refine n_newa (t0 := 2) (ty := .boolean) (N := 360) (z := .inl (fun _ => i32 0)) dX0_init_26 wA_boolean rfl rfl (fun _ _ h => h) (fun _ => rfl) (by decide) (by decide) (Nat.le_of_ble_eq_true rfl) (Nat.le_of_ble_eq_true rfl) (Nat.le_of_ble_eq_true rfl) (fun a3 => ?_)
  refine n_putF (fs' := [vI 0, .ref a1, .ref a2, .ref a3, .null, .null, .null, .null]) dX0_init_28 jfX0_18 rfl rfl (Nat.le_of_ble_eq_true rfl) rfl ?_
  refine n_aload 0 dX0_init_31 rfl rfl ?_
  refine n_sipush dX0_init_32 (by decide) ?_
  refine n_newa (t0 := 0) (ty := .int) (N := 360) (z := .inl (fun _ => i32 0)) dX0_init_35 wA_int rfl rfl (fun _ _ h => h) (fun _ => rfl) (by decide) (by decide) (Nat.le_of_ble_eq_true rfl) (Nat.le_of_ble_eq_true rfl) (Nat.le_of_ble_eq_true rfl) (fun a4 => ?_)
  refine n_putF (fs' := [vI 0, .ref a1, .ref a2, .ref a3, .ref a4, .null, .null, .null]) dX0_init_37 jfX0_22 rfl rfl (Nat.le_of_ble_eq_true rfl) rfl ?_
  refine n_aload 0 dX0_init_40 rfl rfl ?_
  refine n_sipush dX0_init_41 (by decide) ?_
  refine n_newa (t0 := 0) (ty := .int) (N := 360) (z := .inl (fun _ => i32 0)) dX0_init_44 wA_int rfl rfl (fun _ _ h => h) (fun _ => rfl) (by decide) (by decide) (Nat.le_of_ble_eq_true rfl) (Nat.le_of_ble_eq_true rfl) (Nat.le_of_ble_eq_true rfl) (fun a5 => ?_)
  refine n_putF (fs' := [vI 0, .ref a1, .ref a2, .ref a3, .ref a4, .ref a5, .null, .null]) dX0_init_46 jfX0_25 rfl rfl (Nat.le_of_ble_eq_true rfl) rfl ?_
  refine n_aload 0 dX0_init_49 rfl rfl ?_
  refine n_sipush dX0_init_50 (by decide) ?_
  refine n_newa (t0 := 2) (ty := .boolean) (N := 360) (z := .inl (fun _ => i32 0)) dX0_init_53 wA_boolean rfl rfl (fun _ _ h => h) (fun _ => rfl) (by decide) (by decide) (Nat.le_of_ble_eq_true rfl) (Nat.le_of_ble_eq_true rfl) (Nat.le_of_ble_eq_true rfl) (fun a6 => ?_)
  refine n_putF (fs' := [vI 0, .ref a1, .ref a2, .ref a3, .ref a4, .ref a5, .ref a6, .null]) dX0_init_55 jfX0_28 rfl rfl (Nat.le_of_ble_eq_true rfl) rfl ?_
  refine n_aload 0 dX0_init_58 rfl rfl ?_
  refine n_sipush dX0_init_59 (by decide) ?_
  refine n_newa (t0 := 0) (ty := .int) (N := 360) (z := .inl (fun _ => i32 0)) dX0_init_62 wA_int rfl rfl (fun _ _ h => h) (fun _ => rfl) (by decide) (by decide) (Nat.le_of_ble_eq_true rfl) (Nat.le_of_ble_eq_true rfl) (Nat.le_of_ble_eq_true rfl) (fun a7 => ?_)
  refine n_putF (fs' := [vI 0, .ref a1, .ref a2, .ref a3, .ref a4, .ref a5, .ref a6, .ref a7]) dX0_init_64 jfX0_31 rfl rfl (Nat.le_of_ble_eq_true rfl) rfl ?_
  exact n_ret dX0_init_67 rfl (fun j => cond (Nat.ble j 0) (h0) (cond (Nat.ble j 1) (a1) (cond (Nat.ble j 2) (a2) (cond (Nat.ble j 3) (a3) (cond (Nat.ble j 4) (a4) (cond (Nat.ble j 5) (a5) (cond (Nat.ble j 6) (a6) (cond (Nat.ble j 7) (a7) (0))))))))) rfl rfl (Nat.le_of_ble_eq_true rfl) (Nat.le_of_ble_eq_true rfl)
def tX1 (cA : FieldType → ClassId) (q : Nat → Nat) : va_W := (q 0, .inr (1, [vI 0, vI 0, vI 0, .ref (q 1), .ref (q 2), .ref (q 3)])) :: ((([] ++ [(q 1, .inl (cA .int, 24, .inl (fun _ => i32 0)))]) ++ [(q 2, .inl (cA .int, 8640, .inl (fun _ => i32 0)))]) ++ [(q 3, .inl (cA .int, 7, .inl (fun _ => i32 0)))])
set_option maxRecDepth 100000 in
set_option maxHeartbeats 4000000 in
theorem cX1_init_ (l : Launch) (D : va_G) (cA : FieldType → ClassId) : nCt l D cA mX1_init (.inr (1, [vI 0, vI 0, vI 0, .null, .null, .null])) (tX1 cA) := by
  intro h0 sz
  refine n_entry rfl rfl (Nat.le_of_ble_eq_true rfl) (fun A => ?_)
  refine n_aload 0 dX1_init_0 rfl rfl ?_
  refine n_obj dX1_init_1 ⟨joX1_3, wO_i, wO_c⟩ (Nat.le_of_ble_eq_true rfl) (Nat.le_of_ble_eq_true rfl) ?_
  refine n_aload 0 dX1_init_4 rfl rfl ?_
  refine n_bipush dX1_init_5 (by decide) ?_
  refine n_newa (t0 := 0) (ty := .int) (N := 24) (z := .inl (fun _ => i32 0)) dX1_init_7 wA_int rfl rfl (fun _ _ h => h) (fun _ => rfl) (by decide) (by decide) (Nat.le_of_ble_eq_true rfl) (Nat.le_of_ble_eq_true rfl) (Nat.le_of_ble_eq_true rfl) (fun a1 => ?_)
  refine n_putF (fs' := [vI 0, vI 0, vI 0, .ref a1, .null, .null]) dX1_init_9 jfX1_9 rfl rfl (Nat.le_of_ble_eq_true rfl) rfl ?_
  refine n_aload 0 dX1_init_12 rfl rfl ?_
  refine n_sipush dX1_init_13 (by decide) ?_
  refine n_newa (t0 := 0) (ty := .int) (N := 8640) (z := .inl (fun _ => i32 0)) dX1_init_16 wA_int rfl rfl (fun _ _ h => h) (fun _ => rfl) (by decide) (by decide) (Nat.le_of_ble_eq_true rfl) (Nat.le_of_ble_eq_true rfl) (Nat.le_of_ble_eq_true rfl) (fun a2 => ?_)
  refine n_putF (fs' := [vI 0, vI 0, vI 0, .ref a1, .ref a2, .null]) dX1_init_18 jfX1_15 rfl rfl (Nat.le_of_ble_eq_true rfl) rfl ?_
  refine n_aload 0 dX1_init_21 rfl rfl ?_
  refine n_bipush dX1_init_22 (by decide) ?_
  refine n_newa (t0 := 0) (ty := .int) (N := 7) (z := .inl (fun _ => i32 0)) dX1_init_24 wA_int rfl rfl (fun _ _ h => h) (fun _ => rfl) (by decide) (by decide) (Nat.le_of_ble_eq_true rfl) (Nat.le_of_ble_eq_true rfl) (Nat.le_of_ble_eq_true rfl) (fun a3 => ?_)
  refine n_putF (fs' := [vI 0, vI 0, vI 0, .ref a1, .ref a2, .ref a3]) dX1_init_26 jfX1_18 rfl rfl (Nat.le_of_ble_eq_true rfl) rfl ?_
  exact n_ret dX1_init_29 rfl (fun j => cond (Nat.ble j 0) (h0) (cond (Nat.ble j 1) (a1) (cond (Nat.ble j 2) (a2) (cond (Nat.ble j 3) (a3) (0))))) rfl rfl (Nat.le_of_ble_eq_true rfl) (Nat.le_of_ble_eq_true rfl)
def tX3 (cA : FieldType → ClassId) (q : Nat → Nat) : va_W := (q 0, .inr (3, [.ref (q 1), vI 0])) :: ([] ++ [(q 1, .inl (cA .int, 448, .inl (fun _ => i32 0)))])
set_option maxRecDepth 100000 in
set_option maxHeartbeats 4000000 in
theorem cX3_init_ (l : Launch) (D : va_G) (cA : FieldType → ClassId) : nCt l D cA mX3_init (.inr (3, [.null, vI 0])) (tX3 cA) := by
  intro h0 sz
  refine n_entry rfl rfl (Nat.le_of_ble_eq_true rfl) (fun A => ?_)
  refine n_aload 0 dX3_init_0 rfl rfl ?_
  refine n_obj dX3_init_1 ⟨joX3_3, wO_i, wO_c⟩ (Nat.le_of_ble_eq_true rfl) (Nat.le_of_ble_eq_true rfl) ?_
  refine n_aload 0 dX3_init_4 rfl rfl ?_
  refine n_sipush dX3_init_5 (by decide) ?_
  refine n_newa (t0 := 0) (ty := .int) (N := 448) (z := .inl (fun _ => i32 0)) dX3_init_8 wA_int rfl rfl (fun _ _ h => h) (fun _ => rfl) (by decide) (by decide) (Nat.le_of_ble_eq_true rfl) (Nat.le_of_ble_eq_true rfl) (Nat.le_of_ble_eq_true rfl) (fun a1 => ?_)
  refine n_putF (fs' := [.ref a1, vI 0]) dX3_init_10 jfX3_9 rfl rfl (Nat.le_of_ble_eq_true rfl) rfl ?_
  exact n_ret dX3_init_13 rfl (fun j => cond (Nat.ble j 0) (h0) (cond (Nat.ble j 1) (a1) (0))) rfl rfl (Nat.le_of_ble_eq_true rfl) (Nat.le_of_ble_eq_true rfl)
def tX4 (cA : FieldType → ClassId) (q : Nat → Nat) : va_W := (q 0, .inr (4, [vI 1, .ref (q 1), .ref (q 2), .ref (q 3), .ref (q 4), vI 0, vI 0, .ref (q 5)])) :: ((((([] ++ [(q 1, .inl (cA .int, 6, .inl (fun _ => i32 0)))]) ++ [(q 2, .inl (cA .int, 6, .inl (fun _ => i32 0)))]) ++ [(q 3, .inl (cA .int, 6, .inl (fun _ => i32 0)))]) ++ [(q 4, .inl (cA .int, 6, .inl (fun _ => i32 0)))]) ++ [(q 5, .inl (cA .int, 6, .inl (fun _ => i32 0)))])
set_option maxRecDepth 100000 in
set_option maxHeartbeats 4000000 in
theorem cX4_init_ (l : Launch) (D : va_G) (cA : FieldType → ClassId) : nCt l D cA mX4_init (.inr (4, [vI 0, .null, .null, .null, .null, vI 0, vI 0, .null])) (tX4 cA) := by
  intro h0 sz
  refine n_entry rfl rfl (Nat.le_of_ble_eq_true rfl) (fun A => ?_)
  refine n_aload 0 dX4_init_0 rfl rfl ?_
  refine n_obj dX4_init_1 ⟨joX4_3, wO_i, wO_c⟩ (Nat.le_of_ble_eq_true rfl) (Nat.le_of_ble_eq_true rfl) ?_
  refine n_aload 0 dX4_init_4 rfl rfl ?_
  refine n_iconst dX4_init_5 ?_
  refine n_put (fs' := [vI 1, .null, .null, .null, .null, vI 0, vI 0, .null]) dX4_init_6 jfX4_9 rfl rfl (Nat.le_of_ble_eq_true rfl) rfl ?_
  refine n_aload 0 dX4_init_9 rfl rfl ?_
  refine n_bipush dX4_init_10 (by decide) ?_
  refine n_newa (t0 := 0) (ty := .int) (N := 6) (z := .inl (fun _ => i32 0)) dX4_init_12 wA_int rfl rfl (fun _ _ h => h) (fun _ => rfl) (by decide) (by decide) (Nat.le_of_ble_eq_true rfl) (Nat.le_of_ble_eq_true rfl) (Nat.le_of_ble_eq_true rfl) (fun a1 => ?_)
  refine n_putF (fs' := [vI 1, .ref a1, .null, .null, .null, vI 0, vI 0, .null]) dX4_init_14 jfX4_15 rfl rfl (Nat.le_of_ble_eq_true rfl) rfl ?_
  refine n_aload 0 dX4_init_17 rfl rfl ?_
  refine n_bipush dX4_init_18 (by decide) ?_
  refine n_newa (t0 := 0) (ty := .int) (N := 6) (z := .inl (fun _ => i32 0)) dX4_init_20 wA_int rfl rfl (fun _ _ h => h) (fun _ => rfl) (by decide) (by decide) (Nat.le_of_ble_eq_true rfl) (Nat.le_of_ble_eq_true rfl) (Nat.le_of_ble_eq_true rfl) (fun a2 => ?_)
  refine n_putF (fs' := [vI 1, .ref a1, .ref a2, .null, .null, vI 0, vI 0, .null]) dX4_init_22 jfX4_19 rfl rfl (Nat.le_of_ble_eq_true rfl) rfl ?_
  refine n_aload 0 dX4_init_25 rfl rfl ?_
  refine n_bipush dX4_init_26 (by decide) ?_
  refine n_newa (t0 := 0) (ty := .int) (N := 6) (z := .inl (fun _ => i32 0)) dX4_init_28 wA_int rfl rfl (fun _ _ h => h) (fun _ => rfl) (by decide) (by decide) (Nat.le_of_ble_eq_true rfl) (Nat.le_of_ble_eq_true rfl) (Nat.le_of_ble_eq_true rfl) (fun a3 => ?_)
  refine n_putF (fs' := [vI 1, .ref a1, .ref a2, .ref a3, .null, vI 0, vI 0, .null]) dX4_init_30 jfX4_22 rfl rfl (Nat.le_of_ble_eq_true rfl) rfl ?_
  refine n_aload 0 dX4_init_33 rfl rfl ?_
  refine n_bipush dX4_init_34 (by decide) ?_
  refine n_newa (t0 := 0) (ty := .int) (N := 6) (z := .inl (fun _ => i32 0)) dX4_init_36 wA_int rfl rfl (fun _ _ h => h) (fun _ => rfl) (by decide) (by decide) (Nat.le_of_ble_eq_true rfl) (Nat.le_of_ble_eq_true rfl) (Nat.le_of_ble_eq_true rfl) (fun a4 => ?_)
  refine n_putF (fs' := [vI 1, .ref a1, .ref a2, .ref a3, .ref a4, vI 0, vI 0, .null]) dX4_init_38 jfX4_25 rfl rfl (Nat.le_of_ble_eq_true rfl) rfl ?_
  refine n_aload 0 dX4_init_41 rfl rfl ?_
  refine n_bipush dX4_init_42 (by decide) ?_
  refine n_newa (t0 := 0) (ty := .int) (N := 6) (z := .inl (fun _ => i32 0)) dX4_init_44 wA_int rfl rfl (fun _ _ h => h) (fun _ => rfl) (by decide) (by decide) (Nat.le_of_ble_eq_true rfl) (Nat.le_of_ble_eq_true rfl) (Nat.le_of_ble_eq_true rfl) (fun a5 => ?_)
  refine n_putF (fs' := [vI 1, .ref a1, .ref a2, .ref a3, .ref a4, vI 0, vI 0, .ref a5]) dX4_init_46 jfX4_28 rfl rfl (Nat.le_of_ble_eq_true rfl) rfl ?_
  exact n_ret dX4_init_49 rfl (fun j => cond (Nat.ble j 0) (h0) (cond (Nat.ble j 1) (a1) (cond (Nat.ble j 2) (a2) (cond (Nat.ble j 3) (a3) (cond (Nat.ble j 4) (a4) (cond (Nat.ble j 5) (a5) (0))))))) rfl rfl (Nat.le_of_ble_eq_true rfl) (Nat.le_of_ble_eq_true rfl)
def tX5 (cA : FieldType → ClassId) (q : Nat → Nat) : va_W := (q 0, .inr (5, [vI 0, .ref (q 1), .ref (q 2)])) :: (([] ++ [(q 1, .inl (cA .int, 36, .inl (fun _ => i32 0)))]) ++ [(q 2, .inl (cA .int, 36, .inl (fun _ => i32 0)))])
set_option maxRecDepth 100000 in
set_option maxHeartbeats 4000000 in
theorem cX5_init_ (l : Launch) (D : va_G) (cA : FieldType → ClassId) : nCt l D cA mX5_init (.inr (5, [vI 0, .null, .null])) (tX5 cA) := by
  intro h0 sz
  refine n_entry rfl rfl (Nat.le_of_ble_eq_true rfl) (fun A => ?_)
  refine n_aload 0 dX5_init_0 rfl rfl ?_
  refine n_obj dX5_init_1 ⟨joX5_3, wO_i, wO_c⟩ (Nat.le_of_ble_eq_true rfl) (Nat.le_of_ble_eq_true rfl) ?_
  refine n_aload 0 dX5_init_4 rfl rfl ?_
  refine n_bipush dX5_init_5 (by decide) ?_
  refine n_newa (t0 := 0) (ty := .int) (N := 36) (z := .inl (fun _ => i32 0)) dX5_init_7 wA_int rfl rfl (fun _ _ h => h) (fun _ => rfl) (by decide) (by decide) (Nat.le_of_ble_eq_true rfl) (Nat.le_of_ble_eq_true rfl) (Nat.le_of_ble_eq_true rfl) (fun a1 => ?_)
  refine n_putF (fs' := [vI 0, .ref a1, .null]) dX5_init_9 jfX5_9 rfl rfl (Nat.le_of_ble_eq_true rfl) rfl ?_
  refine n_aload 0 dX5_init_12 rfl rfl ?_
  refine n_bipush dX5_init_13 (by decide) ?_
  refine n_newa (t0 := 0) (ty := .int) (N := 36) (z := .inl (fun _ => i32 0)) dX5_init_15 wA_int rfl rfl (fun _ _ h => h) (fun _ => rfl) (by decide) (by decide) (Nat.le_of_ble_eq_true rfl) (Nat.le_of_ble_eq_true rfl) (Nat.le_of_ble_eq_true rfl) (fun a2 => ?_)
  refine n_putF (fs' := [vI 0, .ref a1, .ref a2]) dX5_init_17 jfX5_15 rfl rfl (Nat.le_of_ble_eq_true rfl) rfl ?_
  exact n_ret dX5_init_20 rfl (fun j => cond (Nat.ble j 0) (h0) (cond (Nat.ble j 1) (a1) (cond (Nat.ble j 2) (a2) (0)))) rfl rfl (Nat.le_of_ble_eq_true rfl) (Nat.le_of_ble_eq_true rfl)
def tX6 (cA : FieldType → ClassId) (q : Nat → Nat) : va_W := (q 0, .inr (6, [vI 0, .ref (q 1), .ref (q 2), .ref (q 3)])) :: ((([] ++ [(q 1, .inl (cA .int, 360, .inl (fun _ => i32 0)))]) ++ [(q 2, .inl (cA .int, 360, .inl (fun _ => i32 0)))]) ++ [(q 3, .inl (cA .int, 360, .inl (fun _ => i32 0)))])
set_option maxRecDepth 100000 in
set_option maxHeartbeats 4000000 in
theorem cX6_init_ (l : Launch) (D : va_G) (cA : FieldType → ClassId) : nCt l D cA mX6_init (.inr (6, [vI 0, .null, .null, .null])) (tX6 cA) := by
  intro h0 sz
  refine n_entry rfl rfl (Nat.le_of_ble_eq_true rfl) (fun A => ?_)
  refine n_aload 0 dX6_init_0 rfl rfl ?_
  refine n_obj dX6_init_1 ⟨joX6_3, wO_i, wO_c⟩ (Nat.le_of_ble_eq_true rfl) (Nat.le_of_ble_eq_true rfl) ?_
  refine n_aload 0 dX6_init_4 rfl rfl ?_
  refine n_sipush dX6_init_5 (by decide) ?_
  refine n_newa (t0 := 0) (ty := .int) (N := 360) (z := .inl (fun _ => i32 0)) dX6_init_8 wA_int rfl rfl (fun _ _ h => h) (fun _ => rfl) (by decide) (by decide) (Nat.le_of_ble_eq_true rfl) (Nat.le_of_ble_eq_true rfl) (Nat.le_of_ble_eq_true rfl) (fun a1 => ?_)
  refine n_putF (fs' := [vI 0, .ref a1, .null, .null]) dX6_init_10 jfX6_9 rfl rfl (Nat.le_of_ble_eq_true rfl) rfl ?_
  refine n_aload 0 dX6_init_13 rfl rfl ?_
  refine n_sipush dX6_init_14 (by decide) ?_
  refine n_newa (t0 := 0) (ty := .int) (N := 360) (z := .inl (fun _ => i32 0)) dX6_init_17 wA_int rfl rfl (fun _ _ h => h) (fun _ => rfl) (by decide) (by decide) (Nat.le_of_ble_eq_true rfl) (Nat.le_of_ble_eq_true rfl) (Nat.le_of_ble_eq_true rfl) (fun a2 => ?_)
  refine n_putF (fs' := [vI 0, .ref a1, .ref a2, .null]) dX6_init_19 jfX6_15 rfl rfl (Nat.le_of_ble_eq_true rfl) rfl ?_
  refine n_aload 0 dX6_init_22 rfl rfl ?_
  refine n_sipush dX6_init_23 (by decide) ?_
  refine n_newa (t0 := 0) (ty := .int) (N := 360) (z := .inl (fun _ => i32 0)) dX6_init_26 wA_int rfl rfl (fun _ _ h => h) (fun _ => rfl) (by decide) (by decide) (Nat.le_of_ble_eq_true rfl) (Nat.le_of_ble_eq_true rfl) (Nat.le_of_ble_eq_true rfl) (fun a3 => ?_)
  refine n_putF (fs' := [vI 0, .ref a1, .ref a2, .ref a3]) dX6_init_28 jfX6_18 rfl rfl (Nat.le_of_ble_eq_true rfl) rfl ?_
  exact n_ret dX6_init_31 rfl (fun j => cond (Nat.ble j 0) (h0) (cond (Nat.ble j 1) (a1) (cond (Nat.ble j 2) (a2) (cond (Nat.ble j 3) (a3) (0))))) rfl rfl (Nat.le_of_ble_eq_true rfl) (Nat.le_of_ble_eq_true rfl)
def tX7 (cA : FieldType → ClassId) (q : Nat → Nat) : va_W := (q 0, .inr (7, [.ref (q 1), .ref (q 2), vI 0, vI 0, vI 0, .ref (q 3), .ref (q 4), vI 0, vI 0, vI 0, vI 0, vI 0])) :: (((([] ++ [(q 1, .inl (cA .int, 4, .inl (fun _ => i32 0)))]) ++ [(q 2, .inl (cA .int, 160, .inl (fun _ => i32 0)))]) ++ [(q 3, .inl (cA .int, 3, .inl (fun _ => i32 0)))]) ++ [(q 4, .inl (cA .byte, 0, .inl (fun _ => i32 0)))])
set_option maxRecDepth 100000 in
set_option maxHeartbeats 4000000 in
theorem cX7_init_ (l : Launch) (D : va_G) (cA : FieldType → ClassId) : nCt l D cA mX7_init (.inr (7, [.null, .null, vI 0, vI 0, vI 0, .null, .null, vI 0, vI 0, vI 0, vI 0, vI 0])) (tX7 cA) := by
  intro h0 sz
  refine n_entry rfl rfl (Nat.le_of_ble_eq_true rfl) (fun A => ?_)
  refine n_aload 0 dX7_init_0 rfl rfl ?_
  refine n_obj dX7_init_1 ⟨joX7_3, wO_i, wO_c⟩ (Nat.le_of_ble_eq_true rfl) (Nat.le_of_ble_eq_true rfl) ?_
  refine n_aload 0 dX7_init_4 rfl rfl ?_
  refine n_iconst dX7_init_5 ?_
  refine n_newa (t0 := 0) (ty := .int) (N := 4) (z := .inl (fun _ => i32 0)) dX7_init_6 wA_int rfl rfl (fun _ _ h => h) (fun _ => rfl) (by decide) (by decide) (Nat.le_of_ble_eq_true rfl) (Nat.le_of_ble_eq_true rfl) (Nat.le_of_ble_eq_true rfl) (fun a1 => ?_)
  refine n_putF (fs' := [.ref a1, .null, vI 0, vI 0, vI 0, .null, .null, vI 0, vI 0, vI 0, vI 0, vI 0]) dX7_init_8 jfX7_9 rfl rfl (Nat.le_of_ble_eq_true rfl) rfl ?_
  refine n_aload 0 dX7_init_11 rfl rfl ?_
  refine n_sipush dX7_init_12 (by decide) ?_
  refine n_newa (t0 := 0) (ty := .int) (N := 160) (z := .inl (fun _ => i32 0)) dX7_init_15 wA_int rfl rfl (fun _ _ h => h) (fun _ => rfl) (by decide) (by decide) (Nat.le_of_ble_eq_true rfl) (Nat.le_of_ble_eq_true rfl) (Nat.le_of_ble_eq_true rfl) (fun a2 => ?_)
  refine n_putF (fs' := [.ref a1, .ref a2, vI 0, vI 0, vI 0, .null, .null, vI 0, vI 0, vI 0, vI 0, vI 0]) dX7_init_17 jfX7_17 rfl rfl (Nat.le_of_ble_eq_true rfl) rfl ?_
  refine n_aload 0 dX7_init_20 rfl rfl ?_
  refine n_iconst dX7_init_21 ?_
  refine n_newa (t0 := 0) (ty := .int) (N := 3) (z := .inl (fun _ => i32 0)) dX7_init_22 wA_int rfl rfl (fun _ _ h => h) (fun _ => rfl) (by decide) (by decide) (Nat.le_of_ble_eq_true rfl) (Nat.le_of_ble_eq_true rfl) (Nat.le_of_ble_eq_true rfl) (fun a3 => ?_)
  refine n_putF (fs' := [.ref a1, .ref a2, vI 0, vI 0, vI 0, .ref a3, .null, vI 0, vI 0, vI 0, vI 0, vI 0]) dX7_init_24 jfX7_20 rfl rfl (Nat.le_of_ble_eq_true rfl) rfl ?_
  refine n_aload 0 dX7_init_27 rfl rfl ?_
  refine n_iconst dX7_init_28 ?_
  refine n_newa (t0 := 1) (ty := .byte) (N := 0) (z := .inl (fun _ => i32 0)) dX7_init_29 wA_byte rfl rfl (fun _ _ h => h) (fun _ => rfl) (by decide) (by decide) (Nat.le_of_ble_eq_true rfl) (Nat.le_of_ble_eq_true rfl) (Nat.le_of_ble_eq_true rfl) (fun a4 => ?_)
  refine n_put (fs' := [.ref a1, .ref a2, vI 0, vI 0, vI 0, .ref a3, .ref a4, vI 0, vI 0, vI 0, vI 0, vI 0]) dX7_init_31 jfX7_23 rfl rfl (Nat.le_of_ble_eq_true rfl) rfl ?_
  exact n_ret dX7_init_34 rfl (fun j => cond (Nat.ble j 0) (h0) (cond (Nat.ble j 1) (a1) (cond (Nat.ble j 2) (a2) (cond (Nat.ble j 3) (a3) (cond (Nat.ble j 4) (a4) (0)))))) rfl rfl (Nat.le_of_ble_eq_true rfl) (Nat.le_of_ble_eq_true rfl)
def tX9 (cA : FieldType → ClassId) (q : Nat → Nat) : va_W := (q 0, .inr (9, [vI 0, .ref (q 1), .ref (q 2), .ref (q 3), .ref (q 4), .ref (q 5), .ref (q 6), .ref (q 7), .ref (q 8), .ref (q 9), .ref (q 10), .ref (q 11)])) :: ((((((((((([] ++ [(q 1, .inl (cA .int, 40, .inl (fun _ => i32 0)))]) ++ [(q 2, .inl (cA .int, 40, .inl (fun _ => i32 0)))]) ++ [(q 3, .inl (cA .int, 40, .inl (fun _ => i32 0)))]) ++ [(q 4, .inl (cA .int, 40, .inl (fun _ => i32 0)))]) ++ [(q 5, .inl (cA .int, 40, .inl (fun _ => i32 0)))]) ++ [(q 6, .inl (cA .int, 40, .inl (fun _ => i32 0)))]) ++ [(q 7, .inl (cA .int, 240, .inl (fun _ => i32 0)))]) ++ [(q 8, .inl (cA .int, 6, .inl (fun _ => i32 0)))]) ++ [(q 9, .inl (cA .int, 6, .inl (fun _ => i32 0)))]) ++ [(q 10, .inl (cA .boolean, 6, .inl (fun _ => i32 0)))]) ++ [(q 11, .inl (cA .int, 6, .inl (fun _ => i32 0)))])
set_option maxRecDepth 100000 in
set_option maxHeartbeats 4000000 in
theorem cX9_init_ (l : Launch) (D : va_G) (cA : FieldType → ClassId) : nCt l D cA mX9_init (.inr (9, [vI 0, .null, .null, .null, .null, .null, .null, .null, .null, .null, .null, .null])) (tX9 cA) := by
  intro h0 sz
  refine n_entry rfl rfl (Nat.le_of_ble_eq_true rfl) (fun A => ?_)
  refine n_aload 0 dX9_init_0 rfl rfl ?_
  refine n_obj dX9_init_1 ⟨joX9_3, wO_i, wO_c⟩ (Nat.le_of_ble_eq_true rfl) (Nat.le_of_ble_eq_true rfl) ?_
  refine n_aload 0 dX9_init_4 rfl rfl ?_
  refine n_bipush dX9_init_5 (by decide) ?_
  refine n_newa (t0 := 0) (ty := .int) (N := 40) (z := .inl (fun _ => i32 0)) dX9_init_7 wA_int rfl rfl (fun _ _ h => h) (fun _ => rfl) (by decide) (by decide) (Nat.le_of_ble_eq_true rfl) (Nat.le_of_ble_eq_true rfl) (Nat.le_of_ble_eq_true rfl) (fun a1 => ?_)
  refine n_putF (fs' := [vI 0, .ref a1, .null, .null, .null, .null, .null, .null, .null, .null, .null, .null]) dX9_init_9 jfX9_9 rfl rfl (Nat.le_of_ble_eq_true rfl) rfl ?_
  refine n_aload 0 dX9_init_12 rfl rfl ?_
  refine n_bipush dX9_init_13 (by decide) ?_
  refine n_newa (t0 := 0) (ty := .int) (N := 40) (z := .inl (fun _ => i32 0)) dX9_init_15 wA_int rfl rfl (fun _ _ h => h) (fun _ => rfl) (by decide) (by decide) (Nat.le_of_ble_eq_true rfl) (Nat.le_of_ble_eq_true rfl) (Nat.le_of_ble_eq_true rfl) (fun a2 => ?_)
  refine n_putF (fs' := [vI 0, .ref a1, .ref a2, .null, .null, .null, .null, .null, .null, .null, .null, .null]) dX9_init_17 jfX9_15 rfl rfl (Nat.le_of_ble_eq_true rfl) rfl ?_
  refine n_aload 0 dX9_init_20 rfl rfl ?_
  refine n_bipush dX9_init_21 (by decide) ?_
  refine n_newa (t0 := 0) (ty := .int) (N := 40) (z := .inl (fun _ => i32 0)) dX9_init_23 wA_int rfl rfl (fun _ _ h => h) (fun _ => rfl) (by decide) (by decide) (Nat.le_of_ble_eq_true rfl) (Nat.le_of_ble_eq_true rfl) (Nat.le_of_ble_eq_true rfl) (fun a3 => ?_)
  refine n_putF (fs' := [vI 0, .ref a1, .ref a2, .ref a3, .null, .null, .null, .null, .null, .null, .null, .null]) dX9_init_25 jfX9_18 rfl rfl (Nat.le_of_ble_eq_true rfl) rfl ?_
  refine n_aload 0 dX9_init_28 rfl rfl ?_
  refine n_bipush dX9_init_29 (by decide) ?_
  refine n_newa (t0 := 0) (ty := .int) (N := 40) (z := .inl (fun _ => i32 0)) dX9_init_31 wA_int rfl rfl (fun _ _ h => h) (fun _ => rfl) (by decide) (by decide) (Nat.le_of_ble_eq_true rfl) (Nat.le_of_ble_eq_true rfl) (Nat.le_of_ble_eq_true rfl) (fun a4 => ?_)
  refine n_putF (fs' := [vI 0, .ref a1, .ref a2, .ref a3, .ref a4, .null, .null, .null, .null, .null, .null, .null]) dX9_init_33 jfX9_21 rfl rfl (Nat.le_of_ble_eq_true rfl) rfl ?_
  refine n_aload 0 dX9_init_36 rfl rfl ?_
  refine n_bipush dX9_init_37 (by decide) ?_
  refine n_newa (t0 := 0) (ty := .int) (N := 40) (z := .inl (fun _ => i32 0)) dX9_init_39 wA_int rfl rfl (fun _ _ h => h) (fun _ => rfl) (by decide) (by decide) (Nat.le_of_ble_eq_true rfl) (Nat.le_of_ble_eq_true rfl) (Nat.le_of_ble_eq_true rfl) (fun a5 => ?_)
  refine n_putF (fs' := [vI 0, .ref a1, .ref a2, .ref a3, .ref a4, .ref a5, .null, .null, .null, .null, .null, .null]) dX9_init_41 jfX9_24 rfl rfl (Nat.le_of_ble_eq_true rfl) rfl ?_
  refine n_aload 0 dX9_init_44 rfl rfl ?_
  refine n_bipush dX9_init_45 (by decide) ?_
  refine n_newa (t0 := 0) (ty := .int) (N := 40) (z := .inl (fun _ => i32 0)) dX9_init_47 wA_int rfl rfl (fun _ _ h => h) (fun _ => rfl) (by decide) (by decide) (Nat.le_of_ble_eq_true rfl) (Nat.le_of_ble_eq_true rfl) (Nat.le_of_ble_eq_true rfl) (fun a6 => ?_)
  refine n_putF (fs' := [vI 0, .ref a1, .ref a2, .ref a3, .ref a4, .ref a5, .ref a6, .null, .null, .null, .null, .null]) dX9_init_49 jfX9_27 rfl rfl (Nat.le_of_ble_eq_true rfl) rfl ?_
  refine n_aload 0 dX9_init_52 rfl rfl ?_
  refine n_sipush dX9_init_53 (by decide) ?_
  refine n_newa (t0 := 0) (ty := .int) (N := 240) (z := .inl (fun _ => i32 0)) dX9_init_56 wA_int rfl rfl (fun _ _ h => h) (fun _ => rfl) (by decide) (by decide) (Nat.le_of_ble_eq_true rfl) (Nat.le_of_ble_eq_true rfl) (Nat.le_of_ble_eq_true rfl) (fun a7 => ?_)
  refine n_putF (fs' := [vI 0, .ref a1, .ref a2, .ref a3, .ref a4, .ref a5, .ref a6, .ref a7, .null, .null, .null, .null]) dX9_init_58 jfX9_30 rfl rfl (Nat.le_of_ble_eq_true rfl) rfl ?_
  refine n_aload 0 dX9_init_61 rfl rfl ?_
  refine n_bipush dX9_init_62 (by decide) ?_
  refine n_newa (t0 := 0) (ty := .int) (N := 6) (z := .inl (fun _ => i32 0)) dX9_init_64 wA_int rfl rfl (fun _ _ h => h) (fun _ => rfl) (by decide) (by decide) (Nat.le_of_ble_eq_true rfl) (Nat.le_of_ble_eq_true rfl) (Nat.le_of_ble_eq_true rfl) (fun a8 => ?_)
  refine n_putF (fs' := [vI 0, .ref a1, .ref a2, .ref a3, .ref a4, .ref a5, .ref a6, .ref a7, .ref a8, .null, .null, .null]) dX9_init_66 jfX9_33 rfl rfl (Nat.le_of_ble_eq_true rfl) rfl ?_
  refine n_aload 0 dX9_init_69 rfl rfl ?_
  refine n_bipush dX9_init_70 (by decide) ?_
  refine n_newa (t0 := 0) (ty := .int) (N := 6) (z := .inl (fun _ => i32 0)) dX9_init_72 wA_int rfl rfl (fun _ _ h => h) (fun _ => rfl) (by decide) (by decide) (Nat.le_of_ble_eq_true rfl) (Nat.le_of_ble_eq_true rfl) (Nat.le_of_ble_eq_true rfl) (fun a9 => ?_)
  refine n_putF (fs' := [vI 0, .ref a1, .ref a2, .ref a3, .ref a4, .ref a5, .ref a6, .ref a7, .ref a8, .ref a9, .null, .null]) dX9_init_74 jfX9_36 rfl rfl (Nat.le_of_ble_eq_true rfl) rfl ?_
  refine n_aload 0 dX9_init_77 rfl rfl ?_
  refine n_bipush dX9_init_78 (by decide) ?_
  refine n_newa (t0 := 2) (ty := .boolean) (N := 6) (z := .inl (fun _ => i32 0)) dX9_init_80 wA_boolean rfl rfl (fun _ _ h => h) (fun _ => rfl) (by decide) (by decide) (Nat.le_of_ble_eq_true rfl) (Nat.le_of_ble_eq_true rfl) (Nat.le_of_ble_eq_true rfl) (fun a10 => ?_)
  refine n_putF (fs' := [vI 0, .ref a1, .ref a2, .ref a3, .ref a4, .ref a5, .ref a6, .ref a7, .ref a8, .ref a9, .ref a10, .null]) dX9_init_82 jfX9_39 rfl rfl (Nat.le_of_ble_eq_true rfl) rfl ?_
  refine n_aload 0 dX9_init_85 rfl rfl ?_
  refine n_bipush dX9_init_86 (by decide) ?_
  refine n_newa (t0 := 0) (ty := .int) (N := 6) (z := .inl (fun _ => i32 0)) dX9_init_88 wA_int rfl rfl (fun _ _ h => h) (fun _ => rfl) (by decide) (by decide) (Nat.le_of_ble_eq_true rfl) (Nat.le_of_ble_eq_true rfl) (Nat.le_of_ble_eq_true rfl) (fun a11 => ?_)
  refine n_putF (fs' := [vI 0, .ref a1, .ref a2, .ref a3, .ref a4, .ref a5, .ref a6, .ref a7, .ref a8, .ref a9, .ref a10, .ref a11]) dX9_init_90 jfX9_43 rfl rfl (Nat.le_of_ble_eq_true rfl) rfl ?_
  exact n_ret dX9_init_93 rfl (fun j => cond (Nat.ble j 0) (h0) (cond (Nat.ble j 1) (a1) (cond (Nat.ble j 2) (a2) (cond (Nat.ble j 3) (a3) (cond (Nat.ble j 4) (a4) (cond (Nat.ble j 5) (a5) (cond (Nat.ble j 6) (a6) (cond (Nat.ble j 7) (a7) (cond (Nat.ble j 8) (a8) (cond (Nat.ble j 9) (a9) (cond (Nat.ble j 10) (a10) (cond (Nat.ble j 11) (a11) (0))))))))))))) rfl rfl (Nat.le_of_ble_eq_true rfl) (Nat.le_of_ble_eq_true rfl)
def tX10 (cA : FieldType → ClassId) (q : Nat → Nat) : va_W := (q 0, .inr (10, [.ref (q 1), vI 0, vI 0, vI (-1), .ref (q 2), .ref (q 3), .ref (q 4), .ref (q 5)])) :: ((((([] ++ [(q 1, .inl (cA .byte, 600, .inl (fun _ => i32 0)))]) ++ [(q 2, .inl (cA .int, 3, .inl (fun _ => i32 0)))]) ++ [(q 3, .inl (cA .int, 8, .inl (fun _ => i32 0)))]) ++ [(q 4, .inl (cA .int, 640, .inl (fun _ => i32 0)))]) ++ [(q 5, .inl (cA .int, 4, .inl (fun _ => i32 0)))])
set_option maxRecDepth 100000 in
set_option maxHeartbeats 4000000 in
theorem cX10_init_ (l : Launch) (D : va_G) (cA : FieldType → ClassId) : nCt l D cA mX10_init (.inr (10, [.null, vI 0, vI 0, vI 0, .null, .null, .null, .null])) (tX10 cA) := by
  intro h0 sz
  refine n_entry rfl rfl (Nat.le_of_ble_eq_true rfl) (fun A => ?_)
  refine n_aload 0 dX10_init_0 rfl rfl ?_
  refine n_obj dX10_init_1 ⟨joX10_3, wO_i, wO_c⟩ (Nat.le_of_ble_eq_true rfl) (Nat.le_of_ble_eq_true rfl) ?_
  refine n_aload 0 dX10_init_4 rfl rfl ?_
  refine n_sipush dX10_init_5 (by decide) ?_
  refine n_newa (t0 := 1) (ty := .byte) (N := 600) (z := .inl (fun _ => i32 0)) dX10_init_8 wA_byte rfl rfl (fun _ _ h => h) (fun _ => rfl) (by decide) (by decide) (Nat.le_of_ble_eq_true rfl) (Nat.le_of_ble_eq_true rfl) (Nat.le_of_ble_eq_true rfl) (fun a1 => ?_)
  refine n_putF (fs' := [.ref a1, vI 0, vI 0, vI 0, .null, .null, .null, .null]) dX10_init_10 jfX10_9 rfl rfl (Nat.le_of_ble_eq_true rfl) rfl ?_
  refine n_aload 0 dX10_init_13 rfl rfl ?_
  refine n_iconst dX10_init_14 ?_
  refine n_put (fs' := [.ref a1, vI 0, vI 0, vI 0, .null, .null, .null, .null]) dX10_init_15 jfX10_15 rfl rfl (Nat.le_of_ble_eq_true rfl) rfl ?_
  refine n_aload 0 dX10_init_18 rfl rfl ?_
  refine n_iconst dX10_init_19 ?_
  refine n_put (fs' := [.ref a1, vI 0, vI 0, vI 0, .null, .null, .null, .null]) dX10_init_20 jfX10_19 rfl rfl (Nat.le_of_ble_eq_true rfl) rfl ?_
  refine n_aload 0 dX10_init_23 rfl rfl ?_
  refine n_iconst dX10_init_24 ?_
  refine n_put (fs' := [.ref a1, vI 0, vI 0, vI (-1), .null, .null, .null, .null]) dX10_init_25 jfX10_22 rfl rfl (Nat.le_of_ble_eq_true rfl) rfl ?_
  refine n_aload 0 dX10_init_28 rfl rfl ?_
  refine n_iconst dX10_init_29 ?_
  refine n_newa (t0 := 0) (ty := .int) (N := 3) (z := .inl (fun _ => i32 0)) dX10_init_30 wA_int rfl rfl (fun _ _ h => h) (fun _ => rfl) (by decide) (by decide) (Nat.le_of_ble_eq_true rfl) (Nat.le_of_ble_eq_true rfl) (Nat.le_of_ble_eq_true rfl) (fun a2 => ?_)
  refine n_putF (fs' := [.ref a1, vI 0, vI 0, vI (-1), .ref a2, .null, .null, .null]) dX10_init_32 jfX10_25 rfl rfl (Nat.le_of_ble_eq_true rfl) rfl ?_
  refine n_aload 0 dX10_init_35 rfl rfl ?_
  refine n_bipush dX10_init_36 (by decide) ?_
  refine n_newa (t0 := 0) (ty := .int) (N := 8) (z := .inl (fun _ => i32 0)) dX10_init_38 wA_int rfl rfl (fun _ _ h => h) (fun _ => rfl) (by decide) (by decide) (Nat.le_of_ble_eq_true rfl) (Nat.le_of_ble_eq_true rfl) (Nat.le_of_ble_eq_true rfl) (fun a3 => ?_)
  refine n_putF (fs' := [.ref a1, vI 0, vI 0, vI (-1), .ref a2, .ref a3, .null, .null]) dX10_init_40 jfX10_29 rfl rfl (Nat.le_of_ble_eq_true rfl) rfl ?_
  refine n_aload 0 dX10_init_43 rfl rfl ?_
  refine n_sipush dX10_init_44 (by decide) ?_
  refine n_newa (t0 := 0) (ty := .int) (N := 640) (z := .inl (fun _ => i32 0)) dX10_init_47 wA_int rfl rfl (fun _ _ h => h) (fun _ => rfl) (by decide) (by decide) (Nat.le_of_ble_eq_true rfl) (Nat.le_of_ble_eq_true rfl) (Nat.le_of_ble_eq_true rfl) (fun a4 => ?_)
  refine n_putF (fs' := [.ref a1, vI 0, vI 0, vI (-1), .ref a2, .ref a3, .ref a4, .null]) dX10_init_49 jfX10_32 rfl rfl (Nat.le_of_ble_eq_true rfl) rfl ?_
  refine n_aload 0 dX10_init_52 rfl rfl ?_
  refine n_iconst dX10_init_53 ?_
  refine n_newa (t0 := 0) (ty := .int) (N := 4) (z := .inl (fun _ => i32 0)) dX10_init_54 wA_int rfl rfl (fun _ _ h => h) (fun _ => rfl) (by decide) (by decide) (Nat.le_of_ble_eq_true rfl) (Nat.le_of_ble_eq_true rfl) (Nat.le_of_ble_eq_true rfl) (fun a5 => ?_)
  refine n_putF (fs' := [.ref a1, vI 0, vI 0, vI (-1), .ref a2, .ref a3, .ref a4, .ref a5]) dX10_init_56 jfX10_35 rfl rfl (Nat.le_of_ble_eq_true rfl) rfl ?_
  exact n_ret dX10_init_59 rfl (fun j => cond (Nat.ble j 0) (h0) (cond (Nat.ble j 1) (a1) (cond (Nat.ble j 2) (a2) (cond (Nat.ble j 3) (a3) (cond (Nat.ble j 4) (a4) (cond (Nat.ble j 5) (a5) (0))))))) rfl rfl (Nat.le_of_ble_eq_true rfl) (Nat.le_of_ble_eq_true rfl)
def tX2 (cA : FieldType → ClassId) (q : Nat → Nat) : va_W := (q 0, .inr (2, [.ref (q 1), vI 0, .ref (q 7), .ref (q 8), vI 0, vI 0])) :: ((([] ++ tX4 cA (fun j => q (1 + j))) ++ [(q 7, .inl (cA .long, 61, .inr (.inl (fun _ => i64 0))))]) ++ [(q 8, .inl (cA .int, 60, .inl (fun _ => i32 0)))])
set_option maxRecDepth 100000 in
set_option maxHeartbeats 4000000 in
theorem cX2_init_ (l : Launch) (D : va_G) (cA : FieldType → ClassId) : nCt l D cA mX2_init (.inr (2, [.null, vI 0, .null, .null, vI 0, vI 0])) (tX2 cA) := by
  intro h0 sz
  refine n_entry rfl rfl (Nat.le_of_ble_eq_true rfl) (fun A => ?_)
  refine n_aload 0 dX2_init_0 rfl rfl ?_
  refine n_obj dX2_init_1 ⟨joX2_3, wO_i, wO_c⟩ (Nat.le_of_ble_eq_true rfl) (Nat.le_of_ble_eq_true rfl) ?_
  refine n_aload 0 dX2_init_4 rfl rfl ?_
  refine n_new dX2_init_5 jnX2_9 (Nat.le_of_ble_eq_true rfl) (Nat.le_of_ble_eq_true rfl) (fun b1 => ?_)
  refine n_dup dX2_init_8 rfl ?_
  refine n_call (hb := b1) dX2_init_9 jmX2_11 (cX4_init_ l D cA) ⟨Nat.le_of_ble_eq_true rfl, Nat.le_of_ble_eq_true rfl⟩ (Nat.le_of_ble_eq_true rfl) (Nat.le_of_ble_eq_true rfl) (Nat.le_of_ble_eq_true rfl) (fun q2 eq2 => ?_)
  subst eq2
  refine n_putF (fs' := [.ref (q2 0), vI 0, .null, .null, vI 0, vI 0]) dX2_init_12 jfX2_12 rfl rfl (Nat.le_of_ble_eq_true rfl) rfl ?_
  refine n_aload 0 dX2_init_15 rfl rfl ?_
  refine n_bipush dX2_init_16 (by decide) ?_
  refine n_newa (t0 := 3) (ty := .long) (N := 61) (z := .inr (.inl (fun _ => i64 0))) dX2_init_18 wA_long rfl rfl (fun _ _ h => h) (fun _ => rfl) (by decide) (by decide) (Nat.le_of_ble_eq_true rfl) (Nat.le_of_ble_eq_true rfl) (Nat.le_of_ble_eq_true rfl) (fun a3 => ?_)
  refine n_putF (fs' := [.ref (q2 0), vI 0, .ref a3, .null, vI 0, vI 0]) dX2_init_20 jfX2_18 rfl rfl (Nat.le_of_ble_eq_true rfl) rfl ?_
  refine n_aload 0 dX2_init_23 rfl rfl ?_
  refine n_bipush dX2_init_24 (by decide) ?_
  refine n_newa (t0 := 0) (ty := .int) (N := 60) (z := .inl (fun _ => i32 0)) dX2_init_26 wA_int rfl rfl (fun _ _ h => h) (fun _ => rfl) (by decide) (by decide) (Nat.le_of_ble_eq_true rfl) (Nat.le_of_ble_eq_true rfl) (Nat.le_of_ble_eq_true rfl) (fun a4 => ?_)
  refine n_putF (fs' := [.ref (q2 0), vI 0, .ref a3, .ref a4, vI 0, vI 0]) dX2_init_28 jfX2_22 rfl rfl (Nat.le_of_ble_eq_true rfl) rfl ?_
  exact n_ret dX2_init_31 rfl (fun j => cond (Nat.ble j 0) (h0) (cond (Nat.ble j 6) (q2 (j - 1)) (cond (Nat.ble j 7) (a3) (cond (Nat.ble j 8) (a4) (0))))) rfl rfl (Nat.le_of_ble_eq_true rfl) (Nat.le_of_ble_eq_true rfl)
def tX8 (cA : FieldType → ClassId) (q : Nat → Nat) : va_W := (q 0, .inr (8, [.ref (q 1), .ref (q 9), .ref (q 13), vI 1, vI 0, vI 0, vI 0, vI 0, vI 0, vI 0, vI 0, .ref (q 19), .ref (q 20), .ref (q 21), .ref (q 22), .ref (q 23), .ref (q 24), .ref (q 25), vI 0])) :: (((((((((([] ++ tX0 cA (fun j => q (1 + j))) ++ tX6 cA (fun j => q (9 + j))) ++ tX4 cA (fun j => q (13 + j))) ++ [(q 19, .inl (cA .int, 6, .inl (fun _ => i32 0)))]) ++ [(q 20, .inl (cA .int, 6, .inl (fun _ => i32 0)))]) ++ [(q 21, .inl (cA .int, 36, .inl (fun _ => i32 0)))]) ++ [(q 22, .inl (cA .int, 324, .inl (fun _ => i32 0)))]) ++ [(q 23, .inl (cA .int, 6, .inl (fun _ => i32 0)))]) ++ [(q 24, .inl (cA .int, 54, .inl (fun _ => i32 0)))]) ++ [(q 25, .inl (cA .int, 6, .inl (fun _ => i32 0)))])
set_option maxRecDepth 100000 in
set_option maxHeartbeats 4000000 in
theorem cX8_init_ (l : Launch) (D : va_G) (cA : FieldType → ClassId) : nCt l D cA mX8_init (.inr (8, [.null, .null, .null, vI 0, vI 0, vI 0, vI 0, vI 0, vI 0, vI 0, vI 0, .null, .null, .null, .null, .null, .null, .null, vI 0])) (tX8 cA) := by
  intro h0 sz
  refine n_entry rfl rfl (Nat.le_of_ble_eq_true rfl) (fun A => ?_)
  refine n_aload 0 dX8_init_0 rfl rfl ?_
  refine n_obj dX8_init_1 ⟨joX8_3, wO_i, wO_c⟩ (Nat.le_of_ble_eq_true rfl) (Nat.le_of_ble_eq_true rfl) ?_
  refine n_aload 0 dX8_init_4 rfl rfl ?_
  refine n_new dX8_init_5 jnX8_9 (Nat.le_of_ble_eq_true rfl) (Nat.le_of_ble_eq_true rfl) (fun b1 => ?_)
  refine n_dup dX8_init_8 rfl ?_
  refine n_call (hb := b1) dX8_init_9 jmX8_11 (cX0_init_ l D cA) ⟨Nat.le_of_ble_eq_true rfl, Nat.le_of_ble_eq_true rfl⟩ (Nat.le_of_ble_eq_true rfl) (Nat.le_of_ble_eq_true rfl) (Nat.le_of_ble_eq_true rfl) (fun q2 eq2 => ?_)
  subst eq2
  refine n_putF (fs' := [.ref (q2 0), .null, .null, vI 0, vI 0, vI 0, vI 0, vI 0, vI 0, vI 0, vI 0, .null, .null, .null, .null, .null, .null, .null, vI 0]) dX8_init_12 jfX8_12 rfl rfl (Nat.le_of_ble_eq_true rfl) rfl ?_
  refine n_aload 0 dX8_init_15 rfl rfl ?_
  refine n_new dX8_init_16 jnX8_18 (Nat.le_of_ble_eq_true rfl) (Nat.le_of_ble_eq_true rfl) (fun b3 => ?_)
  refine n_dup dX8_init_19 rfl ?_
  refine n_call (hb := b3) dX8_init_20 jmX8_20 (cX6_init_ l D cA) ⟨Nat.le_of_ble_eq_true rfl, Nat.le_of_ble_eq_true rfl⟩ (Nat.le_of_ble_eq_true rfl) (Nat.le_of_ble_eq_true rfl) (Nat.le_of_ble_eq_true rfl) (fun q4 eq4 => ?_)
  subst eq4
  refine n_putF (fs' := [.ref (q2 0), .ref (q4 0), .null, vI 0, vI 0, vI 0, vI 0, vI 0, vI 0, vI 0, vI 0, .null, .null, .null, .null, .null, .null, .null, vI 0]) dX8_init_23 jfX8_21 rfl rfl (Nat.le_of_ble_eq_true rfl) rfl ?_
  refine n_aload 0 dX8_init_26 rfl rfl ?_
  refine n_new dX8_init_27 jnX8_25 (Nat.le_of_ble_eq_true rfl) (Nat.le_of_ble_eq_true rfl) (fun b5 => ?_)
  refine n_dup dX8_init_30 rfl ?_
  refine n_call (hb := b5) dX8_init_31 jmX8_27 (cX4_init_ l D cA) ⟨Nat.le_of_ble_eq_true rfl, Nat.le_of_ble_eq_true rfl⟩ (Nat.le_of_ble_eq_true rfl) (Nat.le_of_ble_eq_true rfl) (Nat.le_of_ble_eq_true rfl) (fun q6 eq6 => ?_)
  subst eq6
  refine n_putF (fs' := [.ref (q2 0), .ref (q4 0), .ref (q6 0), vI 0, vI 0, vI 0, vI 0, vI 0, vI 0, vI 0, vI 0, .null, .null, .null, .null, .null, .null, .null, vI 0]) dX8_init_34 jfX8_28 rfl rfl (Nat.le_of_ble_eq_true rfl) rfl ?_
  refine n_aload 0 dX8_init_37 rfl rfl ?_
  refine n_iconst dX8_init_38 ?_
  refine n_put (fs' := [.ref (q2 0), .ref (q4 0), .ref (q6 0), vI 1, vI 0, vI 0, vI 0, vI 0, vI 0, vI 0, vI 0, .null, .null, .null, .null, .null, .null, .null, vI 0]) dX8_init_39 jfX8_32 rfl rfl (Nat.le_of_ble_eq_true rfl) rfl ?_
  refine n_aload 0 dX8_init_42 rfl rfl ?_
  refine n_bipush dX8_init_43 (by decide) ?_
  refine n_newa (t0 := 0) (ty := .int) (N := 6) (z := .inl (fun _ => i32 0)) dX8_init_45 wA_int rfl rfl (fun _ _ h => h) (fun _ => rfl) (by decide) (by decide) (Nat.le_of_ble_eq_true rfl) (Nat.le_of_ble_eq_true rfl) (Nat.le_of_ble_eq_true rfl) (fun a7 => ?_)
  refine n_putF (fs' := [.ref (q2 0), .ref (q4 0), .ref (q6 0), vI 1, vI 0, vI 0, vI 0, vI 0, vI 0, vI 0, vI 0, .ref a7, .null, .null, .null, .null, .null, .null, vI 0]) dX8_init_47 jfX8_36 rfl rfl (Nat.le_of_ble_eq_true rfl) rfl ?_
  refine n_aload 0 dX8_init_50 rfl rfl ?_
  refine n_bipush dX8_init_51 (by decide) ?_
  refine n_newa (t0 := 0) (ty := .int) (N := 6) (z := .inl (fun _ => i32 0)) dX8_init_53 wA_int rfl rfl (fun _ _ h => h) (fun _ => rfl) (by decide) (by decide) (Nat.le_of_ble_eq_true rfl) (Nat.le_of_ble_eq_true rfl) (Nat.le_of_ble_eq_true rfl) (fun a8 => ?_)
  refine n_putF (fs' := [.ref (q2 0), .ref (q4 0), .ref (q6 0), vI 1, vI 0, vI 0, vI 0, vI 0, vI 0, vI 0, vI 0, .ref a7, .ref a8, .null, .null, .null, .null, .null, vI 0]) dX8_init_55 jfX8_40 rfl rfl (Nat.le_of_ble_eq_true rfl) rfl ?_
  refine n_aload 0 dX8_init_58 rfl rfl ?_
  refine n_bipush dX8_init_59 (by decide) ?_
  refine n_newa (t0 := 0) (ty := .int) (N := 36) (z := .inl (fun _ => i32 0)) dX8_init_61 wA_int rfl rfl (fun _ _ h => h) (fun _ => rfl) (by decide) (by decide) (Nat.le_of_ble_eq_true rfl) (Nat.le_of_ble_eq_true rfl) (Nat.le_of_ble_eq_true rfl) (fun a9 => ?_)
  refine n_putF (fs' := [.ref (q2 0), .ref (q4 0), .ref (q6 0), vI 1, vI 0, vI 0, vI 0, vI 0, vI 0, vI 0, vI 0, .ref a7, .ref a8, .ref a9, .null, .null, .null, .null, vI 0]) dX8_init_63 jfX8_43 rfl rfl (Nat.le_of_ble_eq_true rfl) rfl ?_
  refine n_aload 0 dX8_init_66 rfl rfl ?_
  refine n_sipush dX8_init_67 (by decide) ?_
  refine n_newa (t0 := 0) (ty := .int) (N := 324) (z := .inl (fun _ => i32 0)) dX8_init_70 wA_int rfl rfl (fun _ _ h => h) (fun _ => rfl) (by decide) (by decide) (Nat.le_of_ble_eq_true rfl) (Nat.le_of_ble_eq_true rfl) (Nat.le_of_ble_eq_true rfl) (fun a10 => ?_)
  refine n_putF (fs' := [.ref (q2 0), .ref (q4 0), .ref (q6 0), vI 1, vI 0, vI 0, vI 0, vI 0, vI 0, vI 0, vI 0, .ref a7, .ref a8, .ref a9, .ref a10, .null, .null, .null, vI 0]) dX8_init_72 jfX8_46 rfl rfl (Nat.le_of_ble_eq_true rfl) rfl ?_
  refine n_aload 0 dX8_init_75 rfl rfl ?_
  refine n_bipush dX8_init_76 (by decide) ?_
  refine n_newa (t0 := 0) (ty := .int) (N := 6) (z := .inl (fun _ => i32 0)) dX8_init_78 wA_int rfl rfl (fun _ _ h => h) (fun _ => rfl) (by decide) (by decide) (Nat.le_of_ble_eq_true rfl) (Nat.le_of_ble_eq_true rfl) (Nat.le_of_ble_eq_true rfl) (fun a11 => ?_)
  refine n_putF (fs' := [.ref (q2 0), .ref (q4 0), .ref (q6 0), vI 1, vI 0, vI 0, vI 0, vI 0, vI 0, vI 0, vI 0, .ref a7, .ref a8, .ref a9, .ref a10, .ref a11, .null, .null, vI 0]) dX8_init_80 jfX8_49 rfl rfl (Nat.le_of_ble_eq_true rfl) rfl ?_
  refine n_aload 0 dX8_init_83 rfl rfl ?_
  refine n_bipush dX8_init_84 (by decide) ?_
  refine n_newa (t0 := 0) (ty := .int) (N := 54) (z := .inl (fun _ => i32 0)) dX8_init_86 wA_int rfl rfl (fun _ _ h => h) (fun _ => rfl) (by decide) (by decide) (Nat.le_of_ble_eq_true rfl) (Nat.le_of_ble_eq_true rfl) (Nat.le_of_ble_eq_true rfl) (fun a12 => ?_)
  refine n_putF (fs' := [.ref (q2 0), .ref (q4 0), .ref (q6 0), vI 1, vI 0, vI 0, vI 0, vI 0, vI 0, vI 0, vI 0, .ref a7, .ref a8, .ref a9, .ref a10, .ref a11, .ref a12, .null, vI 0]) dX8_init_88 jfX8_52 rfl rfl (Nat.le_of_ble_eq_true rfl) rfl ?_
  refine n_aload 0 dX8_init_91 rfl rfl ?_
  refine n_bipush dX8_init_92 (by decide) ?_
  refine n_newa (t0 := 0) (ty := .int) (N := 6) (z := .inl (fun _ => i32 0)) dX8_init_94 wA_int rfl rfl (fun _ _ h => h) (fun _ => rfl) (by decide) (by decide) (Nat.le_of_ble_eq_true rfl) (Nat.le_of_ble_eq_true rfl) (Nat.le_of_ble_eq_true rfl) (fun a13 => ?_)
  refine n_putF (fs' := [.ref (q2 0), .ref (q4 0), .ref (q6 0), vI 1, vI 0, vI 0, vI 0, vI 0, vI 0, vI 0, vI 0, .ref a7, .ref a8, .ref a9, .ref a10, .ref a11, .ref a12, .ref a13, vI 0]) dX8_init_96 jfX8_55 rfl rfl (Nat.le_of_ble_eq_true rfl) rfl ?_
  exact n_ret dX8_init_99 rfl (fun j => cond (Nat.ble j 0) (h0) (cond (Nat.ble j 8) (q2 (j - 1)) (cond (Nat.ble j 12) (q4 (j - 9)) (cond (Nat.ble j 18) (q6 (j - 13)) (cond (Nat.ble j 19) (a7) (cond (Nat.ble j 20) (a8) (cond (Nat.ble j 21) (a9) (cond (Nat.ble j 22) (a10) (cond (Nat.ble j 23) (a11) (cond (Nat.ble j 24) (a12) (cond (Nat.ble j 25) (a13) (0)))))))))))) rfl rfl (Nat.le_of_ble_eq_true rfl) (Nat.le_of_ble_eq_true rfl)
