def tX11 (cA : FieldType → ClassId) (q : Nat → Nat) : va_W := (q 0, .inr (11, [.ref (q 1), .ref (q 7), .ref (q 26), .ref (q 27), .ref (q 32), .ref (q 58), .ref (q 67), .ref (q 69), .ref (q 81), .ref (q 84)])) :: ((((((((((((([] ++ tX10 cA (fun j => q (1 + j))) ++ [(q 7, .inl (cA (.object RX10), 3, .inr (.inr (.inr (.inr (fun k => ([q 8, q 14, q 20] : List Nat)[k]?))))))]) ++ tX10 cA (fun j => q (8 + j))) ++ tX10 cA (fun j => q (14 + j))) ++ tX10 cA (fun j => q (20 + j))) ++ [(q 26, .inl (cA .boolean, 3, .inl (fun _ => i32 0)))]) ++ tX7 cA (fun j => q (27 + j))) ++ tX8 cA (fun j => q (32 + j))) ++ tX2 cA (fun j => q (58 + j))) ++ tX3 cA (fun j => q (67 + j))) ++ tX9 cA (fun j => q (69 + j))) ++ tX5 cA (fun j => q (81 + j))) ++ tX1 cA (fun j => q (84 + j)))
set_option maxRecDepth 100000 in
set_option maxHeartbeats 4000000 in
theorem cX11_init_9 (l : Launch) (D : va_G) (cA : FieldType → ClassId) (A : Nat → Prop) (h0 : Nat) (q2 : Nat → Nat) (a3 : Nat) (q5 : Nat → Nat) (q7 : Nat → Nat) (q9 : Nat → Nat) (a10 : Nat) (q12 : Nat → Nat) (q14 : Nat → Nat) (q16 : Nat → Nat) (q18 : Nat → Nat) (q20 : Nat → Nat) (q22 : Nat → Nat) : nAt l D cA A mX11_init (nQc D h0 (tX11 cA) A) 122 [(1, vI 3), (0, .ref h0)] [] ((h0, .inr (11, [.ref (q2 0), .ref a3, .ref a10, .ref (q12 0), .ref (q14 0), .ref (q16 0), .ref (q18 0), .ref (q20 0), .ref (q22 0), .null])) :: (((((((((((([] ++ tX10 cA q2) ++ [(a3, .inl (cA (.object RX10), 3, .inr (.inr (.inr (.inr (fun k => ([(q5 0), (q7 0), (q9 0)] : List Nat)[k]?))))))]) ++ tX10 cA q5) ++ tX10 cA q7) ++ tX10 cA q9) ++ [(a10, .inl (cA .boolean, 3, .inl (fun _ => i32 0)))]) ++ tX7 cA q12) ++ tX8 cA q14) ++ tX2 cA q16) ++ tX3 cA q18) ++ tX9 cA q20) ++ tX5 cA q22)) 83 10550 := by
  refine n_aload 1 dX11_init_122 rfl rfl ?_
  refine n_new dX11_init_123 jnX11_66 (Nat.le_of_ble_eq_true rfl) (Nat.le_of_ble_eq_true rfl) (fun b23 => ?_)
  refine n_dup dX11_init_126 rfl ?_
  refine n_call (hb := b23) dX11_init_127 jmX11_68 (cX1_init_ l D cA) ⟨Nat.le_of_ble_eq_true rfl, Nat.le_of_ble_eq_true rfl⟩ (Nat.le_of_ble_eq_true rfl) (Nat.le_of_ble_eq_true rfl) (Nat.le_of_ble_eq_true rfl) (fun q24 eq24 => ?_)
  subst eq24
  refine n_putF (fs' := [.ref (q2 0), .ref a3, .ref a10, .ref (q12 0), .ref (q14 0), .ref (q16 0), .ref (q18 0), .ref (q20 0), .ref (q22 0), .ref (q24 0)]) dX11_init_130 jfX11_69 rfl rfl (Nat.le_of_ble_eq_true rfl) rfl ?_
  exact n_ret dX11_init_133 rfl (fun j => cond (Nat.ble j 0) (h0) (cond (Nat.ble j 6) (q2 (j - 1)) (cond (Nat.ble j 7) (a3) (cond (Nat.ble j 13) (q5 (j - 8)) (cond (Nat.ble j 19) (q7 (j - 14)) (cond (Nat.ble j 25) (q9 (j - 20)) (cond (Nat.ble j 26) (a10) (cond (Nat.ble j 31) (q12 (j - 27)) (cond (Nat.ble j 57) (q14 (j - 32)) (cond (Nat.ble j 66) (q16 (j - 58)) (cond (Nat.ble j 68) (q18 (j - 67)) (cond (Nat.ble j 80) (q20 (j - 69)) (cond (Nat.ble j 83) (q22 (j - 81)) (cond (Nat.ble j 87) (q24 (j - 84)) (0))))))))))))))) rfl rfl (Nat.le_of_ble_eq_true rfl) (Nat.le_of_ble_eq_true rfl)
set_option maxRecDepth 100000 in
set_option maxHeartbeats 4000000 in
theorem cX11_init_8 (l : Launch) (D : va_G) (cA : FieldType → ClassId) (A : Nat → Prop) (h0 : Nat) (q2 : Nat → Nat) (a3 : Nat) (q5 : Nat → Nat) (q7 : Nat → Nat) (q9 : Nat → Nat) (a10 : Nat) (q12 : Nat → Nat) (q14 : Nat → Nat) (q16 : Nat → Nat) (q18 : Nat → Nat) (q20 : Nat → Nat) : nAt l D cA A mX11_init (nQc D h0 (tX11 cA) A) 111 [(1, vI 3), (0, .ref h0)] [] ((h0, .inr (11, [.ref (q2 0), .ref a3, .ref a10, .ref (q12 0), .ref (q14 0), .ref (q16 0), .ref (q18 0), .ref (q20 0), .null, .null])) :: ((((((((((([] ++ tX10 cA q2) ++ [(a3, .inl (cA (.object RX10), 3, .inr (.inr (.inr (.inr (fun k => ([(q5 0), (q7 0), (q9 0)] : List Nat)[k]?))))))]) ++ tX10 cA q5) ++ tX10 cA q7) ++ tX10 cA q9) ++ [(a10, .inl (cA .boolean, 3, .inl (fun _ => i32 0)))]) ++ tX7 cA q12) ++ tX8 cA q14) ++ tX2 cA q16) ++ tX3 cA q18) ++ tX9 cA q20)) 80 10475 := by
  refine n_aload 1 dX11_init_111 rfl rfl ?_
  refine n_new dX11_init_112 jnX11_59 (Nat.le_of_ble_eq_true rfl) (Nat.le_of_ble_eq_true rfl) (fun b21 => ?_)
  refine n_dup dX11_init_115 rfl ?_
  refine n_call (hb := b21) dX11_init_116 jmX11_61 (cX5_init_ l D cA) ⟨Nat.le_of_ble_eq_true rfl, Nat.le_of_ble_eq_true rfl⟩ (Nat.le_of_ble_eq_true rfl) (Nat.le_of_ble_eq_true rfl) (Nat.le_of_ble_eq_true rfl) (fun q22 eq22 => ?_)
  subst eq22
  refine n_putF (fs' := [.ref (q2 0), .ref a3, .ref a10, .ref (q12 0), .ref (q14 0), .ref (q16 0), .ref (q18 0), .ref (q20 0), .ref (q22 0), .null]) dX11_init_119 jfX11_62 rfl rfl (Nat.le_of_ble_eq_true rfl) rfl ?_
  exact cX11_init_9 l D cA A h0 q2 a3 q5 q7 q9 a10 q12 q14 q16 q18 q20 q22
set_option maxRecDepth 100000 in
set_option maxHeartbeats 4000000 in
theorem cX11_init_7 (l : Launch) (D : va_G) (cA : FieldType → ClassId) (A : Nat → Prop) (h0 : Nat) (q2 : Nat → Nat) (a3 : Nat) (q5 : Nat → Nat) (q7 : Nat → Nat) (q9 : Nat → Nat) (a10 : Nat) (q12 : Nat → Nat) (q14 : Nat → Nat) (q16 : Nat → Nat) (q18 : Nat → Nat) : nAt l D cA A mX11_init (nQc D h0 (tX11 cA) A) 100 [(1, vI 3), (0, .ref h0)] [] ((h0, .inr (11, [.ref (q2 0), .ref a3, .ref a10, .ref (q12 0), .ref (q14 0), .ref (q16 0), .ref (q18 0), .null, .null, .null])) :: (((((((((([] ++ tX10 cA q2) ++ [(a3, .inl (cA (.object RX10), 3, .inr (.inr (.inr (.inr (fun k => ([(q5 0), (q7 0), (q9 0)] : List Nat)[k]?))))))]) ++ tX10 cA q5) ++ tX10 cA q7) ++ tX10 cA q9) ++ [(a10, .inl (cA .boolean, 3, .inl (fun _ => i32 0)))]) ++ tX7 cA q12) ++ tX8 cA q14) ++ tX2 cA q16) ++ tX3 cA q18)) 68 9959 := by
  refine n_aload 1 dX11_init_100 rfl rfl ?_
  refine n_new dX11_init_101 jnX11_52 (Nat.le_of_ble_eq_true rfl) (Nat.le_of_ble_eq_true rfl) (fun b19 => ?_)
  refine n_dup dX11_init_104 rfl ?_
  refine n_call (hb := b19) dX11_init_105 jmX11_54 (cX9_init_ l D cA) ⟨Nat.le_of_ble_eq_true rfl, Nat.le_of_ble_eq_true rfl⟩ (Nat.le_of_ble_eq_true rfl) (Nat.le_of_ble_eq_true rfl) (Nat.le_of_ble_eq_true rfl) (fun q20 eq20 => ?_)
  subst eq20
  refine n_putF (fs' := [.ref (q2 0), .ref a3, .ref a10, .ref (q12 0), .ref (q14 0), .ref (q16 0), .ref (q18 0), .ref (q20 0), .null, .null]) dX11_init_108 jfX11_55 rfl rfl (Nat.le_of_ble_eq_true rfl) rfl ?_
  exact cX11_init_8 l D cA A h0 q2 a3 q5 q7 q9 a10 q12 q14 q16 q18 q20
set_option maxRecDepth 100000 in
set_option maxHeartbeats 4000000 in
theorem cX11_init_6 (l : Launch) (D : va_G) (cA : FieldType → ClassId) (A : Nat → Prop) (h0 : Nat) (q2 : Nat → Nat) (a3 : Nat) (q5 : Nat → Nat) (q7 : Nat → Nat) (q9 : Nat → Nat) (a10 : Nat) (q12 : Nat → Nat) (q14 : Nat → Nat) (q16 : Nat → Nat) : nAt l D cA A mX11_init (nQc D h0 (tX11 cA) A) 89 [(1, vI 3), (0, .ref h0)] [] ((h0, .inr (11, [.ref (q2 0), .ref a3, .ref a10, .ref (q12 0), .ref (q14 0), .ref (q16 0), .null, .null, .null, .null])) :: ((((((((([] ++ tX10 cA q2) ++ [(a3, .inl (cA (.object RX10), 3, .inr (.inr (.inr (.inr (fun k => ([(q5 0), (q7 0), (q9 0)] : List Nat)[k]?))))))]) ++ tX10 cA q5) ++ tX10 cA q7) ++ tX10 cA q9) ++ [(a10, .inl (cA .boolean, 3, .inl (fun _ => i32 0)))]) ++ tX7 cA q12) ++ tX8 cA q14) ++ tX2 cA q16)) 66 9509 := by
  refine n_aload 1 dX11_init_89 rfl rfl ?_
  refine n_new dX11_init_90 jnX11_45 (Nat.le_of_ble_eq_true rfl) (Nat.le_of_ble_eq_true rfl) (fun b17 => ?_)
  refine n_dup dX11_init_93 rfl ?_
  refine n_call (hb := b17) dX11_init_94 jmX11_47 (cX3_init_ l D cA) ⟨Nat.le_of_ble_eq_true rfl, Nat.le_of_ble_eq_true rfl⟩ (Nat.le_of_ble_eq_true rfl) (Nat.le_of_ble_eq_true rfl) (Nat.le_of_ble_eq_true rfl) (fun q18 eq18 => ?_)
  subst eq18
  refine n_putF (fs' := [.ref (q2 0), .ref a3, .ref a10, .ref (q12 0), .ref (q14 0), .ref (q16 0), .ref (q18 0), .null, .null, .null]) dX11_init_97 jfX11_48 rfl rfl (Nat.le_of_ble_eq_true rfl) rfl ?_
  exact cX11_init_7 l D cA A h0 q2 a3 q5 q7 q9 a10 q12 q14 q16 q18
set_option maxRecDepth 100000 in
set_option maxHeartbeats 4000000 in
theorem cX11_init_5 (l : Launch) (D : va_G) (cA : FieldType → ClassId) (A : Nat → Prop) (h0 : Nat) (q2 : Nat → Nat) (a3 : Nat) (q5 : Nat → Nat) (q7 : Nat → Nat) (q9 : Nat → Nat) (a10 : Nat) (q12 : Nat → Nat) (q14 : Nat → Nat) : nAt l D cA A mX11_init (nQc D h0 (tX11 cA) A) 78 [(1, vI 3), (0, .ref h0)] [] ((h0, .inr (11, [.ref (q2 0), .ref a3, .ref a10, .ref (q12 0), .ref (q14 0), .null, .null, .null, .null, .null])) :: (((((((([] ++ tX10 cA q2) ++ [(a3, .inl (cA (.object RX10), 3, .inr (.inr (.inr (.inr (fun k => ([(q5 0), (q7 0), (q9 0)] : List Nat)[k]?))))))]) ++ tX10 cA q5) ++ tX10 cA q7) ++ tX10 cA q9) ++ [(a10, .inl (cA .boolean, 3, .inl (fun _ => i32 0)))]) ++ tX7 cA q12) ++ tX8 cA q14)) 57 9344 := by
  refine n_aload 1 dX11_init_78 rfl rfl ?_
  refine n_new dX11_init_79 jnX11_38 (Nat.le_of_ble_eq_true rfl) (Nat.le_of_ble_eq_true rfl) (fun b15 => ?_)
  refine n_dup dX11_init_82 rfl ?_
  refine n_call (hb := b15) dX11_init_83 jmX11_40 (cX2_init_ l D cA) ⟨Nat.le_of_ble_eq_true rfl, Nat.le_of_ble_eq_true rfl⟩ (Nat.le_of_ble_eq_true rfl) (Nat.le_of_ble_eq_true rfl) (Nat.le_of_ble_eq_true rfl) (fun q16 eq16 => ?_)
  subst eq16
  refine n_putF (fs' := [.ref (q2 0), .ref a3, .ref a10, .ref (q12 0), .ref (q14 0), .ref (q16 0), .null, .null, .null, .null]) dX11_init_86 jfX11_41 rfl rfl (Nat.le_of_ble_eq_true rfl) rfl ?_
  exact cX11_init_6 l D cA A h0 q2 a3 q5 q7 q9 a10 q12 q14 q16
set_option maxRecDepth 100000 in
set_option maxHeartbeats 4000000 in
theorem cX11_init_4 (l : Launch) (D : va_G) (cA : FieldType → ClassId) (A : Nat → Prop) (h0 : Nat) (q2 : Nat → Nat) (a3 : Nat) (q5 : Nat → Nat) (q7 : Nat → Nat) (q9 : Nat → Nat) (a10 : Nat) (q12 : Nat → Nat) : nAt l D cA A mX11_init (nQc D h0 (tX11 cA) A) 67 [(1, vI 3), (0, .ref h0)] [] ((h0, .inr (11, [.ref (q2 0), .ref a3, .ref a10, .ref (q12 0), .null, .null, .null, .null, .null, .null])) :: ((((((([] ++ tX10 cA q2) ++ [(a3, .inl (cA (.object RX10), 3, .inr (.inr (.inr (.inr (fun k => ([(q5 0), (q7 0), (q9 0)] : List Nat)[k]?))))))]) ++ tX10 cA q5) ++ tX10 cA q7) ++ tX10 cA q9) ++ [(a10, .inl (cA .boolean, 3, .inl (fun _ => i32 0)))]) ++ tX7 cA q12)) 31 5237 := by
  refine n_aload 1 dX11_init_67 rfl rfl ?_
  refine n_new dX11_init_68 jnX11_31 (Nat.le_of_ble_eq_true rfl) (Nat.le_of_ble_eq_true rfl) (fun b13 => ?_)
  refine n_dup dX11_init_71 rfl ?_
  refine n_call (hb := b13) dX11_init_72 jmX11_33 (cX8_init_ l D cA) ⟨Nat.le_of_ble_eq_true rfl, Nat.le_of_ble_eq_true rfl⟩ (Nat.le_of_ble_eq_true rfl) (Nat.le_of_ble_eq_true rfl) (Nat.le_of_ble_eq_true rfl) (fun q14 eq14 => ?_)
  subst eq14
  refine n_putF (fs' := [.ref (q2 0), .ref a3, .ref a10, .ref (q12 0), .ref (q14 0), .null, .null, .null, .null, .null]) dX11_init_75 jfX11_34 rfl rfl (Nat.le_of_ble_eq_true rfl) rfl ?_
  exact cX11_init_5 l D cA A h0 q2 a3 q5 q7 q9 a10 q12 q14
set_option maxRecDepth 100000 in
set_option maxHeartbeats 4000000 in
theorem cX11_init_3 (l : Launch) (D : va_G) (cA : FieldType → ClassId) (A : Nat → Prop) (h0 : Nat) (q2 : Nat → Nat) (a3 : Nat) (q5 : Nat → Nat) (q7 : Nat → Nat) (q9 : Nat → Nat) (a10 : Nat) : nAt l D cA A mX11_init (nQc D h0 (tX11 cA) A) 56 [(1, vI 3), (0, .ref h0)] [] ((h0, .inr (11, [.ref (q2 0), .ref a3, .ref a10, .null, .null, .null, .null, .null, .null, .null])) :: (((((([] ++ tX10 cA q2) ++ [(a3, .inl (cA (.object RX10), 3, .inr (.inr (.inr (.inr (fun k => ([(q5 0), (q7 0), (q9 0)] : List Nat)[k]?))))))]) ++ tX10 cA q5) ++ tX10 cA q7) ++ tX10 cA q9) ++ [(a10, .inl (cA .boolean, 3, .inl (fun _ => i32 0)))])) 26 5058 := by
  refine n_aload 1 dX11_init_56 rfl rfl ?_
  refine n_new dX11_init_57 jnX11_24 (Nat.le_of_ble_eq_true rfl) (Nat.le_of_ble_eq_true rfl) (fun b11 => ?_)
  refine n_dup dX11_init_60 rfl ?_
  refine n_call (hb := b11) dX11_init_61 jmX11_26 (cX7_init_ l D cA) ⟨Nat.le_of_ble_eq_true rfl, Nat.le_of_ble_eq_true rfl⟩ (Nat.le_of_ble_eq_true rfl) (Nat.le_of_ble_eq_true rfl) (Nat.le_of_ble_eq_true rfl) (fun q12 eq12 => ?_)
  subst eq12
  refine n_putF (fs' := [.ref (q2 0), .ref a3, .ref a10, .ref (q12 0), .null, .null, .null, .null, .null, .null]) dX11_init_64 jfX11_27 rfl rfl (Nat.le_of_ble_eq_true rfl) rfl ?_
  exact cX11_init_4 l D cA A h0 q2 a3 q5 q7 q9 a10 q12
set_option maxRecDepth 100000 in
set_option maxHeartbeats 4000000 in
theorem cX11_init_2 (l : Launch) (D : va_G) (cA : FieldType → ClassId) (A : Nat → Prop) (h0 : Nat) (q2 : Nat → Nat) (a3 : Nat) : nAt l D cA A mX11_init (nQc D h0 (tX11 cA) A) 23 [(0, .ref h0)] [] ((h0, .inr (11, [.ref (q2 0), .ref a3, .null, .null, .null, .null, .null, .null, .null, .null])) :: (([] ++ tX10 cA q2) ++ [(a3, .inl (cA (.object RX10), 3, .inr (.inr (.inr (.inr (fun _ => none))))))])) 7 1266 := by
  refine n_iconst dX11_init_23 ?_
  refine n_istore (ls' := [(1, vI 0), (0, .ref h0)]) dX11_init_24 rfl (by decide) rfl ?_
  refine n_iload 0 dX11_init_25 rfl rfl ?_
  refine n_iconst dX11_init_26 ?_
  refine n_icmp_ge (tgt := 49) dX11_init_27 (by decide) (by decide) (by decide) (fun n => absurd n (by decide)) (fun _ => ?_)
  refine n_aload 1 dX11_init_30 rfl rfl ?_
  refine n_get (v := .ref a3) dX11_init_31 jfX11_16 rfl ?_
  refine n_iload 0 dX11_init_34 rfl rfl ?_
  refine n_new dX11_init_35 jnX11_9 (Nat.le_of_ble_eq_true rfl) (Nat.le_of_ble_eq_true rfl) (fun b4 => ?_)
  refine n_dup dX11_init_38 rfl ?_
  refine n_call (hb := b4) dX11_init_39 jmX11_11 (cX10_init_ l D cA) ⟨Nat.le_of_ble_eq_true rfl, Nat.le_of_ble_eq_true rfl⟩ (Nat.le_of_ble_eq_true rfl) (Nat.le_of_ble_eq_true rfl) (Nat.le_of_ble_eq_true rfl) (fun q5 eq5 => ?_)
  subst eq5
  refine n_aast (q0 := 7) (t0 := 4) (qk := 8) (N := 3) (g := va_up (fun _ => none) 0 (some (q5 0))) (ws' := (h0, .inr (11, [.ref (q2 0), .ref a3, .null, .null, .null, .null, .null, .null, .null, .null])) :: ((([] ++ tX10 cA q2) ++ [(a3, .inl (cA (.object RX10), 3, .inr (.inr (.inr (.inr (va_up (fun _ => none) 0 (some (q5 0))))))))]) ++ tX10 cA q5)) dX11_init_42 rfl rfl rfl (by unfold vp_in; decide) (by rw [show (i32 0).toNatClampNeg = 0 from by decide]) rfl ?_
  refine n_iinc (y := 1) (ls' := [(1, vI 1), (0, .ref h0)]) 0 dX11_init_43 rfl (by decide) (by decide) rfl ?_
  refine n_goto (tgt := 25) dX11_init_46 (by decide) ?_
  refine n_iload 0 dX11_init_25 rfl rfl ?_
  refine n_iconst dX11_init_26 ?_
  refine n_icmp_ge (tgt := 49) dX11_init_27 (by decide) (by decide) (by decide) (fun n => absurd n (by decide)) (fun _ => ?_)
  refine n_aload 1 dX11_init_30 rfl rfl ?_
  refine n_get (v := .ref a3) dX11_init_31 jfX11_16 rfl ?_
  refine n_iload 0 dX11_init_34 rfl rfl ?_
  refine n_new dX11_init_35 jnX11_9 (Nat.le_of_ble_eq_true rfl) (Nat.le_of_ble_eq_true rfl) (fun b6 => ?_)
  refine n_dup dX11_init_38 rfl ?_
  refine n_call (hb := b6) dX11_init_39 jmX11_11 (cX10_init_ l D cA) ⟨Nat.le_of_ble_eq_true rfl, Nat.le_of_ble_eq_true rfl⟩ (Nat.le_of_ble_eq_true rfl) (Nat.le_of_ble_eq_true rfl) (Nat.le_of_ble_eq_true rfl) (fun q7 eq7 => ?_)
  subst eq7
  refine n_aast (q0 := 7) (t0 := 4) (qk := 14) (N := 3) (g := va_up (va_up (fun _ => none) 0 (some (q5 0))) 1 (some (q7 0))) (ws' := (h0, .inr (11, [.ref (q2 0), .ref a3, .null, .null, .null, .null, .null, .null, .null, .null])) :: (((([] ++ tX10 cA q2) ++ [(a3, .inl (cA (.object RX10), 3, .inr (.inr (.inr (.inr (va_up (va_up (fun _ => none) 0 (some (q5 0))) 1 (some (q7 0))))))))]) ++ tX10 cA q5) ++ tX10 cA q7)) dX11_init_42 rfl rfl rfl (by unfold vp_in; decide) (by rw [show (i32 1).toNatClampNeg = 1 from by decide]) rfl ?_
  refine n_iinc (y := 2) (ls' := [(1, vI 2), (0, .ref h0)]) 0 dX11_init_43 rfl (by decide) (by decide) rfl ?_
  refine n_goto (tgt := 25) dX11_init_46 (by decide) ?_
  refine n_iload 0 dX11_init_25 rfl rfl ?_
  refine n_iconst dX11_init_26 ?_
  refine n_icmp_ge (tgt := 49) dX11_init_27 (by decide) (by decide) (by decide) (fun n => absurd n (by decide)) (fun _ => ?_)
  refine n_aload 1 dX11_init_30 rfl rfl ?_
  refine n_get (v := .ref a3) dX11_init_31 jfX11_16 rfl ?_
  refine n_iload 0 dX11_init_34 rfl rfl ?_
  refine n_new dX11_init_35 jnX11_9 (Nat.le_of_ble_eq_true rfl) (Nat.le_of_ble_eq_true rfl) (fun b8 => ?_)
  refine n_dup dX11_init_38 rfl ?_
  refine n_call (hb := b8) dX11_init_39 jmX11_11 (cX10_init_ l D cA) ⟨Nat.le_of_ble_eq_true rfl, Nat.le_of_ble_eq_true rfl⟩ (Nat.le_of_ble_eq_true rfl) (Nat.le_of_ble_eq_true rfl) (Nat.le_of_ble_eq_true rfl) (fun q9 eq9 => ?_)
  subst eq9
  refine n_aast (q0 := 7) (t0 := 4) (qk := 20) (N := 3) (g := fun k => ([(q5 0), (q7 0), (q9 0)] : List Nat)[k]?) (ws' := (h0, .inr (11, [.ref (q2 0), .ref a3, .null, .null, .null, .null, .null, .null, .null, .null])) :: ((((([] ++ tX10 cA q2) ++ [(a3, .inl (cA (.object RX10), 3, .inr (.inr (.inr (.inr (fun k => ([(q5 0), (q7 0), (q9 0)] : List Nat)[k]?))))))]) ++ tX10 cA q5) ++ tX10 cA q7) ++ tX10 cA q9)) dX11_init_42 rfl rfl rfl (by unfold vp_in; decide) (by rw [show (i32 2).toNatClampNeg = 2 from by decide]; exact nimg _ _ _) rfl ?_
  refine n_iinc (y := 3) (ls' := [(1, vI 3), (0, .ref h0)]) 0 dX11_init_43 rfl (by decide) (by decide) rfl ?_
  refine n_goto (tgt := 25) dX11_init_46 (by decide) ?_
  refine n_iload 0 dX11_init_25 rfl rfl ?_
  refine n_iconst dX11_init_26 ?_
  refine n_icmp_ge (tgt := 49) dX11_init_27 (by decide) (by decide) (by decide) (fun _ => ?_) (fun n => absurd (show ((3) : Int) ≤ (3) by decide) n)
  refine n_aload 1 dX11_init_49 rfl rfl ?_
  refine n_iconst dX11_init_50 ?_
  refine n_newa (t0 := 2) (ty := .boolean) (N := 3) (z := .inl (fun _ => i32 0)) dX11_init_51 wA_boolean rfl rfl (fun _ _ h => h) (fun _ => rfl) (by decide) (by decide) (Nat.le_of_ble_eq_true rfl) (Nat.le_of_ble_eq_true rfl) (Nat.le_of_ble_eq_true rfl) (fun a10 => ?_)
  refine n_putF (fs' := [.ref (q2 0), .ref a3, .ref a10, .null, .null, .null, .null, .null, .null, .null]) dX11_init_53 jfX11_20 rfl rfl (Nat.le_of_ble_eq_true rfl) rfl ?_
  exact cX11_init_3 l D cA A h0 q2 a3 q5 q7 q9 a10
set_option maxRecDepth 100000 in
set_option maxHeartbeats 4000000 in
theorem cX11_init_1 (l : Launch) (D : va_G) (cA : FieldType → ClassId) (A : Nat → Prop) (h0 : Nat) (q2 : Nat → Nat) : nAt l D cA A mX11_init (nQc D h0 (tX11 cA) A) 15 [(0, .ref h0)] [] ((h0, .inr (11, [.ref (q2 0), .null, .null, .null, .null, .null, .null, .null, .null, .null])) :: ([] ++ tX10 cA q2)) 6 1263 := by
  refine n_aload 0 dX11_init_15 rfl rfl ?_
  refine n_iconst dX11_init_16 ?_
  refine n_newq (t0 := 4) (N := 3) dX11_init_17 jqX11_9 rfl (by decide) (by decide) (Nat.le_of_ble_eq_true rfl) (Nat.le_of_ble_eq_true rfl) (Nat.le_of_ble_eq_true rfl) (fun a3 => ?_)
  refine n_putF (fs' := [.ref (q2 0), .ref a3, .null, .null, .null, .null, .null, .null, .null, .null]) dX11_init_20 jfX11_16 rfl rfl (Nat.le_of_ble_eq_true rfl) rfl ?_
  exact cX11_init_2 l D cA A h0 q2 a3
set_option maxRecDepth 100000 in
set_option maxHeartbeats 4000000 in
theorem cX11_init_ (l : Launch) (D : va_G) (cA : FieldType → ClassId) : nCt l D cA mX11_init (.inr (11, [.null, .null, .null, .null, .null, .null, .null, .null, .null, .null])) (tX11 cA) := by
  intro h0 sz
  refine n_entry rfl rfl (Nat.le_of_ble_eq_true rfl) (fun A => ?_)
  refine n_aload 0 dX11_init_0 rfl rfl ?_
  refine n_obj dX11_init_1 ⟨joX11_3, wO_i, wO_c⟩ (Nat.le_of_ble_eq_true rfl) (Nat.le_of_ble_eq_true rfl) ?_
  refine n_aload 0 dX11_init_4 rfl rfl ?_
  refine n_new dX11_init_5 jnX11_9 (Nat.le_of_ble_eq_true rfl) (Nat.le_of_ble_eq_true rfl) (fun b1 => ?_)
  refine n_dup dX11_init_8 rfl ?_
  refine n_call (hb := b1) dX11_init_9 jmX11_11 (cX10_init_ l D cA) ⟨Nat.le_of_ble_eq_true rfl, Nat.le_of_ble_eq_true rfl⟩ (Nat.le_of_ble_eq_true rfl) (Nat.le_of_ble_eq_true rfl) (Nat.le_of_ble_eq_true rfl) (fun q2 eq2 => ?_)
  subst eq2
  refine n_putF (fs' := [.ref (q2 0), .null, .null, .null, .null, .null, .null, .null, .null, .null]) dX11_init_12 jfX11_12 rfl rfl (Nat.le_of_ble_eq_true rfl) rfl ?_
  exact cX11_init_1 l D cA A h0 q2
