abbrev eX12_bitsOf (l : Launch) (G : gG) (x0 : Int) (σ : gS) (Q : Int → gS → Prop) : Prop := gEi l G mX12_bitsOf [vI x0] σ Q
abbrev kX12_bitsOf_4 (l : Launch) (G : gG)  (x0 : Int) (x1 : Int) (x2 : Int) (σ : gS) (Q : Int → gS → Prop) : Prop := gAt l G mX12_bitsOf (gQi G Q) 4 [(0, vI x0), (1, vI x1), (2, vI x2)] [] σ
set_option maxRecDepth 100000 in
set_option maxHeartbeats 4000000 in
theorem vX12_bitsOf {l : Launch} {G : gG} (x0 : Int) (rx0 : gR x0) (σ : gS) (Q : Int → gS → Prop) (h : kX12_bitsOf_4 l G  x0 0 0 σ Q) : eX12_bitsOf l G x0 σ Q := by
  refine ga_entry rfl (Nat.le_of_ble_eq_true rfl) ?_
  show gAt l G mX12_bitsOf (gQi G Q) 0 [(0, vI x0)] [] σ
  refine ga_iconst dX12_bitsOf_0 ?_
  refine ga_istore_n (ls' := [(1, vI 0), (0, vI x0)]) dX12_bitsOf_1 rfl (by decide) rfl ?_
  refine ga_iconst dX12_bitsOf_2 ?_
  refine ga_istore_n (ls' := [(2, vI 0), (1, vI 0), (0, vI x0)]) dX12_bitsOf_3 rfl (by decide) rfl ?_
  exact ga_sub [2, 1, 0] rfl h
set_option maxRecDepth 100000 in
set_option maxHeartbeats 4000000 in
theorem vX12_bitsOf_4 {l : Launch} {G : gG}  (x0 : Int) (x1 : Int) (x2 : Int) (rx0 : gR x0) (rx1 : gR x1) (rx2 : gR x2) (σ : gS) (Q : Int → gS → Prop) (h : (12 ≤ x2 → Q x1 σ) ∧
  (x2 < 12 → kX12_bitsOf_4 l G  x0 (x1 + (gand (gshr x0 x2) 1)) (x2 + 1) σ Q)) : kX12_bitsOf_4 l G  x0 x1 x2 σ Q := by
  refine ga_iload_n 2 dX12_bitsOf_4 rfl rfl ?_
  refine ga_bipush dX12_bitsOf_5 (by decide) ?_
  obtain ⟨ht, hf⟩ := h
  refine ga_icmp_ge (tgt := 24) dX12_bitsOf_7 (by decide) rx2 (by decide) (fun q1 => ?_) (fun q1 => ?_)
  · replace q1 : 12 ≤ x2 := q1
    have h := ht q1
    refine ga_iload_n 1 dX12_bitsOf_24 rfl rfl ?_
    exact ga_iret dX12_bitsOf_25 rfl rx1 h
  · replace q1 : x2 < 12 := (Int.not_le.mp q1)
    have h := hf q1
    refine ga_iload_n 1 dX12_bitsOf_10 rfl rfl ?_
    refine ga_iload_n 0 dX12_bitsOf_11 rfl rfl ?_
    refine ga_iload_n 2 dX12_bitsOf_12 rfl rfl ?_
    refine ga_ishr dX12_bitsOf_13 (fun r2 => ?_)
    refine ga_iconst dX12_bitsOf_14 ?_
    refine ga_iand dX12_bitsOf_15 (fun r3 => ?_)
    refine ga_iadd dX12_bitsOf_16 ?_
    refine ga_istore_n (ls' := [(1, vI (x1 + (gand (gshr x0 x2) 1))), (0, vI x0), (2, vI x2)]) dX12_bitsOf_17 rfl (by decide) rfl ?_
    refine ga_iinc (ls' := [(2, vI (x2 + 1)), (1, vI (x1 + (gand (gshr x0 x2) 1))), (0, vI x0)]) 2 dX12_bitsOf_18 rfl (by decide) rfl ?_
    refine ga_goto (tgt := 4) dX12_bitsOf_21 (by decide) ?_
    exact ga_sub [2, 1, 0] rfl h
abbrev eX12_begins (l : Launch) (G : gG)  (σ : gS) (Q : gS → Prop) : Prop := gEv l G mX12_begins [.ref (G.2.1 88)] σ Q
abbrev kX12_begins_2 (l : Launch) (G : gG)  (x1 : Int) (σ : gS) (Q : gS → Prop) : Prop := gAt l G mX12_begins (gQv G Q) 2 [(0, .ref (G.2.1 88)), (1, vI x1)] [] σ
abbrev kX12_begins_67 (l : Launch) (G : gG)  (x1 : Int) (σ : gS) (Q : gS → Prop) : Prop := gAt l G mX12_begins (gQv G Q) 67 [(0, .ref (G.2.1 88)), (1, vI x1)] [] σ
set_option maxRecDepth 100000 in
set_option maxHeartbeats 4000000 in
theorem vX12_begins {l : Launch} {G : gG}  (σ : gS) (Q : gS → Prop) (h : kX12_begins_2 l G  0 σ Q) : eX12_begins l G  σ Q := by
  refine ga_entry rfl (Nat.le_of_ble_eq_true rfl) ?_
  show gAt l G mX12_begins (gQv G Q) 0 [(0, .ref (G.2.1 88))] [] σ
  refine ga_iconst dX12_begins_0 ?_
  refine ga_istore_n (ls' := [(1, vI 0), (0, .ref (G.2.1 88))]) dX12_begins_1 rfl (by decide) rfl ?_
  exact ga_sub [1, 0] rfl h
set_option maxRecDepth 100000 in
set_option maxHeartbeats 4000000 in
theorem vX12_begins_2 {l : Launch} {G : gG}  (x1 : Int) (rx1 : gR x1) (σ : gS) (Q : gS → Prop) (h : (6 ≤ x1 → kX12_begins_67 l G  0 σ Q) ∧
  (x1 < 6 → ((gI σ 88 10) ≠ 0) ∧ (0 ≤ x1 ∧ x1 < 6) ∧ ∀ σ7, σ7 = sI σ 92 x1 (grem (gI σ 88 13) (gI σ 88 10)) →
    ((gI σ7 88 10) ≠ 0) ∧ ∀ σ12, σ12 = sI σ7 93 x1 (grem (gI σ7 88 13) (gI σ7 88 10)) →
    ∀ σ13, σ13 = sI σ12 97 x1 0 →
    ∀ σ14, σ14 = sI σ13 98 x1 0 →
    ∀ σ15, σ15 = sI σ14 99 x1 0 →
    kX12_begins_2 l G  (x1 + 1) σ15 Q)) : kX12_begins_2 l G  x1 σ Q := by
  refine ga_iload_n 1 dX12_begins_2 rfl rfl ?_
  refine ga_bipush dX12_begins_3 (by decide) ?_
  obtain ⟨ht, hf⟩ := h
  refine ga_icmp_ge (tgt := 65) dX12_begins_5 (by decide) rx1 (by decide) (fun q1 => ?_) (fun q1 => ?_)
  · replace q1 : 6 ≤ x1 := q1
    have h := ht q1
    refine ga_iconst dX12_begins_65 ?_
    refine ga_istore_n (ls' := [(1, vI 0), (0, .ref (G.2.1 88))]) dX12_begins_66 rfl (by decide) rfl ?_
    exact ga_sub [1, 0] rfl h
  · replace q1 : x1 < 6 := (Int.not_le.mp q1)
    have h := hf q1
    refine ga_aload_n 0 dX12_begins_8 rfl rfl ?_
    refine ga_getR (kI := 15) (r := 92) dX12_begins_9 fX12_20 rfl rfl (by decide) rfl ?_
    refine ga_iload_n 1 dX12_begins_12 rfl rfl ?_
    refine ga_aload_n 0 dX12_begins_13 rfl rfl ?_
    refine ga_getI (kI := 13) dX12_begins_14 fX12_245 rfl rfl rfl (fun r2 => ?_)
    refine ga_aload_n 0 dX12_begins_17 rfl rfl ?_
    refine ga_getI (kI := 10) dX12_begins_18 fX12_236 rfl rfl rfl (fun r3 => ?_)
    obtain ⟨o4, h⟩ := h
    refine ga_irem dX12_begins_21 r3 o4 (fun r5 => ?_)
    obtain ⟨i6, h⟩ := h
    obtain ⟨σ7, eσ7⟩ : ∃ z, z = sI σ 92 x1 (grem (gI σ 88 13) (gI σ 88 10)) := ⟨_, rfl⟩
    replace h := h σ7 eσ7
    refine ga_iast (nI := 6) dX12_begins_22 rfl rfl i6 r5 eσ7 ?_
    refine ga_aload_n 0 dX12_begins_23 rfl rfl ?_
    refine ga_getR (kI := 16) (r := 93) dX12_begins_24 fX12_23 rfl rfl (by decide) rfl ?_
    refine ga_iload_n 1 dX12_begins_27 rfl rfl ?_
    refine ga_aload_n 0 dX12_begins_28 rfl rfl ?_
    refine ga_getI (kI := 13) dX12_begins_29 fX12_245 rfl rfl rfl (fun r8 => ?_)
    refine ga_aload_n 0 dX12_begins_32 rfl rfl ?_
    refine ga_getI (kI := 10) dX12_begins_33 fX12_236 rfl rfl rfl (fun r9 => ?_)
    obtain ⟨o10, h⟩ := h
    refine ga_irem dX12_begins_36 r9 o10 (fun r11 => ?_)
    obtain ⟨σ12, eσ12⟩ : ∃ z, z = sI σ7 93 x1 (grem (gI σ7 88 13) (gI σ7 88 10)) := ⟨_, rfl⟩
    replace h := h σ12 eσ12
    refine ga_iast (nI := 6) dX12_begins_37 rfl rfl i6 r11 eσ12 ?_
    refine ga_aload_n 0 dX12_begins_38 rfl rfl ?_
    refine ga_getR (kI := 20) (r := 97) dX12_begins_39 fX12_35 rfl rfl (by decide) rfl ?_
    refine ga_iload_n 1 dX12_begins_42 rfl rfl ?_
    refine ga_iconst dX12_begins_43 ?_
    obtain ⟨σ13, eσ13⟩ : ∃ z, z = sI σ12 97 x1 0 := ⟨_, rfl⟩
    replace h := h σ13 eσ13
    refine ga_iast (nI := 6) dX12_begins_44 rfl rfl i6 (by decide) eσ13 ?_
    refine ga_aload_n 0 dX12_begins_45 rfl rfl ?_
    refine ga_getR (kI := 21) (r := 98) dX12_begins_46 fX12_38 rfl rfl (by decide) rfl ?_
    refine ga_iload_n 1 dX12_begins_49 rfl rfl ?_
    refine ga_iconst dX12_begins_50 ?_
    obtain ⟨σ14, eσ14⟩ : ∃ z, z = sI σ13 98 x1 0 := ⟨_, rfl⟩
    replace h := h σ14 eσ14
    refine ga_iast (nI := 6) dX12_begins_51 rfl rfl i6 (by decide) eσ14 ?_
    refine ga_aload_n 0 dX12_begins_52 rfl rfl ?_
    refine ga_getR (kI := 22) (r := 99) dX12_begins_53 fX12_41 rfl rfl (by decide) rfl ?_
    refine ga_iload_n 1 dX12_begins_56 rfl rfl ?_
    refine ga_iconst dX12_begins_57 ?_
    obtain ⟨σ15, eσ15⟩ : ∃ z, z = sI σ14 99 x1 0 := ⟨_, rfl⟩
    replace h := h σ15 eσ15
    refine ga_zast (nI := 6) dX12_begins_58 rfl rfl i6 (Or.inl rfl) eσ15 ?_
    refine ga_iinc (ls' := [(1, vI (x1 + 1)), (0, .ref (G.2.1 88))]) 1 dX12_begins_59 rfl (by decide) rfl ?_
    refine ga_goto (tgt := 2) dX12_begins_62 (by decide) ?_
    exact ga_sub [1, 0] rfl h
set_option maxRecDepth 100000 in
set_option maxHeartbeats 4000000 in
theorem vX12_begins_67 {l : Launch} {G : gG}  (x1 : Int) (rx1 : gR x1) (σ : gS) (Q : gS → Prop) (h : (36 ≤ x1 → ∀ σ17, σ17 = sI σ 88 23 0 →
    ∀ σ18, σ18 = sI σ17 88 24 0 →
    ∀ σ19, σ19 = sI σ18 88 25 0 →
    ∀ σ20, σ20 = sI σ19 88 26 0 →
    ∀ σ21, σ21 = sI σ20 88 27 0 →
    ∀ σ22, σ22 = sI σ21 88 28 0 →
    ∀ σ23, σ23 = sI σ22 88 29 0 →
    Q σ23) ∧
  (x1 < 36 → (0 ≤ x1 ∧ x1 < 36) ∧ ∀ σ25, σ25 = sI σ 95 x1 0 →
    kX12_begins_67 l G  (x1 + 1) σ25 Q)) : kX12_begins_67 l G  x1 σ Q := by
  refine ga_iload_n 1 dX12_begins_67 rfl rfl ?_
  refine ga_bipush dX12_begins_68 (by decide) ?_
  obtain ⟨ht, hf⟩ := h
  refine ga_icmp_ge (tgt := 86) dX12_begins_70 (by decide) rx1 (by decide) (fun q16 => ?_) (fun q16 => ?_)
  · replace q16 : 36 ≤ x1 := q16
    have h := ht q16
    refine ga_aload_n 0 dX12_begins_86 rfl rfl ?_
    refine ga_iconst dX12_begins_87 ?_
    obtain ⟨σ17, eσ17⟩ : ∃ z, z = sI σ 88 23 0 := ⟨_, rfl⟩
    replace h := h σ17 eσ17
    refine ga_putI (kI := 23) dX12_begins_88 fX12_254 pX12_23 rfl rfl rfl (by decide) eσ17 ?_
    refine ga_aload_n 0 dX12_begins_91 rfl rfl ?_
    refine ga_iconst dX12_begins_92 ?_
    obtain ⟨σ18, eσ18⟩ : ∃ z, z = sI σ17 88 24 0 := ⟨_, rfl⟩
    replace h := h σ18 eσ18
    refine ga_putI (kI := 24) dX12_begins_93 fX12_257 pX12_24 rfl rfl rfl (by decide) eσ18 ?_
    refine ga_aload_n 0 dX12_begins_96 rfl rfl ?_
    refine ga_iconst dX12_begins_97 ?_
    obtain ⟨σ19, eσ19⟩ : ∃ z, z = sI σ18 88 25 0 := ⟨_, rfl⟩
    replace h := h σ19 eσ19
    refine ga_putI (kI := 25) dX12_begins_98 fX12_260 pX12_25 rfl rfl rfl (by decide) eσ19 ?_
    refine ga_aload_n 0 dX12_begins_101 rfl rfl ?_
    refine ga_iconst dX12_begins_102 ?_
    obtain ⟨σ20, eσ20⟩ : ∃ z, z = sI σ19 88 26 0 := ⟨_, rfl⟩
    replace h := h σ20 eσ20
    refine ga_putI (kI := 26) dX12_begins_103 fX12_263 pX12_26 rfl rfl rfl (by decide) eσ20 ?_
    refine ga_aload_n 0 dX12_begins_106 rfl rfl ?_
    refine ga_iconst dX12_begins_107 ?_
    obtain ⟨σ21, eσ21⟩ : ∃ z, z = sI σ20 88 27 0 := ⟨_, rfl⟩
    replace h := h σ21 eσ21
    refine ga_putI (kI := 27) dX12_begins_108 fX12_266 pX12_27 rfl rfl rfl (by decide) eσ21 ?_
    refine ga_aload_n 0 dX12_begins_111 rfl rfl ?_
    refine ga_iconst dX12_begins_112 ?_
    obtain ⟨σ22, eσ22⟩ : ∃ z, z = sI σ21 88 28 0 := ⟨_, rfl⟩
    replace h := h σ22 eσ22
    refine ga_putI (kI := 28) dX12_begins_113 fX12_269 pX12_28 rfl rfl rfl (by decide) eσ22 ?_
    refine ga_aload_n 0 dX12_begins_116 rfl rfl ?_
    refine ga_iconst dX12_begins_117 ?_
    obtain ⟨σ23, eσ23⟩ : ∃ z, z = sI σ22 88 29 0 := ⟨_, rfl⟩
    replace h := h σ23 eσ23
    refine ga_putI (kI := 29) dX12_begins_118 fX12_272 pX12_29 rfl rfl rfl (by decide) eσ23 ?_
    exact ga_vret dX12_begins_121 rfl h
  · replace q16 : x1 < 36 := (Int.not_le.mp q16)
    have h := hf q16
    refine ga_aload_n 0 dX12_begins_73 rfl rfl ?_
    refine ga_getR (kI := 18) (r := 95) dX12_begins_74 fX12_29 rfl rfl (by decide) rfl ?_
    refine ga_iload_n 1 dX12_begins_77 rfl rfl ?_
    refine ga_iconst dX12_begins_78 ?_
    obtain ⟨i24, h⟩ := h
    obtain ⟨σ25, eσ25⟩ : ∃ z, z = sI σ 95 x1 0 := ⟨_, rfl⟩
    replace h := h σ25 eσ25
    refine ga_iast (nI := 36) dX12_begins_79 rfl rfl i24 (by decide) eσ25 ?_
    refine ga_iinc (ls' := [(1, vI (x1 + 1)), (0, .ref (G.2.1 88))]) 1 dX12_begins_80 rfl (by decide) rfl ?_
    refine ga_goto (tgt := 67) dX12_begins_83 (by decide) ?_
    exact ga_sub [1, 0] rfl h
abbrev eX12_at (l : Launch) (G : gG) (x0 : Int) (x1 : Int) (σ : gS) (Q : Int → gS → Prop) : Prop := gEi l G mX12_at [vI x0, vI x1] σ Q
set_option maxRecDepth 100000 in
set_option maxHeartbeats 4000000 in
theorem vX12_at {l : Launch} {G : gG} (x0 : Int) (x1 : Int) (rx0 : gR x0) (rx1 : gR x1) (σ : gS) (Q : Int → gS → Prop) (h : (gR ((6 * x0) + x1)) ∧ Q ((6 * x0) + x1) σ) : eX12_at l G x0 x1 σ Q := by
  refine ga_entry rfl (Nat.le_of_ble_eq_true rfl) ?_
  show gAt l G mX12_at (gQi G Q) 0 [(0, vI x0), (1, vI x1)] [] σ
  refine ga_bipush dX12_at_0 (by decide) ?_
  refine ga_iload_n 0 dX12_at_2 rfl rfl ?_
  refine ga_imul dX12_at_3 ?_
  refine ga_iload_n 1 dX12_at_4 rfl rfl ?_
  refine ga_iadd dX12_at_5 ?_
  obtain ⟨r1, h⟩ := h
  exact ga_iret dX12_at_6 rfl r1 h
abbrev eX12_comes (l : Launch) (G : gG) (x1 : Int) (x2 : Int) (x3 : Int) (x4 : Int) (σ : gS) (Q : Int → gS → Prop) : Prop := gEi l G mX12_comes [.ref (G.2.1 88), vI x1, vI x2, vI x3, vI x4] σ Q
set_option maxRecDepth 100000 in
set_option maxHeartbeats 4000000 in
theorem vX12_comes {l : Launch} {G : gG} (x1 : Int) (x2 : Int) (x3 : Int) (x4 : Int) (rx1 : gR x1) (rx2 : gR x2) (rx3 : gR x3) (rx4 : gR x4) (σ : gS) (Q : Int → gS → Prop) (h : (0 ≤ (gI σ 88 25) ∧ (gI σ 88 25) < 400) ∧ ∀ σ3, σ3 = sI σ 100 (gI σ 88 25) x1 →
  ∀ σ4, σ4 = sI σ3 101 (gI σ 88 25) x2 →
  (x3 = 0 ∨ x3 = 1) ∧ ∀ σ5, σ5 = sI σ4 102 (gI σ 88 25) x3 →
  ∀ σ8, σ8 = sI σ5 103 (gI σ 88 25) (gI σ5 88 24) →
  ∀ σ9, σ9 = sI σ8 104 (gI σ 88 25) (-1) →
  ∀ σ10, σ10 = sI σ9 105 (gI σ 88 25) 0 →
  ∀ σ11, σ11 = sI σ10 106 (gI σ 88 25) x2 →
  ∀ σ12, σ12 = sI σ11 107 (gI σ 88 25) 0 →
  (x4 = 0 ∨ x4 = 1) ∧ ∀ σ13, σ13 = sI σ12 108 (gI σ 88 25) x4 →
  (gR ((gI σ13 88 25) + 1)) ∧ ∀ σ16, σ16 = sI σ13 88 25 ((gI σ13 88 25) + 1) →
  (0 ≤ x1 ∧ x1 < 6) ∧ ∀ σ19, σ19 = sI σ16 99 x1 1 →
  Q (gI σ 88 25) σ19) : eX12_comes l G x1 x2 x3 x4 σ Q := by
  refine ga_entry rfl (Nat.le_of_ble_eq_true rfl) ?_
  show gAt l G mX12_comes (gQi G Q) 0 [(0, .ref (G.2.1 88)), (1, vI x1), (2, vI x2), (3, vI x3), (4, vI x4)] [] σ
  refine ga_aload_n 0 dX12_comes_0 rfl rfl ?_
  refine ga_getI (kI := 25) dX12_comes_1 fX12_260 rfl rfl rfl (fun r1 => ?_)
  refine ga_istore (ls' := [(5, vI (gI σ 88 25)), (0, .ref (G.2.1 88)), (1, vI x1), (2, vI x2), (3, vI x3), (4, vI x4)]) dX12_comes_4 (by decide) rfl ?_
  refine ga_aload_n 1 dX12_comes_6 rfl rfl ?_
  refine ga_getR (kI := 30) (r := 100) dX12_comes_7 fX12_44 rfl rfl (by decide) rfl ?_
  refine ga_iload 0 dX12_comes_10 rfl ?_
  refine ga_iload_n 2 dX12_comes_12 rfl rfl ?_
  obtain ⟨i2, h⟩ := h
  obtain ⟨σ3, eσ3⟩ : ∃ z, z = sI σ 100 (gI σ 88 25) x1 := ⟨_, rfl⟩
  replace h := h σ3 eσ3
  refine ga_iast (nI := 400) dX12_comes_13 rfl rfl i2 rx1 eσ3 ?_
  refine ga_aload_n 1 dX12_comes_14 rfl rfl ?_
  refine ga_getR (kI := 31) (r := 101) dX12_comes_15 fX12_47 rfl rfl (by decide) rfl ?_
  refine ga_iload 0 dX12_comes_18 rfl ?_
  refine ga_iload_n 3 dX12_comes_20 rfl rfl ?_
  obtain ⟨σ4, eσ4⟩ : ∃ z, z = sI σ3 101 (gI σ 88 25) x2 := ⟨_, rfl⟩
  replace h := h σ4 eσ4
  refine ga_iast (nI := 400) dX12_comes_21 rfl rfl i2 rx2 eσ4 ?_
  refine ga_aload_n 1 dX12_comes_22 rfl rfl ?_
  refine ga_getR (kI := 32) (r := 102) dX12_comes_23 fX12_50 rfl rfl (by decide) rfl ?_
  refine ga_iload 0 dX12_comes_26 rfl ?_
  refine ga_iload_n 4 dX12_comes_28 rfl rfl ?_
  obtain ⟨o6, h⟩ := h
  obtain ⟨σ5, eσ5⟩ : ∃ z, z = sI σ4 102 (gI σ 88 25) x3 := ⟨_, rfl⟩
  replace h := h σ5 eσ5
  refine ga_zast (nI := 400) dX12_comes_29 rfl rfl i2 o6 eσ5 ?_
  refine ga_aload_n 1 dX12_comes_30 rfl rfl ?_
  refine ga_getR (kI := 33) (r := 103) dX12_comes_31 fX12_53 rfl rfl (by decide) rfl ?_
  refine ga_iload 0 dX12_comes_34 rfl ?_
  refine ga_aload_n 1 dX12_comes_36 rfl rfl ?_
  refine ga_getI (kI := 24) dX12_comes_37 fX12_257 rfl rfl rfl (fun r7 => ?_)
  obtain ⟨σ8, eσ8⟩ : ∃ z, z = sI σ5 103 (gI σ 88 25) (gI σ5 88 24) := ⟨_, rfl⟩
  replace h := h σ8 eσ8
  refine ga_iast (nI := 400) dX12_comes_40 rfl rfl i2 r7 eσ8 ?_
  refine ga_aload_n 1 dX12_comes_41 rfl rfl ?_
  refine ga_getR (kI := 34) (r := 104) dX12_comes_42 fX12_56 rfl rfl (by decide) rfl ?_
  refine ga_iload 0 dX12_comes_45 rfl ?_
  refine ga_iconst dX12_comes_47 ?_
  obtain ⟨σ9, eσ9⟩ : ∃ z, z = sI σ8 104 (gI σ 88 25) (-1) := ⟨_, rfl⟩
  replace h := h σ9 eσ9
  refine ga_iast (nI := 400) dX12_comes_48 rfl rfl i2 (by decide) eσ9 ?_
  refine ga_aload_n 1 dX12_comes_49 rfl rfl ?_
  refine ga_getR (kI := 35) (r := 105) dX12_comes_50 fX12_59 rfl rfl (by decide) rfl ?_
  refine ga_iload 0 dX12_comes_53 rfl ?_
  refine ga_iconst dX12_comes_55 ?_
  obtain ⟨σ10, eσ10⟩ : ∃ z, z = sI σ9 105 (gI σ 88 25) 0 := ⟨_, rfl⟩
  replace h := h σ10 eσ10
  refine ga_zast (nI := 400) dX12_comes_56 rfl rfl i2 (Or.inl rfl) eσ10 ?_
  refine ga_aload_n 1 dX12_comes_57 rfl rfl ?_
  refine ga_getR (kI := 36) (r := 106) dX12_comes_58 fX12_62 rfl rfl (by decide) rfl ?_
  refine ga_iload 0 dX12_comes_61 rfl ?_
  refine ga_iload_n 3 dX12_comes_63 rfl rfl ?_
  obtain ⟨σ11, eσ11⟩ : ∃ z, z = sI σ10 106 (gI σ 88 25) x2 := ⟨_, rfl⟩
  replace h := h σ11 eσ11
  refine ga_iast (nI := 400) dX12_comes_64 rfl rfl i2 rx2 eσ11 ?_
  refine ga_aload_n 1 dX12_comes_65 rfl rfl ?_
  refine ga_getR (kI := 37) (r := 107) dX12_comes_66 fX12_65 rfl rfl (by decide) rfl ?_
  refine ga_iload 0 dX12_comes_69 rfl ?_
  refine ga_iconst dX12_comes_71 ?_
  obtain ⟨σ12, eσ12⟩ : ∃ z, z = sI σ11 107 (gI σ 88 25) 0 := ⟨_, rfl⟩
  replace h := h σ12 eσ12
  refine ga_iast (nI := 400) dX12_comes_72 rfl rfl i2 (by decide) eσ12 ?_
  refine ga_aload_n 1 dX12_comes_73 rfl rfl ?_
  refine ga_getR (kI := 38) (r := 108) dX12_comes_74 fX12_68 rfl rfl (by decide) rfl ?_
  refine ga_iload 0 dX12_comes_77 rfl ?_
  refine ga_iload 5 dX12_comes_79 rfl ?_
  obtain ⟨o14, h⟩ := h
  obtain ⟨σ13, eσ13⟩ : ∃ z, z = sI σ12 108 (gI σ 88 25) x4 := ⟨_, rfl⟩
  replace h := h σ13 eσ13
  refine ga_zast (nI := 400) dX12_comes_81 rfl rfl i2 o14 eσ13 ?_
  refine ga_aload_n 1 dX12_comes_82 rfl rfl ?_
  refine ga_dup dX12_comes_83 rfl ?_
  refine ga_getI (kI := 25) dX12_comes_84 fX12_260 rfl rfl rfl (fun r15 => ?_)
  refine ga_iconst dX12_comes_87 ?_
  refine ga_iadd dX12_comes_88 ?_
  obtain ⟨r17, h⟩ := h
  obtain ⟨σ16, eσ16⟩ : ∃ z, z = sI σ13 88 25 ((gI σ13 88 25) + 1) := ⟨_, rfl⟩
  replace h := h σ16 eσ16
  refine ga_putI (kI := 25) dX12_comes_89 fX12_260 pX12_25 rfl rfl rfl r17 eσ16 ?_
  refine ga_aload_n 1 dX12_comes_92 rfl rfl ?_
  refine ga_getR (kI := 22) (r := 99) dX12_comes_93 fX12_41 rfl rfl (by decide) rfl ?_
  refine ga_iload_n 2 dX12_comes_96 rfl rfl ?_
  refine ga_iconst dX12_comes_97 ?_
  obtain ⟨i18, h⟩ := h
  obtain ⟨σ19, eσ19⟩ : ∃ z, z = sI σ16 99 x1 1 := ⟨_, rfl⟩
  replace h := h σ19 eσ19
  refine ga_zast (nI := 6) dX12_comes_98 rfl rfl i18 (Or.inr rfl) eσ19 ?_
  refine ga_iload 0 dX12_comes_99 rfl ?_
  exact ga_iret dX12_comes_101 rfl r1 h
abbrev eX12_loses (l : Launch) (G : gG) (x1 : Int) (σ : gS) (Q : Int → gS → Prop) : Prop := gEz l G mX12_loses [.ref (G.2.1 88), vI x1] σ Q
set_option maxRecDepth 100000 in
set_option maxHeartbeats 4000000 in
theorem vX12_loses {l : Launch} {G : gG} (x1 : Int) (rx1 : gR x1) (σ : gS) (Q : Int → gS → Prop) (h : (0 ≤ x1 ∧ x1 < 400) ∧ ∀ σ2, σ2 = sI σ 105 x1 1 →
  (gR ((gI σ2 88 26) + 1)) ∧ ∀ σ4, σ4 = sI σ2 88 26 ((gI σ2 88 26) + 1) →
  Q 0 σ4) : eX12_loses l G x1 σ Q := by
  refine ga_entry rfl (Nat.le_of_ble_eq_true rfl) ?_
  show gAt l G mX12_loses (gQz G Q) 0 [(0, .ref (G.2.1 88)), (1, vI x1)] [] σ
  refine ga_aload_n 0 dX12_loses_0 rfl rfl ?_
  refine ga_getR (kI := 35) (r := 105) dX12_loses_1 fX12_59 rfl rfl (by decide) rfl ?_
  refine ga_iload_n 1 dX12_loses_4 rfl rfl ?_
  refine ga_iconst dX12_loses_5 ?_
  obtain ⟨i1, h⟩ := h
  obtain ⟨σ2, eσ2⟩ : ∃ z, z = sI σ 105 x1 1 := ⟨_, rfl⟩
  replace h := h σ2 eσ2
  refine ga_zast (nI := 400) dX12_loses_6 rfl rfl i1 (Or.inr rfl) eσ2 ?_
  refine ga_aload_n 0 dX12_loses_7 rfl rfl ?_
  refine ga_dup dX12_loses_8 rfl ?_
  refine ga_getI (kI := 26) dX12_loses_9 fX12_263 rfl rfl rfl (fun r3 => ?_)
  refine ga_iconst dX12_loses_12 ?_
  refine ga_iadd dX12_loses_13 ?_
  obtain ⟨r5, h⟩ := h
  obtain ⟨σ4, eσ4⟩ : ∃ z, z = sI σ2 88 26 ((gI σ2 88 26) + 1) := ⟨_, rfl⟩
  replace h := h σ4 eσ4
  refine ga_putI (kI := 26) dX12_loses_14 fX12_263 pX12_26 rfl rfl rfl r5 eσ4 ?_
  refine ga_iconst dX12_loses_17 ?_
  exact ga_bret dX12_loses_18 rfl (Or.inl rfl) h
abbrev eX12_cellComes (l : Launch) (G : gG) (x1 : Int) (x2 : Int) (x3 : Int) (σ : gS) (Q : Int → gS → Prop) : Prop := gEz l G mX12_cellComes [.ref (G.2.1 88), vI x1, vI x2, vI x3] σ Q
set_option maxRecDepth 100000 in
set_option maxHeartbeats 4000000 in
theorem vX12_cellComes {l : Launch} {G : gG} (x1 : Int) (x2 : Int) (x3 : Int) (rx1 : gR x1) (rx2 : gR x2) (rx3 : gR x3) (σ : gS) (Q : Int → gS → Prop) (h : eX12_comes l G x1 (gshl 1 x2) 0 x3 σ (fun v4 σ2 => gR v4 →
  eX12_at l G x1 x2 σ2 (fun v7 σ5 => gR v7 →
  (0 ≤ v7 ∧ v7 < 36) ∧ ((gI σ5 95 v7) < (gI σ5 88 12) → eX12_at l G x1 x2 σ5 (fun v14 σ12 => gR v14 →
    eX12_at l G x1 x2 σ12 (fun v17 σ15 => gR v17 →
    (0 ≤ v17 ∧ v17 < 36) ∧ (0 ≤ ((9 * v14) + (gI σ15 95 v17)) ∧ ((9 * v14) + (gI σ15 95 v17)) < 324) ∧ ∀ σ21, σ21 = sI σ15 94 ((9 * v14) + (gI σ15 95 v17)) v4 →
    eX12_at l G x1 x2 σ21 (fun v24 σ22 => gR v24 →
    (0 ≤ v24 ∧ v24 < 36) ∧ (gR ((gI σ22 95 v24) + 1)) ∧ ∀ σ27, σ27 = sI σ22 95 v24 ((gI σ22 95 v24) + 1) →
    Q 1 σ27)))) ∧
  ((gI σ5 88 12) ≤ (gI σ5 95 v7) → eX12_loses l G v4 σ5 (fun v31 σ29 => (v31 = 0 ∨ v31 = 1) →
    Q v31 σ29))))) : eX12_cellComes l G x1 x2 x3 σ Q := by
  refine ga_entry rfl (Nat.le_of_ble_eq_true rfl) ?_
  show gAt l G mX12_cellComes (gQz G Q) 0 [(0, .ref (G.2.1 88)), (1, vI x1), (2, vI x2), (3, vI x3)] [] σ
  refine ga_aload_n 0 dX12_cellComes_0 rfl rfl ?_
  refine ga_iload_n 1 dX12_cellComes_1 rfl rfl ?_
  refine ga_iconst dX12_cellComes_2 ?_
  refine ga_iload_n 2 dX12_cellComes_3 rfl rfl ?_
  refine ga_ishl dX12_cellComes_4 (fun r1 => ?_)
  refine ga_iconst dX12_cellComes_5 ?_
  refine ga_iload_n 3 dX12_cellComes_6 rfl rfl ?_
  refine ga_callVi (z := mX12_comes) (As := [vI x1, vI (gshl 1 x2), vI 0, vI x3]) (rest := []) dX12_cellComes_7 wX12_275 qX12_cellComes_X12_comes rfl ⟨_, rfl, rfl⟩ rfl rfl (Nat.le_of_ble_eq_true rfl) (gEi_mono h (fun v4 σ2 h r3 => ?_))
  replace h := h r3
  refine ga_istore (ls' := [(4, vI v4), (0, .ref (G.2.1 88)), (1, vI x1), (2, vI x2), (3, vI x3)]) dX12_cellComes_10 (by decide) rfl ?_
  refine ga_aload_n 1 dX12_cellComes_12 rfl rfl ?_
  refine ga_getR (kI := 18) (r := 95) dX12_cellComes_13 fX12_29 rfl rfl (by decide) rfl ?_
  refine ga_iload_n 2 dX12_cellComes_16 rfl rfl ?_
  refine ga_iload_n 3 dX12_cellComes_17 rfl rfl ?_
  refine ga_callSi (z := mX12_at) (As := [vI x1, vI x2]) (rest := [.ref (G.2.1 95)]) dX12_cellComes_18 wX12_279 qX12_cellComes_X12_at rfl rfl (Nat.le_of_ble_eq_true rfl) (gEi_mono h (fun v7 σ5 h r6 => ?_))
  replace h := h r6
  obtain ⟨i8, h⟩ := h
  refine ga_iald (nI := 36) dX12_cellComes_21 rfl rfl i8 (fun r9 => ?_)
  refine ga_aload_n 1 dX12_cellComes_22 rfl rfl ?_
  refine ga_getI (kI := 12) dX12_cellComes_23 fX12_242 rfl rfl rfl (fun r10 => ?_)
  obtain ⟨ht, hf⟩ := h
  refine ga_icmp_lt (tgt := 36) dX12_cellComes_26 (by decide) r9 r10 (fun q11 => ?_) (fun q11 => ?_)
  · replace q11 : (gI σ5 95 v7) < (gI σ5 88 12) := q11
    have h := ht q11
    refine ga_aload_n 1 dX12_cellComes_36 rfl rfl ?_
    refine ga_getR (kI := 17) (r := 94) dX12_cellComes_37 fX12_26 rfl rfl (by decide) rfl ?_
    refine ga_bipush dX12_cellComes_40 (by decide) ?_
    refine ga_iload_n 2 dX12_cellComes_42 rfl rfl ?_
    refine ga_iload_n 3 dX12_cellComes_43 rfl rfl ?_
    refine ga_callSi (z := mX12_at) (As := [vI x1, vI x2]) (rest := [vI 9, .ref (G.2.1 94)]) dX12_cellComes_44 wX12_279 qX12_cellComes_X12_at rfl rfl (Nat.le_of_ble_eq_true rfl) (gEi_mono h (fun v14 σ12 h r13 => ?_))
    replace h := h r13
    refine ga_imul dX12_cellComes_47 ?_
    refine ga_aload_n 1 dX12_cellComes_48 rfl rfl ?_
    refine ga_getR (kI := 18) (r := 95) dX12_cellComes_49 fX12_29 rfl rfl (by decide) rfl ?_
    refine ga_iload_n 2 dX12_cellComes_52 rfl rfl ?_
    refine ga_iload_n 3 dX12_cellComes_53 rfl rfl ?_
    refine ga_callSi (z := mX12_at) (As := [vI x1, vI x2]) (rest := [.ref (G.2.1 95), vI (9 * v14), .ref (G.2.1 94)]) dX12_cellComes_54 wX12_279 qX12_cellComes_X12_at rfl rfl (Nat.le_of_ble_eq_true rfl) (gEi_mono h (fun v17 σ15 h r16 => ?_))
    replace h := h r16
    obtain ⟨i18, h⟩ := h
    refine ga_iald (nI := 36) dX12_cellComes_57 rfl rfl i18 (fun r19 => ?_)
    refine ga_iadd dX12_cellComes_58 ?_
    refine ga_iload 0 dX12_cellComes_59 rfl ?_
    obtain ⟨i20, h⟩ := h
    obtain ⟨σ21, eσ21⟩ : ∃ z, z = sI σ15 94 ((9 * v14) + (gI σ15 95 v17)) v4 := ⟨_, rfl⟩
    replace h := h σ21 eσ21
    refine ga_iast (nI := 324) dX12_cellComes_61 rfl rfl i20 r3 eσ21 ?_
    refine ga_aload_n 1 dX12_cellComes_62 rfl rfl ?_
    refine ga_getR (kI := 18) (r := 95) dX12_cellComes_63 fX12_29 rfl rfl (by decide) rfl ?_
    refine ga_iload_n 2 dX12_cellComes_66 rfl rfl ?_
    refine ga_iload_n 3 dX12_cellComes_67 rfl rfl ?_
    refine ga_callSi (z := mX12_at) (As := [vI x1, vI x2]) (rest := [.ref (G.2.1 95)]) dX12_cellComes_68 wX12_279 qX12_cellComes_X12_at rfl rfl (Nat.le_of_ble_eq_true rfl) (gEi_mono h (fun v24 σ22 h r23 => ?_))
    replace h := h r23
    refine ga_dup2 dX12_cellComes_71 rfl rfl ?_
    obtain ⟨i25, h⟩ := h
    refine ga_iald (nI := 36) dX12_cellComes_72 rfl rfl i25 (fun r26 => ?_)
    refine ga_iconst dX12_cellComes_73 ?_
    refine ga_iadd dX12_cellComes_74 ?_
    obtain ⟨r28, h⟩ := h
    obtain ⟨σ27, eσ27⟩ : ∃ z, z = sI σ22 95 v24 ((gI σ22 95 v24) + 1) := ⟨_, rfl⟩
    replace h := h σ27 eσ27
    refine ga_iast (nI := 36) dX12_cellComes_75 rfl rfl i25 r28 eσ27 ?_
    refine ga_iconst dX12_cellComes_76 ?_
    exact ga_bret dX12_cellComes_77 rfl (Or.inr rfl) h
  · replace q11 : (gI σ5 88 12) ≤ (gI σ5 95 v7) := (Int.not_lt.mp q11)
    have h := hf q11
    refine ga_aload_n 1 dX12_cellComes_29 rfl rfl ?_
    refine ga_iload 0 dX12_cellComes_30 rfl ?_
    refine ga_callVz (z := mX12_loses) (As := [vI v4]) (rest := []) dX12_cellComes_32 wX12_282 qX12_cellComes_X12_loses rfl ⟨_, rfl, rfl⟩ rfl rfl (Nat.le_of_ble_eq_true rfl) (gEz_mono h (fun v31 σ29 h r30 => ?_))
    replace h := h r30
    exact ga_bret dX12_cellComes_35 rfl r30 h
abbrev eX12_fanComes (l : Launch) (G : gG) (x1 : Int) (x2 : Int) (σ : gS) (Q : gS → Prop) : Prop := gEv l G mX12_fanComes [.ref (G.2.1 88), vI x1, vI x2] σ Q
set_option maxRecDepth 100000 in
set_option maxHeartbeats 4000000 in
theorem vX12_fanComes {l : Launch} {G : gG} (x1 : Int) (x2 : Int) (rx1 : gR x1) (rx2 : gR x2) (σ : gS) (Q : gS → Prop) (h : eX12_comes l G x1 x2 1 0 σ (fun v3 σ1 => gR v3 →
  (0 ≤ x1 ∧ x1 < 6) ∧ ((gI σ1 97 x1) < (gI σ1 88 12) → (0 ≤ ((9 * x1) + (gI σ1 97 x1)) ∧ ((9 * x1) + (gI σ1 97 x1)) < 54) ∧ ∀ σ10, σ10 = sI σ1 96 ((9 * x1) + (gI σ1 97 x1)) v3 →
    (gR ((gI σ10 97 x1) + 1)) ∧ ∀ σ12, σ12 = sI σ10 97 x1 ((gI σ10 97 x1) + 1) →
    Q σ12) ∧
  ((gI σ1 88 12) ≤ (gI σ1 97 x1) → eX12_loses l G v3 σ1 (fun v16 σ14 => (v16 = 0 ∨ v16 = 1) →
    Q σ14)))) : eX12_fanComes l G x1 x2 σ Q := by
  refine ga_entry rfl (Nat.le_of_ble_eq_true rfl) ?_
  show gAt l G mX12_fanComes (gQv G Q) 0 [(0, .ref (G.2.1 88)), (1, vI x1), (2, vI x2)] [] σ
  refine ga_aload_n 0 dX12_fanComes_0 rfl rfl ?_
  refine ga_iload_n 1 dX12_fanComes_1 rfl rfl ?_
  refine ga_iload_n 2 dX12_fanComes_2 rfl rfl ?_
  refine ga_iconst dX12_fanComes_3 ?_
  refine ga_iconst dX12_fanComes_4 ?_
  refine ga_callVi (z := mX12_comes) (As := [vI x1, vI x2, vI 1, vI 0]) (rest := []) dX12_fanComes_5 wX12_275 qX12_fanComes_X12_comes rfl ⟨_, rfl, rfl⟩ rfl rfl (Nat.le_of_ble_eq_true rfl) (gEi_mono h (fun v3 σ1 h r2 => ?_))
  replace h := h r2
  refine ga_istore_n (ls' := [(3, vI v3), (0, .ref (G.2.1 88)), (1, vI x1), (2, vI x2)]) dX12_fanComes_8 rfl (by decide) rfl ?_
  refine ga_aload_n 1 dX12_fanComes_9 rfl rfl ?_
  refine ga_getR (kI := 20) (r := 97) dX12_fanComes_10 fX12_35 rfl rfl (by decide) rfl ?_
  refine ga_iload_n 2 dX12_fanComes_13 rfl rfl ?_
  obtain ⟨i4, h⟩ := h
  refine ga_iald (nI := 6) dX12_fanComes_14 rfl rfl i4 (fun r5 => ?_)
  refine ga_aload_n 1 dX12_fanComes_15 rfl rfl ?_
  refine ga_getI (kI := 12) dX12_fanComes_16 fX12_242 rfl rfl rfl (fun r6 => ?_)
  obtain ⟨ht, hf⟩ := h
  refine ga_icmp_lt (tgt := 29) dX12_fanComes_19 (by decide) r5 r6 (fun q7 => ?_) (fun q7 => ?_)
  · replace q7 : (gI σ1 97 x1) < (gI σ1 88 12) := q7
    have h := ht q7
    refine ga_aload_n 1 dX12_fanComes_29 rfl rfl ?_
    refine ga_getR (kI := 19) (r := 96) dX12_fanComes_30 fX12_32 rfl rfl (by decide) rfl ?_
    refine ga_bipush dX12_fanComes_33 (by decide) ?_
    refine ga_iload_n 2 dX12_fanComes_35 rfl rfl ?_
    refine ga_imul dX12_fanComes_36 ?_
    refine ga_aload_n 1 dX12_fanComes_37 rfl rfl ?_
    refine ga_getR (kI := 20) (r := 97) dX12_fanComes_38 fX12_35 rfl rfl (by decide) rfl ?_
    refine ga_iload_n 2 dX12_fanComes_41 rfl rfl ?_
    refine ga_iald (nI := 6) dX12_fanComes_42 rfl rfl i4 (fun r8 => ?_)
    refine ga_iadd dX12_fanComes_43 ?_
    refine ga_iload_n 0 dX12_fanComes_44 rfl rfl ?_
    obtain ⟨i9, h⟩ := h
    obtain ⟨σ10, eσ10⟩ : ∃ z, z = sI σ1 96 ((9 * x1) + (gI σ1 97 x1)) v3 := ⟨_, rfl⟩
    replace h := h σ10 eσ10
    refine ga_iast (nI := 54) dX12_fanComes_45 rfl rfl i9 r2 eσ10 ?_
    refine ga_aload_n 1 dX12_fanComes_46 rfl rfl ?_
    refine ga_getR (kI := 20) (r := 97) dX12_fanComes_47 fX12_35 rfl rfl (by decide) rfl ?_
    refine ga_iload_n 2 dX12_fanComes_50 rfl rfl ?_
    refine ga_dup2 dX12_fanComes_51 rfl rfl ?_
    refine ga_iald (nI := 6) dX12_fanComes_52 rfl rfl i4 (fun r11 => ?_)
    refine ga_iconst dX12_fanComes_53 ?_
    refine ga_iadd dX12_fanComes_54 ?_
    obtain ⟨r13, h⟩ := h
    obtain ⟨σ12, eσ12⟩ : ∃ z, z = sI σ10 97 x1 ((gI σ10 97 x1) + 1) := ⟨_, rfl⟩
    replace h := h σ12 eσ12
    refine ga_iast (nI := 6) dX12_fanComes_55 rfl rfl i4 r13 eσ12 ?_
    exact ga_vret dX12_fanComes_56 rfl h
  · replace q7 : (gI σ1 88 12) ≤ (gI σ1 97 x1) := (Int.not_lt.mp q7)
    have h := hf q7
    refine ga_aload_n 1 dX12_fanComes_22 rfl rfl ?_
    refine ga_iload_n 0 dX12_fanComes_23 rfl rfl ?_
    refine ga_callVz (z := mX12_loses) (As := [vI v3]) (rest := []) dX12_fanComes_24 wX12_282 qX12_fanComes_X12_loses rfl ⟨_, rfl, rfl⟩ rfl rfl (Nat.le_of_ble_eq_true rfl) (gEz_mono h (fun v16 σ14 h r15 => ?_))
    replace h := h r15
    refine ga_pop dX12_fanComes_27 rfl ?_
    exact ga_vret dX12_fanComes_28 rfl h
abbrev eX12_bursts (l : Launch) (G : gG) (x1 : Int) (x2 : Int) (σ : gS) (Q : gS → Prop) : Prop := gEv l G mX12_bursts [.ref (G.2.1 88), vI x1, vI x2] σ Q
abbrev kX12_bursts_8 (l : Launch) (G : gG)  (x1 : Int) (x2 : Int) (x3 : Int) (x4 : Int) (x5 : Int) (σ : gS) (Q : gS → Prop) : Prop := gAt l G mX12_bursts (gQv G Q) 8 [(0, .ref (G.2.1 88)), (1, vI x1), (2, vI x2), (3, vI x3), (4, vI x4), (5, vI x5)] [] σ
abbrev kX12_bursts_65 (l : Launch) (G : gG)  (x1 : Int) (x2 : Int) (x3 : Int) (x4 : Int) (x5 : Int) (σ : gS) (Q : gS → Prop) : Prop := gAt l G mX12_bursts (gQv G Q) 65 [(0, .ref (G.2.1 88)), (1, vI x1), (2, vI x2), (3, vI x3), (4, vI x4), (5, vI x5)] [] σ
set_option maxRecDepth 100000 in
set_option maxHeartbeats 4000000 in
theorem vX12_bursts {l : Launch} {G : gG} (x1 : Int) (x2 : Int) (rx1 : gR x1) (rx2 : gR x2) (σ : gS) (Q : gS → Prop) (h : kX12_bursts_8 l G  x1 x2 0 1 0 σ Q) : eX12_bursts l G x1 x2 σ Q := by
  refine ga_entry rfl (Nat.le_of_ble_eq_true rfl) ?_
  show gAt l G mX12_bursts (gQv G Q) 0 [(0, .ref (G.2.1 88)), (1, vI x1), (2, vI x2)] [] σ
  refine ga_iconst dX12_bursts_0 ?_
  refine ga_istore_n (ls' := [(3, vI 0), (0, .ref (G.2.1 88)), (1, vI x1), (2, vI x2)]) dX12_bursts_1 rfl (by decide) rfl ?_
  refine ga_iconst dX12_bursts_2 ?_
  refine ga_istore (ls' := [(4, vI 1), (3, vI 0), (0, .ref (G.2.1 88)), (1, vI x1), (2, vI x2)]) dX12_bursts_3 (by decide) rfl ?_
  refine ga_iconst dX12_bursts_5 ?_
  refine ga_istore (ls' := [(5, vI 0), (4, vI 1), (3, vI 0), (0, .ref (G.2.1 88)), (1, vI x1), (2, vI x2)]) dX12_bursts_6 (by decide) rfl ?_
  exact ga_sub [3, 4, 5, 2, 1, 0] rfl h
set_option maxRecDepth 100000 in
set_option maxHeartbeats 4000000 in
theorem vX12_bursts_8 {l : Launch} {G : gG}  (x1 : Int) (x2 : Int) (x3 : Int) (x4 : Int) (x5 : Int) (rx1 : gR x1) (rx2 : gR x2) (rx3 : gR x3) (rx4 : gR x4) (rx5 : gR x5) (σ : gS) (Q : gS → Prop) (h : ((gI σ 88 10) ≤ x5 → kX12_bursts_65 l G  x1 x2 x3 x4 ((gI σ 88 10) - 1) σ Q) ∧
  (x5 < (gI σ 88 10) → (x4 = 0 → kX12_bursts_65 l G  x1 x2 x3 x4 ((gI σ 88 10) - 1) σ Q) ∧
    (¬ x4 = 0 → (¬ (gand (gshr x2 x5) 1) = 0 → eX12_cellComes l G x1 x5 0 σ (fun v13 σ11 => (v13 = 0 ∨ v13 = 1) →
        kX12_bursts_8 l G  x1 x2 (gor x3 (gshl 1 x5)) v13 (x5 + 1) σ11 Q)) ∧
      ((gand (gshr x2 x5) 1) = 0 → kX12_bursts_8 l G  x1 x2 x3 x4 (x5 + 1) σ Q)))) : kX12_bursts_8 l G  x1 x2 x3 x4 x5 σ Q := by
  refine ga_iload 5 dX12_bursts_8 rfl ?_
  refine ga_aload_n 0 dX12_bursts_10 rfl rfl ?_
  refine ga_getI (kI := 10) dX12_bursts_11 fX12_236 rfl rfl rfl (fun r1 => ?_)
  obtain ⟨ht, hf⟩ := h
  refine ga_icmp_ge (tgt := 57) dX12_bursts_14 (by decide) rx5 r1 (fun q2 => ?_) (fun q2 => ?_)
  · replace q2 : (gI σ 88 10) ≤ x5 := q2
    have h := ht q2
    refine ga_aload_n 0 dX12_bursts_57 rfl rfl ?_
    refine ga_getI (kI := 10) dX12_bursts_58 fX12_236 rfl rfl rfl (fun r3 => ?_)
    refine ga_iconst dX12_bursts_61 ?_
    refine ga_isub dX12_bursts_62 ?_
    refine ga_istore (ls' := [(5, vI ((gI σ 88 10) - 1)), (0, .ref (G.2.1 88)), (1, vI x1), (2, vI x2), (3, vI x3), (4, vI x4)]) dX12_bursts_63 (by decide) rfl ?_
    exact ga_sub [1, 2, 3, 4, 5, 0] rfl h
  · replace q2 : x5 < (gI σ 88 10) := (Int.not_le.mp q2)
    have h := hf q2
    refine ga_iload 4 dX12_bursts_17 rfl ?_
    obtain ⟨ht, hf⟩ := h
    refine ga_if_eq (tgt := 57) dX12_bursts_19 (by decide) rx4 (fun q4 => ?_) (fun q4 => ?_)
    · replace q4 : x4 = 0 := q4
      have h := ht q4
      refine ga_aload_n 0 dX12_bursts_57 rfl rfl ?_
      refine ga_getI (kI := 10) dX12_bursts_58 fX12_236 rfl rfl rfl (fun r5 => ?_)
      refine ga_iconst dX12_bursts_61 ?_
      refine ga_isub dX12_bursts_62 ?_
      refine ga_istore (ls' := [(5, vI ((gI σ 88 10) - 1)), (0, .ref (G.2.1 88)), (1, vI x1), (2, vI x2), (3, vI x3), (4, vI x4)]) dX12_bursts_63 (by decide) rfl ?_
      exact ga_sub [1, 2, 3, 4, 5, 0] rfl h
    · replace q4 : ¬ x4 = 0 := q4
      have h := hf q4
      refine ga_iload_n 2 dX12_bursts_22 rfl rfl ?_
      refine ga_iload 5 dX12_bursts_23 rfl ?_
      refine ga_ishr dX12_bursts_25 (fun r6 => ?_)
      refine ga_iconst dX12_bursts_26 ?_
      refine ga_iand dX12_bursts_27 (fun r7 => ?_)
      obtain ⟨ht, hf⟩ := h
      refine ga_if_ne (tgt := 34) dX12_bursts_28 (by decide) r7 (fun q8 => ?_) (fun q8 => ?_)
      · replace q8 : ¬ (gand (gshr x2 x5) 1) = 0 := q8
        have h := ht q8
        refine ga_iload_n 3 dX12_bursts_34 rfl rfl ?_
        refine ga_iconst dX12_bursts_35 ?_
        refine ga_iload 5 dX12_bursts_36 rfl ?_
        refine ga_ishl dX12_bursts_38 (fun r9 => ?_)
        refine ga_ior dX12_bursts_39 (fun r10 => ?_)
        refine ga_istore_n (ls' := [(3, vI (gor x3 (gshl 1 x5))), (0, .ref (G.2.1 88)), (1, vI x1), (2, vI x2), (4, vI x4), (5, vI x5)]) dX12_bursts_40 rfl (by decide) rfl ?_
        refine ga_aload_n 1 dX12_bursts_41 rfl rfl ?_
        refine ga_iload_n 2 dX12_bursts_42 rfl rfl ?_
        refine ga_iload 5 dX12_bursts_43 rfl ?_
        refine ga_iconst dX12_bursts_45 ?_
        refine ga_callVz (z := mX12_cellComes) (As := [vI x1, vI x5, vI 0]) (rest := []) dX12_bursts_46 wX12_285 qX12_bursts_X12_cellComes rfl ⟨_, rfl, rfl⟩ rfl rfl (Nat.le_of_ble_eq_true rfl) (gEz_mono h (fun v13 σ11 h r12 => ?_))
        replace h := h r12
        refine ga_istore (ls' := [(4, vI v13), (3, vI (gor x3 (gshl 1 x5))), (0, .ref (G.2.1 88)), (1, vI x1), (2, vI x2), (5, vI x5)]) dX12_bursts_49 (by decide) rfl ?_
        refine ga_iinc (ls' := [(5, vI (x5 + 1)), (4, vI v13), (3, vI (gor x3 (gshl 1 x5))), (0, .ref (G.2.1 88)), (1, vI x1), (2, vI x2)]) 5 dX12_bursts_51 rfl (by decide) rfl ?_
        refine ga_goto (tgt := 8) dX12_bursts_54 (by decide) ?_
        exact ga_sub [3, 4, 5, 2, 1, 0] rfl h
      · replace q8 : (gand (gshr x2 x5) 1) = 0 := (Decidable.not_not.mp q8)
        have h := hf q8
        refine ga_goto (tgt := 51) dX12_bursts_31 (by decide) ?_
        refine ga_iinc (ls' := [(5, vI (x5 + 1)), (0, .ref (G.2.1 88)), (1, vI x1), (2, vI x2), (3, vI x3), (4, vI x4)]) 5 dX12_bursts_51 rfl (by decide) rfl ?_
        refine ga_goto (tgt := 8) dX12_bursts_54 (by decide) ?_
        exact ga_sub [1, 2, 3, 4, 5, 0] rfl h
set_option maxRecDepth 100000 in
set_option maxHeartbeats 4000000 in
theorem vX12_bursts_65 {l : Launch} {G : gG}  (x1 : Int) (x2 : Int) (x3 : Int) (x4 : Int) (x5 : Int) (rx1 : gR x1) (rx2 : gR x2) (rx3 : gR x3) (rx4 : gR x4) (rx5 : gR x5) (σ : gS) (Q : gS → Prop) (h : (x5 < 0 → Q σ) ∧
  (0 ≤ x5 → (¬ (gand (gshr x3 x5) 1) = 0 → (gR ((gI σ 88 23) + 1)) ∧ ∀ σ19, σ19 = sI σ 88 23 ((gI σ 88 23) + 1) →
      (0 ≤ x5 ∧ x5 < 6) ∧ ∀ σ23, σ23 = sI σ19 98 x5 (gI σ19 88 23) →
      kX12_bursts_65 l G  x1 x2 x3 x4 (x5 + (-1)) σ23 Q) ∧
    ((gand (gshr x3 x5) 1) = 0 → kX12_bursts_65 l G  x1 x2 x3 x4 (x5 + (-1)) σ Q))) : kX12_bursts_65 l G  x1 x2 x3 x4 x5 σ Q := by
  refine ga_iload 5 dX12_bursts_65 rfl ?_
  obtain ⟨ht, hf⟩ := h
  refine ga_if_lt (tgt := 109) dX12_bursts_67 (by decide) rx5 (fun q14 => ?_) (fun q14 => ?_)
  · replace q14 : x5 < 0 := q14
    have h := ht q14
    exact ga_vret dX12_bursts_109 rfl h
  · replace q14 : 0 ≤ x5 := (Int.not_lt.mp q14)
    have h := hf q14
    refine ga_iload_n 3 dX12_bursts_70 rfl rfl ?_
    refine ga_iload 5 dX12_bursts_71 rfl ?_
    refine ga_ishr dX12_bursts_73 (fun r15 => ?_)
    refine ga_iconst dX12_bursts_74 ?_
    refine ga_iand dX12_bursts_75 (fun r16 => ?_)
    obtain ⟨ht, hf⟩ := h
    refine ga_if_ne (tgt := 82) dX12_bursts_76 (by decide) r16 (fun q17 => ?_) (fun q17 => ?_)
    · replace q17 : ¬ (gand (gshr x3 x5) 1) = 0 := q17
      have h := ht q17
      refine ga_aload_n 0 dX12_bursts_82 rfl rfl ?_
      refine ga_dup dX12_bursts_83 rfl ?_
      refine ga_getI (kI := 23) dX12_bursts_84 fX12_254 rfl rfl rfl (fun r18 => ?_)
      refine ga_iconst dX12_bursts_87 ?_
      refine ga_iadd dX12_bursts_88 ?_
      obtain ⟨r20, h⟩ := h
      obtain ⟨σ19, eσ19⟩ : ∃ z, z = sI σ 88 23 ((gI σ 88 23) + 1) := ⟨_, rfl⟩
      replace h := h σ19 eσ19
      refine ga_putI (kI := 23) dX12_bursts_89 fX12_254 pX12_23 rfl rfl rfl r20 eσ19 ?_
      refine ga_aload_n 0 dX12_bursts_92 rfl rfl ?_
      refine ga_getR (kI := 21) (r := 98) dX12_bursts_93 fX12_38 rfl rfl (by decide) rfl ?_
      refine ga_iload 5 dX12_bursts_96 rfl ?_
      refine ga_aload_n 0 dX12_bursts_98 rfl rfl ?_
      refine ga_getI (kI := 23) dX12_bursts_99 fX12_254 rfl rfl rfl (fun r21 => ?_)
      obtain ⟨i22, h⟩ := h
      obtain ⟨σ23, eσ23⟩ : ∃ z, z = sI σ19 98 x5 (gI σ19 88 23) := ⟨_, rfl⟩
      replace h := h σ23 eσ23
      refine ga_iast (nI := 6) dX12_bursts_102 rfl rfl i22 r21 eσ23 ?_
      refine ga_iinc (ls' := [(5, vI (x5 + (-1))), (0, .ref (G.2.1 88)), (1, vI x1), (2, vI x2), (3, vI x3), (4, vI x4)]) 5 dX12_bursts_103 rfl (by decide) rfl ?_
      refine ga_goto (tgt := 65) dX12_bursts_106 (by decide) ?_
      exact ga_sub [1, 2, 3, 4, 5, 0] rfl h
    · replace q17 : (gand (gshr x3 x5) 1) = 0 := (Decidable.not_not.mp q17)
      have h := hf q17
      refine ga_goto (tgt := 103) dX12_bursts_79 (by decide) ?_
      refine ga_iinc (ls' := [(5, vI (x5 + (-1))), (0, .ref (G.2.1 88)), (1, vI x1), (2, vI x2), (3, vI x3), (4, vI x4)]) 5 dX12_bursts_103 rfl (by decide) rfl ?_
      refine ga_goto (tgt := 65) dX12_bursts_106 (by decide) ?_
      exact ga_sub [1, 2, 3, 4, 5, 0] rfl h
abbrev eX12_headOf (l : Launch) (G : gG) (x1 : Int) (σ : gS) (Q : Int → gS → Prop) : Prop := gEi l G mX12_headOf [.ref (G.2.1 88), vI x1] σ Q
set_option maxRecDepth 100000 in
set_option maxHeartbeats 4000000 in
theorem vX12_headOf {l : Launch} {G : gG} (x1 : Int) (rx1 : gR x1) (σ : gS) (Q : Int → gS → Prop) (h : (0 ≤ x1 ∧ x1 < 6) ∧ ((¬ (gI σ 97 x1) = 0 → (0 ≤ (9 * x1) ∧ (9 * x1) < 54) ∧ True) ∧
  ((gI σ 97 x1) = 0 → True)) ∧
  (∀ v7 : Int, v7 = (if (gI σ 97 x1) = 0 then (-1) else (gI σ 96 (9 * x1))) →
  Q v7 σ)) : eX12_headOf l G x1 σ Q := by
  refine ga_entry rfl (Nat.le_of_ble_eq_true rfl) ?_
  show gAt l G mX12_headOf (gQi G Q) 0 [(0, .ref (G.2.1 88)), (1, vI x1)] [] σ
  refine ga_aload_n 0 dX12_headOf_0 rfl rfl ?_
  refine ga_getR (kI := 20) (r := 97) dX12_headOf_1 fX12_35 rfl rfl (by decide) rfl ?_
  refine ga_iload_n 1 dX12_headOf_4 rfl rfl ?_
  obtain ⟨i1, h⟩ := h
  refine ga_iald (nI := 6) dX12_headOf_5 rfl rfl i1 (fun r2 => ?_)
  obtain ⟨hob, h⟩ := h
  have kJ3 : ∀ v7 : Int, gR v7 → v7 = (if (gI σ 97 x1) = 0 then (-1) else (gI σ 96 (9 * x1))) → gAt l G mX12_headOf (gQi G Q) 22 [(0, .ref (G.2.1 88)), (1, vI x1)] [vI v7] σ := by
    intro v7 rv7 ev7
    replace h := h v7 ev7
    exact ga_iret dX12_headOf_22 rfl rv7 h
  replace h := hob
  obtain ⟨ht, hf⟩ := h
  refine ga_if_ne (tgt := 13) dX12_headOf_6 (by decide) r2 (fun q4 => ?_) (fun q4 => ?_)
  · replace q4 : ¬ (gI σ 97 x1) = 0 := q4
    have h := ht q4
    refine ga_aload_n 0 dX12_headOf_13 rfl rfl ?_
    refine ga_getR (kI := 19) (r := 96) dX12_headOf_14 fX12_32 rfl rfl (by decide) rfl ?_
    refine ga_bipush dX12_headOf_17 (by decide) ?_
    refine ga_iload_n 1 dX12_headOf_19 rfl rfl ?_
    refine ga_imul dX12_headOf_20 ?_
    obtain ⟨i5, h⟩ := h
    refine ga_iald (nI := 54) dX12_headOf_21 rfl rfl i5 (fun r6 => ?_)
    exact kJ3 (gI σ 96 (9 * x1)) r6 (by rw [if_neg q4])
  · replace q4 : (gI σ 97 x1) = 0 := (Decidable.not_not.mp q4)
    have h := hf q4
    refine ga_iconst dX12_headOf_9 ?_
    refine ga_goto (tgt := 22) dX12_headOf_10 (by decide) ?_
    exact kJ3 (-1) (by decide) (by rw [if_pos q4])
abbrev eX12_leftOf (l : Launch) (G : gG) (x1 : Int) (σ : gS) (Q : Int → gS → Prop) : Prop := gEi l G mX12_leftOf [.ref (G.2.1 88), vI x1] σ Q
set_option maxRecDepth 100000 in
set_option maxHeartbeats 4000000 in
theorem vX12_leftOf {l : Launch} {G : gG} (x1 : Int) (rx1 : gR x1) (σ : gS) (Q : Int → gS → Prop) (h : (0 ≤ x1 ∧ x1 < 6) ∧ ((¬ (gI σ 97 x1) = 0 → (0 ≤ (9 * x1) ∧ (9 * x1) < 54) ∧ (0 ≤ (gI σ 96 (9 * x1)) ∧ (gI σ 96 (9 * x1)) < 400) ∧ True) ∧
  ((gI σ 97 x1) = 0 → True)) ∧
  (∀ v9 : Int, v9 = (if (gI σ 97 x1) = 0 then 0 else (gI σ 106 (gI σ 96 (9 * x1)))) →
  Q v9 σ)) : eX12_leftOf l G x1 σ Q := by
  refine ga_entry rfl (Nat.le_of_ble_eq_true rfl) ?_
  show gAt l G mX12_leftOf (gQi G Q) 0 [(0, .ref (G.2.1 88)), (1, vI x1)] [] σ
  refine ga_aload_n 0 dX12_leftOf_0 rfl rfl ?_
  refine ga_getR (kI := 20) (r := 97) dX12_leftOf_1 fX12_35 rfl rfl (by decide) rfl ?_
  refine ga_iload_n 1 dX12_leftOf_4 rfl rfl ?_
  obtain ⟨i1, h⟩ := h
  refine ga_iald (nI := 6) dX12_leftOf_5 rfl rfl i1 (fun r2 => ?_)
  obtain ⟨hob, h⟩ := h
  have kJ3 : ∀ v9 : Int, gR v9 → v9 = (if (gI σ 97 x1) = 0 then 0 else (gI σ 106 (gI σ 96 (9 * x1)))) → gAt l G mX12_leftOf (gQi G Q) 27 [(0, .ref (G.2.1 88)), (1, vI x1)] [vI v9] σ := by
    intro v9 rv9 ev9
    replace h := h v9 ev9
    exact ga_iret dX12_leftOf_27 rfl rv9 h
  replace h := hob
  obtain ⟨ht, hf⟩ := h
  refine ga_if_ne (tgt := 13) dX12_leftOf_6 (by decide) r2 (fun q4 => ?_) (fun q4 => ?_)
  · replace q4 : ¬ (gI σ 97 x1) = 0 := q4
    have h := ht q4
    refine ga_aload_n 0 dX12_leftOf_13 rfl rfl ?_
    refine ga_getR (kI := 36) (r := 106) dX12_leftOf_14 fX12_62 rfl rfl (by decide) rfl ?_
    refine ga_aload_n 0 dX12_leftOf_17 rfl rfl ?_
    refine ga_getR (kI := 19) (r := 96) dX12_leftOf_18 fX12_32 rfl rfl (by decide) rfl ?_
    refine ga_bipush dX12_leftOf_21 (by decide) ?_
    refine ga_iload_n 1 dX12_leftOf_23 rfl rfl ?_
    refine ga_imul dX12_leftOf_24 ?_
    obtain ⟨i5, h⟩ := h
    refine ga_iald (nI := 54) dX12_leftOf_25 rfl rfl i5 (fun r6 => ?_)
    obtain ⟨i7, h⟩ := h
    refine ga_iald (nI := 400) dX12_leftOf_26 rfl rfl i7 (fun r8 => ?_)
    exact kJ3 (gI σ 106 (gI σ 96 (9 * x1))) r8 (by rw [if_neg q4])
  · replace q4 : (gI σ 97 x1) = 0 := (Decidable.not_not.mp q4)
    have h := hf q4
    refine ga_iconst dX12_leftOf_9 ?_
    refine ga_goto (tgt := 27) dX12_leftOf_10 (by decide) ?_
    exact kJ3 0 (by decide) (by rw [if_pos q4])
abbrev eX12_servedSet (l : Launch) (G : gG)  (σ : gS) (Q : Int → gS → Prop) : Prop := gEi l G mX12_servedSet [.ref (G.2.1 88)] σ Q
abbrev kX12_servedSet_4 (l : Launch) (G : gG)  (x1 : Int) (x2 : Int) (σ : gS) (Q : Int → gS → Prop) : Prop := gAt l G mX12_servedSet (gQi G Q) 4 [(0, .ref (G.2.1 88)), (1, vI x1), (2, vI x2)] [] σ
abbrev kX12_servedSet_22 (l : Launch) (G : gG)  (x1 : Int) (x2 : Int) (x3 : Int) (x4 : Int) (x5 : Int) (σ : gS) (Q : Int → gS → Prop) : Prop := gAt l G mX12_servedSet (gQi G Q) 22 [(0, .ref (G.2.1 88)), (1, vI x1), (2, vI x2), (3, vI x3), (4, vI x4), (5, vI x5)] [] σ
set_option maxRecDepth 100000 in
set_option maxHeartbeats 4000000 in
theorem vX12_servedSet {l : Launch} {G : gG}  (σ : gS) (Q : Int → gS → Prop) (h : kX12_servedSet_4 l G  0 1 σ Q) : eX12_servedSet l G  σ Q := by
  refine ga_entry rfl (Nat.le_of_ble_eq_true rfl) ?_
  show gAt l G mX12_servedSet (gQi G Q) 0 [(0, .ref (G.2.1 88))] [] σ
  refine ga_iconst dX12_servedSet_0 ?_
  refine ga_istore_n (ls' := [(1, vI 0), (0, .ref (G.2.1 88))]) dX12_servedSet_1 rfl (by decide) rfl ?_
  refine ga_iconst dX12_servedSet_2 ?_
  refine ga_istore_n (ls' := [(2, vI 1), (1, vI 0), (0, .ref (G.2.1 88))]) dX12_servedSet_3 rfl (by decide) rfl ?_
  exact ga_sub [2, 1, 0] rfl h
set_option maxRecDepth 100000 in
set_option maxHeartbeats 4000000 in
theorem vX12_servedSet_4 {l : Launch} {G : gG}  (x1 : Int) (x2 : Int) (rx1 : gR x1) (rx2 : gR x2) (σ : gS) (Q : Int → gS → Prop) (h : ((gshl 1 (gI σ 88 10)) ≤ x2 → Q x1 σ) ∧
  (x2 < (gshl 1 (gI σ 88 10)) → kX12_servedSet_22 l G  x1 x2 0 1 0 σ Q)) : kX12_servedSet_4 l G  x1 x2 σ Q := by
  refine ga_iload_n 2 dX12_servedSet_4 rfl rfl ?_
  refine ga_iconst dX12_servedSet_5 ?_
  refine ga_aload_n 0 dX12_servedSet_6 rfl rfl ?_
  refine ga_getI (kI := 10) dX12_servedSet_7 fX12_236 rfl rfl rfl (fun r1 => ?_)
  refine ga_ishl dX12_servedSet_10 (fun r2 => ?_)
  obtain ⟨ht, hf⟩ := h
  refine ga_icmp_ge (tgt := 114) dX12_servedSet_11 (by decide) rx2 r2 (fun q3 => ?_) (fun q3 => ?_)
  · replace q3 : (gshl 1 (gI σ 88 10)) ≤ x2 := q3
    have h := ht q3
    refine ga_iload_n 1 dX12_servedSet_114 rfl rfl ?_
    exact ga_iret dX12_servedSet_115 rfl rx1 h
  · replace q3 : x2 < (gshl 1 (gI σ 88 10)) := (Int.not_le.mp q3)
    have h := hf q3
    refine ga_iconst dX12_servedSet_14 ?_
    refine ga_istore_n (ls' := [(3, vI 0), (0, .ref (G.2.1 88)), (1, vI x1), (2, vI x2)]) dX12_servedSet_15 rfl (by decide) rfl ?_
    refine ga_iconst dX12_servedSet_16 ?_
    refine ga_istore (ls' := [(4, vI 1), (3, vI 0), (0, .ref (G.2.1 88)), (1, vI x1), (2, vI x2)]) dX12_servedSet_17 (by decide) rfl ?_
    refine ga_iconst dX12_servedSet_19 ?_
    refine ga_istore (ls' := [(5, vI 0), (4, vI 1), (3, vI 0), (0, .ref (G.2.1 88)), (1, vI x1), (2, vI x2)]) dX12_servedSet_20 (by decide) rfl ?_
    exact ga_sub [3, 4, 5, 2, 1, 0] rfl h
set_option maxRecDepth 100000 in
set_option maxHeartbeats 4000000 in
theorem vX12_servedSet_22 {l : Launch} {G : gG}  (x1 : Int) (x2 : Int) (x3 : Int) (x4 : Int) (x5 : Int) (rx1 : gR x1) (rx2 : gR x2) (rx3 : gR x3) (rx4 : gR x4) (rx5 : gR x5) (σ : gS) (Q : Int → gS → Prop) (h : ((gI σ 88 10) ≤ x5 → (x4 = 0 → kX12_servedSet_4 l G  x1 (x2 + 1) σ Q) ∧
    (¬ x4 = 0 → eX12_bitsOf l G x2 σ (fun v9 σ7 => gR v9 →
      eX12_bitsOf l G x1 σ7 (fun v12 σ10 => gR v12 →
      (v9 ≤ v12 → kX12_servedSet_4 l G  x1 (x2 + 1) σ10 Q) ∧
      (v12 < v9 → kX12_servedSet_4 l G  x2 (x2 + 1) σ10 Q))))) ∧
  (x5 < (gI σ 88 10) → (¬ (gand (gshr x2 x5) 1) = 0 → (x4 = 0 → eX12_leftOf l G x5 σ (fun v20 σ18 => gR v20 →
        kX12_servedSet_22 l G  x1 x2 (gor x3 v20) 0 (x5 + 1) σ18 Q)) ∧
      (¬ x4 = 0 → eX12_leftOf l G x5 σ (fun v24 σ22 => gR v24 →
        (v24 = 0 → eX12_leftOf l G x5 σ22 (fun v28 σ26 => gR v28 →
          kX12_servedSet_22 l G  x1 x2 (gor x3 v28) 0 (x5 + 1) σ26 Q)) ∧
        (¬ v24 = 0 → eX12_leftOf l G x5 σ22 (fun v32 σ30 => gR v32 →
          (∀ v36 : Int, v36 = (if (gand x3 v32) = 0 then 1 else 0) →
          eX12_leftOf l G x5 σ30 (fun v39 σ37 => gR v39 →
            kX12_servedSet_22 l G  x1 x2 (gor x3 v39) v36 (x5 + 1) σ37 Q))))))) ∧
    ((gand (gshr x2 x5) 1) = 0 → kX12_servedSet_22 l G  x1 x2 x3 x4 (x5 + 1) σ Q))) : kX12_servedSet_22 l G  x1 x2 x3 x4 x5 σ Q := by
  refine ga_iload 5 dX12_servedSet_22 rfl ?_
  refine ga_aload_n 0 dX12_servedSet_24 rfl rfl ?_
  refine ga_getI (kI := 10) dX12_servedSet_25 fX12_236 rfl rfl rfl (fun r4 => ?_)
  obtain ⟨ht, hf⟩ := h
  refine ga_icmp_ge (tgt := 90) dX12_servedSet_28 (by decide) rx5 r4 (fun q5 => ?_) (fun q5 => ?_)
  · replace q5 : (gI σ 88 10) ≤ x5 := q5
    have h := ht q5
    refine ga_iload 4 dX12_servedSet_90 rfl ?_
    obtain ⟨ht, hf⟩ := h
    refine ga_if_eq (tgt := 108) dX12_servedSet_92 (by decide) rx4 (fun q6 => ?_) (fun q6 => ?_)
    · replace q6 : x4 = 0 := q6
      have h := ht q6
      refine ga_iinc (ls' := [(2, vI (x2 + 1)), (0, .ref (G.2.1 88)), (1, vI x1), (3, vI x3), (4, vI x4), (5, vI x5)]) 2 dX12_servedSet_108 rfl (by decide) rfl ?_
      refine ga_goto (tgt := 4) dX12_servedSet_111 (by decide) ?_
      exact ga_sub [1, 2, 0] rfl h
    · replace q6 : ¬ x4 = 0 := q6
      have h := hf q6
      refine ga_iload_n 2 dX12_servedSet_95 rfl rfl ?_
      refine ga_callSi (z := mX12_bitsOf) (As := [vI x2]) (rest := []) dX12_servedSet_96 wX12_292 qX12_servedSet_X12_bitsOf rfl rfl (Nat.le_of_ble_eq_true rfl) (gEi_mono h (fun v9 σ7 h r8 => ?_))
      replace h := h r8
      refine ga_iload_n 1 dX12_servedSet_99 rfl rfl ?_
      refine ga_callSi (z := mX12_bitsOf) (As := [vI x1]) (rest := [vI v9]) dX12_servedSet_100 wX12_292 qX12_servedSet_X12_bitsOf rfl rfl (Nat.le_of_ble_eq_true rfl) (gEi_mono h (fun v12 σ10 h r11 => ?_))
      replace h := h r11
      obtain ⟨ht, hf⟩ := h
      refine ga_icmp_le (tgt := 108) dX12_servedSet_103 (by decide) r8 r11 (fun q13 => ?_) (fun q13 => ?_)
      · replace q13 : v9 ≤ v12 := q13
        have h := ht q13
        refine ga_iinc (ls' := [(2, vI (x2 + 1)), (0, .ref (G.2.1 88)), (1, vI x1), (3, vI x3), (4, vI x4), (5, vI x5)]) 2 dX12_servedSet_108 rfl (by decide) rfl ?_
        refine ga_goto (tgt := 4) dX12_servedSet_111 (by decide) ?_
        exact ga_sub [1, 2, 0] rfl h
      · replace q13 : v12 < v9 := (Int.not_le.mp q13)
        have h := hf q13
        refine ga_iload_n 2 dX12_servedSet_106 rfl rfl ?_
        refine ga_istore_n (ls' := [(1, vI x2), (0, .ref (G.2.1 88)), (2, vI x2), (3, vI x3), (4, vI x4), (5, vI x5)]) dX12_servedSet_107 rfl (by decide) rfl ?_
        refine ga_iinc (ls' := [(2, vI (x2 + 1)), (1, vI x2), (0, .ref (G.2.1 88)), (3, vI x3), (4, vI x4), (5, vI x5)]) 2 dX12_servedSet_108 rfl (by decide) rfl ?_
        refine ga_goto (tgt := 4) dX12_servedSet_111 (by decide) ?_
        exact ga_sub [2, 1, 0] rfl h
  · replace q5 : x5 < (gI σ 88 10) := (Int.not_le.mp q5)
    have h := hf q5
    refine ga_iload_n 2 dX12_servedSet_31 rfl rfl ?_
    refine ga_iload 5 dX12_servedSet_32 rfl ?_
    refine ga_ishr dX12_servedSet_34 (fun r14 => ?_)
    refine ga_iconst dX12_servedSet_35 ?_
    refine ga_iand dX12_servedSet_36 (fun r15 => ?_)
    obtain ⟨ht, hf⟩ := h
    refine ga_if_ne (tgt := 43) dX12_servedSet_37 (by decide) r15 (fun q16 => ?_) (fun q16 => ?_)
    · replace q16 : ¬ (gand (gshr x2 x5) 1) = 0 := q16
      have h := ht q16
      refine ga_iload 4 dX12_servedSet_43 rfl ?_
      obtain ⟨ht, hf⟩ := h
      refine ga_if_eq (tgt := 72) dX12_servedSet_45 (by decide) rx4 (fun q17 => ?_) (fun q17 => ?_)
      · replace q17 : x4 = 0 := q17
        have h := ht q17
        refine ga_iconst dX12_servedSet_72 ?_
        refine ga_istore (ls' := [(4, vI 0), (0, .ref (G.2.1 88)), (1, vI x1), (2, vI x2), (3, vI x3), (5, vI x5)]) dX12_servedSet_73 (by decide) rfl ?_
        refine ga_iload_n 4 dX12_servedSet_75 rfl rfl ?_
        refine ga_aload_n 1 dX12_servedSet_76 rfl rfl ?_
        refine ga_iload 5 dX12_servedSet_77 rfl ?_
        refine ga_callVi (z := mX12_leftOf) (As := [vI x5]) (rest := [vI x3]) dX12_servedSet_79 wX12_289 qX12_servedSet_X12_leftOf rfl ⟨_, rfl, rfl⟩ rfl rfl (Nat.le_of_ble_eq_true rfl) (gEi_mono h (fun v20 σ18 h r19 => ?_))
        replace h := h r19
        refine ga_ior dX12_servedSet_82 (fun r21 => ?_)
        refine ga_istore_n (ls' := [(3, vI (gor x3 v20)), (4, vI 0), (0, .ref (G.2.1 88)), (1, vI x1), (2, vI x2), (5, vI x5)]) dX12_servedSet_83 rfl (by decide) rfl ?_
        refine ga_iinc (ls' := [(5, vI (x5 + 1)), (3, vI (gor x3 v20)), (4, vI 0), (0, .ref (G.2.1 88)), (1, vI x1), (2, vI x2)]) 5 dX12_servedSet_84 rfl (by decide) rfl ?_
        refine ga_goto (tgt := 22) dX12_servedSet_87 (by decide) ?_
        exact ga_sub [3, 4, 5, 1, 2, 0] rfl h
      · replace q17 : ¬ x4 = 0 := q17
        have h := hf q17
        refine ga_aload_n 0 dX12_servedSet_48 rfl rfl ?_
        refine ga_iload 5 dX12_servedSet_49 rfl ?_
        refine ga_callVi (z := mX12_leftOf) (As := [vI x5]) (rest := []) dX12_servedSet_51 wX12_289 qX12_servedSet_X12_leftOf rfl ⟨_, rfl, rfl⟩ rfl rfl (Nat.le_of_ble_eq_true rfl) (gEi_mono h (fun v24 σ22 h r23 => ?_))
        replace h := h r23
        obtain ⟨ht, hf⟩ := h
        refine ga_if_eq (tgt := 72) dX12_servedSet_54 (by decide) r23 (fun q25 => ?_) (fun q25 => ?_)
        · replace q25 : v24 = 0 := q25
          have h := ht q25
          refine ga_iconst dX12_servedSet_72 ?_
          refine ga_istore (ls' := [(4, vI 0), (0, .ref (G.2.1 88)), (1, vI x1), (2, vI x2), (3, vI x3), (5, vI x5)]) dX12_servedSet_73 (by decide) rfl ?_
          refine ga_iload_n 4 dX12_servedSet_75 rfl rfl ?_
          refine ga_aload_n 1 dX12_servedSet_76 rfl rfl ?_
          refine ga_iload 5 dX12_servedSet_77 rfl ?_
          refine ga_callVi (z := mX12_leftOf) (As := [vI x5]) (rest := [vI x3]) dX12_servedSet_79 wX12_289 qX12_servedSet_X12_leftOf rfl ⟨_, rfl, rfl⟩ rfl rfl (Nat.le_of_ble_eq_true rfl) (gEi_mono h (fun v28 σ26 h r27 => ?_))
          replace h := h r27
          refine ga_ior dX12_servedSet_82 (fun r29 => ?_)
          refine ga_istore_n (ls' := [(3, vI (gor x3 v28)), (4, vI 0), (0, .ref (G.2.1 88)), (1, vI x1), (2, vI x2), (5, vI x5)]) dX12_servedSet_83 rfl (by decide) rfl ?_
          refine ga_iinc (ls' := [(5, vI (x5 + 1)), (3, vI (gor x3 v28)), (4, vI 0), (0, .ref (G.2.1 88)), (1, vI x1), (2, vI x2)]) 5 dX12_servedSet_84 rfl (by decide) rfl ?_
          refine ga_goto (tgt := 22) dX12_servedSet_87 (by decide) ?_
          exact ga_sub [3, 4, 5, 1, 2, 0] rfl h
        · replace q25 : ¬ v24 = 0 := q25
          have h := hf q25
          refine ga_iload_n 3 dX12_servedSet_57 rfl rfl ?_
          refine ga_aload_n 0 dX12_servedSet_58 rfl rfl ?_
          refine ga_iload 5 dX12_servedSet_59 rfl ?_
          refine ga_callVi (z := mX12_leftOf) (As := [vI x5]) (rest := [vI x3]) dX12_servedSet_61 wX12_289 qX12_servedSet_X12_leftOf rfl ⟨_, rfl, rfl⟩ rfl rfl (Nat.le_of_ble_eq_true rfl) (gEi_mono h (fun v32 σ30 h r31 => ?_))
          replace h := h r31
          refine ga_iand dX12_servedSet_64 (fun r33 => ?_)
          have kJ34 : ∀ v36 : Int, gR v36 → (v36 = 0 ∨ v36 = 1) → v36 = (if (gand x3 v32) = 0 then 1 else 0) → gAt l G mX12_servedSet (gQi G Q) 73 [(0, .ref (G.2.1 88)), (1, vI x1), (2, vI x2), (3, vI x3), (4, vI x4), (5, vI x5)] [vI v36] σ30 := by
            intro v36 rv36 bv36 ev36
            replace h := h v36 ev36
            refine ga_istore (ls' := [(4, vI v36), (0, .ref (G.2.1 88)), (1, vI x1), (2, vI x2), (3, vI x3), (5, vI x5)]) dX12_servedSet_73 (by decide) rfl ?_
            refine ga_iload_n 4 dX12_servedSet_75 rfl rfl ?_
            refine ga_aload_n 1 dX12_servedSet_76 rfl rfl ?_
            refine ga_iload 5 dX12_servedSet_77 rfl ?_
            refine ga_callVi (z := mX12_leftOf) (As := [vI x5]) (rest := [vI x3]) dX12_servedSet_79 wX12_289 qX12_servedSet_X12_leftOf rfl ⟨_, rfl, rfl⟩ rfl rfl (Nat.le_of_ble_eq_true rfl) (gEi_mono h (fun v39 σ37 h r38 => ?_))
            replace h := h r38
            refine ga_ior dX12_servedSet_82 (fun r40 => ?_)
            refine ga_istore_n (ls' := [(3, vI (gor x3 v39)), (4, vI v36), (0, .ref (G.2.1 88)), (1, vI x1), (2, vI x2), (5, vI x5)]) dX12_servedSet_83 rfl (by decide) rfl ?_
            refine ga_iinc (ls' := [(5, vI (x5 + 1)), (3, vI (gor x3 v39)), (4, vI v36), (0, .ref (G.2.1 88)), (1, vI x1), (2, vI x2)]) 5 dX12_servedSet_84 rfl (by decide) rfl ?_
            refine ga_goto (tgt := 22) dX12_servedSet_87 (by decide) ?_
            exact ga_sub [3, 4, 5, 1, 2, 0] rfl h
          replace h : (¬ (gand x3 v32) = 0 → True) ∧
          ((gand x3 v32) = 0 → True) := by repeat (first | exact True.intro | apply And.intro | intro _)
          obtain ⟨ht, hf⟩ := h
          refine ga_if_ne (tgt := 72) dX12_servedSet_65 (by decide) r33 (fun q35 => ?_) (fun q35 => ?_)
          · replace q35 : ¬ (gand x3 v32) = 0 := q35
            have h := ht q35
            refine ga_iconst dX12_servedSet_72 ?_
            exact kJ34 0 (by decide) (Or.inl rfl) (by rw [if_neg q35])
          · replace q35 : (gand x3 v32) = 0 := (Decidable.not_not.mp q35)
            have h := hf q35
            refine ga_iconst dX12_servedSet_68 ?_
            refine ga_goto (tgt := 73) dX12_servedSet_69 (by decide) ?_
            exact kJ34 1 (by decide) (Or.inr rfl) (by rw [if_pos q35])
    · replace q16 : (gand (gshr x2 x5) 1) = 0 := (Decidable.not_not.mp q16)
      have h := hf q16
      refine ga_goto (tgt := 84) dX12_servedSet_40 (by decide) ?_
      refine ga_iinc (ls' := [(5, vI (x5 + 1)), (0, .ref (G.2.1 88)), (1, vI x1), (2, vI x2), (3, vI x3), (4, vI x4)]) 5 dX12_servedSet_84 rfl (by decide) rfl ?_
      refine ga_goto (tgt := 22) dX12_servedSet_87 (by decide) ?_
      exact ga_sub [1, 2, 3, 4, 5, 0] rfl h
abbrev eX12_sendsFans (l : Launch) (G : gG)  (σ : gS) (Q : gS → Prop) : Prop := gEv l G mX12_sendsFans [.ref (G.2.1 88)] σ Q
abbrev kX12_sendsFans_7 (l : Launch) (G : gG)  (x1 : Int) (x2 : Int) (σ : gS) (Q : gS → Prop) : Prop := gAt l G mX12_sendsFans (gQv G Q) 7 [(0, .ref (G.2.1 88)), (1, vI x1), (2, vI x2)] [] σ
abbrev kX12_sendsFans_28 (l : Launch) (G : gG)  (x1 : Int) (x2 : Int) (σ : gS) (Q : gS → Prop) : Prop := gAt l G mX12_sendsFans (gQv G Q) 28 [(0, .ref (G.2.1 88)), (1, vI x1), (2, vI x2)] [] σ
abbrev kX12_sendsFans_47 (l : Launch) (G : gG)  (x1 : Int) (x2 : Int) (x3 : Int) (σ : gS) (Q : gS → Prop) : Prop := gAt l G mX12_sendsFans (gQv G Q) 47 [(0, .ref (G.2.1 88)), (1, vI x1), (2, vI x2), (3, vI x3)] [] σ
abbrev kX12_sendsFans_89 (l : Launch) (G : gG)  (x1 : Int) (x2 : Int) (σ : gS) (Q : gS → Prop) : Prop := gAt l G mX12_sendsFans (gQv G Q) 89 [(0, .ref (G.2.1 88)), (1, vI x1), (2, vI x2)] [] σ
abbrev kX12_sendsFans_99 (l : Launch) (G : gG)  (x1 : Int) (x2 : Int) (x3 : Int) (σ : gS) (Q : gS → Prop) : Prop := gAt l G mX12_sendsFans (gQv G Q) 99 [(0, .ref (G.2.1 88)), (1, vI x1), (2, vI x2), (3, vI x3)] [] σ
abbrev kX12_sendsFans_161 (l : Launch) (G : gG)  (x1 : Int) (x2 : Int) (σ : gS) (Q : gS → Prop) : Prop := gAt l G mX12_sendsFans (gQv G Q) 161 [(0, .ref (G.2.1 88)), (1, vI x1), (2, vI x2)] [] σ
abbrev kX12_sendsFans_242 (l : Launch) (G : gG)  (x1 : Int) (x2 : Int) (σ : gS) (Q : gS → Prop) : Prop := gAt l G mX12_sendsFans (gQv G Q) 242 [(0, .ref (G.2.1 88)), (1, vI x1), (2, vI x2)] [] σ
abbrev kX12_sendsFans_325 (l : Launch) (G : gG)  (x1 : Int) (x2 : Int) (x3 : Int) (x4 : Int) (σ : gS) (Q : gS → Prop) : Prop := gAt l G mX12_sendsFans (gQv G Q) 325 [(0, .ref (G.2.1 88)), (1, vI x1), (2, vI x2), (3, vI x3), (4, vI x4)] [] σ
set_option maxRecDepth 100000 in
set_option maxHeartbeats 4000000 in
theorem vX12_sendsFans {l : Launch} {G : gG}  (σ : gS) (Q : gS → Prop) (h : eX12_servedSet l G  σ (fun v3 σ1 => gR v3 →
  kX12_sendsFans_7 l G  v3 0 σ1 Q)) : eX12_sendsFans l G  σ Q := by
  refine ga_entry rfl (Nat.le_of_ble_eq_true rfl) ?_
  show gAt l G mX12_sendsFans (gQv G Q) 0 [(0, .ref (G.2.1 88))] [] σ
  refine ga_aload_n 0 dX12_sendsFans_0 rfl rfl ?_
  refine ga_callVi (z := mX12_servedSet) (As := []) (rest := []) dX12_sendsFans_1 wX12_295 qX12_sendsFans_X12_servedSet rfl ⟨_, rfl, rfl⟩ rfl rfl (Nat.le_of_ble_eq_true rfl) (gEi_mono h (fun v3 σ1 h r2 => ?_))
  replace h := h r2
  refine ga_istore_n (ls' := [(1, vI v3), (0, .ref (G.2.1 88))]) dX12_sendsFans_4 rfl (by decide) rfl ?_
  refine ga_iconst dX12_sendsFans_5 ?_
  refine ga_istore_n (ls' := [(2, vI 0), (1, vI v3), (0, .ref (G.2.1 88))]) dX12_sendsFans_6 rfl (by decide) rfl ?_
  exact ga_sub [2, 1, 0] rfl h
set_option maxRecDepth 100000 in
set_option maxHeartbeats 4000000 in
theorem vX12_sendsFans_7 {l : Launch} {G : gG}  (x1 : Int) (x2 : Int) (rx1 : gR x1) (rx2 : gR x2) (σ : gS) (Q : gS → Prop) (h : (6 ≤ x2 → kX12_sendsFans_28 l G  x1 0 σ Q) ∧
  (x2 < 6 → (0 ≤ x2 ∧ x2 < 6) ∧ ∀ σ6, σ6 = sI σ 112 x2 (-1) →
    kX12_sendsFans_7 l G  x1 (x2 + 1) σ6 Q)) : kX12_sendsFans_7 l G  x1 x2 σ Q := by
  refine ga_iload_n 2 dX12_sendsFans_7 rfl rfl ?_
  refine ga_bipush dX12_sendsFans_8 (by decide) ?_
  obtain ⟨ht, hf⟩ := h
  refine ga_icmp_ge (tgt := 26) dX12_sendsFans_10 (by decide) rx2 (by decide) (fun q4 => ?_) (fun q4 => ?_)
  · replace q4 : 6 ≤ x2 := q4
    have h := ht q4
    refine ga_iconst dX12_sendsFans_26 ?_
    refine ga_istore_n (ls' := [(2, vI 0), (0, .ref (G.2.1 88)), (1, vI x1)]) dX12_sendsFans_27 rfl (by decide) rfl ?_
    exact ga_sub [1, 2, 0] rfl h
  · replace q4 : x2 < 6 := (Int.not_le.mp q4)
    have h := hf q4
    refine ga_aload_n 0 dX12_sendsFans_13 rfl rfl ?_
    refine ga_getR (kI := 44) (r := 112) dX12_sendsFans_14 fX12_80 rfl rfl (by decide) rfl ?_
    refine ga_iload_n 2 dX12_sendsFans_17 rfl rfl ?_
    refine ga_iconst dX12_sendsFans_18 ?_
    obtain ⟨i5, h⟩ := h
    obtain ⟨σ6, eσ6⟩ : ∃ z, z = sI σ 112 x2 (-1) := ⟨_, rfl⟩
    replace h := h σ6 eσ6
    refine ga_iast (nI := 6) dX12_sendsFans_19 rfl rfl i5 (by decide) eσ6 ?_
    refine ga_iinc (ls' := [(2, vI (x2 + 1)), (0, .ref (G.2.1 88)), (1, vI x1)]) 2 dX12_sendsFans_20 rfl (by decide) rfl ?_
    refine ga_goto (tgt := 7) dX12_sendsFans_23 (by decide) ?_
    exact ga_sub [1, 2, 0] rfl h
set_option maxRecDepth 100000 in
set_option maxHeartbeats 4000000 in
theorem vX12_sendsFans_28 {l : Launch} {G : gG}  (x1 : Int) (x2 : Int) (rx1 : gR x1) (rx2 : gR x2) (σ : gS) (Q : gS → Prop) (h : ((gI σ 88 10) ≤ x2 → kX12_sendsFans_89 l G  x1 0 σ Q) ∧
  (x2 < (gI σ 88 10) → (¬ (gand (gshr x1 x2) 1) = 1 → kX12_sendsFans_28 l G  x1 (x2 + 1) σ Q) ∧
    ((gand (gshr x1 x2) 1) = 1 → kX12_sendsFans_47 l G  x1 x2 0 σ Q))) : kX12_sendsFans_28 l G  x1 x2 σ Q := by
  refine ga_iload_n 2 dX12_sendsFans_28 rfl rfl ?_
  refine ga_aload_n 0 dX12_sendsFans_29 rfl rfl ?_
  refine ga_getI (kI := 10) dX12_sendsFans_30 fX12_236 rfl rfl rfl (fun r7 => ?_)
  obtain ⟨ht, hf⟩ := h
  refine ga_icmp_ge (tgt := 87) dX12_sendsFans_33 (by decide) rx2 r7 (fun q8 => ?_) (fun q8 => ?_)
  · replace q8 : (gI σ 88 10) ≤ x2 := q8
    have h := ht q8
    refine ga_iconst dX12_sendsFans_87 ?_
    refine ga_istore_n (ls' := [(2, vI 0), (0, .ref (G.2.1 88)), (1, vI x1)]) dX12_sendsFans_88 rfl (by decide) rfl ?_
    exact ga_sub [1, 2, 0] rfl h
  · replace q8 : x2 < (gI σ 88 10) := (Int.not_le.mp q8)
    have h := hf q8
    refine ga_iload_n 1 dX12_sendsFans_36 rfl rfl ?_
    refine ga_iload_n 2 dX12_sendsFans_37 rfl rfl ?_
    refine ga_ishr dX12_sendsFans_38 (fun r9 => ?_)
    refine ga_iconst dX12_sendsFans_39 ?_
    refine ga_iand dX12_sendsFans_40 (fun r10 => ?_)
    refine ga_iconst dX12_sendsFans_41 ?_
    obtain ⟨ht, hf⟩ := h
    refine ga_icmp_ne (tgt := 81) dX12_sendsFans_42 (by decide) r10 (by decide) (fun q11 => ?_) (fun q11 => ?_)
    · replace q11 : ¬ (gand (gshr x1 x2) 1) = 1 := q11
      have h := ht q11
      refine ga_iinc (ls' := [(2, vI (x2 + 1)), (0, .ref (G.2.1 88)), (1, vI x1)]) 2 dX12_sendsFans_81 rfl (by decide) rfl ?_
      refine ga_goto (tgt := 28) dX12_sendsFans_84 (by decide) ?_
      exact ga_sub [1, 2, 0] rfl h
    · replace q11 : (gand (gshr x1 x2) 1) = 1 := (Decidable.not_not.mp q11)
      have h := hf q11
      refine ga_iconst dX12_sendsFans_45 ?_
      refine ga_istore_n (ls' := [(3, vI 0), (0, .ref (G.2.1 88)), (1, vI x1), (2, vI x2)]) dX12_sendsFans_46 rfl (by decide) rfl ?_
      exact ga_sub [1, 2, 3, 0] rfl h
set_option maxRecDepth 100000 in
set_option maxHeartbeats 4000000 in
theorem vX12_sendsFans_47 {l : Launch} {G : gG}  (x1 : Int) (x2 : Int) (x3 : Int) (rx1 : gR x1) (rx2 : gR x2) (rx3 : gR x3) (σ : gS) (Q : gS → Prop) (h : ((gI σ 88 10) ≤ x3 → kX12_sendsFans_28 l G  x1 (x2 + 1) σ Q) ∧
  (x3 < (gI σ 88 10) → eX12_leftOf l G x2 σ (fun v16 σ14 => gR v16 →
    (¬ (gand (gshr v16 x3) 1) = 1 → kX12_sendsFans_47 l G  x1 x2 (x3 + 1) σ14 Q) ∧
    ((gand (gshr v16 x3) 1) = 1 → (0 ≤ x3 ∧ x3 < 6) ∧ ∀ σ21, σ21 = sI σ14 112 x3 x2 →
      kX12_sendsFans_47 l G  x1 x2 (x3 + 1) σ21 Q)))) : kX12_sendsFans_47 l G  x1 x2 x3 σ Q := by
  refine ga_iload_n 3 dX12_sendsFans_47 rfl rfl ?_
  refine ga_aload_n 0 dX12_sendsFans_48 rfl rfl ?_
  refine ga_getI (kI := 10) dX12_sendsFans_49 fX12_236 rfl rfl rfl (fun r12 => ?_)
  obtain ⟨ht, hf⟩ := h
  refine ga_icmp_ge (tgt := 81) dX12_sendsFans_52 (by decide) rx3 r12 (fun q13 => ?_) (fun q13 => ?_)
  · replace q13 : (gI σ 88 10) ≤ x3 := q13
    have h := ht q13
    refine ga_iinc (ls' := [(2, vI (x2 + 1)), (0, .ref (G.2.1 88)), (1, vI x1), (3, vI x3)]) 2 dX12_sendsFans_81 rfl (by decide) rfl ?_
    refine ga_goto (tgt := 28) dX12_sendsFans_84 (by decide) ?_
    exact ga_sub [1, 2, 0] rfl h
  · replace q13 : x3 < (gI σ 88 10) := (Int.not_le.mp q13)
    have h := hf q13
    refine ga_aload_n 0 dX12_sendsFans_55 rfl rfl ?_
    refine ga_iload_n 2 dX12_sendsFans_56 rfl rfl ?_
    refine ga_callVi (z := mX12_leftOf) (As := [vI x2]) (rest := []) dX12_sendsFans_57 wX12_289 qX12_sendsFans_X12_leftOf rfl ⟨_, rfl, rfl⟩ rfl rfl (Nat.le_of_ble_eq_true rfl) (gEi_mono h (fun v16 σ14 h r15 => ?_))
    replace h := h r15
    refine ga_iload_n 3 dX12_sendsFans_60 rfl rfl ?_
    refine ga_ishr dX12_sendsFans_61 (fun r17 => ?_)
    refine ga_iconst dX12_sendsFans_62 ?_
    refine ga_iand dX12_sendsFans_63 (fun r18 => ?_)
    refine ga_iconst dX12_sendsFans_64 ?_
    obtain ⟨ht, hf⟩ := h
    refine ga_icmp_ne (tgt := 75) dX12_sendsFans_65 (by decide) r18 (by decide) (fun q19 => ?_) (fun q19 => ?_)
    · replace q19 : ¬ (gand (gshr v16 x3) 1) = 1 := q19
      have h := ht q19
      refine ga_iinc (ls' := [(3, vI (x3 + 1)), (0, .ref (G.2.1 88)), (1, vI x1), (2, vI x2)]) 3 dX12_sendsFans_75 rfl (by decide) rfl ?_
      refine ga_goto (tgt := 47) dX12_sendsFans_78 (by decide) ?_
      exact ga_sub [1, 2, 3, 0] rfl h
    · replace q19 : (gand (gshr v16 x3) 1) = 1 := (Decidable.not_not.mp q19)
      have h := hf q19
      refine ga_aload_n 0 dX12_sendsFans_68 rfl rfl ?_
      refine ga_getR (kI := 44) (r := 112) dX12_sendsFans_69 fX12_80 rfl rfl (by decide) rfl ?_
      refine ga_iload_n 3 dX12_sendsFans_72 rfl rfl ?_
      refine ga_iload_n 2 dX12_sendsFans_73 rfl rfl ?_
      obtain ⟨i20, h⟩ := h
      obtain ⟨σ21, eσ21⟩ : ∃ z, z = sI σ14 112 x3 x2 := ⟨_, rfl⟩
      replace h := h σ21 eσ21
      refine ga_iast (nI := 6) dX12_sendsFans_74 rfl rfl i20 rx2 eσ21 ?_
      refine ga_iinc (ls' := [(3, vI (x3 + 1)), (0, .ref (G.2.1 88)), (1, vI x1), (2, vI x2)]) 3 dX12_sendsFans_75 rfl (by decide) rfl ?_
      refine ga_goto (tgt := 47) dX12_sendsFans_78 (by decide) ?_
      exact ga_sub [1, 2, 3, 0] rfl h
set_option maxRecDepth 100000 in
set_option maxHeartbeats 4000000 in
theorem vX12_sendsFans_89 {l : Launch} {G : gG}  (x1 : Int) (x2 : Int) (rx1 : gR x1) (rx2 : gR x2) (σ : gS) (Q : gS → Prop) (h : ((gI σ 88 10) ≤ x2 → ∀ σ24, σ24 = sI σ 88 41 0 →
    ∀ σ25, σ25 = sI σ24 88 42 0 →
    kX12_sendsFans_161 l G  x1 0 σ25 Q) ∧
  (x2 < (gI σ 88 10) → kX12_sendsFans_99 l G  x1 x2 0 σ Q)) : kX12_sendsFans_89 l G  x1 x2 σ Q := by
  refine ga_iload_n 2 dX12_sendsFans_89 rfl rfl ?_
  refine ga_aload_n 0 dX12_sendsFans_90 rfl rfl ?_
  refine ga_getI (kI := 10) dX12_sendsFans_91 fX12_236 rfl rfl rfl (fun r22 => ?_)
  obtain ⟨ht, hf⟩ := h
  refine ga_icmp_ge (tgt := 149) dX12_sendsFans_94 (by decide) rx2 r22 (fun q23 => ?_) (fun q23 => ?_)
  · replace q23 : (gI σ 88 10) ≤ x2 := q23
    have h := ht q23
    refine ga_aload_n 0 dX12_sendsFans_149 rfl rfl ?_
    refine ga_iconst dX12_sendsFans_150 ?_
    obtain ⟨σ24, eσ24⟩ : ∃ z, z = sI σ 88 41 0 := ⟨_, rfl⟩
    replace h := h σ24 eσ24
    refine ga_putI (kI := 41) dX12_sendsFans_151 fX12_299 pX12_41 rfl rfl rfl (by decide) eσ24 ?_
    refine ga_aload_n 0 dX12_sendsFans_154 rfl rfl ?_
    refine ga_iconst dX12_sendsFans_155 ?_
    obtain ⟨σ25, eσ25⟩ : ∃ z, z = sI σ24 88 42 0 := ⟨_, rfl⟩
    replace h := h σ25 eσ25
    refine ga_putI (kI := 42) dX12_sendsFans_156 fX12_302 pX12_42 rfl rfl rfl (by decide) eσ25 ?_
    refine ga_iconst dX12_sendsFans_159 ?_
    refine ga_istore_n (ls' := [(2, vI 0), (0, .ref (G.2.1 88)), (1, vI x1)]) dX12_sendsFans_160 rfl (by decide) rfl ?_
    exact ga_sub [1, 2, 0] rfl h
  · replace q23 : x2 < (gI σ 88 10) := (Int.not_le.mp q23)
    have h := hf q23
    refine ga_iconst dX12_sendsFans_97 ?_
    refine ga_istore_n (ls' := [(3, vI 0), (0, .ref (G.2.1 88)), (1, vI x1), (2, vI x2)]) dX12_sendsFans_98 rfl (by decide) rfl ?_
    exact ga_sub [1, 2, 3, 0] rfl h
set_option maxRecDepth 100000 in
set_option maxHeartbeats 4000000 in
theorem vX12_sendsFans_99 {l : Launch} {G : gG}  (x1 : Int) (x2 : Int) (x3 : Int) (rx1 : gR x1) (rx2 : gR x2) (rx3 : gR x3) (σ : gS) (Q : gS → Prop) (h : ((gI σ 88 10) ≤ x3 → kX12_sendsFans_89 l G  x1 (x2 + 1) σ Q) ∧
  (x3 < (gI σ 88 10) → (0 ≤ x2 ∧ x2 < 6) ∧ (¬ (gI σ 112 x2) = (-1) → kX12_sendsFans_89 l G  x1 (x2 + 1) σ Q) ∧
    ((gI σ 112 x2) = (-1) → eX12_leftOf l G x3 σ (fun v33 σ31 => gR v33 →
      (¬ (gand (gshr v33 x2) 1) = 1 → kX12_sendsFans_99 l G  x1 x2 (x3 + 1) σ31 Q) ∧
      ((gand (gshr v33 x2) 1) = 1 → ∀ σ37, σ37 = sI σ31 112 x2 x3 →
        kX12_sendsFans_99 l G  x1 x2 (x3 + 1) σ37 Q))))) : kX12_sendsFans_99 l G  x1 x2 x3 σ Q := by
  refine ga_iload_n 3 dX12_sendsFans_99 rfl rfl ?_
  refine ga_aload_n 0 dX12_sendsFans_100 rfl rfl ?_
  refine ga_getI (kI := 10) dX12_sendsFans_101 fX12_236 rfl rfl rfl (fun r26 => ?_)
  obtain ⟨ht, hf⟩ := h
  refine ga_icmp_ge (tgt := 143) dX12_sendsFans_104 (by decide) rx3 r26 (fun q27 => ?_) (fun q27 => ?_)
  · replace q27 : (gI σ 88 10) ≤ x3 := q27
    have h := ht q27
    refine ga_iinc (ls' := [(2, vI (x2 + 1)), (0, .ref (G.2.1 88)), (1, vI x1), (3, vI x3)]) 2 dX12_sendsFans_143 rfl (by decide) rfl ?_
    refine ga_goto (tgt := 89) dX12_sendsFans_146 (by decide) ?_
    exact ga_sub [1, 2, 0] rfl h
  · replace q27 : x3 < (gI σ 88 10) := (Int.not_le.mp q27)
    have h := hf q27
    refine ga_aload_n 0 dX12_sendsFans_107 rfl rfl ?_
    refine ga_getR (kI := 44) (r := 112) dX12_sendsFans_108 fX12_80 rfl rfl (by decide) rfl ?_
    refine ga_iload_n 2 dX12_sendsFans_111 rfl rfl ?_
    obtain ⟨i28, h⟩ := h
    refine ga_iald (nI := 6) dX12_sendsFans_112 rfl rfl i28 (fun r29 => ?_)
    refine ga_iconst dX12_sendsFans_113 ?_
    obtain ⟨ht, hf⟩ := h
    refine ga_icmp_ne (tgt := 143) dX12_sendsFans_114 (by decide) r29 (by decide) (fun q30 => ?_) (fun q30 => ?_)
    · replace q30 : ¬ (gI σ 112 x2) = (-1) := q30
      have h := ht q30
      refine ga_iinc (ls' := [(2, vI (x2 + 1)), (0, .ref (G.2.1 88)), (1, vI x1), (3, vI x3)]) 2 dX12_sendsFans_143 rfl (by decide) rfl ?_
      refine ga_goto (tgt := 89) dX12_sendsFans_146 (by decide) ?_
      exact ga_sub [1, 2, 0] rfl h
    · replace q30 : (gI σ 112 x2) = (-1) := (Decidable.not_not.mp q30)
      have h := hf q30
      refine ga_aload_n 0 dX12_sendsFans_117 rfl rfl ?_
      refine ga_iload_n 3 dX12_sendsFans_118 rfl rfl ?_
      refine ga_callVi (z := mX12_leftOf) (As := [vI x3]) (rest := []) dX12_sendsFans_119 wX12_289 qX12_sendsFans_X12_leftOf rfl ⟨_, rfl, rfl⟩ rfl rfl (Nat.le_of_ble_eq_true rfl) (gEi_mono h (fun v33 σ31 h r32 => ?_))
      replace h := h r32
      refine ga_iload_n 2 dX12_sendsFans_122 rfl rfl ?_
      refine ga_ishr dX12_sendsFans_123 (fun r34 => ?_)
      refine ga_iconst dX12_sendsFans_124 ?_
      refine ga_iand dX12_sendsFans_125 (fun r35 => ?_)
      refine ga_iconst dX12_sendsFans_126 ?_
      obtain ⟨ht, hf⟩ := h
      refine ga_icmp_ne (tgt := 137) dX12_sendsFans_127 (by decide) r35 (by decide) (fun q36 => ?_) (fun q36 => ?_)
      · replace q36 : ¬ (gand (gshr v33 x2) 1) = 1 := q36
        have h := ht q36
        refine ga_iinc (ls' := [(3, vI (x3 + 1)), (0, .ref (G.2.1 88)), (1, vI x1), (2, vI x2)]) 3 dX12_sendsFans_137 rfl (by decide) rfl ?_
        refine ga_goto (tgt := 99) dX12_sendsFans_140 (by decide) ?_
        exact ga_sub [1, 2, 3, 0] rfl h
      · replace q36 : (gand (gshr v33 x2) 1) = 1 := (Decidable.not_not.mp q36)
        have h := hf q36
        refine ga_aload_n 0 dX12_sendsFans_130 rfl rfl ?_
        refine ga_getR (kI := 44) (r := 112) dX12_sendsFans_131 fX12_80 rfl rfl (by decide) rfl ?_
        refine ga_iload_n 2 dX12_sendsFans_134 rfl rfl ?_
        refine ga_iload_n 3 dX12_sendsFans_135 rfl rfl ?_
        obtain ⟨σ37, eσ37⟩ : ∃ z, z = sI σ31 112 x2 x3 := ⟨_, rfl⟩
        replace h := h σ37 eσ37
        refine ga_iast (nI := 6) dX12_sendsFans_136 rfl rfl i28 rx3 eσ37 ?_
        refine ga_iinc (ls' := [(3, vI (x3 + 1)), (0, .ref (G.2.1 88)), (1, vI x1), (2, vI x2)]) 3 dX12_sendsFans_137 rfl (by decide) rfl ?_
        refine ga_goto (tgt := 99) dX12_sendsFans_140 (by decide) ?_
        exact ga_sub [1, 2, 3, 0] rfl h
set_option maxRecDepth 100000 in
set_option maxHeartbeats 4000000 in
theorem vX12_sendsFans_161 {l : Launch} {G : gG}  (x1 : Int) (x2 : Int) (rx1 : gR x1) (rx2 : gR x2) (σ : gS) (Q : gS → Prop) (h : ((gI σ 88 10) ≤ x2 → kX12_sendsFans_242 l G  x1 0 σ Q) ∧
  (x2 < (gI σ 88 10) → (0 ≤ x2 ∧ x2 < 6) ∧ (¬ (gI σ 112 x2) = (-1) → ∀ σ47, σ47 = sI σ 88 41 (gor (gI σ 88 41) (gshl 1 (gI σ 112 x2))) →
      ∀ σ51, σ51 = sI σ47 88 42 (gor (gI σ47 88 42) (gshl 1 x2)) →
      eX12_headOf l G (gI σ51 112 x2) σ51 (fun v55 σ53 => gR v55 →
      (0 ≤ v55 ∧ v55 < 400) ∧ ∀ σ61, σ61 = sI σ53 106 v55 (gand (gI σ53 106 v55) (gxor (gshl 1 x2) (-1))) →
      kX12_sendsFans_161 l G  x1 (x2 + 1) σ61 Q)) ∧
    ((gI σ 112 x2) = (-1) → kX12_sendsFans_161 l G  x1 (x2 + 1) σ Q))) : kX12_sendsFans_161 l G  x1 x2 σ Q := by
  refine ga_iload_n 2 dX12_sendsFans_161 rfl rfl ?_
  refine ga_aload_n 0 dX12_sendsFans_162 rfl rfl ?_
  refine ga_getI (kI := 10) dX12_sendsFans_163 fX12_236 rfl rfl rfl (fun r38 => ?_)
  obtain ⟨ht, hf⟩ := h
  refine ga_icmp_ge (tgt := 240) dX12_sendsFans_166 (by decide) rx2 r38 (fun q39 => ?_) (fun q39 => ?_)
  · replace q39 : (gI σ 88 10) ≤ x2 := q39
    have h := ht q39
    refine ga_iconst dX12_sendsFans_240 ?_
    refine ga_istore_n (ls' := [(2, vI 0), (0, .ref (G.2.1 88)), (1, vI x1)]) dX12_sendsFans_241 rfl (by decide) rfl ?_
    exact ga_sub [1, 2, 0] rfl h
  · replace q39 : x2 < (gI σ 88 10) := (Int.not_le.mp q39)
    have h := hf q39
    refine ga_aload_n 0 dX12_sendsFans_169 rfl rfl ?_
    refine ga_getR (kI := 44) (r := 112) dX12_sendsFans_170 fX12_80 rfl rfl (by decide) rfl ?_
    refine ga_iload_n 2 dX12_sendsFans_173 rfl rfl ?_
    obtain ⟨i40, h⟩ := h
    refine ga_iald (nI := 6) dX12_sendsFans_174 rfl rfl i40 (fun r41 => ?_)
    refine ga_iconst dX12_sendsFans_175 ?_
    obtain ⟨ht, hf⟩ := h
    refine ga_icmp_ne (tgt := 182) dX12_sendsFans_176 (by decide) r41 (by decide) (fun q42 => ?_) (fun q42 => ?_)
    · replace q42 : ¬ (gI σ 112 x2) = (-1) := q42
      have h := ht q42
      refine ga_aload_n 0 dX12_sendsFans_182 rfl rfl ?_
      refine ga_dup dX12_sendsFans_183 rfl ?_
      refine ga_getI (kI := 41) dX12_sendsFans_184 fX12_299 rfl rfl rfl (fun r43 => ?_)
      refine ga_iconst dX12_sendsFans_187 ?_
      refine ga_aload_n 0 dX12_sendsFans_188 rfl rfl ?_
      refine ga_getR (kI := 44) (r := 112) dX12_sendsFans_189 fX12_80 rfl rfl (by decide) rfl ?_
      refine ga_iload_n 2 dX12_sendsFans_192 rfl rfl ?_
      refine ga_iald (nI := 6) dX12_sendsFans_193 rfl rfl i40 (fun r44 => ?_)
      refine ga_ishl dX12_sendsFans_194 (fun r45 => ?_)
      refine ga_ior dX12_sendsFans_195 (fun r46 => ?_)
      obtain ⟨σ47, eσ47⟩ : ∃ z, z = sI σ 88 41 (gor (gI σ 88 41) (gshl 1 (gI σ 112 x2))) := ⟨_, rfl⟩
      replace h := h σ47 eσ47
      refine ga_putI (kI := 41) dX12_sendsFans_196 fX12_299 pX12_41 rfl rfl rfl r46 eσ47 ?_
      refine ga_aload_n 0 dX12_sendsFans_199 rfl rfl ?_
      refine ga_dup dX12_sendsFans_200 rfl ?_
      refine ga_getI (kI := 42) dX12_sendsFans_201 fX12_302 rfl rfl rfl (fun r48 => ?_)
      refine ga_iconst dX12_sendsFans_204 ?_
      refine ga_iload_n 2 dX12_sendsFans_205 rfl rfl ?_
      refine ga_ishl dX12_sendsFans_206 (fun r49 => ?_)
      refine ga_ior dX12_sendsFans_207 (fun r50 => ?_)
      obtain ⟨σ51, eσ51⟩ : ∃ z, z = sI σ47 88 42 (gor (gI σ47 88 42) (gshl 1 x2)) := ⟨_, rfl⟩
      replace h := h σ51 eσ51
      refine ga_putI (kI := 42) dX12_sendsFans_208 fX12_302 pX12_42 rfl rfl rfl r50 eσ51 ?_
      refine ga_aload_n 0 dX12_sendsFans_211 rfl rfl ?_
      refine ga_getR (kI := 36) (r := 106) dX12_sendsFans_212 fX12_62 rfl rfl (by decide) rfl ?_
      refine ga_aload_n 0 dX12_sendsFans_215 rfl rfl ?_
      refine ga_aload_n 0 dX12_sendsFans_216 rfl rfl ?_
      refine ga_getR (kI := 44) (r := 112) dX12_sendsFans_217 fX12_80 rfl rfl (by decide) rfl ?_
      refine ga_iload_n 2 dX12_sendsFans_220 rfl rfl ?_
      refine ga_iald (nI := 6) dX12_sendsFans_221 rfl rfl i40 (fun r52 => ?_)
      refine ga_callVi (z := mX12_headOf) (As := [vI (gI σ51 112 x2)]) (rest := [.ref (G.2.1 106)]) dX12_sendsFans_222 wX12_305 qX12_sendsFans_X12_headOf rfl ⟨_, rfl, rfl⟩ rfl rfl (Nat.le_of_ble_eq_true rfl) (gEi_mono h (fun v55 σ53 h r54 => ?_))
      replace h := h r54
      refine ga_dup2 dX12_sendsFans_225 rfl rfl ?_
      obtain ⟨i56, h⟩ := h
      refine ga_iald (nI := 400) dX12_sendsFans_226 rfl rfl i56 (fun r57 => ?_)
      refine ga_iconst dX12_sendsFans_227 ?_
      refine ga_iload_n 2 dX12_sendsFans_228 rfl rfl ?_
      refine ga_ishl dX12_sendsFans_229 (fun r58 => ?_)
      refine ga_iconst dX12_sendsFans_230 ?_
      refine ga_ixor dX12_sendsFans_231 (fun r59 => ?_)
      refine ga_iand dX12_sendsFans_232 (fun r60 => ?_)
      obtain ⟨σ61, eσ61⟩ : ∃ z, z = sI σ53 106 v55 (gand (gI σ53 106 v55) (gxor (gshl 1 x2) (-1))) := ⟨_, rfl⟩
      replace h := h σ61 eσ61
      refine ga_iast (nI := 400) dX12_sendsFans_233 rfl rfl i56 r60 eσ61 ?_
      refine ga_iinc (ls' := [(2, vI (x2 + 1)), (0, .ref (G.2.1 88)), (1, vI x1)]) 2 dX12_sendsFans_234 rfl (by decide) rfl ?_
      refine ga_goto (tgt := 161) dX12_sendsFans_237 (by decide) ?_
      exact ga_sub [1, 2, 0] rfl h
    · replace q42 : (gI σ 112 x2) = (-1) := (Decidable.not_not.mp q42)
      have h := hf q42
      refine ga_goto (tgt := 234) dX12_sendsFans_179 (by decide) ?_
      refine ga_iinc (ls' := [(2, vI (x2 + 1)), (0, .ref (G.2.1 88)), (1, vI x1)]) 2 dX12_sendsFans_234 rfl (by decide) rfl ?_
      refine ga_goto (tgt := 161) dX12_sendsFans_237 (by decide) ?_
      exact ga_sub [1, 2, 0] rfl h
set_option maxRecDepth 100000 in
set_option maxHeartbeats 4000000 in
theorem vX12_sendsFans_242 {l : Launch} {G : gG}  (x1 : Int) (x2 : Int) (rx1 : gR x1) (rx2 : gR x2) (σ : gS) (Q : gS → Prop) (h : ((gI σ 88 10) ≤ x2 → Q σ) ∧
  (x2 < (gI σ 88 10) → (¬ (gand (gshr (gI σ 88 41) x2) 1) = 0 → eX12_headOf l G x2 σ (fun v70 σ68 => gR v70 →
      (0 ≤ v70 ∧ v70 < 400) ∧ (gR ((gI σ68 107 v70) + 1)) ∧ ∀ σ73, σ73 = sI σ68 107 v70 ((gI σ68 107 v70) + 1) →
      ((gI σ73 106 v70) = 0 → ∀ σ78, σ78 = sI σ73 104 v70 (gI σ73 88 24) →
        (gR ((gI σ78 88 28) + 1)) ∧ ∀ σ80, σ80 = sI σ78 88 28 ((gI σ78 88 28) + 1) →
        (0 ≤ x2 ∧ x2 < 6) ∧ (gR ((gI σ80 97 x2) - 1)) ∧ ∀ σ84, σ84 = sI σ80 97 x2 ((gI σ80 97 x2) - 1) →
        kX12_sendsFans_325 l G  x1 x2 v70 0 σ84 Q) ∧
      (¬ (gI σ73 106 v70) = 0 → kX12_sendsFans_242 l G  x1 (x2 + 1) σ73 Q))) ∧
    ((gand (gshr (gI σ 88 41) x2) 1) = 0 → kX12_sendsFans_242 l G  x1 (x2 + 1) σ Q))) : kX12_sendsFans_242 l G  x1 x2 σ Q := by
  refine ga_iload_n 2 dX12_sendsFans_242 rfl rfl ?_
  refine ga_aload_n 0 dX12_sendsFans_243 rfl rfl ?_
  refine ga_getI (kI := 10) dX12_sendsFans_244 fX12_236 rfl rfl rfl (fun r62 => ?_)
  obtain ⟨ht, hf⟩ := h
  refine ga_icmp_ge (tgt := 374) dX12_sendsFans_247 (by decide) rx2 r62 (fun q63 => ?_) (fun q63 => ?_)
  · replace q63 : (gI σ 88 10) ≤ x2 := q63
    have h := ht q63
    exact ga_vret dX12_sendsFans_374 rfl h
  · replace q63 : x2 < (gI σ 88 10) := (Int.not_le.mp q63)
    have h := hf q63
    refine ga_aload_n 0 dX12_sendsFans_250 rfl rfl ?_
    refine ga_getI (kI := 41) dX12_sendsFans_251 fX12_299 rfl rfl rfl (fun r64 => ?_)
    refine ga_iload_n 2 dX12_sendsFans_254 rfl rfl ?_
    refine ga_ishr dX12_sendsFans_255 (fun r65 => ?_)
    refine ga_iconst dX12_sendsFans_256 ?_
    refine ga_iand dX12_sendsFans_257 (fun r66 => ?_)
    obtain ⟨ht, hf⟩ := h
    refine ga_if_ne (tgt := 264) dX12_sendsFans_258 (by decide) r66 (fun q67 => ?_) (fun q67 => ?_)
    · replace q67 : ¬ (gand (gshr (gI σ 88 41) x2) 1) = 0 := q67
      have h := ht q67
      refine ga_aload_n 0 dX12_sendsFans_264 rfl rfl ?_
      refine ga_iload_n 2 dX12_sendsFans_265 rfl rfl ?_
      refine ga_callVi (z := mX12_headOf) (As := [vI x2]) (rest := []) dX12_sendsFans_266 wX12_305 qX12_sendsFans_X12_headOf rfl ⟨_, rfl, rfl⟩ rfl rfl (Nat.le_of_ble_eq_true rfl) (gEi_mono h (fun v70 σ68 h r69 => ?_))
      replace h := h r69
      refine ga_istore_n (ls' := [(3, vI v70), (0, .ref (G.2.1 88)), (1, vI x1), (2, vI x2)]) dX12_sendsFans_269 rfl (by decide) rfl ?_
      refine ga_aload_n 1 dX12_sendsFans_270 rfl rfl ?_
      refine ga_getR (kI := 37) (r := 107) dX12_sendsFans_271 fX12_65 rfl rfl (by decide) rfl ?_
      refine ga_iload_n 0 dX12_sendsFans_274 rfl rfl ?_
      refine ga_dup2 dX12_sendsFans_275 rfl rfl ?_
      obtain ⟨i71, h⟩ := h
      refine ga_iald (nI := 400) dX12_sendsFans_276 rfl rfl i71 (fun r72 => ?_)
      refine ga_iconst dX12_sendsFans_277 ?_
      refine ga_iadd dX12_sendsFans_278 ?_
      obtain ⟨r74, h⟩ := h
      obtain ⟨σ73, eσ73⟩ : ∃ z, z = sI σ68 107 v70 ((gI σ68 107 v70) + 1) := ⟨_, rfl⟩
      replace h := h σ73 eσ73
      refine ga_iast (nI := 400) dX12_sendsFans_279 rfl rfl i71 r74 eσ73 ?_
      refine ga_aload_n 1 dX12_sendsFans_280 rfl rfl ?_
      refine ga_getR (kI := 36) (r := 106) dX12_sendsFans_281 fX12_62 rfl rfl (by decide) rfl ?_
      refine ga_iload_n 0 dX12_sendsFans_284 rfl rfl ?_
      refine ga_iald (nI := 400) dX12_sendsFans_285 rfl rfl i71 (fun r75 => ?_)
      obtain ⟨ht, hf⟩ := h
      refine ga_if_eq (tgt := 292) dX12_sendsFans_286 (by decide) r75 (fun q76 => ?_) (fun q76 => ?_)
      · replace q76 : (gI σ73 106 v70) = 0 := q76
        have h := ht q76
        refine ga_aload_n 1 dX12_sendsFans_292 rfl rfl ?_
        refine ga_getR (kI := 34) (r := 104) dX12_sendsFans_293 fX12_56 rfl rfl (by decide) rfl ?_
        refine ga_iload_n 0 dX12_sendsFans_296 rfl rfl ?_
        refine ga_aload_n 1 dX12_sendsFans_297 rfl rfl ?_
        refine ga_getI (kI := 24) dX12_sendsFans_298 fX12_257 rfl rfl rfl (fun r77 => ?_)
        obtain ⟨σ78, eσ78⟩ : ∃ z, z = sI σ73 104 v70 (gI σ73 88 24) := ⟨_, rfl⟩
        replace h := h σ78 eσ78
        refine ga_iast (nI := 400) dX12_sendsFans_301 rfl rfl i71 r77 eσ78 ?_
        refine ga_aload_n 1 dX12_sendsFans_302 rfl rfl ?_
        refine ga_dup dX12_sendsFans_303 rfl ?_
        refine ga_getI (kI := 28) dX12_sendsFans_304 fX12_269 rfl rfl rfl (fun r79 => ?_)
        refine ga_iconst dX12_sendsFans_307 ?_
        refine ga_iadd dX12_sendsFans_308 ?_
        obtain ⟨r81, h⟩ := h
        obtain ⟨σ80, eσ80⟩ : ∃ z, z = sI σ78 88 28 ((gI σ78 88 28) + 1) := ⟨_, rfl⟩
        replace h := h σ80 eσ80
        refine ga_putI (kI := 28) dX12_sendsFans_309 fX12_269 pX12_28 rfl rfl rfl r81 eσ80 ?_
        refine ga_aload_n 1 dX12_sendsFans_312 rfl rfl ?_
        refine ga_getR (kI := 20) (r := 97) dX12_sendsFans_313 fX12_35 rfl rfl (by decide) rfl ?_
        refine ga_iload_n 3 dX12_sendsFans_316 rfl rfl ?_
        refine ga_dup2 dX12_sendsFans_317 rfl rfl ?_
        obtain ⟨i82, h⟩ := h
        refine ga_iald (nI := 6) dX12_sendsFans_318 rfl rfl i82 (fun r83 => ?_)
        refine ga_iconst dX12_sendsFans_319 ?_
        refine ga_isub dX12_sendsFans_320 ?_
        obtain ⟨r85, h⟩ := h
        obtain ⟨σ84, eσ84⟩ : ∃ z, z = sI σ80 97 x2 ((gI σ80 97 x2) - 1) := ⟨_, rfl⟩
        replace h := h σ84 eσ84
        refine ga_iast (nI := 6) dX12_sendsFans_321 rfl rfl i82 r85 eσ84 ?_
        refine ga_iconst dX12_sendsFans_322 ?_
        refine ga_istore (ls' := [(4, vI 0), (3, vI v70), (0, .ref (G.2.1 88)), (1, vI x1), (2, vI x2)]) dX12_sendsFans_323 (by decide) rfl ?_
        exact ga_sub [2, 3, 4, 1, 0] rfl h
      · replace q76 : ¬ (gI σ73 106 v70) = 0 := q76
        have h := hf q76
        refine ga_goto (tgt := 368) dX12_sendsFans_289 (by decide) ?_
        refine ga_iinc (ls' := [(2, vI (x2 + 1)), (3, vI v70), (0, .ref (G.2.1 88)), (1, vI x1)]) 3 dX12_sendsFans_368 rfl (by decide) rfl ?_
        refine ga_goto (tgt := 242) dX12_sendsFans_371 (by decide) ?_
        exact ga_sub [2, 3, 0] rfl h
    · replace q67 : (gand (gshr (gI σ 88 41) x2) 1) = 0 := (Decidable.not_not.mp q67)
      have h := hf q67
      refine ga_goto (tgt := 368) dX12_sendsFans_261 (by decide) ?_
      refine ga_iinc (ls' := [(2, vI (x2 + 1)), (0, .ref (G.2.1 88)), (1, vI x1)]) 2 dX12_sendsFans_368 rfl (by decide) rfl ?_
      refine ga_goto (tgt := 242) dX12_sendsFans_371 (by decide) ?_
      exact ga_sub [1, 2, 0] rfl h
set_option maxRecDepth 100000 in
set_option maxHeartbeats 4000000 in
theorem vX12_sendsFans_325 {l : Launch} {G : gG}  (x1 : Int) (x2 : Int) (x3 : Int) (x4 : Int) (rx1 : gR x1) (rx2 : gR x2) (rx3 : gR x3) (rx4 : gR x4) (σ : gS) (Q : gS → Prop) (h : (0 ≤ x2 ∧ x2 < 6) ∧ ((gI σ 97 x2) ≤ x4 → kX12_sendsFans_242 l G  x1 (x2 + 1) σ Q) ∧
  (x4 < (gI σ 97 x2) → (0 ≤ (((9 * x2) + x4) + 1) ∧ (((9 * x2) + x4) + 1) < 54) ∧ (0 ≤ ((9 * x2) + x4) ∧ ((9 * x2) + x4) < 54) ∧ ∀ σ92, σ92 = sI σ 96 ((9 * x2) + x4) (gI σ 96 (((9 * x2) + x4) + 1)) →
    kX12_sendsFans_325 l G  x1 x2 x3 (x4 + 1) σ92 Q)) : kX12_sendsFans_325 l G  x1 x2 x3 x4 σ Q := by
  refine ga_iload 4 dX12_sendsFans_325 rfl ?_
  refine ga_aload_n 0 dX12_sendsFans_327 rfl rfl ?_
  refine ga_getR (kI := 20) (r := 97) dX12_sendsFans_328 fX12_35 rfl rfl (by decide) rfl ?_
  refine ga_iload_n 2 dX12_sendsFans_331 rfl rfl ?_
  obtain ⟨i86, h⟩ := h
  refine ga_iald (nI := 6) dX12_sendsFans_332 rfl rfl i86 (fun r87 => ?_)
  obtain ⟨ht, hf⟩ := h
  refine ga_icmp_ge (tgt := 368) dX12_sendsFans_333 (by decide) rx4 r87 (fun q88 => ?_) (fun q88 => ?_)
  · replace q88 : (gI σ 97 x2) ≤ x4 := q88
    have h := ht q88
    refine ga_iinc (ls' := [(2, vI (x2 + 1)), (0, .ref (G.2.1 88)), (1, vI x1), (3, vI x3), (4, vI x4)]) 2 dX12_sendsFans_368 rfl (by decide) rfl ?_
    refine ga_goto (tgt := 242) dX12_sendsFans_371 (by decide) ?_
    exact ga_sub [1, 2, 0] rfl h
  · replace q88 : x4 < (gI σ 97 x2) := (Int.not_le.mp q88)
    have h := hf q88
    refine ga_aload_n 0 dX12_sendsFans_336 rfl rfl ?_
    refine ga_getR (kI := 19) (r := 96) dX12_sendsFans_337 fX12_32 rfl rfl (by decide) rfl ?_
    refine ga_bipush dX12_sendsFans_340 (by decide) ?_
    refine ga_iload_n 2 dX12_sendsFans_342 rfl rfl ?_
    refine ga_imul dX12_sendsFans_343 ?_
    refine ga_iload 4 dX12_sendsFans_344 rfl ?_
    refine ga_iadd dX12_sendsFans_346 ?_
    refine ga_aload_n 0 dX12_sendsFans_347 rfl rfl ?_
    refine ga_getR (kI := 19) (r := 96) dX12_sendsFans_348 fX12_32 rfl rfl (by decide) rfl ?_
    refine ga_bipush dX12_sendsFans_351 (by decide) ?_
    refine ga_iload_n 2 dX12_sendsFans_353 rfl rfl ?_
    refine ga_imul dX12_sendsFans_354 ?_
    refine ga_iload 4 dX12_sendsFans_355 rfl ?_
    refine ga_iadd dX12_sendsFans_357 ?_
    refine ga_iconst dX12_sendsFans_358 ?_
    refine ga_iadd dX12_sendsFans_359 ?_
    obtain ⟨i89, h⟩ := h
    refine ga_iald (nI := 54) dX12_sendsFans_360 rfl rfl i89 (fun r90 => ?_)
    obtain ⟨i91, h⟩ := h
    obtain ⟨σ92, eσ92⟩ : ∃ z, z = sI σ 96 ((9 * x2) + x4) (gI σ 96 (((9 * x2) + x4) + 1)) := ⟨_, rfl⟩
    replace h := h σ92 eσ92
    refine ga_iast (nI := 54) dX12_sendsFans_361 rfl rfl i91 r90 eσ92 ?_
    refine ga_iinc (ls' := [(4, vI (x4 + 1)), (0, .ref (G.2.1 88)), (1, vI x1), (2, vI x2), (3, vI x3)]) 4 dX12_sendsFans_362 rfl (by decide) rfl ?_
    refine ga_goto (tgt := 325) dX12_sendsFans_365 (by decide) ?_
    exact ga_sub [1, 2, 3, 4, 0] rfl h
abbrev eX12_asks (l : Launch) (G : gG) (x1 : Int) (x2 : Int) (x3 : Int) (σ : gS) (Q : Int → gS → Prop) : Prop := gEz l G mX12_asks [.ref (G.2.1 88), vI x1, vI x2, vI x3] σ Q
set_option maxRecDepth 100000 in
set_option maxHeartbeats 4000000 in
theorem vX12_asks {l : Launch} {G : gG} (x1 : Int) (x2 : Int) (x3 : Int) (rx1 : gR x1) (rx2 : gR x2) (rx3 : gR x3) (σ : gS) (Q : Int → gS → Prop) (h : (¬ (gand (gshr (gI σ 88 41) x1) 1) = 0 → Q 0 σ) ∧
  ((gand (gshr (gI σ 88 41) x1) 1) = 0 → (¬ (gand (gshr (gI σ 88 42) x2) 1) = 0 → Q 0 σ) ∧
    ((gand (gshr (gI σ 88 42) x2) 1) = 0 → (¬ x3 = 0 → Q 1 σ) ∧
      (x3 = 0 → eX12_at l G x1 x2 σ (fun v12 σ10 => gR v12 →
        (0 ≤ v12 ∧ v12 < 36) ∧ (∀ v17 : Int, v17 = (if (gI σ10 95 v12) ≤ 0 then 0 else 1) →
        Q v17 σ10)))))) : eX12_asks l G x1 x2 x3 σ Q := by
  refine ga_entry rfl (Nat.le_of_ble_eq_true rfl) ?_
  show gAt l G mX12_asks (gQz G Q) 0 [(0, .ref (G.2.1 88)), (1, vI x1), (2, vI x2), (3, vI x3)] [] σ
  refine ga_aload_n 0 dX12_asks_0 rfl rfl ?_
  refine ga_getI (kI := 41) dX12_asks_1 fX12_299 rfl rfl rfl (fun r1 => ?_)
  refine ga_iload_n 1 dX12_asks_4 rfl rfl ?_
  refine ga_ishr dX12_asks_5 (fun r2 => ?_)
  refine ga_iconst dX12_asks_6 ?_
  refine ga_iand dX12_asks_7 (fun r3 => ?_)
  obtain ⟨ht, hf⟩ := h
  refine ga_if_ne (tgt := 43) dX12_asks_8 (by decide) r3 (fun q4 => ?_) (fun q4 => ?_)
  · replace q4 : ¬ (gand (gshr (gI σ 88 41) x1) 1) = 0 := q4
    have h := ht q4
    refine ga_iconst dX12_asks_43 ?_
    exact ga_bret dX12_asks_44 rfl (Or.inl rfl) h
  · replace q4 : (gand (gshr (gI σ 88 41) x1) 1) = 0 := (Decidable.not_not.mp q4)
    have h := hf q4
    refine ga_aload_n 0 dX12_asks_11 rfl rfl ?_
    refine ga_getI (kI := 42) dX12_asks_12 fX12_302 rfl rfl rfl (fun r5 => ?_)
    refine ga_iload_n 2 dX12_asks_15 rfl rfl ?_
    refine ga_ishr dX12_asks_16 (fun r6 => ?_)
    refine ga_iconst dX12_asks_17 ?_
    refine ga_iand dX12_asks_18 (fun r7 => ?_)
    obtain ⟨ht, hf⟩ := h
    refine ga_if_ne (tgt := 43) dX12_asks_19 (by decide) r7 (fun q8 => ?_) (fun q8 => ?_)
    · replace q8 : ¬ (gand (gshr (gI σ 88 42) x2) 1) = 0 := q8
      have h := ht q8
      refine ga_iconst dX12_asks_43 ?_
      exact ga_bret dX12_asks_44 rfl (Or.inl rfl) h
    · replace q8 : (gand (gshr (gI σ 88 42) x2) 1) = 0 := (Decidable.not_not.mp q8)
      have h := hf q8
      refine ga_iload_n 3 dX12_asks_22 rfl rfl ?_
      obtain ⟨ht, hf⟩ := h
      refine ga_if_ne (tgt := 39) dX12_asks_23 (by decide) rx3 (fun q9 => ?_) (fun q9 => ?_)
      · replace q9 : ¬ x3 = 0 := q9
        have h := ht q9
        refine ga_iconst dX12_asks_39 ?_
        refine ga_goto (tgt := 44) dX12_asks_40 (by decide) ?_
        exact ga_bret dX12_asks_44 rfl (Or.inr rfl) h
      · replace q9 : x3 = 0 := (Decidable.not_not.mp q9)
        have h := hf q9
        refine ga_aload_n 0 dX12_asks_26 rfl rfl ?_
        refine ga_getR (kI := 18) (r := 95) dX12_asks_27 fX12_29 rfl rfl (by decide) rfl ?_
        refine ga_iload_n 1 dX12_asks_30 rfl rfl ?_
        refine ga_iload_n 2 dX12_asks_31 rfl rfl ?_
        refine ga_callSi (z := mX12_at) (As := [vI x1, vI x2]) (rest := [.ref (G.2.1 95)]) dX12_asks_32 wX12_279 qX12_asks_X12_at rfl rfl (Nat.le_of_ble_eq_true rfl) (gEi_mono h (fun v12 σ10 h r11 => ?_))
        replace h := h r11
        obtain ⟨i13, h⟩ := h
        refine ga_iald (nI := 36) dX12_asks_35 rfl rfl i13 (fun r14 => ?_)
        have kJ15 : ∀ v17 : Int, gR v17 → (v17 = 0 ∨ v17 = 1) → v17 = (if (gI σ10 95 v12) ≤ 0 then 0 else 1) → gAt l G mX12_asks (gQz G Q) 44 [(0, .ref (G.2.1 88)), (1, vI x1), (2, vI x2), (3, vI x3)] [vI v17] σ10 := by
          intro v17 rv17 bv17 ev17
          replace h := h v17 ev17
          exact ga_bret dX12_asks_44 rfl bv17 h
        replace h : ((gI σ10 95 v12) ≤ 0 → True) ∧
        (0 < (gI σ10 95 v12) → True) := by repeat (first | exact True.intro | apply And.intro | intro _)
        obtain ⟨ht, hf⟩ := h
        refine ga_if_le (tgt := 43) dX12_asks_36 (by decide) r14 (fun q16 => ?_) (fun q16 => ?_)
        · replace q16 : (gI σ10 95 v12) ≤ 0 := q16
          have h := ht q16
          refine ga_iconst dX12_asks_43 ?_
          exact kJ15 0 (by decide) (Or.inl rfl) (by rw [if_pos q16])
        · replace q16 : 0 < (gI σ10 95 v12) := (Int.not_le.mp q16)
          have h := hf q16
          refine ga_iconst dX12_asks_39 ?_
          refine ga_goto (tgt := 44) dX12_asks_40 (by decide) ?_
          exact kJ15 1 (by decide) (Or.inr rfl) (by rw [if_neg (Int.not_le.mpr q16)])
abbrev eX12_round (l : Launch) (G : gG) (x1 : Int) (x2 : Int) (σ : gS) (Q : gS → Prop) : Prop := gEv l G mX12_round [.ref (G.2.1 88), vI x1, vI x2] σ Q
abbrev kX12_round_2 (l : Launch) (G : gG)  (x1 : Int) (x2 : Int) (x3 : Int) (σ : gS) (Q : gS → Prop) : Prop := gAt l G mX12_round (gQv G Q) 2 [(0, .ref (G.2.1 88)), (1, vI x1), (2, vI x2), (3, vI x3)] [] σ
abbrev kX12_round_20 (l : Launch) (G : gG)  (x1 : Int) (x2 : Int) (x3 : Int) (x4 : Int) (σ : gS) (Q : gS → Prop) : Prop := gAt l G mX12_round (gQv G Q) 20 [(0, .ref (G.2.1 88)), (1, vI x1), (2, vI x2), (3, vI x3), (4, vI x4)] [] σ
abbrev kX12_round_92 (l : Launch) (G : gG)  (x1 : Int) (x2 : Int) (x3 : Int) (σ : gS) (Q : gS → Prop) : Prop := gAt l G mX12_round (gQv G Q) 92 [(0, .ref (G.2.1 88)), (1, vI x1), (2, vI x2), (3, vI x3)] [] σ
abbrev kX12_round_106 (l : Launch) (G : gG)  (x1 : Int) (x2 : Int) (x3 : Int) (x4 : Int) (x5 : Int) (σ : gS) (Q : gS → Prop) : Prop := gAt l G mX12_round (gQv G Q) 106 [(0, .ref (G.2.1 88)), (1, vI x1), (2, vI x2), (3, vI x3), (4, vI x4), (5, vI x5)] [] σ
set_option maxRecDepth 100000 in
set_option maxHeartbeats 4000000 in
theorem vX12_round {l : Launch} {G : gG} (x1 : Int) (x2 : Int) (rx1 : gR x1) (rx2 : gR x2) (σ : gS) (Q : gS → Prop) (h : kX12_round_2 l G  x1 x2 0 σ Q) : eX12_round l G x1 x2 σ Q := by
  refine ga_entry rfl (Nat.le_of_ble_eq_true rfl) ?_
  show gAt l G mX12_round (gQv G Q) 0 [(0, .ref (G.2.1 88)), (1, vI x1), (2, vI x2)] [] σ
  refine ga_iconst dX12_round_0 ?_
  refine ga_istore_n (ls' := [(3, vI 0), (0, .ref (G.2.1 88)), (1, vI x1), (2, vI x2)]) dX12_round_1 rfl (by decide) rfl ?_
  exact ga_sub [1, 2, 3, 0] rfl h
set_option maxRecDepth 100000 in
set_option maxHeartbeats 4000000 in
theorem vX12_round_2 {l : Launch} {G : gG}  (x1 : Int) (x2 : Int) (x3 : Int) (rx1 : gR x1) (rx2 : gR x2) (rx3 : gR x3) (σ : gS) (Q : gS → Prop) (h : ((gI σ 88 10) ≤ x3 → kX12_round_92 l G  x1 x2 0 σ Q) ∧
  (x3 < (gI σ 88 10) → (0 ≤ x3 ∧ x3 < 6) ∧ ∀ σ4, σ4 = sI σ 113 x3 (-1) →
    kX12_round_20 l G  x1 x2 x3 0 σ4 Q)) : kX12_round_2 l G  x1 x2 x3 σ Q := by
  refine ga_iload_n 3 dX12_round_2 rfl rfl ?_
  refine ga_aload_n 0 dX12_round_3 rfl rfl ?_
  refine ga_getI (kI := 10) dX12_round_4 fX12_236 rfl rfl rfl (fun r1 => ?_)
  obtain ⟨ht, hf⟩ := h
  refine ga_icmp_ge (tgt := 90) dX12_round_7 (by decide) rx3 r1 (fun q2 => ?_) (fun q2 => ?_)
  · replace q2 : (gI σ 88 10) ≤ x3 := q2
    have h := ht q2
    refine ga_iconst dX12_round_90 ?_
    refine ga_istore_n (ls' := [(3, vI 0), (0, .ref (G.2.1 88)), (1, vI x1), (2, vI x2)]) dX12_round_91 rfl (by decide) rfl ?_
    exact ga_sub [1, 2, 3, 0] rfl h
  · replace q2 : x3 < (gI σ 88 10) := (Int.not_le.mp q2)
    have h := hf q2
    refine ga_aload_n 0 dX12_round_10 rfl rfl ?_
    refine ga_getR (kI := 45) (r := 113) dX12_round_11 fX12_83 rfl rfl (by decide) rfl ?_
    refine ga_iload_n 3 dX12_round_14 rfl rfl ?_
    refine ga_iconst dX12_round_15 ?_
    obtain ⟨i3, h⟩ := h
    obtain ⟨σ4, eσ4⟩ : ∃ z, z = sI σ 113 x3 (-1) := ⟨_, rfl⟩
    replace h := h σ4 eσ4
    refine ga_iast (nI := 6) dX12_round_16 rfl rfl i3 (by decide) eσ4 ?_
    refine ga_iconst dX12_round_17 ?_
    refine ga_istore (ls' := [(4, vI 0), (0, .ref (G.2.1 88)), (1, vI x1), (2, vI x2), (3, vI x3)]) dX12_round_18 (by decide) rfl ?_
    exact ga_sub [1, 2, 3, 4, 0] rfl h
set_option maxRecDepth 100000 in
set_option maxHeartbeats 4000000 in
theorem vX12_round_20 {l : Launch} {G : gG}  (x1 : Int) (x2 : Int) (x3 : Int) (x4 : Int) (rx1 : gR x1) (rx2 : gR x2) (rx3 : gR x3) (rx4 : gR x4) (σ : gS) (Q : gS → Prop) (h : ((gI σ 88 10) ≤ x4 → kX12_round_2 l G  x1 x2 (x3 + 1) σ Q) ∧
  (x4 < (gI σ 88 10) → (0 ≤ x3 ∧ x3 < 6) ∧ (¬ (gI σ 113 x3) = (-1) → kX12_round_2 l G  x1 x2 (x3 + 1) σ Q) ∧
    ((gI σ 113 x3) = (-1) → ((gI σ 88 10) ≠ 0) ∧ eX12_asks l G (grem ((gI σ 92 x3) + x4) (gI σ 88 10)) x3 x2 σ (fun v16 σ14 => (v16 = 0 ∨ v16 = 1) →
      (∀ v19 : Int, v19 = (if v16 = 0 then (-1) else (grem ((gI σ 92 x3) + x4) (gI σ 88 10))) →
      ∀ σ20, σ20 = sI σ14 113 x3 v19 →
        kX12_round_20 l G  x1 x2 x3 (x4 + 1) σ20 Q))))) : kX12_round_20 l G  x1 x2 x3 x4 σ Q := by
  refine ga_iload 4 dX12_round_20 rfl ?_
  refine ga_aload_n 0 dX12_round_22 rfl rfl ?_
  refine ga_getI (kI := 10) dX12_round_23 fX12_236 rfl rfl rfl (fun r5 => ?_)
  obtain ⟨ht, hf⟩ := h
  refine ga_icmp_ge (tgt := 84) dX12_round_26 (by decide) rx4 r5 (fun q6 => ?_) (fun q6 => ?_)
  · replace q6 : (gI σ 88 10) ≤ x4 := q6
    have h := ht q6
    refine ga_iinc (ls' := [(3, vI (x3 + 1)), (0, .ref (G.2.1 88)), (1, vI x1), (2, vI x2), (4, vI x4)]) 3 dX12_round_84 rfl (by decide) rfl ?_
    refine ga_goto (tgt := 2) dX12_round_87 (by decide) ?_
    exact ga_sub [1, 2, 3, 0] rfl h
  · replace q6 : x4 < (gI σ 88 10) := (Int.not_le.mp q6)
    have h := hf q6
    refine ga_aload_n 0 dX12_round_29 rfl rfl ?_
    refine ga_getR (kI := 45) (r := 113) dX12_round_30 fX12_83 rfl rfl (by decide) rfl ?_
    refine ga_iload_n 3 dX12_round_33 rfl rfl ?_
    obtain ⟨i7, h⟩ := h
    refine ga_iald (nI := 6) dX12_round_34 rfl rfl i7 (fun r8 => ?_)
    refine ga_iconst dX12_round_35 ?_
    obtain ⟨ht, hf⟩ := h
    refine ga_icmp_ne (tgt := 84) dX12_round_36 (by decide) r8 (by decide) (fun q9 => ?_) (fun q9 => ?_)
    · replace q9 : ¬ (gI σ 113 x3) = (-1) := q9
      have h := ht q9
      refine ga_iinc (ls' := [(3, vI (x3 + 1)), (0, .ref (G.2.1 88)), (1, vI x1), (2, vI x2), (4, vI x4)]) 3 dX12_round_84 rfl (by decide) rfl ?_
      refine ga_goto (tgt := 2) dX12_round_87 (by decide) ?_
      exact ga_sub [1, 2, 3, 0] rfl h
    · replace q9 : (gI σ 113 x3) = (-1) := (Decidable.not_not.mp q9)
      have h := hf q9
      refine ga_aload_n 0 dX12_round_39 rfl rfl ?_
      refine ga_getR (kI := 15) (r := 92) dX12_round_40 fX12_20 rfl rfl (by decide) rfl ?_
      refine ga_iload_n 3 dX12_round_43 rfl rfl ?_
      refine ga_iald (nI := 6) dX12_round_44 rfl rfl i7 (fun r10 => ?_)
      refine ga_iload 4 dX12_round_45 rfl ?_
      refine ga_iadd dX12_round_47 ?_
      refine ga_aload_n 0 dX12_round_48 rfl rfl ?_
      refine ga_getI (kI := 10) dX12_round_49 fX12_236 rfl rfl rfl (fun r11 => ?_)
      obtain ⟨o12, h⟩ := h
      refine ga_irem dX12_round_52 r11 o12 (fun r13 => ?_)
      refine ga_istore (ls' := [(5, vI (grem ((gI σ 92 x3) + x4) (gI σ 88 10))), (0, .ref (G.2.1 88)), (1, vI x1), (2, vI x2), (3, vI x3), (4, vI x4)]) dX12_round_53 (by decide) rfl ?_
      refine ga_aload_n 1 dX12_round_55 rfl rfl ?_
      refine ga_getR (kI := 45) (r := 113) dX12_round_56 fX12_83 rfl rfl (by decide) rfl ?_
      refine ga_iload_n 4 dX12_round_59 rfl rfl ?_
      refine ga_aload_n 1 dX12_round_60 rfl rfl ?_
      refine ga_iload 0 dX12_round_61 rfl ?_
      refine ga_iload_n 4 dX12_round_63 rfl rfl ?_
      refine ga_iload_n 3 dX12_round_64 rfl rfl ?_
      refine ga_callVz (z := mX12_asks) (As := [vI (grem ((gI σ 92 x3) + x4) (gI σ 88 10)), vI x3, vI x2]) (rest := [vI x3, .ref (G.2.1 113)]) dX12_round_65 wX12_308 qX12_round_X12_asks rfl ⟨_, rfl, rfl⟩ rfl rfl (Nat.le_of_ble_eq_true rfl) (gEz_mono h (fun v16 σ14 h r15 => ?_))
      replace h := h r15
      have kJ17 : ∀ v19 : Int, gR v19 → v19 = (if v16 = 0 then (-1) else (grem ((gI σ 92 x3) + x4) (gI σ 88 10))) → gAt l G mX12_round (gQv G Q) 77 [(5, vI (grem ((gI σ 92 x3) + x4) (gI σ 88 10))), (0, .ref (G.2.1 88)), (1, vI x1), (2, vI x2), (3, vI x3), (4, vI x4)] [vI v19, vI x3, .ref (G.2.1 113)] σ14 := by
        intro v19 rv19 ev19
        replace h := h v19 ev19
        obtain ⟨σ20, eσ20⟩ : ∃ z, z = sI σ14 113 x3 v19 := ⟨_, rfl⟩
        replace h := h σ20 eσ20
        refine ga_iast (nI := 6) dX12_round_77 rfl rfl i7 rv19 eσ20 ?_
        refine ga_iinc (ls' := [(4, vI (x4 + 1)), (5, vI (grem ((gI σ 92 x3) + x4) (gI σ 88 10))), (0, .ref (G.2.1 88)), (1, vI x1), (2, vI x2), (3, vI x3)]) 5 dX12_round_78 rfl (by decide) rfl ?_
        refine ga_goto (tgt := 20) dX12_round_81 (by decide) ?_
        exact ga_sub [2, 3, 4, 5, 0] rfl h
      replace h : (v16 = 0 → True) ∧
      (¬ v16 = 0 → True) := by repeat (first | exact True.intro | apply And.intro | intro _)
      obtain ⟨ht, hf⟩ := h
      refine ga_if_eq (tgt := 76) dX12_round_68 (by decide) (gR_01 r15) (fun q18 => ?_) (fun q18 => ?_)
      · replace q18 : v16 = 0 := q18
        have h := ht q18
        refine ga_iconst dX12_round_76 ?_
        exact kJ17 (-1) (by decide) (by rw [if_pos q18])
      · replace q18 : ¬ v16 = 0 := q18
        have h := hf q18
        refine ga_iload 0 dX12_round_71 rfl ?_
        refine ga_goto (tgt := 77) dX12_round_73 (by decide) ?_
        exact kJ17 (grem ((gI σ 92 x3) + x4) (gI σ 88 10)) r13 (by rw [if_neg q18])
set_option maxRecDepth 100000 in
set_option maxHeartbeats 4000000 in
theorem vX12_round_92 {l : Launch} {G : gG}  (x1 : Int) (x2 : Int) (x3 : Int) (rx1 : gR x1) (rx2 : gR x2) (rx3 : gR x3) (σ : gS) (Q : gS → Prop) (h : ((gI σ 88 10) ≤ x3 → Q σ) ∧
  (x3 < (gI σ 88 10) → kX12_round_106 l G  x1 x2 x3 (-1) 0 σ Q)) : kX12_round_92 l G  x1 x2 x3 σ Q := by
  refine ga_iload_n 3 dX12_round_92 rfl rfl ?_
  refine ga_aload_n 0 dX12_round_93 rfl rfl ?_
  refine ga_getI (kI := 10) dX12_round_94 fX12_236 rfl rfl rfl (fun r21 => ?_)
  obtain ⟨ht, hf⟩ := h
  refine ga_icmp_ge (tgt := 247) dX12_round_97 (by decide) rx3 r21 (fun q22 => ?_) (fun q22 => ?_)
  · replace q22 : (gI σ 88 10) ≤ x3 := q22
    have h := ht q22
    exact ga_vret dX12_round_247 rfl h
  · replace q22 : x3 < (gI σ 88 10) := (Int.not_le.mp q22)
    have h := hf q22
    refine ga_iconst dX12_round_100 ?_
    refine ga_istore (ls' := [(4, vI (-1)), (0, .ref (G.2.1 88)), (1, vI x1), (2, vI x2), (3, vI x3)]) dX12_round_101 (by decide) rfl ?_
    refine ga_iconst dX12_round_103 ?_
    refine ga_istore (ls' := [(5, vI 0), (4, vI (-1)), (0, .ref (G.2.1 88)), (1, vI x1), (2, vI x2), (3, vI x3)]) dX12_round_104 (by decide) rfl ?_
    exact ga_sub [2, 3, 4, 5, 1, 0] rfl h
set_option maxRecDepth 100000 in
set_option maxHeartbeats 4000000 in
theorem vX12_round_106 {l : Launch} {G : gG}  (x1 : Int) (x2 : Int) (x3 : Int) (x4 : Int) (x5 : Int) (rx1 : gR x1) (rx2 : gR x2) (rx3 : gR x3) (rx4 : gR x4) (rx5 : gR x5) (σ : gS) (Q : gS → Prop) (h : ((gI σ 88 10) ≤ x5 → (¬ x4 = (-1) → (0 ≤ x4 ∧ x4 < 6) ∧ ∀ σ27, σ27 = sI σ 111 x4 x3 →
      ∀ σ31, σ31 = sI σ27 88 41 (gor (gI σ27 88 41) (gshl 1 x3)) →
      ∀ σ35, σ35 = sI σ31 88 42 (gor (gI σ31 88 42) (gshl 1 x4)) →
      (¬ x1 = 0 → ((gI σ35 88 10) ≠ 0) ∧ (0 ≤ x3 ∧ x3 < 6) ∧ ∀ σ41, σ41 = sI σ35 93 x3 (grem (x4 + 1) (gI σ35 88 10)) →
        ((gI σ41 88 10) ≠ 0) ∧ ∀ σ45, σ45 = sI σ41 92 x4 (grem (x3 + 1) (gI σ41 88 10)) →
        kX12_round_92 l G  x1 x2 (x3 + 1) σ45 Q) ∧
      (x1 = 0 → kX12_round_92 l G  x1 x2 (x3 + 1) σ35 Q)) ∧
    (x4 = (-1) → kX12_round_92 l G  x1 x2 (x3 + 1) σ Q)) ∧
  (x5 < (gI σ 88 10) → (¬ x4 = (-1) → (¬ x4 = (-1) → (0 ≤ x4 ∧ x4 < 6) ∧ ∀ σ49, σ49 = sI σ 111 x4 x3 →
        ∀ σ53, σ53 = sI σ49 88 41 (gor (gI σ49 88 41) (gshl 1 x3)) →
        ∀ σ57, σ57 = sI σ53 88 42 (gor (gI σ53 88 42) (gshl 1 x4)) →
        (¬ x1 = 0 → ((gI σ57 88 10) ≠ 0) ∧ (0 ≤ x3 ∧ x3 < 6) ∧ ∀ σ63, σ63 = sI σ57 93 x3 (grem (x4 + 1) (gI σ57 88 10)) →
          ((gI σ63 88 10) ≠ 0) ∧ ∀ σ67, σ67 = sI σ63 92 x4 (grem (x3 + 1) (gI σ63 88 10)) →
          kX12_round_92 l G  x1 x2 (x3 + 1) σ67 Q) ∧
        (x1 = 0 → kX12_round_92 l G  x1 x2 (x3 + 1) σ57 Q)) ∧
      (x4 = (-1) → kX12_round_92 l G  x1 x2 (x3 + 1) σ Q)) ∧
    (x4 = (-1) → (0 ≤ x3 ∧ x3 < 6) ∧ ((gI σ 88 10) ≠ 0) ∧ (0 ≤ (grem ((gI σ 93 x3) + x5) (gI σ 88 10)) ∧ (grem ((gI σ 93 x3) + x5) (gI σ 88 10)) < 6) ∧ (∀ v77 : Int, v77 = (if (gI σ 113 (grem ((gI σ 93 x3) + x5) (gI σ 88 10))) = x3 then (grem ((gI σ 93 x3) + x5) (gI σ 88 10)) else (-1)) →
      kX12_round_106 l G  x1 x2 x3 v77 (x5 + 1) σ Q)))) : kX12_round_106 l G  x1 x2 x3 x4 x5 σ Q := by
  refine ga_iload 5 dX12_round_106 rfl ?_
  refine ga_aload_n 0 dX12_round_108 rfl rfl ?_
  refine ga_getI (kI := 10) dX12_round_109 fX12_236 rfl rfl rfl (fun r23 => ?_)
  obtain ⟨ht, hf⟩ := h
  refine ga_icmp_ge (tgt := 162) dX12_round_112 (by decide) rx5 r23 (fun q24 => ?_) (fun q24 => ?_)
  · replace q24 : (gI σ 88 10) ≤ x5 := q24
    have h := ht q24
    refine ga_iload 4 dX12_round_162 rfl ?_
    refine ga_iconst dX12_round_164 ?_
    obtain ⟨ht, hf⟩ := h
    refine ga_icmp_ne (tgt := 171) dX12_round_165 (by decide) rx4 (by decide) (fun q25 => ?_) (fun q25 => ?_)
    · replace q25 : ¬ x4 = (-1) := q25
      have h := ht q25
      refine ga_aload_n 0 dX12_round_171 rfl rfl ?_
      refine ga_getR (kI := 43) (r := 111) dX12_round_172 fX12_77 rfl rfl (by decide) rfl ?_
      refine ga_iload 4 dX12_round_175 rfl ?_
      refine ga_iload_n 3 dX12_round_177 rfl rfl ?_
      obtain ⟨i26, h⟩ := h
      obtain ⟨σ27, eσ27⟩ : ∃ z, z = sI σ 111 x4 x3 := ⟨_, rfl⟩
      replace h := h σ27 eσ27
      refine ga_iast (nI := 6) dX12_round_178 rfl rfl i26 rx3 eσ27 ?_
      refine ga_aload_n 0 dX12_round_179 rfl rfl ?_
      refine ga_dup dX12_round_180 rfl ?_
      refine ga_getI (kI := 41) dX12_round_181 fX12_299 rfl rfl rfl (fun r28 => ?_)
      refine ga_iconst dX12_round_184 ?_
      refine ga_iload_n 3 dX12_round_185 rfl rfl ?_
      refine ga_ishl dX12_round_186 (fun r29 => ?_)
      refine ga_ior dX12_round_187 (fun r30 => ?_)
      obtain ⟨σ31, eσ31⟩ : ∃ z, z = sI σ27 88 41 (gor (gI σ27 88 41) (gshl 1 x3)) := ⟨_, rfl⟩
      replace h := h σ31 eσ31
      refine ga_putI (kI := 41) dX12_round_188 fX12_299 pX12_41 rfl rfl rfl r30 eσ31 ?_
      refine ga_aload_n 0 dX12_round_191 rfl rfl ?_
      refine ga_dup dX12_round_192 rfl ?_
      refine ga_getI (kI := 42) dX12_round_193 fX12_302 rfl rfl rfl (fun r32 => ?_)
      refine ga_iconst dX12_round_196 ?_
      refine ga_iload 4 dX12_round_197 rfl ?_
      refine ga_ishl dX12_round_199 (fun r33 => ?_)
      refine ga_ior dX12_round_200 (fun r34 => ?_)
      obtain ⟨σ35, eσ35⟩ : ∃ z, z = sI σ31 88 42 (gor (gI σ31 88 42) (gshl 1 x4)) := ⟨_, rfl⟩
      replace h := h σ35 eσ35
      refine ga_putI (kI := 42) dX12_round_201 fX12_302 pX12_42 rfl rfl rfl r34 eσ35 ?_
      refine ga_iload_n 1 dX12_round_204 rfl rfl ?_
      obtain ⟨ht, hf⟩ := h
      refine ga_if_ne (tgt := 211) dX12_round_205 (by decide) rx1 (fun q36 => ?_) (fun q36 => ?_)
      · replace q36 : ¬ x1 = 0 := q36
        have h := ht q36
        refine ga_aload_n 0 dX12_round_211 rfl rfl ?_
        refine ga_getR (kI := 16) (r := 93) dX12_round_212 fX12_23 rfl rfl (by decide) rfl ?_
        refine ga_iload_n 3 dX12_round_215 rfl rfl ?_
        refine ga_iload 4 dX12_round_216 rfl ?_
        refine ga_iconst dX12_round_218 ?_
        refine ga_iadd dX12_round_219 ?_
        refine ga_aload_n 0 dX12_round_220 rfl rfl ?_
        refine ga_getI (kI := 10) dX12_round_221 fX12_236 rfl rfl rfl (fun r37 => ?_)
        obtain ⟨o38, h⟩ := h
        refine ga_irem dX12_round_224 r37 o38 (fun r39 => ?_)
        obtain ⟨i40, h⟩ := h
        obtain ⟨σ41, eσ41⟩ : ∃ z, z = sI σ35 93 x3 (grem (x4 + 1) (gI σ35 88 10)) := ⟨_, rfl⟩
        replace h := h σ41 eσ41
        refine ga_iast (nI := 6) dX12_round_225 rfl rfl i40 r39 eσ41 ?_
        refine ga_aload_n 0 dX12_round_226 rfl rfl ?_
        refine ga_getR (kI := 15) (r := 92) dX12_round_227 fX12_20 rfl rfl (by decide) rfl ?_
        refine ga_iload 4 dX12_round_230 rfl ?_
        refine ga_iload_n 3 dX12_round_232 rfl rfl ?_
        refine ga_iconst dX12_round_233 ?_
        refine ga_iadd dX12_round_234 ?_
        refine ga_aload_n 0 dX12_round_235 rfl rfl ?_
        refine ga_getI (kI := 10) dX12_round_236 fX12_236 rfl rfl rfl (fun r42 => ?_)
        obtain ⟨o43, h⟩ := h
        refine ga_irem dX12_round_239 r42 o43 (fun r44 => ?_)
        obtain ⟨σ45, eσ45⟩ : ∃ z, z = sI σ41 92 x4 (grem (x3 + 1) (gI σ41 88 10)) := ⟨_, rfl⟩
        replace h := h σ45 eσ45
        refine ga_iast (nI := 6) dX12_round_240 rfl rfl i26 r44 eσ45 ?_
        refine ga_iinc (ls' := [(3, vI (x3 + 1)), (0, .ref (G.2.1 88)), (1, vI x1), (2, vI x2), (4, vI x4), (5, vI x5)]) 3 dX12_round_241 rfl (by decide) rfl ?_
        refine ga_goto (tgt := 92) dX12_round_244 (by decide) ?_
        exact ga_sub [1, 2, 3, 0] rfl h
      · replace q36 : x1 = 0 := (Decidable.not_not.mp q36)
        have h := hf q36
        refine ga_goto (tgt := 241) dX12_round_208 (by decide) ?_
        refine ga_iinc (ls' := [(3, vI (x3 + 1)), (0, .ref (G.2.1 88)), (1, vI x1), (2, vI x2), (4, vI x4), (5, vI x5)]) 3 dX12_round_241 rfl (by decide) rfl ?_
        refine ga_goto (tgt := 92) dX12_round_244 (by decide) ?_
        exact ga_sub [1, 2, 3, 0] rfl h
    · replace q25 : x4 = (-1) := (Decidable.not_not.mp q25)
      have h := hf q25
      refine ga_goto (tgt := 241) dX12_round_168 (by decide) ?_
      refine ga_iinc (ls' := [(3, vI (x3 + 1)), (0, .ref (G.2.1 88)), (1, vI x1), (2, vI x2), (4, vI x4), (5, vI x5)]) 3 dX12_round_241 rfl (by decide) rfl ?_
      refine ga_goto (tgt := 92) dX12_round_244 (by decide) ?_
      exact ga_sub [1, 2, 3, 0] rfl h
  · replace q24 : x5 < (gI σ 88 10) := (Int.not_le.mp q24)
    have h := hf q24
    refine ga_iload 4 dX12_round_115 rfl ?_
    refine ga_iconst dX12_round_117 ?_
    obtain ⟨ht, hf⟩ := h
    refine ga_icmp_ne (tgt := 162) dX12_round_118 (by decide) rx4 (by decide) (fun q46 => ?_) (fun q46 => ?_)
    · replace q46 : ¬ x4 = (-1) := q46
      have h := ht q46
      refine ga_iload 4 dX12_round_162 rfl ?_
      refine ga_iconst dX12_round_164 ?_
      obtain ⟨ht, hf⟩ := h
      refine ga_icmp_ne (tgt := 171) dX12_round_165 (by decide) rx4 (by decide) (fun q47 => ?_) (fun q47 => ?_)
      · replace q47 : ¬ x4 = (-1) := q47
        have h := ht q47
        refine ga_aload_n 0 dX12_round_171 rfl rfl ?_
        refine ga_getR (kI := 43) (r := 111) dX12_round_172 fX12_77 rfl rfl (by decide) rfl ?_
        refine ga_iload 4 dX12_round_175 rfl ?_
        refine ga_iload_n 3 dX12_round_177 rfl rfl ?_
        obtain ⟨i48, h⟩ := h
        obtain ⟨σ49, eσ49⟩ : ∃ z, z = sI σ 111 x4 x3 := ⟨_, rfl⟩
        replace h := h σ49 eσ49
        refine ga_iast (nI := 6) dX12_round_178 rfl rfl i48 rx3 eσ49 ?_
        refine ga_aload_n 0 dX12_round_179 rfl rfl ?_
        refine ga_dup dX12_round_180 rfl ?_
        refine ga_getI (kI := 41) dX12_round_181 fX12_299 rfl rfl rfl (fun r50 => ?_)
        refine ga_iconst dX12_round_184 ?_
        refine ga_iload_n 3 dX12_round_185 rfl rfl ?_
        refine ga_ishl dX12_round_186 (fun r51 => ?_)
        refine ga_ior dX12_round_187 (fun r52 => ?_)
        obtain ⟨σ53, eσ53⟩ : ∃ z, z = sI σ49 88 41 (gor (gI σ49 88 41) (gshl 1 x3)) := ⟨_, rfl⟩
        replace h := h σ53 eσ53
        refine ga_putI (kI := 41) dX12_round_188 fX12_299 pX12_41 rfl rfl rfl r52 eσ53 ?_
        refine ga_aload_n 0 dX12_round_191 rfl rfl ?_
        refine ga_dup dX12_round_192 rfl ?_
        refine ga_getI (kI := 42) dX12_round_193 fX12_302 rfl rfl rfl (fun r54 => ?_)
        refine ga_iconst dX12_round_196 ?_
        refine ga_iload 4 dX12_round_197 rfl ?_
        refine ga_ishl dX12_round_199 (fun r55 => ?_)
        refine ga_ior dX12_round_200 (fun r56 => ?_)
        obtain ⟨σ57, eσ57⟩ : ∃ z, z = sI σ53 88 42 (gor (gI σ53 88 42) (gshl 1 x4)) := ⟨_, rfl⟩
        replace h := h σ57 eσ57
        refine ga_putI (kI := 42) dX12_round_201 fX12_302 pX12_42 rfl rfl rfl r56 eσ57 ?_
        refine ga_iload_n 1 dX12_round_204 rfl rfl ?_
        obtain ⟨ht, hf⟩ := h
        refine ga_if_ne (tgt := 211) dX12_round_205 (by decide) rx1 (fun q58 => ?_) (fun q58 => ?_)
        · replace q58 : ¬ x1 = 0 := q58
          have h := ht q58
          refine ga_aload_n 0 dX12_round_211 rfl rfl ?_
          refine ga_getR (kI := 16) (r := 93) dX12_round_212 fX12_23 rfl rfl (by decide) rfl ?_
          refine ga_iload_n 3 dX12_round_215 rfl rfl ?_
          refine ga_iload 4 dX12_round_216 rfl ?_
          refine ga_iconst dX12_round_218 ?_
          refine ga_iadd dX12_round_219 ?_
          refine ga_aload_n 0 dX12_round_220 rfl rfl ?_
          refine ga_getI (kI := 10) dX12_round_221 fX12_236 rfl rfl rfl (fun r59 => ?_)
          obtain ⟨o60, h⟩ := h
          refine ga_irem dX12_round_224 r59 o60 (fun r61 => ?_)
          obtain ⟨i62, h⟩ := h
          obtain ⟨σ63, eσ63⟩ : ∃ z, z = sI σ57 93 x3 (grem (x4 + 1) (gI σ57 88 10)) := ⟨_, rfl⟩
          replace h := h σ63 eσ63
          refine ga_iast (nI := 6) dX12_round_225 rfl rfl i62 r61 eσ63 ?_
          refine ga_aload_n 0 dX12_round_226 rfl rfl ?_
          refine ga_getR (kI := 15) (r := 92) dX12_round_227 fX12_20 rfl rfl (by decide) rfl ?_
          refine ga_iload 4 dX12_round_230 rfl ?_
          refine ga_iload_n 3 dX12_round_232 rfl rfl ?_
          refine ga_iconst dX12_round_233 ?_
          refine ga_iadd dX12_round_234 ?_
          refine ga_aload_n 0 dX12_round_235 rfl rfl ?_
          refine ga_getI (kI := 10) dX12_round_236 fX12_236 rfl rfl rfl (fun r64 => ?_)
          obtain ⟨o65, h⟩ := h
          refine ga_irem dX12_round_239 r64 o65 (fun r66 => ?_)
          obtain ⟨σ67, eσ67⟩ : ∃ z, z = sI σ63 92 x4 (grem (x3 + 1) (gI σ63 88 10)) := ⟨_, rfl⟩
          replace h := h σ67 eσ67
          refine ga_iast (nI := 6) dX12_round_240 rfl rfl i48 r66 eσ67 ?_
          refine ga_iinc (ls' := [(3, vI (x3 + 1)), (0, .ref (G.2.1 88)), (1, vI x1), (2, vI x2), (4, vI x4), (5, vI x5)]) 3 dX12_round_241 rfl (by decide) rfl ?_
          refine ga_goto (tgt := 92) dX12_round_244 (by decide) ?_
          exact ga_sub [1, 2, 3, 0] rfl h
        · replace q58 : x1 = 0 := (Decidable.not_not.mp q58)
          have h := hf q58
          refine ga_goto (tgt := 241) dX12_round_208 (by decide) ?_
          refine ga_iinc (ls' := [(3, vI (x3 + 1)), (0, .ref (G.2.1 88)), (1, vI x1), (2, vI x2), (4, vI x4), (5, vI x5)]) 3 dX12_round_241 rfl (by decide) rfl ?_
          refine ga_goto (tgt := 92) dX12_round_244 (by decide) ?_
          exact ga_sub [1, 2, 3, 0] rfl h
      · replace q47 : x4 = (-1) := (Decidable.not_not.mp q47)
        have h := hf q47
        refine ga_goto (tgt := 241) dX12_round_168 (by decide) ?_
        refine ga_iinc (ls' := [(3, vI (x3 + 1)), (0, .ref (G.2.1 88)), (1, vI x1), (2, vI x2), (4, vI x4), (5, vI x5)]) 3 dX12_round_241 rfl (by decide) rfl ?_
        refine ga_goto (tgt := 92) dX12_round_244 (by decide) ?_
        exact ga_sub [1, 2, 3, 0] rfl h
    · replace q46 : x4 = (-1) := (Decidable.not_not.mp q46)
      have h := hf q46
      refine ga_aload_n 0 dX12_round_121 rfl rfl ?_
      refine ga_getR (kI := 16) (r := 93) dX12_round_122 fX12_23 rfl rfl (by decide) rfl ?_
      refine ga_iload_n 3 dX12_round_125 rfl rfl ?_
      obtain ⟨i68, h⟩ := h
      refine ga_iald (nI := 6) dX12_round_126 rfl rfl i68 (fun r69 => ?_)
      refine ga_iload 5 dX12_round_127 rfl ?_
      refine ga_iadd dX12_round_129 ?_
      refine ga_aload_n 0 dX12_round_130 rfl rfl ?_
      refine ga_getI (kI := 10) dX12_round_131 fX12_236 rfl rfl rfl (fun r70 => ?_)
      obtain ⟨o71, h⟩ := h
      refine ga_irem dX12_round_134 r70 o71 (fun r72 => ?_)
      refine ga_istore (ls' := [(6, vI (grem ((gI σ 93 x3) + x5) (gI σ 88 10))), (0, .ref (G.2.1 88)), (1, vI x1), (2, vI x2), (3, vI x3), (4, vI x4), (5, vI x5)]) dX12_round_135 (by decide) rfl ?_
      refine ga_aload_n 1 dX12_round_137 rfl rfl ?_
      refine ga_getR (kI := 45) (r := 113) dX12_round_138 fX12_83 rfl rfl (by decide) rfl ?_
      refine ga_iload 0 dX12_round_141 rfl ?_
      obtain ⟨i73, h⟩ := h
      refine ga_iald (nI := 6) dX12_round_143 rfl rfl i73 (fun r74 => ?_)
      refine ga_iload_n 4 dX12_round_144 rfl rfl ?_
      have kJ75 : ∀ v77 : Int, gR v77 → v77 = (if (gI σ 113 (grem ((gI σ 93 x3) + x5) (gI σ 88 10))) = x3 then (grem ((gI σ 93 x3) + x5) (gI σ 88 10)) else (-1)) → gAt l G mX12_round (gQv G Q) 154 [(6, vI (grem ((gI σ 93 x3) + x5) (gI σ 88 10))), (0, .ref (G.2.1 88)), (1, vI x1), (2, vI x2), (3, vI x3), (4, vI x4), (5, vI x5)] [vI v77] σ := by
        intro v77 rv77 ev77
        replace h := h v77 ev77
        refine ga_istore (ls' := [(4, vI v77), (6, vI (grem ((gI σ 93 x3) + x5) (gI σ 88 10))), (0, .ref (G.2.1 88)), (1, vI x1), (2, vI x2), (3, vI x3), (5, vI x5)]) dX12_round_154 (by decide) rfl ?_
        refine ga_iinc (ls' := [(5, vI (x5 + 1)), (4, vI v77), (6, vI (grem ((gI σ 93 x3) + x5) (gI σ 88 10))), (0, .ref (G.2.1 88)), (1, vI x1), (2, vI x2), (3, vI x3)]) 6 dX12_round_156 rfl (by decide) rfl ?_
        refine ga_goto (tgt := 106) dX12_round_159 (by decide) ?_
        exact ga_sub [3, 4, 5, 6, 1, 0] rfl h
      replace h : (¬ (gI σ 113 (grem ((gI σ 93 x3) + x5) (gI σ 88 10))) = x3 → True) ∧
      ((gI σ 113 (grem ((gI σ 93 x3) + x5) (gI σ 88 10))) = x3 → True) := by repeat (first | exact True.intro | apply And.intro | intro _)
      obtain ⟨ht, hf⟩ := h
      refine ga_icmp_ne (tgt := 153) dX12_round_145 (by decide) r74 rx3 (fun q76 => ?_) (fun q76 => ?_)
      · replace q76 : ¬ (gI σ 113 (grem ((gI σ 93 x3) + x5) (gI σ 88 10))) = x3 := q76
        have h := ht q76
        refine ga_iconst dX12_round_153 ?_
        exact kJ75 (-1) (by decide) (by rw [if_neg q76])
      · replace q76 : (gI σ 113 (grem ((gI σ 93 x3) + x5) (gI σ 88 10))) = x3 := (Decidable.not_not.mp q76)
        have h := hf q76
        refine ga_iload 0 dX12_round_148 rfl ?_
        refine ga_goto (tgt := 154) dX12_round_150 (by decide) ?_
        exact kJ75 (grem ((gI σ 93 x3) + x5) (gI σ 88 10)) r72 (by rw [if_pos q76])
abbrev eX12_matches (l : Launch) (G : gG) (x1 : Int) (x2 : Int) (σ : gS) (Q : gS → Prop) : Prop := gEv l G mX12_matches [.ref (G.2.1 88), vI x1, vI x2] σ Q
abbrev kX12_matches_2 (l : Launch) (G : gG)  (x1 : Int) (x2 : Int) (x3 : Int) (σ : gS) (Q : gS → Prop) : Prop := gAt l G mX12_matches (gQv G Q) 2 [(0, .ref (G.2.1 88)), (1, vI x1), (2, vI x2), (3, vI x3)] [] σ
abbrev kX12_matches_23 (l : Launch) (G : gG)  (x1 : Int) (x2 : Int) (x3 : Int) (σ : gS) (Q : gS → Prop) : Prop := gAt l G mX12_matches (gQv G Q) 23 [(0, .ref (G.2.1 88)), (1, vI x1), (2, vI x2), (3, vI x3)] [] σ
set_option maxRecDepth 100000 in
set_option maxHeartbeats 4000000 in
theorem vX12_matches {l : Launch} {G : gG} (x1 : Int) (x2 : Int) (rx1 : gR x1) (rx2 : gR x2) (σ : gS) (Q : gS → Prop) (h : kX12_matches_2 l G  x1 x2 0 σ Q) : eX12_matches l G x1 x2 σ Q := by
  refine ga_entry rfl (Nat.le_of_ble_eq_true rfl) ?_
  show gAt l G mX12_matches (gQv G Q) 0 [(0, .ref (G.2.1 88)), (1, vI x1), (2, vI x2)] [] σ
  refine ga_iconst dX12_matches_0 ?_
  refine ga_istore_n (ls' := [(3, vI 0), (0, .ref (G.2.1 88)), (1, vI x1), (2, vI x2)]) dX12_matches_1 rfl (by decide) rfl ?_
  exact ga_sub [1, 2, 3, 0] rfl h
set_option maxRecDepth 100000 in
set_option maxHeartbeats 4000000 in
theorem vX12_matches_2 {l : Launch} {G : gG}  (x1 : Int) (x2 : Int) (x3 : Int) (rx1 : gR x1) (rx2 : gR x2) (rx3 : gR x3) (σ : gS) (Q : gS → Prop) (h : (6 ≤ x3 → kX12_matches_23 l G  x1 x2 0 σ Q) ∧
  (x3 < 6 → (0 ≤ x3 ∧ x3 < 6) ∧ ∀ σ3, σ3 = sI σ 111 x3 (-1) →
    kX12_matches_2 l G  x1 x2 (x3 + 1) σ3 Q)) : kX12_matches_2 l G  x1 x2 x3 σ Q := by
  refine ga_iload_n 3 dX12_matches_2 rfl rfl ?_
  refine ga_bipush dX12_matches_3 (by decide) ?_
  obtain ⟨ht, hf⟩ := h
  refine ga_icmp_ge (tgt := 21) dX12_matches_5 (by decide) rx3 (by decide) (fun q1 => ?_) (fun q1 => ?_)
  · replace q1 : 6 ≤ x3 := q1
    have h := ht q1
    refine ga_iconst dX12_matches_21 ?_
    refine ga_istore_n (ls' := [(3, vI 0), (0, .ref (G.2.1 88)), (1, vI x1), (2, vI x2)]) dX12_matches_22 rfl (by decide) rfl ?_
    exact ga_sub [1, 2, 3, 0] rfl h
  · replace q1 : x3 < 6 := (Int.not_le.mp q1)
    have h := hf q1
    refine ga_aload_n 0 dX12_matches_8 rfl rfl ?_
    refine ga_getR (kI := 43) (r := 111) dX12_matches_9 fX12_77 rfl rfl (by decide) rfl ?_
    refine ga_iload_n 3 dX12_matches_12 rfl rfl ?_
    refine ga_iconst dX12_matches_13 ?_
    obtain ⟨i2, h⟩ := h
    obtain ⟨σ3, eσ3⟩ : ∃ z, z = sI σ 111 x3 (-1) := ⟨_, rfl⟩
    replace h := h σ3 eσ3
    refine ga_iast (nI := 6) dX12_matches_14 rfl rfl i2 (by decide) eσ3 ?_
    refine ga_iinc (ls' := [(3, vI (x3 + 1)), (0, .ref (G.2.1 88)), (1, vI x1), (2, vI x2)]) 3 dX12_matches_15 rfl (by decide) rfl ?_
    refine ga_goto (tgt := 2) dX12_matches_18 (by decide) ?_
    exact ga_sub [1, 2, 3, 0] rfl h
set_option maxRecDepth 100000 in
set_option maxHeartbeats 4000000 in
theorem vX12_matches_23 {l : Launch} {G : gG}  (x1 : Int) (x2 : Int) (x3 : Int) (rx1 : gR x1) (rx2 : gR x2) (rx3 : gR x3) (σ : gS) (Q : gS → Prop) (h : (x1 ≤ x3 → Q σ) ∧
  (x3 < x1 → (∀ v7 : Int, v7 = (if x3 = 0 then 1 else 0) →
    eX12_round l G v7 x2 σ (fun σ8 =>
      kX12_matches_23 l G  x1 x2 (x3 + 1) σ8 Q)))) : kX12_matches_23 l G  x1 x2 x3 σ Q := by
  refine ga_iload_n 3 dX12_matches_23 rfl rfl ?_
  refine ga_iload_n 1 dX12_matches_24 rfl rfl ?_
  obtain ⟨ht, hf⟩ := h
  refine ga_icmp_ge (tgt := 48) dX12_matches_25 (by decide) rx3 rx1 (fun q4 => ?_) (fun q4 => ?_)
  · replace q4 : x1 ≤ x3 := q4
    have h := ht q4
    exact ga_vret dX12_matches_48 rfl h
  · replace q4 : x3 < x1 := (Int.not_le.mp q4)
    have h := hf q4
    refine ga_aload_n 0 dX12_matches_28 rfl rfl ?_
    refine ga_iload_n 3 dX12_matches_29 rfl rfl ?_
    have kJ5 : ∀ v7 : Int, gR v7 → (v7 = 0 ∨ v7 = 1) → v7 = (if x3 = 0 then 1 else 0) → gAt l G mX12_matches (gQv G Q) 38 [(0, .ref (G.2.1 88)), (1, vI x1), (2, vI x2), (3, vI x3)] [vI v7, .ref (G.2.1 88)] σ := by
      intro v7 rv7 bv7 ev7
      replace h := h v7 ev7
      refine ga_iload_n 2 dX12_matches_38 rfl rfl ?_
      refine ga_callVv (z := mX12_round) (As := [vI v7, vI x2]) (rest := []) dX12_matches_39 wX12_311 qX12_matches_X12_round rfl ⟨_, rfl, rfl⟩ rfl rfl (Nat.le_of_ble_eq_true rfl) (gEv_mono h (fun σ8 h => ?_))
      refine ga_iinc (ls' := [(3, vI (x3 + 1)), (0, .ref (G.2.1 88)), (1, vI x1), (2, vI x2)]) 3 dX12_matches_42 rfl (by decide) rfl ?_
      refine ga_goto (tgt := 23) dX12_matches_45 (by decide) ?_
      exact ga_sub [1, 2, 3, 0] rfl h
    replace h : (¬ x3 = 0 → True) ∧
    (x3 = 0 → True) := by repeat (first | exact True.intro | apply And.intro | intro _)
    obtain ⟨ht, hf⟩ := h
    refine ga_if_ne (tgt := 37) dX12_matches_30 (by decide) rx3 (fun q6 => ?_) (fun q6 => ?_)
    · replace q6 : ¬ x3 = 0 := q6
      have h := ht q6
      refine ga_iconst dX12_matches_37 ?_
      exact kJ5 0 (by decide) (Or.inl rfl) (by rw [if_neg q6])
    · replace q6 : x3 = 0 := (Decidable.not_not.mp q6)
      have h := hf q6
      refine ga_iconst dX12_matches_33 ?_
      refine ga_goto (tgt := 38) dX12_matches_34 (by decide) ?_
      exact kJ5 1 (by decide) (Or.inr rfl) (by rw [if_pos q6])
abbrev eX12_goesSlot (l : Launch) (G : gG)  (σ : gS) (Q : gS → Prop) : Prop := gEv l G mX12_goesSlot [.ref (G.2.1 88)] σ Q
abbrev kX12_goesSlot_15 (l : Launch) (G : gG)  (x1 : Int) (σ : gS) (Q : gS → Prop) : Prop := gAt l G mX12_goesSlot (gQv G Q) 15 [(0, .ref (G.2.1 88)), (1, vI x1)] [] σ
abbrev kX12_goesSlot_157 (l : Launch) (G : gG)  (x1 : Int) (x2 : Int) (x3 : Int) (σ : gS) (Q : gS → Prop) : Prop := gAt l G mX12_goesSlot (gQv G Q) 157 [(0, .ref (G.2.1 88)), (1, vI x1), (2, vI x2), (3, vI x3)] [] σ
abbrev kX12_goesSlot_205 (l : Launch) (G : gG)  (x1 : Int) (σ : gS) (Q : gS → Prop) : Prop := gAt l G mX12_goesSlot (gQv G Q) 205 [(0, .ref (G.2.1 88)), (1, vI x1)] [] σ
set_option maxRecDepth 100000 in
set_option maxHeartbeats 4000000 in
theorem vX12_goesSlot {l : Launch} {G : gG}  (σ : gS) (Q : gS → Prop) (h : eX12_sendsFans l G  σ (fun σ1 =>
  eX12_matches l G (gI σ1 88 11) 0 σ1 (fun σ4 =>
  kX12_goesSlot_15 l G  0 σ4 Q))) : eX12_goesSlot l G  σ Q := by
  refine ga_entry rfl (Nat.le_of_ble_eq_true rfl) ?_
  show gAt l G mX12_goesSlot (gQv G Q) 0 [(0, .ref (G.2.1 88))] [] σ
  refine ga_aload_n 0 dX12_goesSlot_0 rfl rfl ?_
  refine ga_callVv (z := mX12_sendsFans) (As := []) (rest := []) dX12_goesSlot_1 wX12_315 qX12_goesSlot_X12_sendsFans rfl ⟨_, rfl, rfl⟩ rfl rfl (Nat.le_of_ble_eq_true rfl) (gEv_mono h (fun σ1 h => ?_))
  refine ga_aload_n 0 dX12_goesSlot_4 rfl rfl ?_
  refine ga_aload_n 0 dX12_goesSlot_5 rfl rfl ?_
  refine ga_getI (kI := 11) dX12_goesSlot_6 fX12_239 rfl rfl rfl (fun r3 => ?_)
  refine ga_iconst dX12_goesSlot_9 ?_
  refine ga_callVv (z := mX12_matches) (As := [vI (gI σ1 88 11), vI 0]) (rest := []) dX12_goesSlot_10 wX12_318 qX12_goesSlot_X12_matches rfl ⟨_, rfl, rfl⟩ rfl rfl (Nat.le_of_ble_eq_true rfl) (gEv_mono h (fun σ4 h => ?_))
  refine ga_iconst dX12_goesSlot_13 ?_
  refine ga_istore_n (ls' := [(1, vI 0), (0, .ref (G.2.1 88))]) dX12_goesSlot_14 rfl (by decide) rfl ?_
  exact ga_sub [1, 0] rfl h
set_option maxRecDepth 100000 in
set_option maxHeartbeats 4000000 in
theorem vX12_goesSlot_15 {l : Launch} {G : gG}  (x1 : Int) (rx1 : gR x1) (σ : gS) (Q : gS → Prop) (h : (6 ≤ x1 → kX12_goesSlot_205 l G  0 σ Q) ∧
  (x1 < 6 → (((gI σ 88 10) ≤ x1 → True) ∧
    (x1 < (gI σ 88 10) → (0 ≤ x1 ∧ x1 < 6) ∧ True)) ∧
    (∀ v13 : Int, v13 = (if (gI σ 88 10) ≤ x1 then (-1) else (gI σ 111 x1)) →
    (0 ≤ ((6 * (gI σ 88 24)) + x1) ∧ ((6 * (gI σ 88 24)) + x1) < 2520) ∧ ∀ σ15, σ15 = sI σ 109 ((6 * (gI σ 88 24)) + x1) v13 →
      (((gI σ15 88 10) ≤ x1 → True) ∧
      (x1 < (gI σ15 88 10) → (0 ≤ x1 ∧ x1 < 6) ∧ True)) ∧
      (∀ v22 : Int, v22 = (if (gI σ15 88 10) ≤ x1 then (-1) else (gI σ15 112 x1)) →
      (0 ≤ ((6 * (gI σ15 88 24)) + x1) ∧ ((6 * (gI σ15 88 24)) + x1) < 2520) ∧ ∀ σ24, σ24 = sI σ15 110 ((6 * (gI σ15 88 24)) + x1) v22 →
        ((gI σ24 88 10) ≤ x1 → kX12_goesSlot_15 l G  (x1 + 1) σ24 Q) ∧
        (x1 < (gI σ24 88 10) → (0 ≤ x1 ∧ x1 < 6) ∧ (¬ (gI σ24 111 x1) = (-1) → eX12_at l G (gI σ24 111 x1) x1 σ24 (fun v33 σ31 => gR v33 →
            (0 ≤ (9 * v33) ∧ (9 * v33) < 324) ∧ (0 ≤ (gI σ31 94 (9 * v33)) ∧ (gI σ31 94 (9 * v33)) < 400) ∧ ∀ σ38, σ38 = sI σ31 104 (gI σ31 94 (9 * v33)) (gI σ31 88 24) →
            (gR ((gI σ38 88 27) + 1)) ∧ ∀ σ40, σ40 = sI σ38 88 27 ((gI σ38 88 27) + 1) →
            (0 ≤ v33 ∧ v33 < 36) ∧ (gR ((gI σ40 95 v33) - 1)) ∧ ∀ σ44, σ44 = sI σ40 95 v33 ((gI σ40 95 v33) - 1) →
            kX12_goesSlot_157 l G  x1 v33 0 σ44 Q)) ∧
          ((gI σ24 111 x1) = (-1) → kX12_goesSlot_15 l G  (x1 + 1) σ24 Q)))))) : kX12_goesSlot_15 l G  x1 σ Q := by
  refine ga_iload_n 1 dX12_goesSlot_15 rfl rfl ?_
  refine ga_bipush dX12_goesSlot_16 (by decide) ?_
  obtain ⟨ht, hf⟩ := h
  refine ga_icmp_ge (tgt := 203) dX12_goesSlot_18 (by decide) rx1 (by decide) (fun q6 => ?_) (fun q6 => ?_)
  · replace q6 : 6 ≤ x1 := q6
    have h := ht q6
    refine ga_iconst dX12_goesSlot_203 ?_
    refine ga_istore_n (ls' := [(1, vI 0), (0, .ref (G.2.1 88))]) dX12_goesSlot_204 rfl (by decide) rfl ?_
    exact ga_sub [1, 0] rfl h
  · replace q6 : x1 < 6 := (Int.not_le.mp q6)
    have h := hf q6
    refine ga_aload_n 0 dX12_goesSlot_21 rfl rfl ?_
    refine ga_getR (kI := 39) (r := 109) dX12_goesSlot_22 fX12_71 rfl rfl (by decide) rfl ?_
    refine ga_bipush dX12_goesSlot_25 (by decide) ?_
    refine ga_aload_n 0 dX12_goesSlot_27 rfl rfl ?_
    refine ga_getI (kI := 24) dX12_goesSlot_28 fX12_257 rfl rfl rfl (fun r7 => ?_)
    refine ga_imul dX12_goesSlot_31 ?_
    refine ga_iload_n 1 dX12_goesSlot_32 rfl rfl ?_
    refine ga_iadd dX12_goesSlot_33 ?_
    refine ga_iload_n 1 dX12_goesSlot_34 rfl rfl ?_
    refine ga_aload_n 0 dX12_goesSlot_35 rfl rfl ?_
    refine ga_getI (kI := 10) dX12_goesSlot_36 fX12_236 rfl rfl rfl (fun r8 => ?_)
    obtain ⟨hob, h⟩ := h
    have kJ9 : ∀ v13 : Int, gR v13 → v13 = (if (gI σ 88 10) ≤ x1 then (-1) else (gI σ 111 x1)) → gAt l G mX12_goesSlot (gQv G Q) 52 [(0, .ref (G.2.1 88)), (1, vI x1)] [vI v13, vI ((6 * (gI σ 88 24)) + x1), .ref (G.2.1 109)] σ := by
      intro v13 rv13 ev13
      replace h := h v13 ev13
      obtain ⟨i14, h⟩ := h
      obtain ⟨σ15, eσ15⟩ : ∃ z, z = sI σ 109 ((6 * (gI σ 88 24)) + x1) v13 := ⟨_, rfl⟩
      replace h := h σ15 eσ15
      refine ga_iast (nI := 2520) dX12_goesSlot_52 rfl rfl i14 rv13 eσ15 ?_
      refine ga_aload_n 0 dX12_goesSlot_53 rfl rfl ?_
      refine ga_getR (kI := 40) (r := 110) dX12_goesSlot_54 fX12_74 rfl rfl (by decide) rfl ?_
      refine ga_bipush dX12_goesSlot_57 (by decide) ?_
      refine ga_aload_n 0 dX12_goesSlot_59 rfl rfl ?_
      refine ga_getI (kI := 24) dX12_goesSlot_60 fX12_257 rfl rfl rfl (fun r16 => ?_)
      refine ga_imul dX12_goesSlot_63 ?_
      refine ga_iload_n 1 dX12_goesSlot_64 rfl rfl ?_
      refine ga_iadd dX12_goesSlot_65 ?_
      refine ga_iload_n 1 dX12_goesSlot_66 rfl rfl ?_
      refine ga_aload_n 0 dX12_goesSlot_67 rfl rfl ?_
      refine ga_getI (kI := 10) dX12_goesSlot_68 fX12_236 rfl rfl rfl (fun r17 => ?_)
      obtain ⟨hob, h⟩ := h
      have kJ18 : ∀ v22 : Int, gR v22 → v22 = (if (gI σ15 88 10) ≤ x1 then (-1) else (gI σ15 112 x1)) → gAt l G mX12_goesSlot (gQv G Q) 84 [(0, .ref (G.2.1 88)), (1, vI x1)] [vI v22, vI ((6 * (gI σ15 88 24)) + x1), .ref (G.2.1 110)] σ15 := by
        intro v22 rv22 ev22
        replace h := h v22 ev22
        obtain ⟨i23, h⟩ := h
        obtain ⟨σ24, eσ24⟩ : ∃ z, z = sI σ15 110 ((6 * (gI σ15 88 24)) + x1) v22 := ⟨_, rfl⟩
        replace h := h σ24 eσ24
        refine ga_iast (nI := 2520) dX12_goesSlot_84 rfl rfl i23 rv22 eσ24 ?_
        refine ga_iload_n 1 dX12_goesSlot_85 rfl rfl ?_
        refine ga_aload_n 0 dX12_goesSlot_86 rfl rfl ?_
        refine ga_getI (kI := 10) dX12_goesSlot_87 fX12_236 rfl rfl rfl (fun r25 => ?_)
        obtain ⟨ht, hf⟩ := h
        refine ga_icmp_ge (tgt := 197) dX12_goesSlot_90 (by decide) rx1 r25 (fun q26 => ?_) (fun q26 => ?_)
        · replace q26 : (gI σ24 88 10) ≤ x1 := q26
          have h := ht q26
          refine ga_iinc (ls' := [(1, vI (x1 + 1)), (0, .ref (G.2.1 88))]) 1 dX12_goesSlot_197 rfl (by decide) rfl ?_
          refine ga_goto (tgt := 15) dX12_goesSlot_200 (by decide) ?_
          exact ga_sub [1, 0] rfl h
        · replace q26 : x1 < (gI σ24 88 10) := (Int.not_le.mp q26)
          have h := hf q26
          refine ga_aload_n 0 dX12_goesSlot_93 rfl rfl ?_
          refine ga_getR (kI := 43) (r := 111) dX12_goesSlot_94 fX12_77 rfl rfl (by decide) rfl ?_
          refine ga_iload_n 1 dX12_goesSlot_97 rfl rfl ?_
          obtain ⟨i27, h⟩ := h
          refine ga_iald (nI := 6) dX12_goesSlot_98 rfl rfl i27 (fun r28 => ?_)
          refine ga_iconst dX12_goesSlot_99 ?_
          obtain ⟨ht, hf⟩ := h
          refine ga_icmp_ne (tgt := 106) dX12_goesSlot_100 (by decide) r28 (by decide) (fun q29 => ?_) (fun q29 => ?_)
          · replace q29 : ¬ (gI σ24 111 x1) = (-1) := q29
            have h := ht q29
            refine ga_aload_n 0 dX12_goesSlot_106 rfl rfl ?_
            refine ga_getR (kI := 43) (r := 111) dX12_goesSlot_107 fX12_77 rfl rfl (by decide) rfl ?_
            refine ga_iload_n 1 dX12_goesSlot_110 rfl rfl ?_
            refine ga_iald (nI := 6) dX12_goesSlot_111 rfl rfl i27 (fun r30 => ?_)
            refine ga_iload_n 1 dX12_goesSlot_112 rfl rfl ?_
            refine ga_callSi (z := mX12_at) (As := [vI (gI σ24 111 x1), vI x1]) (rest := []) dX12_goesSlot_113 wX12_279 qX12_goesSlot_X12_at rfl rfl (Nat.le_of_ble_eq_true rfl) (gEi_mono h (fun v33 σ31 h r32 => ?_))
            replace h := h r32
            refine ga_istore_n (ls' := [(2, vI v33), (0, .ref (G.2.1 88)), (1, vI x1)]) dX12_goesSlot_116 rfl (by decide) rfl ?_
            refine ga_aload_n 1 dX12_goesSlot_117 rfl rfl ?_
            refine ga_getR (kI := 34) (r := 104) dX12_goesSlot_118 fX12_56 rfl rfl (by decide) rfl ?_
            refine ga_aload_n 1 dX12_goesSlot_121 rfl rfl ?_
            refine ga_getR (kI := 17) (r := 94) dX12_goesSlot_122 fX12_26 rfl rfl (by decide) rfl ?_
            refine ga_bipush dX12_goesSlot_125 (by decide) ?_
            refine ga_iload_n 0 dX12_goesSlot_127 rfl rfl ?_
            refine ga_imul dX12_goesSlot_128 ?_
            obtain ⟨i34, h⟩ := h
            refine ga_iald (nI := 324) dX12_goesSlot_129 rfl rfl i34 (fun r35 => ?_)
            refine ga_aload_n 1 dX12_goesSlot_130 rfl rfl ?_
            refine ga_getI (kI := 24) dX12_goesSlot_131 fX12_257 rfl rfl rfl (fun r36 => ?_)
            obtain ⟨i37, h⟩ := h
            obtain ⟨σ38, eσ38⟩ : ∃ z, z = sI σ31 104 (gI σ31 94 (9 * v33)) (gI σ31 88 24) := ⟨_, rfl⟩
            replace h := h σ38 eσ38
            refine ga_iast (nI := 400) dX12_goesSlot_134 rfl rfl i37 r36 eσ38 ?_
            refine ga_aload_n 1 dX12_goesSlot_135 rfl rfl ?_
            refine ga_dup dX12_goesSlot_136 rfl ?_
            refine ga_getI (kI := 27) dX12_goesSlot_137 fX12_266 rfl rfl rfl (fun r39 => ?_)
            refine ga_iconst dX12_goesSlot_140 ?_
            refine ga_iadd dX12_goesSlot_141 ?_
            obtain ⟨r41, h⟩ := h
            obtain ⟨σ40, eσ40⟩ : ∃ z, z = sI σ38 88 27 ((gI σ38 88 27) + 1) := ⟨_, rfl⟩
            replace h := h σ40 eσ40
            refine ga_putI (kI := 27) dX12_goesSlot_142 fX12_266 pX12_27 rfl rfl rfl r41 eσ40 ?_
            refine ga_aload_n 1 dX12_goesSlot_145 rfl rfl ?_
            refine ga_getR (kI := 18) (r := 95) dX12_goesSlot_146 fX12_29 rfl rfl (by decide) rfl ?_
            refine ga_iload_n 0 dX12_goesSlot_149 rfl rfl ?_
            refine ga_dup2 dX12_goesSlot_150 rfl rfl ?_
            obtain ⟨i42, h⟩ := h
            refine ga_iald (nI := 36) dX12_goesSlot_151 rfl rfl i42 (fun r43 => ?_)
            refine ga_iconst dX12_goesSlot_152 ?_
            refine ga_isub dX12_goesSlot_153 ?_
            obtain ⟨r45, h⟩ := h
            obtain ⟨σ44, eσ44⟩ : ∃ z, z = sI σ40 95 v33 ((gI σ40 95 v33) - 1) := ⟨_, rfl⟩
            replace h := h σ44 eσ44
            refine ga_iast (nI := 36) dX12_goesSlot_154 rfl rfl i42 r45 eσ44 ?_
            refine ga_iconst dX12_goesSlot_155 ?_
            refine ga_istore_n (ls' := [(3, vI 0), (2, vI v33), (0, .ref (G.2.1 88)), (1, vI x1)]) dX12_goesSlot_156 rfl (by decide) rfl ?_
            exact ga_sub [2, 3, 1, 0] rfl h
          · replace q29 : (gI σ24 111 x1) = (-1) := (Decidable.not_not.mp q29)
            have h := hf q29
            refine ga_goto (tgt := 197) dX12_goesSlot_103 (by decide) ?_
            refine ga_iinc (ls' := [(1, vI (x1 + 1)), (0, .ref (G.2.1 88))]) 1 dX12_goesSlot_197 rfl (by decide) rfl ?_
            refine ga_goto (tgt := 15) dX12_goesSlot_200 (by decide) ?_
            exact ga_sub [1, 0] rfl h
      replace h := hob
      obtain ⟨ht, hf⟩ := h
      refine ga_icmp_ge (tgt := 83) dX12_goesSlot_71 (by decide) rx1 r17 (fun q19 => ?_) (fun q19 => ?_)
      · replace q19 : (gI σ15 88 10) ≤ x1 := q19
        have h := ht q19
        refine ga_iconst dX12_goesSlot_83 ?_
        exact kJ18 (-1) (by decide) (by rw [if_pos q19])
      · replace q19 : x1 < (gI σ15 88 10) := (Int.not_le.mp q19)
        have h := hf q19
        refine ga_aload_n 0 dX12_goesSlot_74 rfl rfl ?_
        refine ga_getR (kI := 44) (r := 112) dX12_goesSlot_75 fX12_80 rfl rfl (by decide) rfl ?_
        refine ga_iload_n 1 dX12_goesSlot_78 rfl rfl ?_
        obtain ⟨i20, h⟩ := h
        refine ga_iald (nI := 6) dX12_goesSlot_79 rfl rfl i20 (fun r21 => ?_)
        refine ga_goto (tgt := 84) dX12_goesSlot_80 (by decide) ?_
        exact kJ18 (gI σ15 112 x1) r21 (by rw [if_neg (Int.not_le.mpr q19)])
    replace h := hob
    obtain ⟨ht, hf⟩ := h
    refine ga_icmp_ge (tgt := 51) dX12_goesSlot_39 (by decide) rx1 r8 (fun q10 => ?_) (fun q10 => ?_)
    · replace q10 : (gI σ 88 10) ≤ x1 := q10
      have h := ht q10
      refine ga_iconst dX12_goesSlot_51 ?_
      exact kJ9 (-1) (by decide) (by rw [if_pos q10])
    · replace q10 : x1 < (gI σ 88 10) := (Int.not_le.mp q10)
      have h := hf q10
      refine ga_aload_n 0 dX12_goesSlot_42 rfl rfl ?_
      refine ga_getR (kI := 43) (r := 111) dX12_goesSlot_43 fX12_77 rfl rfl (by decide) rfl ?_
      refine ga_iload_n 1 dX12_goesSlot_46 rfl rfl ?_
      obtain ⟨i11, h⟩ := h
      refine ga_iald (nI := 6) dX12_goesSlot_47 rfl rfl i11 (fun r12 => ?_)
      refine ga_goto (tgt := 52) dX12_goesSlot_48 (by decide) ?_
      exact kJ9 (gI σ 111 x1) r12 (by rw [if_neg (Int.not_le.mpr q10)])
set_option maxRecDepth 100000 in
set_option maxHeartbeats 4000000 in
theorem vX12_goesSlot_157 {l : Launch} {G : gG}  (x1 : Int) (x2 : Int) (x3 : Int) (rx1 : gR x1) (rx2 : gR x2) (rx3 : gR x3) (σ : gS) (Q : gS → Prop) (h : (0 ≤ x2 ∧ x2 < 36) ∧ ((gI σ 95 x2) ≤ x3 → kX12_goesSlot_15 l G  (x1 + 1) σ Q) ∧
  (x3 < (gI σ 95 x2) → (0 ≤ (((9 * x2) + x3) + 1) ∧ (((9 * x2) + x3) + 1) < 324) ∧ (0 ≤ ((9 * x2) + x3) ∧ ((9 * x2) + x3) < 324) ∧ ∀ σ52, σ52 = sI σ 94 ((9 * x2) + x3) (gI σ 94 (((9 * x2) + x3) + 1)) →
    kX12_goesSlot_157 l G  x1 x2 (x3 + 1) σ52 Q)) : kX12_goesSlot_157 l G  x1 x2 x3 σ Q := by
  refine ga_iload_n 3 dX12_goesSlot_157 rfl rfl ?_
  refine ga_aload_n 0 dX12_goesSlot_158 rfl rfl ?_
  refine ga_getR (kI := 18) (r := 95) dX12_goesSlot_159 fX12_29 rfl rfl (by decide) rfl ?_
  refine ga_iload_n 2 dX12_goesSlot_162 rfl rfl ?_
  obtain ⟨i46, h⟩ := h
  refine ga_iald (nI := 36) dX12_goesSlot_163 rfl rfl i46 (fun r47 => ?_)
  obtain ⟨ht, hf⟩ := h
  refine ga_icmp_ge (tgt := 197) dX12_goesSlot_164 (by decide) rx3 r47 (fun q48 => ?_) (fun q48 => ?_)
  · replace q48 : (gI σ 95 x2) ≤ x3 := q48
    have h := ht q48
    refine ga_iinc (ls' := [(1, vI (x1 + 1)), (0, .ref (G.2.1 88)), (2, vI x2), (3, vI x3)]) 1 dX12_goesSlot_197 rfl (by decide) rfl ?_
    refine ga_goto (tgt := 15) dX12_goesSlot_200 (by decide) ?_
    exact ga_sub [1, 0] rfl h
  · replace q48 : x3 < (gI σ 95 x2) := (Int.not_le.mp q48)
    have h := hf q48
    refine ga_aload_n 0 dX12_goesSlot_167 rfl rfl ?_
    refine ga_getR (kI := 17) (r := 94) dX12_goesSlot_168 fX12_26 rfl rfl (by decide) rfl ?_
    refine ga_bipush dX12_goesSlot_171 (by decide) ?_
    refine ga_iload_n 2 dX12_goesSlot_173 rfl rfl ?_
    refine ga_imul dX12_goesSlot_174 ?_
    refine ga_iload_n 3 dX12_goesSlot_175 rfl rfl ?_
    refine ga_iadd dX12_goesSlot_176 ?_
    refine ga_aload_n 0 dX12_goesSlot_177 rfl rfl ?_
    refine ga_getR (kI := 17) (r := 94) dX12_goesSlot_178 fX12_26 rfl rfl (by decide) rfl ?_
    refine ga_bipush dX12_goesSlot_181 (by decide) ?_
    refine ga_iload_n 2 dX12_goesSlot_183 rfl rfl ?_
    refine ga_imul dX12_goesSlot_184 ?_
    refine ga_iload_n 3 dX12_goesSlot_185 rfl rfl ?_
    refine ga_iadd dX12_goesSlot_186 ?_
    refine ga_iconst dX12_goesSlot_187 ?_
    refine ga_iadd dX12_goesSlot_188 ?_
    obtain ⟨i49, h⟩ := h
    refine ga_iald (nI := 324) dX12_goesSlot_189 rfl rfl i49 (fun r50 => ?_)
    obtain ⟨i51, h⟩ := h
    obtain ⟨σ52, eσ52⟩ : ∃ z, z = sI σ 94 ((9 * x2) + x3) (gI σ 94 (((9 * x2) + x3) + 1)) := ⟨_, rfl⟩
    replace h := h σ52 eσ52
    refine ga_iast (nI := 324) dX12_goesSlot_190 rfl rfl i51 r50 eσ52 ?_
    refine ga_iinc (ls' := [(3, vI (x3 + 1)), (0, .ref (G.2.1 88)), (1, vI x1), (2, vI x2)]) 3 dX12_goesSlot_191 rfl (by decide) rfl ?_
    refine ga_goto (tgt := 157) dX12_goesSlot_194 (by decide) ?_
    exact ga_sub [1, 2, 3, 0] rfl h
set_option maxRecDepth 100000 in
set_option maxHeartbeats 4000000 in
theorem vX12_goesSlot_205 {l : Launch} {G : gG}  (x1 : Int) (rx1 : gR x1) (σ : gS) (Q : gS → Prop) (h : (6 ≤ x1 → (gR ((gI σ 88 24) + 1)) ∧ ∀ σ55, σ55 = sI σ 88 24 ((gI σ 88 24) + 1) →
    Q σ55) ∧
  (x1 < 6 → (0 ≤ x1 ∧ x1 < 6) ∧ ∀ σ58, σ58 = sI σ 99 x1 0 →
    kX12_goesSlot_205 l G  (x1 + 1) σ58 Q)) : kX12_goesSlot_205 l G  x1 σ Q := by
  refine ga_iload_n 1 dX12_goesSlot_205 rfl rfl ?_
  refine ga_bipush dX12_goesSlot_206 (by decide) ?_
  obtain ⟨ht, hf⟩ := h
  refine ga_icmp_ge (tgt := 224) dX12_goesSlot_208 (by decide) rx1 (by decide) (fun q53 => ?_) (fun q53 => ?_)
  · replace q53 : 6 ≤ x1 := q53
    have h := ht q53
    refine ga_aload_n 0 dX12_goesSlot_224 rfl rfl ?_
    refine ga_dup dX12_goesSlot_225 rfl ?_
    refine ga_getI (kI := 24) dX12_goesSlot_226 fX12_257 rfl rfl rfl (fun r54 => ?_)
    refine ga_iconst dX12_goesSlot_229 ?_
    refine ga_iadd dX12_goesSlot_230 ?_
    obtain ⟨r56, h⟩ := h
    obtain ⟨σ55, eσ55⟩ : ∃ z, z = sI σ 88 24 ((gI σ 88 24) + 1) := ⟨_, rfl⟩
    replace h := h σ55 eσ55
    refine ga_putI (kI := 24) dX12_goesSlot_231 fX12_257 pX12_24 rfl rfl rfl r56 eσ55 ?_
    exact ga_vret dX12_goesSlot_234 rfl h
  · replace q53 : x1 < 6 := (Int.not_le.mp q53)
    have h := hf q53
    refine ga_aload_n 0 dX12_goesSlot_211 rfl rfl ?_
    refine ga_getR (kI := 22) (r := 99) dX12_goesSlot_212 fX12_41 rfl rfl (by decide) rfl ?_
    refine ga_iload_n 1 dX12_goesSlot_215 rfl rfl ?_
    refine ga_iconst dX12_goesSlot_216 ?_
    obtain ⟨i57, h⟩ := h
    obtain ⟨σ58, eσ58⟩ : ∃ z, z = sI σ 99 x1 0 := ⟨_, rfl⟩
    replace h := h σ58 eσ58
    refine ga_zast (nI := 6) dX12_goesSlot_217 rfl rfl i57 (Or.inl rfl) eσ58 ?_
    refine ga_iinc (ls' := [(1, vI (x1 + 1)), (0, .ref (G.2.1 88))]) 1 dX12_goesSlot_218 rfl (by decide) rfl ?_
    refine ga_goto (tgt := 205) dX12_goesSlot_221 (by decide) ?_
    exact ga_sub [1, 0] rfl h
abbrev eX12_can (l : Launch) (G : gG) (x1 : Int) (x2 : Int) (x3 : Int) (σ : gS) (Q : Int → gS → Prop) : Prop := gEz l G mX12_can [.ref (G.2.1 88), vI x1, vI x2, vI x3] σ Q
set_option maxRecDepth 100000 in
set_option maxHeartbeats 4000000 in
theorem vX12_can {l : Launch} {G : gG} (x1 : Int) (x2 : Int) (x3 : Int) (rx1 : gR x1) (rx2 : gR x2) (rx3 : gR x3) (σ : gS) (Q : Int → gS → Prop) (h : (2 ≤ x1 → eX12_isPort l G x2 σ (fun v4 σ2 => (v4 = 0 ∨ v4 = 1) →
    (v4 = 0 → Q 0 σ2) ∧
    (¬ v4 = 0 → (0 ≤ x2 ∧ x2 < 6) ∧ ((gI σ2 99 x2) = 0 → (¬ x1 = 2 → (∀ v14 : Int, v14 = (if (gshl 1 (gI σ2 88 10)) ≤ x3 then 0 else 1) →
          Q v14 σ2)) ∧
        (x1 = 2 → eX12_isPort l G x3 σ2 (fun v17 σ15 => (v17 = 0 ∨ v17 = 1) →
          Q v17 σ15))) ∧
      (¬ (gI σ2 99 x2) = 0 → Q 0 σ2)))) ∧
  (x1 < 2 → Q 1 σ)) : eX12_can l G x1 x2 x3 σ Q := by
  refine ga_entry rfl (Nat.le_of_ble_eq_true rfl) ?_
  show gAt l G mX12_can (gQz G Q) 0 [(0, .ref (G.2.1 88)), (1, vI x1), (2, vI x2), (3, vI x3)] [] σ
  refine ga_iload_n 1 dX12_can_0 rfl rfl ?_
  refine ga_iconst dX12_can_1 ?_
  obtain ⟨ht, hf⟩ := h
  refine ga_icmp_ge (tgt := 7) dX12_can_2 (by decide) rx1 (by decide) (fun q1 => ?_) (fun q1 => ?_)
  · replace q1 : 2 ≤ x1 := q1
    have h := ht q1
    refine ga_aload_n 0 dX12_can_7 rfl rfl ?_
    refine ga_iload_n 2 dX12_can_8 rfl rfl ?_
    refine ga_callVz (z := mX12_isPort) (As := [vI x2]) (rest := []) dX12_can_9 wX12_322 qX12_can_X12_isPort rfl ⟨_, rfl, rfl⟩ rfl rfl (Nat.le_of_ble_eq_true rfl) (gEz_mono h (fun v4 σ2 h r3 => ?_))
    replace h := h r3
    obtain ⟨ht, hf⟩ := h
    refine ga_if_eq (tgt := 24) dX12_can_12 (by decide) (gR_01 r3) (fun q5 => ?_) (fun q5 => ?_)
    · replace q5 : v4 = 0 := q5
      have h := ht q5
      refine ga_iconst dX12_can_24 ?_
      exact ga_bret dX12_can_25 rfl (Or.inl rfl) h
    · replace q5 : ¬ v4 = 0 := q5
      have h := hf q5
      refine ga_aload_n 0 dX12_can_15 rfl rfl ?_
      refine ga_getR (kI := 22) (r := 99) dX12_can_16 fX12_41 rfl rfl (by decide) rfl ?_
      refine ga_iload_n 2 dX12_can_19 rfl rfl ?_
      obtain ⟨i6, h⟩ := h
      refine ga_zald (nI := 6) dX12_can_20 rfl rfl i6 (fun r7 => ?_)
      obtain ⟨ht, hf⟩ := h
      refine ga_if_eq (tgt := 26) dX12_can_21 (by decide) r7 (fun q8 => ?_) (fun q8 => ?_)
      · replace q8 : (gI σ2 99 x2) = 0 := q8
        have h := ht q8
        refine ga_iload_n 1 dX12_can_26 rfl rfl ?_
        refine ga_iconst dX12_can_27 ?_
        obtain ⟨ht, hf⟩ := h
        refine ga_icmp_ne (tgt := 39) dX12_can_28 (by decide) rx1 (by decide) (fun q9 => ?_) (fun q9 => ?_)
        · replace q9 : ¬ x1 = 2 := q9
          have h := ht q9
          refine ga_iload_n 3 dX12_can_39 rfl rfl ?_
          refine ga_iconst dX12_can_40 ?_
          refine ga_aload_n 0 dX12_can_41 rfl rfl ?_
          refine ga_getI (kI := 10) dX12_can_42 fX12_236 rfl rfl rfl (fun r10 => ?_)
          refine ga_ishl dX12_can_45 (fun r11 => ?_)
          have kJ12 : ∀ v14 : Int, gR v14 → (v14 = 0 ∨ v14 = 1) → v14 = (if (gshl 1 (gI σ2 88 10)) ≤ x3 then 0 else 1) → gAt l G mX12_can (gQz G Q) 54 [(0, .ref (G.2.1 88)), (1, vI x1), (2, vI x2), (3, vI x3)] [vI v14] σ2 := by
            intro v14 rv14 bv14 ev14
            replace h := h v14 ev14
            exact ga_bret dX12_can_54 rfl bv14 h
          replace h : ((gshl 1 (gI σ2 88 10)) ≤ x3 → True) ∧
          (x3 < (gshl 1 (gI σ2 88 10)) → True) := by repeat (first | exact True.intro | apply And.intro | intro _)
          obtain ⟨ht, hf⟩ := h
          refine ga_icmp_ge (tgt := 53) dX12_can_46 (by decide) rx3 r11 (fun q13 => ?_) (fun q13 => ?_)
          · replace q13 : (gshl 1 (gI σ2 88 10)) ≤ x3 := q13
            have h := ht q13
            refine ga_iconst dX12_can_53 ?_
            exact kJ12 0 (by decide) (Or.inl rfl) (by rw [if_pos q13])
          · replace q13 : x3 < (gshl 1 (gI σ2 88 10)) := (Int.not_le.mp q13)
            have h := hf q13
            refine ga_iconst dX12_can_49 ?_
            refine ga_goto (tgt := 54) dX12_can_50 (by decide) ?_
            exact kJ12 1 (by decide) (Or.inr rfl) (by rw [if_neg (Int.not_le.mpr q13)])
        · replace q9 : x1 = 2 := (Decidable.not_not.mp q9)
          have h := hf q9
          refine ga_aload_n 0 dX12_can_31 rfl rfl ?_
          refine ga_iload_n 3 dX12_can_32 rfl rfl ?_
          refine ga_callVz (z := mX12_isPort) (As := [vI x3]) (rest := []) dX12_can_33 wX12_322 qX12_can_X12_isPort rfl ⟨_, rfl, rfl⟩ rfl rfl (Nat.le_of_ble_eq_true rfl) (gEz_mono h (fun v17 σ15 h r16 => ?_))
          replace h := h r16
          refine ga_goto (tgt := 54) dX12_can_36 (by decide) ?_
          exact ga_bret dX12_can_54 rfl r16 h
      · replace q8 : ¬ (gI σ2 99 x2) = 0 := q8
        have h := hf q8
        refine ga_iconst dX12_can_24 ?_
        exact ga_bret dX12_can_25 rfl (Or.inl rfl) h
  · replace q1 : x1 < 2 := (Int.not_le.mp q1)
    have h := hf q1
    refine ga_iconst dX12_can_5 ?_
    exact ga_bret dX12_can_6 rfl (Or.inr rfl) h
abbrev eX12_does (l : Launch) (G : gG) (x1 : Int) (x2 : Int) (x3 : Int) (σ : gS) (Q : gS → Prop) : Prop := gEv l G mX12_does [.ref (G.2.1 88), vI x1, vI x2, vI x3] σ Q
abbrev kX12_does_42 (l : Launch) (G : gG)  (x1 : Int) (x2 : Int) (x3 : Int) (x4 : Int) (σ : gS) (Q : gS → Prop) : Prop := gAt l G mX12_does (gQv G Q) 42 [(0, .ref (G.2.1 88)), (1, vI x1), (2, vI x2), (3, vI x3), (4, vI x4)] [] σ
set_option maxRecDepth 100000 in
set_option maxHeartbeats 4000000 in
theorem vX12_does {l : Launch} {G : gG} (x1 : Int) (x2 : Int) (x3 : Int) (rx1 : gR x1) (rx2 : gR x2) (rx3 : gR x3) (σ : gS) (Q : gS → Prop) (h : (x1 = 0 → eX12_goesSlot l G  σ (fun σ1 =>
    Q σ1)) ∧
  (x1 = 1 → kX12_does_42 l G  x1 x2 x3 0 σ Q) ∧
  (x1 = 2 → eX12_cellComes l G x2 x3 1 σ (fun v5 σ3 => (v5 = 0 ∨ v5 = 1) →
    Q σ3)) ∧
  (x1 = 3 → eX12_fanComes l G x2 x3 σ (fun σ6 =>
    Q σ6)) ∧
  ((x1 < 0 ∨ 3 < x1) → eX12_bursts l G x2 x3 σ (fun σ8 =>
    Q σ8))) : eX12_does l G x1 x2 x3 σ Q := by
  refine ga_entry rfl (Nat.le_of_ble_eq_true rfl) ?_
  show gAt l G mX12_does (gQv G Q) 0 [(0, .ref (G.2.1 88)), (1, vI x1), (2, vI x2), (3, vI x3)] [] σ
  refine ga_iload_n 1 dX12_does_0 rfl rfl ?_
  obtain ⟨hc10, hc11, hc12, hc13, hd⟩ := h
  by_cases q14 : x1 = 0
  · refine ga_tableIn (tgt := 32) (v := 0) dX12_does_1 q14 (by decide) rfl (by decide) ?_
    have h := hc10 q14
    refine ga_aload_n 0 dX12_does_32 rfl rfl ?_
    refine ga_callVv (z := mX12_goesSlot) (As := []) (rest := []) dX12_does_33 wX12_325 qX12_does_X12_goesSlot rfl ⟨_, rfl, rfl⟩ rfl rfl (Nat.le_of_ble_eq_true rfl) (gEv_mono h (fun σ1 h => ?_))
    refine ga_goto (tgt := 87) dX12_does_36 (by decide) ?_
    exact ga_vret dX12_does_87 rfl h
  by_cases q15 : x1 = 1
  · refine ga_tableIn (tgt := 39) (v := 1) dX12_does_1 q15 (by decide) rfl (by decide) ?_
    have h := hc11 q15
    refine ga_iconst dX12_does_39 ?_
    refine ga_istore (ls' := [(4, vI 0), (0, .ref (G.2.1 88)), (1, vI x1), (2, vI x2), (3, vI x3)]) dX12_does_40 (by decide) rfl ?_
    exact ga_sub [1, 2, 3, 4, 0] rfl h
  by_cases q16 : x1 = 2
  · refine ga_tableIn (tgt := 61) (v := 2) dX12_does_1 q16 (by decide) rfl (by decide) ?_
    have h := hc12 q16
    refine ga_aload_n 0 dX12_does_61 rfl rfl ?_
    refine ga_iload_n 2 dX12_does_62 rfl rfl ?_
    refine ga_iload_n 3 dX12_does_63 rfl rfl ?_
    refine ga_iconst dX12_does_64 ?_
    refine ga_callVz (z := mX12_cellComes) (As := [vI x2, vI x3, vI 1]) (rest := []) dX12_does_65 wX12_285 qX12_does_X12_cellComes rfl ⟨_, rfl, rfl⟩ rfl rfl (Nat.le_of_ble_eq_true rfl) (gEz_mono h (fun v5 σ3 h r4 => ?_))
    replace h := h r4
    refine ga_pop dX12_does_68 rfl ?_
    refine ga_goto (tgt := 87) dX12_does_69 (by decide) ?_
    exact ga_vret dX12_does_87 rfl h
  by_cases q17 : x1 = 3
  · refine ga_tableIn (tgt := 72) (v := 3) dX12_does_1 q17 (by decide) rfl (by decide) ?_
    have h := hc13 q17
    refine ga_aload_n 0 dX12_does_72 rfl rfl ?_
    refine ga_iload_n 2 dX12_does_73 rfl rfl ?_
    refine ga_iload_n 3 dX12_does_74 rfl rfl ?_
    refine ga_callVv (z := mX12_fanComes) (As := [vI x2, vI x3]) (rest := []) dX12_does_75 wX12_328 qX12_does_X12_fanComes rfl ⟨_, rfl, rfl⟩ rfl rfl (Nat.le_of_ble_eq_true rfl) (gEv_mono h (fun σ6 h => ?_))
    refine ga_goto (tgt := 87) dX12_does_78 (by decide) ?_
    exact ga_vret dX12_does_87 rfl h
  have hdc : (x1 < 0 ∨ 3 < x1) := by omega
  have h := hd hdc
  refine ga_tableOut (tgt := 81) dX12_does_1 rx1 hdc (by decide) ?_
  refine ga_aload_n 0 dX12_does_81 rfl rfl ?_
  refine ga_iload_n 2 dX12_does_82 rfl rfl ?_
  refine ga_iload_n 3 dX12_does_83 rfl rfl ?_
  refine ga_callVv (z := mX12_bursts) (As := [vI x2, vI x3]) (rest := []) dX12_does_84 wX12_331 qX12_does_X12_bursts rfl ⟨_, rfl, rfl⟩ rfl rfl (Nat.le_of_ble_eq_true rfl) (gEv_mono h (fun σ8 h => ?_))
  exact ga_vret dX12_does_87 rfl h
set_option maxRecDepth 100000 in
set_option maxHeartbeats 4000000 in
theorem vX12_does_42 {l : Launch} {G : gG}  (x1 : Int) (x2 : Int) (x3 : Int) (x4 : Int) (rx1 : gR x1) (rx2 : gR x2) (rx3 : gR x3) (rx4 : gR x4) (σ : gS) (Q : gS → Prop) (h : (x2 ≤ x4 → Q σ) ∧
  (x4 < x2 → eX12_goesSlot l G  σ (fun σ19 =>
    kX12_does_42 l G  x1 x2 x3 (x4 + 1) σ19 Q))) : kX12_does_42 l G  x1 x2 x3 x4 σ Q := by
  refine ga_iload 4 dX12_does_42 rfl ?_
  refine ga_iload_n 2 dX12_does_44 rfl rfl ?_
  obtain ⟨ht, hf⟩ := h
  refine ga_icmp_ge (tgt := 58) dX12_does_45 (by decide) rx4 rx2 (fun q18 => ?_) (fun q18 => ?_)
  · replace q18 : x2 ≤ x4 := q18
    have h := ht q18
    refine ga_goto (tgt := 87) dX12_does_58 (by decide) ?_
    exact ga_vret dX12_does_87 rfl h
  · replace q18 : x4 < x2 := (Int.not_le.mp q18)
    have h := hf q18
    refine ga_aload_n 0 dX12_does_48 rfl rfl ?_
    refine ga_callVv (z := mX12_goesSlot) (As := []) (rest := []) dX12_does_49 wX12_325 qX12_does_X12_goesSlot rfl ⟨_, rfl, rfl⟩ rfl rfl (Nat.le_of_ble_eq_true rfl) (gEv_mono h (fun σ19 h => ?_))
    refine ga_iinc (ls' := [(4, vI (x4 + 1)), (0, .ref (G.2.1 88)), (1, vI x1), (2, vI x2), (3, vI x3)]) 4 dX12_does_52 rfl (by decide) rfl ?_
    refine ga_goto (tgt := 42) dX12_does_55 (by decide) ?_
    exact ga_sub [1, 2, 3, 4, 0] rfl h
abbrev eX12_goes (l : Launch) (G : gG) (x1 : Int) (σ : gS) (Q : gS → Prop) : Prop := gEv l G mX12_goes [.ref (G.2.1 88), vI x1] σ Q
abbrev kX12_goes_4 (l : Launch) (G : gG)  (x1 : Int) (σ : gS) (Q : gS → Prop) : Prop := gAt l G mX12_goes (gQv G Q) 4 [(0, .ref (G.2.1 88)), (1, vI x1)] [] σ
set_option maxRecDepth 100000 in
set_option maxHeartbeats 4000000 in
theorem vX12_goes {l : Launch} {G : gG} (x1 : Int) (rx1 : gR x1) (σ : gS) (Q : gS → Prop) (h : eX12_begins l G  σ (fun σ1 =>
  kX12_goes_4 l G  x1 σ1 Q)) : eX12_goes l G x1 σ Q := by
  refine ga_entry rfl (Nat.le_of_ble_eq_true rfl) ?_
  show gAt l G mX12_goes (gQv G Q) 0 [(0, .ref (G.2.1 88)), (1, vI x1)] [] σ
  refine ga_aload_n 0 dX12_goes_0 rfl rfl ?_
  refine ga_callVv (z := mX12_begins) (As := []) (rest := []) dX12_goes_1 wX12_334 qX12_goes_X12_begins rfl ⟨_, rfl, rfl⟩ rfl rfl (Nat.le_of_ble_eq_true rfl) (gEv_mono h (fun σ1 h => ?_))
  exact ga_sub [0, 1] rfl h
set_option maxRecDepth 100000 in
set_option maxHeartbeats 4000000 in
theorem vX12_goes_4 {l : Launch} {G : gG}  (x1 : Int) (rx1 : gR x1) (σ : gS) (Q : gS → Prop) (h : (x1 ≤ (gI σ 88 29) → Q σ) ∧
  ((gI σ 88 29) < x1 → (0 ≤ (gI σ 88 14) ∧ (gI σ 88 14) < 3704) ∧ ((gI σ 89 (gI σ 88 14)) ≤ (gI σ 88 29) → Q σ) ∧
    ((gI σ 88 29) < (gI σ 89 (gI σ 88 14)) → (0 ≤ (((gI σ 88 14) + 1) + (3 * (gI σ 88 29))) ∧ (((gI σ 88 14) + 1) + (3 * (gI σ 88 29))) < 3704) ∧ (0 ≤ ((((gI σ 88 14) + 1) + (3 * (gI σ 88 29))) + 1) ∧ ((((gI σ 88 14) + 1) + (3 * (gI σ 88 29))) + 1) < 3704) ∧ (0 ≤ ((((gI σ 88 14) + 1) + (3 * (gI σ 88 29))) + 2) ∧ ((((gI σ 88 14) + 1) + (3 * (gI σ 88 29))) + 2) < 3704) ∧ eX12_can l G (gI σ 89 (((gI σ 88 14) + 1) + (3 * (gI σ 88 29)))) (gI σ 89 ((((gI σ 88 14) + 1) + (3 * (gI σ 88 29))) + 1)) (gI σ 89 ((((gI σ 88 14) + 1) + (3 * (gI σ 88 29))) + 2)) σ (fun v20 σ18 => (v20 = 0 ∨ v20 = 1) →
      (¬ v20 = 0 → eX12_does l G (gI σ18 89 (((gI σ 88 14) + 1) + (3 * (gI σ 88 29)))) (gI σ18 89 ((((gI σ 88 14) + 1) + (3 * (gI σ 88 29))) + 1)) (gI σ18 89 ((((gI σ 88 14) + 1) + (3 * (gI σ 88 29))) + 2)) σ18 (fun σ25 =>
        (gR ((gI σ25 88 29) + 1)) ∧ ∀ σ28, σ28 = sI σ25 88 29 ((gI σ25 88 29) + 1) →
        kX12_goes_4 l G  x1 σ28 Q)) ∧
      (v20 = 0 → Q σ18))))) : kX12_goes_4 l G  x1 σ Q := by
  refine ga_aload_n 0 dX12_goes_4 rfl rfl ?_
  refine ga_getI (kI := 29) dX12_goes_5 fX12_272 rfl rfl rfl (fun r3 => ?_)
  refine ga_iload_n 1 dX12_goes_8 rfl rfl ?_
  obtain ⟨ht, hf⟩ := h
  refine ga_icmp_ge (tgt := 111) dX12_goes_9 (by decide) r3 rx1 (fun q4 => ?_) (fun q4 => ?_)
  · replace q4 : x1 ≤ (gI σ 88 29) := q4
    have h := ht q4
    exact ga_vret dX12_goes_111 rfl h
  · replace q4 : (gI σ 88 29) < x1 := (Int.not_le.mp q4)
    have h := hf q4
    refine ga_aload_n 0 dX12_goes_12 rfl rfl ?_
    refine ga_getI (kI := 29) dX12_goes_13 fX12_272 rfl rfl rfl (fun r5 => ?_)
    refine ga_aload_n 0 dX12_goes_16 rfl rfl ?_
    refine ga_getR (kI := 0) (r := 89) dX12_goes_17 fX12_7 rfl rfl (by decide) rfl ?_
    refine ga_aload_n 0 dX12_goes_20 rfl rfl ?_
    refine ga_getI (kI := 14) dX12_goes_21 fX12_248 rfl rfl rfl (fun r6 => ?_)
    obtain ⟨i7, h⟩ := h
    refine ga_iald (nI := 3704) dX12_goes_24 rfl rfl i7 (fun r8 => ?_)
    obtain ⟨ht, hf⟩ := h
    refine ga_icmp_ge (tgt := 111) dX12_goes_25 (by decide) r5 r8 (fun q9 => ?_) (fun q9 => ?_)
    · replace q9 : (gI σ 89 (gI σ 88 14)) ≤ (gI σ 88 29) := q9
      have h := ht q9
      exact ga_vret dX12_goes_111 rfl h
    · replace q9 : (gI σ 88 29) < (gI σ 89 (gI σ 88 14)) := (Int.not_le.mp q9)
      have h := hf q9
      refine ga_aload_n 0 dX12_goes_28 rfl rfl ?_
      refine ga_getI (kI := 14) dX12_goes_29 fX12_248 rfl rfl rfl (fun r10 => ?_)
      refine ga_iconst dX12_goes_32 ?_
      refine ga_iadd dX12_goes_33 ?_
      refine ga_iconst dX12_goes_34 ?_
      refine ga_aload_n 0 dX12_goes_35 rfl rfl ?_
      refine ga_getI (kI := 29) dX12_goes_36 fX12_272 rfl rfl rfl (fun r11 => ?_)
      refine ga_imul dX12_goes_39 ?_
      refine ga_iadd dX12_goes_40 ?_
      refine ga_istore_n (ls' := [(2, vI (((gI σ 88 14) + 1) + (3 * (gI σ 88 29)))), (0, .ref (G.2.1 88)), (1, vI x1)]) dX12_goes_41 rfl (by decide) rfl ?_
      refine ga_aload_n 1 dX12_goes_42 rfl rfl ?_
      refine ga_aload_n 1 dX12_goes_43 rfl rfl ?_
      refine ga_getR (kI := 0) (r := 89) dX12_goes_44 fX12_7 rfl rfl (by decide) rfl ?_
      refine ga_iload_n 0 dX12_goes_47 rfl rfl ?_
      obtain ⟨i12, h⟩ := h
      refine ga_iald (nI := 3704) dX12_goes_48 rfl rfl i12 (fun r13 => ?_)
      refine ga_aload_n 1 dX12_goes_49 rfl rfl ?_
      refine ga_getR (kI := 0) (r := 89) dX12_goes_50 fX12_7 rfl rfl (by decide) rfl ?_
      refine ga_iload_n 0 dX12_goes_53 rfl rfl ?_
      refine ga_iconst dX12_goes_54 ?_
      refine ga_iadd dX12_goes_55 ?_
      obtain ⟨i14, h⟩ := h
      refine ga_iald (nI := 3704) dX12_goes_56 rfl rfl i14 (fun r15 => ?_)
      refine ga_aload_n 1 dX12_goes_57 rfl rfl ?_
      refine ga_getR (kI := 0) (r := 89) dX12_goes_58 fX12_7 rfl rfl (by decide) rfl ?_
      refine ga_iload_n 0 dX12_goes_61 rfl rfl ?_
      refine ga_iconst dX12_goes_62 ?_
      refine ga_iadd dX12_goes_63 ?_
      obtain ⟨i16, h⟩ := h
      refine ga_iald (nI := 3704) dX12_goes_64 rfl rfl i16 (fun r17 => ?_)
      refine ga_callVz (z := mX12_can) (As := [vI (gI σ 89 (((gI σ 88 14) + 1) + (3 * (gI σ 88 29)))), vI (gI σ 89 ((((gI σ 88 14) + 1) + (3 * (gI σ 88 29))) + 1)), vI (gI σ 89 ((((gI σ 88 14) + 1) + (3 * (gI σ 88 29))) + 2))]) (rest := []) dX12_goes_65 wX12_337 qX12_goes_X12_can rfl ⟨_, rfl, rfl⟩ rfl rfl (Nat.le_of_ble_eq_true rfl) (gEz_mono h (fun v20 σ18 h r19 => ?_))
      replace h := h r19
      obtain ⟨ht, hf⟩ := h
      refine ga_if_ne (tgt := 72) dX12_goes_68 (by decide) (gR_01 r19) (fun q21 => ?_) (fun q21 => ?_)
      · replace q21 : ¬ v20 = 0 := q21
        have h := ht q21
        refine ga_aload_n 1 dX12_goes_72 rfl rfl ?_
        refine ga_aload_n 1 dX12_goes_73 rfl rfl ?_
        refine ga_getR (kI := 0) (r := 89) dX12_goes_74 fX12_7 rfl rfl (by decide) rfl ?_
        refine ga_iload_n 0 dX12_goes_77 rfl rfl ?_
        refine ga_iald (nI := 3704) dX12_goes_78 rfl rfl i12 (fun r22 => ?_)
        refine ga_aload_n 1 dX12_goes_79 rfl rfl ?_
        refine ga_getR (kI := 0) (r := 89) dX12_goes_80 fX12_7 rfl rfl (by decide) rfl ?_
        refine ga_iload_n 0 dX12_goes_83 rfl rfl ?_
        refine ga_iconst dX12_goes_84 ?_
        refine ga_iadd dX12_goes_85 ?_
        refine ga_iald (nI := 3704) dX12_goes_86 rfl rfl i14 (fun r23 => ?_)
        refine ga_aload_n 1 dX12_goes_87 rfl rfl ?_
        refine ga_getR (kI := 0) (r := 89) dX12_goes_88 fX12_7 rfl rfl (by decide) rfl ?_
        refine ga_iload_n 0 dX12_goes_91 rfl rfl ?_
        refine ga_iconst dX12_goes_92 ?_
        refine ga_iadd dX12_goes_93 ?_
        refine ga_iald (nI := 3704) dX12_goes_94 rfl rfl i16 (fun r24 => ?_)
        refine ga_callVv (z := mX12_does) (As := [vI (gI σ18 89 (((gI σ 88 14) + 1) + (3 * (gI σ 88 29)))), vI (gI σ18 89 ((((gI σ 88 14) + 1) + (3 * (gI σ 88 29))) + 1)), vI (gI σ18 89 ((((gI σ 88 14) + 1) + (3 * (gI σ 88 29))) + 2))]) (rest := []) dX12_goes_95 wX12_340 qX12_goes_X12_does rfl ⟨_, rfl, rfl⟩ rfl rfl (Nat.le_of_ble_eq_true rfl) (gEv_mono h (fun σ25 h => ?_))
        refine ga_aload_n 1 dX12_goes_98 rfl rfl ?_
        refine ga_dup dX12_goes_99 rfl ?_
        refine ga_getI (kI := 29) dX12_goes_100 fX12_272 rfl rfl rfl (fun r27 => ?_)
        refine ga_iconst dX12_goes_103 ?_
        refine ga_iadd dX12_goes_104 ?_
        obtain ⟨r29, h⟩ := h
        obtain ⟨σ28, eσ28⟩ : ∃ z, z = sI σ25 88 29 ((gI σ25 88 29) + 1) := ⟨_, rfl⟩
        replace h := h σ28 eσ28
        refine ga_putI (kI := 29) dX12_goes_105 fX12_272 pX12_29 rfl rfl rfl r29 eσ28 ?_
        refine ga_goto (tgt := 4) dX12_goes_108 (by decide) ?_
        exact ga_sub [1, 2] rfl h
      · replace q21 : v20 = 0 := (Decidable.not_not.mp q21)
        have h := hf q21
        exact ga_vret dX12_goes_71 rfl h
abbrev eX12_stop (l : Launch) (G : gG) (x1 : Int) (x2 : Int) (σ : gS) (Q : Int → gS → Prop) : Prop := gEi l G mX12_stop [.ref (G.2.1 88), vI x1, vI x2] σ Q
set_option maxRecDepth 100000 in
set_option maxHeartbeats 4000000 in
theorem vX12_stop {l : Launch} {G : gG} (x1 : Int) (x2 : Int) (rx1 : gR x1) (rx2 : gR x2) (σ : gS) (Q : Int → gS → Prop) (h : eX12_isCrossbar l G x1 σ (fun v3 σ1 => (v3 = 0 ∨ v3 = 1) →
  (v3 = 0 → Q (-1) σ1) ∧
  (¬ v3 = 0 → eX12_isTraffic l G x2 σ1 (fun v7 σ5 => (v7 = 0 ∨ v7 = 1) →
    (¬ v7 = 0 → eX12_goes l G 40 σ5 (fun σ9 =>
      Q (gI σ9 88 29) σ9)) ∧
    (v7 = 0 → Q (-1) σ5))))) : eX12_stop l G x1 x2 σ Q := by
  refine ga_entry rfl (Nat.le_of_ble_eq_true rfl) ?_
  show gAt l G mX12_stop (gQi G Q) 0 [(0, .ref (G.2.1 88)), (1, vI x1), (2, vI x2)] [] σ
  refine ga_aload_n 0 dX12_stop_0 rfl rfl ?_
  refine ga_iload_n 1 dX12_stop_1 rfl rfl ?_
  refine ga_callVz (z := mX12_isCrossbar) (As := [vI x1]) (rest := []) dX12_stop_2 wX12_344 qX12_stop_X12_isCrossbar rfl ⟨_, rfl, rfl⟩ rfl rfl (Nat.le_of_ble_eq_true rfl) (gEz_mono h (fun v3 σ1 h r2 => ?_))
  replace h := h r2
  obtain ⟨ht, hf⟩ := h
  refine ga_if_eq (tgt := 16) dX12_stop_5 (by decide) (gR_01 r2) (fun q4 => ?_) (fun q4 => ?_)
  · replace q4 : v3 = 0 := q4
    have h := ht q4
    refine ga_iconst dX12_stop_16 ?_
    exact ga_iret dX12_stop_17 rfl (by decide) h
  · replace q4 : ¬ v3 = 0 := q4
    have h := hf q4
    refine ga_aload_n 0 dX12_stop_8 rfl rfl ?_
    refine ga_iload_n 2 dX12_stop_9 rfl rfl ?_
    refine ga_callVz (z := mX12_isTraffic) (As := [vI x2]) (rest := []) dX12_stop_10 wX12_251 qX12_stop_X12_isTraffic rfl ⟨_, rfl, rfl⟩ rfl rfl (Nat.le_of_ble_eq_true rfl) (gEz_mono h (fun v7 σ5 h r6 => ?_))
    replace h := h r6
    obtain ⟨ht, hf⟩ := h
    refine ga_if_ne (tgt := 18) dX12_stop_13 (by decide) (gR_01 r6) (fun q8 => ?_) (fun q8 => ?_)
    · replace q8 : ¬ v7 = 0 := q8
      have h := ht q8
      refine ga_aload_n 0 dX12_stop_18 rfl rfl ?_
      refine ga_bipush dX12_stop_19 (by decide) ?_
      refine ga_callVv (z := mX12_goes) (As := [vI 40]) (rest := []) dX12_stop_21 wX12_347 qX12_stop_X12_goes rfl ⟨_, rfl, rfl⟩ rfl rfl (Nat.le_of_ble_eq_true rfl) (gEv_mono h (fun σ9 h => ?_))
      refine ga_aload_n 0 dX12_stop_24 rfl rfl ?_
      refine ga_getI (kI := 29) dX12_stop_25 fX12_272 rfl rfl rfl (fun r11 => ?_)
      exact ga_iret dX12_stop_28 rfl r11 h
    · replace q8 : v7 = 0 := (Decidable.not_not.mp q8)
      have h := hf q8
      refine ga_iconst dX12_stop_16 ?_
      exact ga_iret dX12_stop_17 rfl (by decide) h
abbrev eX12_nowOf (l : Launch) (G : gG) (x1 : Int) (σ : gS) (Q : Int → gS → Prop) : Prop := gEi l G mX12_nowOf [.ref (G.2.1 88), vI x1] σ Q
set_option maxRecDepth 100000 in
set_option maxHeartbeats 4000000 in
theorem vX12_nowOf {l : Launch} {G : gG} (x1 : Int) (rx1 : gR x1) (σ : gS) (Q : Int → gS → Prop) (h : (x1 = 0 → Q (gI σ 88 24) σ) ∧
  (x1 = 1 → Q (gI σ 88 25) σ) ∧
  (x1 = 2 → Q (gI σ 88 26) σ) ∧
  (x1 = 3 → Q (gI σ 88 27) σ) ∧
  (x1 = 4 → Q (gI σ 88 28) σ) ∧
  (x1 = 5 → Q (gI σ 88 23) σ) ∧
  ((x1 < 0 ∨ 5 < x1) → (x1 < 10 → Q (-2) σ) ∧
    (10 ≤ x1 → eX12_isPort l G (grem x1 10) σ (fun v11 σ9 => (v11 = 0 ∨ v11 = 1) →
      (¬ v11 = 0 → (x1 < 100 → ((gdiv x1 10) = 1 → (0 ≤ (grem x1 10) ∧ (grem x1 10) < 6) ∧ Q (gI σ9 93 (grem x1 10)) σ9) ∧
          ((gdiv x1 10) = 2 → (0 ≤ (grem x1 10) ∧ (grem x1 10) < 6) ∧ Q (gI σ9 92 (grem x1 10)) σ9) ∧
          ((gdiv x1 10) = 3 → (0 ≤ (grem x1 10) ∧ (grem x1 10) < 6) ∧ Q (gI σ9 97 (grem x1 10)) σ9) ∧
          ((gdiv x1 10) = 4 → eX12_leftOf l G (grem x1 10) σ9 (fun v23 σ21 => gR v23 →
            Q v23 σ21)) ∧
          ((gdiv x1 10) = 5 → (0 ≤ (grem x1 10) ∧ (grem x1 10) < 6) ∧ Q (gI σ9 98 (grem x1 10)) σ9) ∧
          ((gdiv x1 10) = 6 → ((¬ (gI σ9 88 24) = 0 → (0 ≤ (((6 * (gI σ9 88 24)) - 6) + (grem x1 10)) ∧ (((6 * (gI σ9 88 24)) - 6) + (grem x1 10)) < 2520) ∧ True) ∧
            ((gI σ9 88 24) = 0 → True)) ∧
            (∀ v32 : Int, v32 = (if (gI σ9 88 24) = 0 then (-1) else (gI σ9 109 (((6 * (gI σ9 88 24)) - 6) + (grem x1 10)))) →
            Q v32 σ9)) ∧
          ((gdiv x1 10) = 7 → ((¬ (gI σ9 88 24) = 0 → (0 ≤ (((6 * (gI σ9 88 24)) - 6) + (grem x1 10)) ∧ (((6 * (gI σ9 88 24)) - 6) + (grem x1 10)) < 2520) ∧ True) ∧
            ((gI σ9 88 24) = 0 → True)) ∧
            (∀ v39 : Int, v39 = (if (gI σ9 88 24) = 0 then (-1) else (gI σ9 110 (((6 * (gI σ9 88 24)) - 6) + (grem x1 10)))) →
            Q v39 σ9)) ∧
          (((gdiv x1 10) < 1 ∨ 7 < (gdiv x1 10)) → Q (-2) σ9)) ∧
        (100 ≤ x1 → eX12_isPort l G ((gdiv x1 10) - 10) σ9 (fun v57 σ55 => (v57 = 0 ∨ v57 = 1) →
          (v57 = 0 → Q (-2) σ55) ∧
          (¬ v57 = 0 → eX12_at l G ((gdiv x1 10) - 10) (grem x1 10) σ55 (fun v62 σ60 => gR v62 →
            (0 ≤ v62 ∧ v62 < 36) ∧ Q (gI σ60 95 v62) σ60))))) ∧
      (v11 = 0 → Q (-2) σ9))))) : eX12_nowOf l G x1 σ Q := by
  refine ga_entry rfl (Nat.le_of_ble_eq_true rfl) ?_
  show gAt l G mX12_nowOf (gQi G Q) 0 [(0, .ref (G.2.1 88)), (1, vI x1)] [] σ
  refine ga_iload_n 1 dX12_nowOf_0 rfl rfl ?_
  obtain ⟨hc65, hc66, hc67, hc68, hc69, hc70, hd⟩ := h
  by_cases q71 : x1 = 0
  · refine ga_tableIn (tgt := 40) (v := 0) dX12_nowOf_1 q71 (by decide) rfl (by decide) ?_
    have h := hc65 q71
    refine ga_aload_n 0 dX12_nowOf_40 rfl rfl ?_
    refine ga_getI (kI := 24) dX12_nowOf_41 fX12_257 rfl rfl rfl (fun r1 => ?_)
    exact ga_iret dX12_nowOf_44 rfl r1 h
  by_cases q72 : x1 = 1
  · refine ga_tableIn (tgt := 45) (v := 1) dX12_nowOf_1 q72 (by decide) rfl (by decide) ?_
    have h := hc66 q72
    refine ga_aload_n 0 dX12_nowOf_45 rfl rfl ?_
    refine ga_getI (kI := 25) dX12_nowOf_46 fX12_260 rfl rfl rfl (fun r2 => ?_)
    exact ga_iret dX12_nowOf_49 rfl r2 h
  by_cases q73 : x1 = 2
  · refine ga_tableIn (tgt := 50) (v := 2) dX12_nowOf_1 q73 (by decide) rfl (by decide) ?_
    have h := hc67 q73
    refine ga_aload_n 0 dX12_nowOf_50 rfl rfl ?_
    refine ga_getI (kI := 26) dX12_nowOf_51 fX12_263 rfl rfl rfl (fun r3 => ?_)
    exact ga_iret dX12_nowOf_54 rfl r3 h
  by_cases q74 : x1 = 3
  · refine ga_tableIn (tgt := 55) (v := 3) dX12_nowOf_1 q74 (by decide) rfl (by decide) ?_
    have h := hc68 q74
    refine ga_aload_n 0 dX12_nowOf_55 rfl rfl ?_
    refine ga_getI (kI := 27) dX12_nowOf_56 fX12_266 rfl rfl rfl (fun r4 => ?_)
    exact ga_iret dX12_nowOf_59 rfl r4 h
  by_cases q75 : x1 = 4
  · refine ga_tableIn (tgt := 60) (v := 4) dX12_nowOf_1 q75 (by decide) rfl (by decide) ?_
    have h := hc69 q75
    refine ga_aload_n 0 dX12_nowOf_60 rfl rfl ?_
    refine ga_getI (kI := 28) dX12_nowOf_61 fX12_269 rfl rfl rfl (fun r5 => ?_)
    exact ga_iret dX12_nowOf_64 rfl r5 h
  by_cases q76 : x1 = 5
  · refine ga_tableIn (tgt := 65) (v := 5) dX12_nowOf_1 q76 (by decide) rfl (by decide) ?_
    have h := hc70 q76
    refine ga_aload_n 0 dX12_nowOf_65 rfl rfl ?_
    refine ga_getI (kI := 23) dX12_nowOf_66 fX12_254 rfl rfl rfl (fun r6 => ?_)
    exact ga_iret dX12_nowOf_69 rfl r6 h
  have hdc : (x1 < 0 ∨ 5 < x1) := by omega
  have h := hd hdc
  refine ga_tableOut (tgt := 70) dX12_nowOf_1 rx1 hdc (by decide) ?_
  refine ga_iload_n 1 dX12_nowOf_70 rfl rfl ?_
  refine ga_bipush dX12_nowOf_71 (by decide) ?_
  refine ga_irem dX12_nowOf_73 (by decide) (by decide) (fun r7 => ?_)
  refine ga_istore_n (ls' := [(2, vI (grem x1 10)), (0, .ref (G.2.1 88)), (1, vI x1)]) dX12_nowOf_74 rfl (by decide) rfl ?_
  refine ga_iload_n 2 dX12_nowOf_75 rfl rfl ?_
  refine ga_bipush dX12_nowOf_76 (by decide) ?_
  obtain ⟨ht, hf⟩ := h
  refine ga_icmp_lt (tgt := 89) dX12_nowOf_78 (by decide) rx1 (by decide) (fun q8 => ?_) (fun q8 => ?_)
  · replace q8 : x1 < 10 := q8
    have h := ht q8
    refine ga_bipush dX12_nowOf_89 (by decide) ?_
    exact ga_iret dX12_nowOf_91 rfl (by decide) h
  · replace q8 : 10 ≤ x1 := (Int.not_lt.mp q8)
    have h := hf q8
    refine ga_aload_n 1 dX12_nowOf_81 rfl rfl ?_
    refine ga_iload_n 0 dX12_nowOf_82 rfl rfl ?_
    refine ga_callVz (z := mX12_isPort) (As := [vI (grem x1 10)]) (rest := []) dX12_nowOf_83 wX12_322 qX12_nowOf_X12_isPort rfl ⟨_, rfl, rfl⟩ rfl rfl (Nat.le_of_ble_eq_true rfl) (gEz_mono h (fun v11 σ9 h r10 => ?_))
    replace h := h r10
    obtain ⟨ht, hf⟩ := h
    refine ga_if_ne (tgt := 92) dX12_nowOf_86 (by decide) (gR_01 r10) (fun q12 => ?_) (fun q12 => ?_)
    · replace q12 : ¬ v11 = 0 := q12
      have h := ht q12
      refine ga_iload_n 2 dX12_nowOf_92 rfl rfl ?_
      refine ga_bipush dX12_nowOf_93 (by decide) ?_
      obtain ⟨ht, hf⟩ := h
      refine ga_icmp_lt (tgt := 134) dX12_nowOf_95 (by decide) rx1 (by decide) (fun q13 => ?_) (fun q13 => ?_)
      · replace q13 : x1 < 100 := q13
        have h := ht q13
        refine ga_iload_n 2 dX12_nowOf_134 rfl rfl ?_
        refine ga_bipush dX12_nowOf_135 (by decide) ?_
        refine ga_idiv dX12_nowOf_137 (by decide) (by decide) (fun r14 => ?_)
        obtain ⟨hc40, hc41, hc42, hc43, hc44, hc45, hc46, hd⟩ := h
        by_cases q47 : (gdiv x1 10) = 1
        · refine ga_tableIn (tgt := 180) (v := 1) dX12_nowOf_138 q47 (by decide) rfl (by decide) ?_
          have h := hc40 q47
          refine ga_aload_n 1 dX12_nowOf_180 rfl rfl ?_
          refine ga_getR (kI := 16) (r := 93) dX12_nowOf_181 fX12_23 rfl rfl (by decide) rfl ?_
          refine ga_iload_n 0 dX12_nowOf_184 rfl rfl ?_
          obtain ⟨i15, h⟩ := h
          refine ga_iald (nI := 6) dX12_nowOf_185 rfl rfl i15 (fun r16 => ?_)
          exact ga_iret dX12_nowOf_186 rfl r16 h
        by_cases q48 : (gdiv x1 10) = 2
        · refine ga_tableIn (tgt := 187) (v := 2) dX12_nowOf_138 q48 (by decide) rfl (by decide) ?_
          have h := hc41 q48
          refine ga_aload_n 1 dX12_nowOf_187 rfl rfl ?_
          refine ga_getR (kI := 15) (r := 92) dX12_nowOf_188 fX12_20 rfl rfl (by decide) rfl ?_
          refine ga_iload_n 0 dX12_nowOf_191 rfl rfl ?_
          obtain ⟨i17, h⟩ := h
          refine ga_iald (nI := 6) dX12_nowOf_192 rfl rfl i17 (fun r18 => ?_)
          exact ga_iret dX12_nowOf_193 rfl r18 h
        by_cases q49 : (gdiv x1 10) = 3
        · refine ga_tableIn (tgt := 194) (v := 3) dX12_nowOf_138 q49 (by decide) rfl (by decide) ?_
          have h := hc42 q49
          refine ga_aload_n 1 dX12_nowOf_194 rfl rfl ?_
          refine ga_getR (kI := 20) (r := 97) dX12_nowOf_195 fX12_35 rfl rfl (by decide) rfl ?_
          refine ga_iload_n 0 dX12_nowOf_198 rfl rfl ?_
          obtain ⟨i19, h⟩ := h
          refine ga_iald (nI := 6) dX12_nowOf_199 rfl rfl i19 (fun r20 => ?_)
          exact ga_iret dX12_nowOf_200 rfl r20 h
        by_cases q50 : (gdiv x1 10) = 4
        · refine ga_tableIn (tgt := 201) (v := 4) dX12_nowOf_138 q50 (by decide) rfl (by decide) ?_
          have h := hc43 q50
          refine ga_aload_n 1 dX12_nowOf_201 rfl rfl ?_
          refine ga_iload_n 0 dX12_nowOf_202 rfl rfl ?_
          refine ga_callVi (z := mX12_leftOf) (As := [vI (grem x1 10)]) (rest := []) dX12_nowOf_203 wX12_289 qX12_nowOf_X12_leftOf rfl ⟨_, rfl, rfl⟩ rfl rfl (Nat.le_of_ble_eq_true rfl) (gEi_mono h (fun v23 σ21 h r22 => ?_))
          replace h := h r22
          exact ga_iret dX12_nowOf_206 rfl r22 h
        by_cases q51 : (gdiv x1 10) = 5
        · refine ga_tableIn (tgt := 207) (v := 5) dX12_nowOf_138 q51 (by decide) rfl (by decide) ?_
          have h := hc44 q51
          refine ga_aload_n 1 dX12_nowOf_207 rfl rfl ?_
          refine ga_getR (kI := 21) (r := 98) dX12_nowOf_208 fX12_38 rfl rfl (by decide) rfl ?_
          refine ga_iload_n 0 dX12_nowOf_211 rfl rfl ?_
          obtain ⟨i24, h⟩ := h
          refine ga_iald (nI := 6) dX12_nowOf_212 rfl rfl i24 (fun r25 => ?_)
          exact ga_iret dX12_nowOf_213 rfl r25 h
        by_cases q52 : (gdiv x1 10) = 6
        · refine ga_tableIn (tgt := 214) (v := 6) dX12_nowOf_138 q52 (by decide) rfl (by decide) ?_
          have h := hc45 q52
          refine ga_aload_n 1 dX12_nowOf_214 rfl rfl ?_
          refine ga_getI (kI := 24) dX12_nowOf_215 fX12_257 rfl rfl rfl (fun r26 => ?_)
          obtain ⟨hob, h⟩ := h
          have kJ27 : ∀ v32 : Int, gR v32 → v32 = (if (gI σ9 88 24) = 0 then (-1) else (gI σ9 109 (((6 * (gI σ9 88 24)) - 6) + (grem x1 10)))) → gAt l G mX12_nowOf (gQi G Q) 242 [(2, vI (grem x1 10)), (0, .ref (G.2.1 88)), (1, vI x1)] [vI v32] σ9 := by
            intro v32 rv32 ev32
            replace h := h v32 ev32
            exact ga_iret dX12_nowOf_242 rfl rv32 h
          replace h := hob
          obtain ⟨ht, hf⟩ := h
          refine ga_if_ne (tgt := 225) dX12_nowOf_218 (by decide) r26 (fun q28 => ?_) (fun q28 => ?_)
          · replace q28 : ¬ (gI σ9 88 24) = 0 := q28
            have h := ht q28
            refine ga_aload_n 1 dX12_nowOf_225 rfl rfl ?_
            refine ga_getR (kI := 39) (r := 109) dX12_nowOf_226 fX12_71 rfl rfl (by decide) rfl ?_
            refine ga_bipush dX12_nowOf_229 (by decide) ?_
            refine ga_aload_n 1 dX12_nowOf_231 rfl rfl ?_
            refine ga_getI (kI := 24) dX12_nowOf_232 fX12_257 rfl rfl rfl (fun r29 => ?_)
            refine ga_imul dX12_nowOf_235 ?_
            refine ga_bipush dX12_nowOf_236 (by decide) ?_
            refine ga_isub dX12_nowOf_238 ?_
            refine ga_iload_n 0 dX12_nowOf_239 rfl rfl ?_
            refine ga_iadd dX12_nowOf_240 ?_
            obtain ⟨i30, h⟩ := h
            refine ga_iald (nI := 2520) dX12_nowOf_241 rfl rfl i30 (fun r31 => ?_)
            exact kJ27 (gI σ9 109 (((6 * (gI σ9 88 24)) - 6) + (grem x1 10))) r31 (by rw [if_neg q28])
          · replace q28 : (gI σ9 88 24) = 0 := (Decidable.not_not.mp q28)
            have h := hf q28
            refine ga_iconst dX12_nowOf_221 ?_
            refine ga_goto (tgt := 242) dX12_nowOf_222 (by decide) ?_
            exact kJ27 (-1) (by decide) (by rw [if_pos q28])
        by_cases q53 : (gdiv x1 10) = 7
        · refine ga_tableIn (tgt := 243) (v := 7) dX12_nowOf_138 q53 (by decide) rfl (by decide) ?_
          have h := hc46 q53
          refine ga_aload_n 1 dX12_nowOf_243 rfl rfl ?_
          refine ga_getI (kI := 24) dX12_nowOf_244 fX12_257 rfl rfl rfl (fun r33 => ?_)
          obtain ⟨hob, h⟩ := h
          have kJ34 : ∀ v39 : Int, gR v39 → v39 = (if (gI σ9 88 24) = 0 then (-1) else (gI σ9 110 (((6 * (gI σ9 88 24)) - 6) + (grem x1 10)))) → gAt l G mX12_nowOf (gQi G Q) 271 [(2, vI (grem x1 10)), (0, .ref (G.2.1 88)), (1, vI x1)] [vI v39] σ9 := by
            intro v39 rv39 ev39
            replace h := h v39 ev39
            exact ga_iret dX12_nowOf_271 rfl rv39 h
          replace h := hob
          obtain ⟨ht, hf⟩ := h
          refine ga_if_ne (tgt := 254) dX12_nowOf_247 (by decide) r33 (fun q35 => ?_) (fun q35 => ?_)
          · replace q35 : ¬ (gI σ9 88 24) = 0 := q35
            have h := ht q35
            refine ga_aload_n 1 dX12_nowOf_254 rfl rfl ?_
            refine ga_getR (kI := 40) (r := 110) dX12_nowOf_255 fX12_74 rfl rfl (by decide) rfl ?_
            refine ga_bipush dX12_nowOf_258 (by decide) ?_
            refine ga_aload_n 1 dX12_nowOf_260 rfl rfl ?_
            refine ga_getI (kI := 24) dX12_nowOf_261 fX12_257 rfl rfl rfl (fun r36 => ?_)
            refine ga_imul dX12_nowOf_264 ?_
            refine ga_bipush dX12_nowOf_265 (by decide) ?_
            refine ga_isub dX12_nowOf_267 ?_
            refine ga_iload_n 0 dX12_nowOf_268 rfl rfl ?_
            refine ga_iadd dX12_nowOf_269 ?_
            obtain ⟨i37, h⟩ := h
            refine ga_iald (nI := 2520) dX12_nowOf_270 rfl rfl i37 (fun r38 => ?_)
            exact kJ34 (gI σ9 110 (((6 * (gI σ9 88 24)) - 6) + (grem x1 10))) r38 (by rw [if_neg q35])
          · replace q35 : (gI σ9 88 24) = 0 := (Decidable.not_not.mp q35)
            have h := hf q35
            refine ga_iconst dX12_nowOf_250 ?_
            refine ga_goto (tgt := 271) dX12_nowOf_251 (by decide) ?_
            exact kJ34 (-1) (by decide) (by rw [if_pos q35])
        have hdc : ((gdiv x1 10) < 1 ∨ 7 < (gdiv x1 10)) := by omega
        have h := hd hdc
        refine ga_tableOut (tgt := 272) dX12_nowOf_138 r14 hdc (by decide) ?_
        refine ga_bipush dX12_nowOf_272 (by decide) ?_
        exact ga_iret dX12_nowOf_274 rfl (by decide) h
      · replace q13 : 100 ≤ x1 := (Int.not_lt.mp q13)
        have h := hf q13
        refine ga_aload_n 1 dX12_nowOf_98 rfl rfl ?_
        refine ga_iload_n 2 dX12_nowOf_99 rfl rfl ?_
        refine ga_bipush dX12_nowOf_100 (by decide) ?_
        refine ga_idiv dX12_nowOf_102 (by decide) (by decide) (fun r54 => ?_)
        refine ga_bipush dX12_nowOf_103 (by decide) ?_
        refine ga_isub dX12_nowOf_105 ?_
        refine ga_callVz (z := mX12_isPort) (As := [vI ((gdiv x1 10) - 10)]) (rest := []) dX12_nowOf_106 wX12_322 qX12_nowOf_X12_isPort rfl ⟨_, rfl, rfl⟩ rfl rfl (Nat.le_of_ble_eq_true rfl) (gEz_mono h (fun v57 σ55 h r56 => ?_))
        replace h := h r56
        obtain ⟨ht, hf⟩ := h
        refine ga_if_eq (tgt := 131) dX12_nowOf_109 (by decide) (gR_01 r56) (fun q58 => ?_) (fun q58 => ?_)
        · replace q58 : v57 = 0 := q58
          have h := ht q58
          refine ga_bipush dX12_nowOf_131 (by decide) ?_
          exact ga_iret dX12_nowOf_133 rfl (by decide) h
        · replace q58 : ¬ v57 = 0 := q58
          have h := hf q58
          refine ga_aload_n 1 dX12_nowOf_112 rfl rfl ?_
          refine ga_getR (kI := 18) (r := 95) dX12_nowOf_113 fX12_29 rfl rfl (by decide) rfl ?_
          refine ga_iload_n 2 dX12_nowOf_116 rfl rfl ?_
          refine ga_bipush dX12_nowOf_117 (by decide) ?_
          refine ga_idiv dX12_nowOf_119 (by decide) (by decide) (fun r59 => ?_)
          refine ga_bipush dX12_nowOf_120 (by decide) ?_
          refine ga_isub dX12_nowOf_122 ?_
          refine ga_iload_n 0 dX12_nowOf_123 rfl rfl ?_
          refine ga_callSi (z := mX12_at) (As := [vI ((gdiv x1 10) - 10), vI (grem x1 10)]) (rest := [.ref (G.2.1 95)]) dX12_nowOf_124 wX12_279 qX12_nowOf_X12_at rfl rfl (Nat.le_of_ble_eq_true rfl) (gEi_mono h (fun v62 σ60 h r61 => ?_))
          replace h := h r61
          obtain ⟨i63, h⟩ := h
          refine ga_iald (nI := 36) dX12_nowOf_127 rfl rfl i63 (fun r64 => ?_)
          refine ga_goto (tgt := 133) dX12_nowOf_128 (by decide) ?_
          exact ga_iret dX12_nowOf_133 rfl r64 h
    · replace q12 : v11 = 0 := (Decidable.not_not.mp q12)
      have h := hf q12
      refine ga_bipush dX12_nowOf_89 (by decide) ?_
      exact ga_iret dX12_nowOf_91 rfl (by decide) h
abbrev eX12_isState (l : Launch) (G : gG) (x1 : Int) (x2 : Int) (x3 : Int) (σ : gS) (Q : Int → gS → Prop) : Prop := gEz l G mX12_isState [.ref (G.2.1 88), vI x1, vI x2, vI x3] σ Q
set_option maxRecDepth 100000 in
set_option maxHeartbeats 4000000 in
theorem vX12_isState {l : Launch} {G : gG} (x1 : Int) (x2 : Int) (x3 : Int) (rx1 : gR x1) (rx2 : gR x2) (rx3 : gR x3) (σ : gS) (Q : Int → gS → Prop) (h : eX12_isCrossbar l G x1 σ (fun v3 σ1 => (v3 = 0 ∨ v3 = 1) →
  (v3 = 0 → Q 0 σ1) ∧
  (¬ v3 = 0 → eX12_isTraffic l G x2 σ1 (fun v7 σ5 => (v7 = 0 ∨ v7 = 1) →
    (v7 = 0 → Q 0 σ5) ∧
    (¬ v7 = 0 → (0 ≤ x3 → eX12_goes l G x3 σ5 (fun σ10 =>
        (∀ v15 : Int, v15 = (if (gI σ10 88 29) = x3 then 1 else 0) →
        Q v15 σ10))) ∧
      (x3 < 0 → Q 0 σ5)))))) : eX12_isState l G x1 x2 x3 σ Q := by
  refine ga_entry rfl (Nat.le_of_ble_eq_true rfl) ?_
  show gAt l G mX12_isState (gQz G Q) 0 [(0, .ref (G.2.1 88)), (1, vI x1), (2, vI x2), (3, vI x3)] [] σ
  refine ga_aload_n 0 dX12_isState_0 rfl rfl ?_
  refine ga_iload_n 1 dX12_isState_1 rfl rfl ?_
  refine ga_callVz (z := mX12_isCrossbar) (As := [vI x1]) (rest := []) dX12_isState_2 wX12_344 qX12_isState_X12_isCrossbar rfl ⟨_, rfl, rfl⟩ rfl rfl (Nat.le_of_ble_eq_true rfl) (gEz_mono h (fun v3 σ1 h r2 => ?_))
  replace h := h r2
  obtain ⟨ht, hf⟩ := h
  refine ga_if_eq (tgt := 20) dX12_isState_5 (by decide) (gR_01 r2) (fun q4 => ?_) (fun q4 => ?_)
  · replace q4 : v3 = 0 := q4
    have h := ht q4
    refine ga_iconst dX12_isState_20 ?_
    exact ga_bret dX12_isState_21 rfl (Or.inl rfl) h
  · replace q4 : ¬ v3 = 0 := q4
    have h := hf q4
    refine ga_aload_n 0 dX12_isState_8 rfl rfl ?_
    refine ga_iload_n 2 dX12_isState_9 rfl rfl ?_
    refine ga_callVz (z := mX12_isTraffic) (As := [vI x2]) (rest := []) dX12_isState_10 wX12_251 qX12_isState_X12_isTraffic rfl ⟨_, rfl, rfl⟩ rfl rfl (Nat.le_of_ble_eq_true rfl) (gEz_mono h (fun v7 σ5 h r6 => ?_))
    replace h := h r6
    obtain ⟨ht, hf⟩ := h
    refine ga_if_eq (tgt := 20) dX12_isState_13 (by decide) (gR_01 r6) (fun q8 => ?_) (fun q8 => ?_)
    · replace q8 : v7 = 0 := q8
      have h := ht q8
      refine ga_iconst dX12_isState_20 ?_
      exact ga_bret dX12_isState_21 rfl (Or.inl rfl) h
    · replace q8 : ¬ v7 = 0 := q8
      have h := hf q8
      refine ga_iload_n 3 dX12_isState_16 rfl rfl ?_
      obtain ⟨ht, hf⟩ := h
      refine ga_if_ge (tgt := 22) dX12_isState_17 (by decide) rx3 (fun q9 => ?_) (fun q9 => ?_)
      · replace q9 : 0 ≤ x3 := q9
        have h := ht q9
        refine ga_aload_n 0 dX12_isState_22 rfl rfl ?_
        refine ga_iload_n 3 dX12_isState_23 rfl rfl ?_
        refine ga_callVv (z := mX12_goes) (As := [vI x3]) (rest := []) dX12_isState_24 wX12_347 qX12_isState_X12_goes rfl ⟨_, rfl, rfl⟩ rfl rfl (Nat.le_of_ble_eq_true rfl) (gEv_mono h (fun σ10 h => ?_))
        refine ga_aload_n 0 dX12_isState_27 rfl rfl ?_
        refine ga_getI (kI := 29) dX12_isState_28 fX12_272 rfl rfl rfl (fun r12 => ?_)
        refine ga_iload_n 3 dX12_isState_31 rfl rfl ?_
        have kJ13 : ∀ v15 : Int, gR v15 → (v15 = 0 ∨ v15 = 1) → v15 = (if (gI σ10 88 29) = x3 then 1 else 0) → gAt l G mX12_isState (gQz G Q) 40 [(0, .ref (G.2.1 88)), (1, vI x1), (2, vI x2), (3, vI x3)] [vI v15] σ10 := by
          intro v15 rv15 bv15 ev15
          replace h := h v15 ev15
          exact ga_bret dX12_isState_40 rfl bv15 h
        replace h : (¬ (gI σ10 88 29) = x3 → True) ∧
        ((gI σ10 88 29) = x3 → True) := by repeat (first | exact True.intro | apply And.intro | intro _)
        obtain ⟨ht, hf⟩ := h
        refine ga_icmp_ne (tgt := 39) dX12_isState_32 (by decide) r12 rx3 (fun q14 => ?_) (fun q14 => ?_)
        · replace q14 : ¬ (gI σ10 88 29) = x3 := q14
          have h := ht q14
          refine ga_iconst dX12_isState_39 ?_
          exact kJ13 0 (by decide) (Or.inl rfl) (by rw [if_neg q14])
        · replace q14 : (gI σ10 88 29) = x3 := (Decidable.not_not.mp q14)
          have h := hf q14
          refine ga_iconst dX12_isState_35 ?_
          refine ga_goto (tgt := 40) dX12_isState_36 (by decide) ?_
          exact kJ13 1 (by decide) (Or.inr rfl) (by rw [if_pos q14])
      · replace q9 : x3 < 0 := (Int.not_le.mp q9)
        have h := hf q9
        refine ga_iconst dX12_isState_20 ?_
        exact ga_bret dX12_isState_21 rfl (Or.inl rfl) h
abbrev eX12_state (l : Launch) (G : gG) (x1 : Int) (x2 : Int) (x3 : Int) (x4 : Int) (σ : gS) (Q : Int → gS → Prop) : Prop := gEi l G mX12_state [.ref (G.2.1 88), vI x1, vI x2, vI x3, vI x4] σ Q
set_option maxRecDepth 100000 in
set_option maxHeartbeats 4000000 in
theorem vX12_state {l : Launch} {G : gG} (x1 : Int) (x2 : Int) (x3 : Int) (x4 : Int) (rx1 : gR x1) (rx2 : gR x2) (rx3 : gR x3) (rx4 : gR x4) (σ : gS) (Q : Int → gS → Prop) (h : eX12_isState l G x1 x2 x3 σ (fun v3 σ1 => (v3 = 0 ∨ v3 = 1) →
  (v3 = 0 → Q (-2) σ1) ∧
  (¬ v3 = 0 → (x4 < 0 → Q (-2) σ1) ∧
    (0 ≤ x4 → eX12_nowOf l G x4 σ1 (fun v8 σ6 => gR v8 →
      Q v8 σ6))))) : eX12_state l G x1 x2 x3 x4 σ Q := by
  refine ga_entry rfl (Nat.le_of_ble_eq_true rfl) ?_
  show gAt l G mX12_state (gQi G Q) 0 [(0, .ref (G.2.1 88)), (1, vI x1), (2, vI x2), (3, vI x3), (4, vI x4)] [] σ
  refine ga_aload_n 0 dX12_state_0 rfl rfl ?_
  refine ga_iload_n 1 dX12_state_1 rfl rfl ?_
  refine ga_iload_n 2 dX12_state_2 rfl rfl ?_
  refine ga_iload_n 3 dX12_state_3 rfl rfl ?_
  refine ga_callVz (z := mX12_isState) (As := [vI x1, vI x2, vI x3]) (rest := []) dX12_state_4 wX12_351 qX12_state_X12_isState rfl ⟨_, rfl, rfl⟩ rfl rfl (Nat.le_of_ble_eq_true rfl) (gEz_mono h (fun v3 σ1 h r2 => ?_))
  replace h := h r2
  obtain ⟨ht, hf⟩ := h
  refine ga_if_eq (tgt := 24) dX12_state_7 (by decide) (gR_01 r2) (fun q4 => ?_) (fun q4 => ?_)
  · replace q4 : v3 = 0 := q4
    have h := ht q4
    refine ga_bipush dX12_state_24 (by decide) ?_
    exact ga_iret dX12_state_26 rfl (by decide) h
  · replace q4 : ¬ v3 = 0 := q4
    have h := hf q4
    refine ga_iload 4 dX12_state_10 rfl ?_
    obtain ⟨ht, hf⟩ := h
    refine ga_if_lt (tgt := 24) dX12_state_12 (by decide) rx4 (fun q5 => ?_) (fun q5 => ?_)
    · replace q5 : x4 < 0 := q5
      have h := ht q5
      refine ga_bipush dX12_state_24 (by decide) ?_
      exact ga_iret dX12_state_26 rfl (by decide) h
    · replace q5 : 0 ≤ x4 := (Int.not_lt.mp q5)
      have h := hf q5
      refine ga_aload_n 0 dX12_state_15 rfl rfl ?_
      refine ga_iload 4 dX12_state_16 rfl ?_
      refine ga_callVi (z := mX12_nowOf) (As := [vI x4]) (rest := []) dX12_state_18 wX12_354 qX12_state_X12_nowOf rfl ⟨_, rfl, rfl⟩ rfl rfl (Nat.le_of_ble_eq_true rfl) (gEi_mono h (fun v8 σ6 h r7 => ?_))
      replace h := h r7
      refine ga_goto (tgt := 26) dX12_state_21 (by decide) ?_
      exact ga_iret dX12_state_26 rfl r7 h
abbrev eX12_cell (l : Launch) (G : gG) (x1 : Int) (x2 : Int) (x3 : Int) (x4 : Int) (σ : gS) (Q : Int → gS → Prop) : Prop := gEi l G mX12_cell [.ref (G.2.1 88), vI x1, vI x2, vI x3, vI x4] σ Q
set_option maxRecDepth 100000 in
set_option maxHeartbeats 4000000 in
theorem vX12_cell {l : Launch} {G : gG} (x1 : Int) (x2 : Int) (x3 : Int) (x4 : Int) (rx1 : gR x1) (rx2 : gR x2) (rx3 : gR x3) (rx4 : gR x4) (σ : gS) (Q : Int → gS → Prop) (h : eX12_isCrossbar l G x1 σ (fun v3 σ1 => (v3 = 0 ∨ v3 = 1) →
  (v3 = 0 → Q (-2) σ1) ∧
  (¬ v3 = 0 → eX12_isTraffic l G x2 σ1 (fun v7 σ5 => (v7 = 0 ∨ v7 = 1) →
    (¬ v7 = 0 → eX12_goes l G 40 σ5 (fun σ9 =>
      eX12_isIn l G x3 0 ((gI σ9 88 25) - 1) σ9 (fun v14 σ12 => (v14 = 0 ∨ v14 = 1) →
      (¬ v14 = 0 → (x4 = 0 → (0 ≤ x3 ∧ x3 < 400) ∧ Q (gI σ12 100 x3) σ12) ∧
        (x4 = 1 → (0 ≤ x3 ∧ x3 < 400) ∧ Q (gI σ12 101 x3) σ12) ∧
        (x4 = 2 → (0 ≤ x3 ∧ x3 < 400) ∧ (∀ v24 : Int, v24 = (if (gI σ12 102 x3) = 0 then 0 else 1) →
          Q v24 σ12)) ∧
        (x4 = 3 → (0 ≤ x3 ∧ x3 < 400) ∧ Q (gI σ12 103 x3) σ12) ∧
        (x4 = 4 → (0 ≤ x3 ∧ x3 < 400) ∧ Q (gI σ12 104 x3) σ12) ∧
        (x4 = 5 → (0 ≤ x3 ∧ x3 < 400) ∧ (∀ v33 : Int, v33 = (if (gI σ12 105 x3) = 0 then 0 else 1) →
          Q v33 σ12)) ∧
        ((x4 < 0 ∨ 5 < x4) → Q (-2) σ12)) ∧
      (v14 = 0 → Q (-2) σ12)))) ∧
    (v7 = 0 → Q (-2) σ5))))) : eX12_cell l G x1 x2 x3 x4 σ Q := by
  refine ga_entry rfl (Nat.le_of_ble_eq_true rfl) ?_
  show gAt l G mX12_cell (gQi G Q) 0 [(0, .ref (G.2.1 88)), (1, vI x1), (2, vI x2), (3, vI x3), (4, vI x4)] [] σ
  refine ga_aload_n 0 dX12_cell_0 rfl rfl ?_
  refine ga_iload_n 1 dX12_cell_1 rfl rfl ?_
  refine ga_callVz (z := mX12_isCrossbar) (As := [vI x1]) (rest := []) dX12_cell_2 wX12_344 qX12_cell_X12_isCrossbar rfl ⟨_, rfl, rfl⟩ rfl rfl (Nat.le_of_ble_eq_true rfl) (gEz_mono h (fun v3 σ1 h r2 => ?_))
  replace h := h r2
  obtain ⟨ht, hf⟩ := h
  refine ga_if_eq (tgt := 16) dX12_cell_5 (by decide) (gR_01 r2) (fun q4 => ?_) (fun q4 => ?_)
  · replace q4 : v3 = 0 := q4
    have h := ht q4
    refine ga_bipush dX12_cell_16 (by decide) ?_
    exact ga_iret dX12_cell_18 rfl (by decide) h
  · replace q4 : ¬ v3 = 0 := q4
    have h := hf q4
    refine ga_aload_n 0 dX12_cell_8 rfl rfl ?_
    refine ga_iload_n 2 dX12_cell_9 rfl rfl ?_
    refine ga_callVz (z := mX12_isTraffic) (As := [vI x2]) (rest := []) dX12_cell_10 wX12_251 qX12_cell_X12_isTraffic rfl ⟨_, rfl, rfl⟩ rfl rfl (Nat.le_of_ble_eq_true rfl) (gEz_mono h (fun v7 σ5 h r6 => ?_))
    replace h := h r6
    obtain ⟨ht, hf⟩ := h
    refine ga_if_ne (tgt := 19) dX12_cell_13 (by decide) (gR_01 r6) (fun q8 => ?_) (fun q8 => ?_)
    · replace q8 : ¬ v7 = 0 := q8
      have h := ht q8
      refine ga_aload_n 0 dX12_cell_19 rfl rfl ?_
      refine ga_bipush dX12_cell_20 (by decide) ?_
      refine ga_callVv (z := mX12_goes) (As := [vI 40]) (rest := []) dX12_cell_22 wX12_347 qX12_cell_X12_goes rfl ⟨_, rfl, rfl⟩ rfl rfl (Nat.le_of_ble_eq_true rfl) (gEv_mono h (fun σ9 h => ?_))
      refine ga_iload_n 3 dX12_cell_25 rfl rfl ?_
      refine ga_iconst dX12_cell_26 ?_
      refine ga_aload_n 0 dX12_cell_27 rfl rfl ?_
      refine ga_getI (kI := 25) dX12_cell_28 fX12_260 rfl rfl rfl (fun r11 => ?_)
      refine ga_iconst dX12_cell_31 ?_
      refine ga_isub dX12_cell_32 ?_
      refine ga_callSz (z := mX12_isIn) (As := [vI x3, vI 0, vI ((gI σ9 88 25) - 1)]) (rest := []) dX12_cell_33 wX12_196 qX12_cell_X12_isIn rfl rfl (Nat.le_of_ble_eq_true rfl) (gEz_mono h (fun v14 σ12 h r13 => ?_))
      replace h := h r13
      obtain ⟨ht, hf⟩ := h
      refine ga_if_ne (tgt := 42) dX12_cell_36 (by decide) (gR_01 r13) (fun q15 => ?_) (fun q15 => ?_)
      · replace q15 : ¬ v14 = 0 := q15
        have h := ht q15
        refine ga_iload 4 dX12_cell_42 rfl ?_
        obtain ⟨hc34, hc35, hc36, hc37, hc38, hc39, hd⟩ := h
        by_cases q40 : x4 = 0
        · refine ga_tableIn (tgt := 84) (v := 0) dX12_cell_44 q40 (by decide) rfl (by decide) ?_
          have h := hc34 q40
          refine ga_aload_n 0 dX12_cell_84 rfl rfl ?_
          refine ga_getR (kI := 30) (r := 100) dX12_cell_85 fX12_44 rfl rfl (by decide) rfl ?_
          refine ga_iload_n 3 dX12_cell_88 rfl rfl ?_
          obtain ⟨i16, h⟩ := h
          refine ga_iald (nI := 400) dX12_cell_89 rfl rfl i16 (fun r17 => ?_)
          exact ga_iret dX12_cell_90 rfl r17 h
        by_cases q41 : x4 = 1
        · refine ga_tableIn (tgt := 91) (v := 1) dX12_cell_44 q41 (by decide) rfl (by decide) ?_
          have h := hc35 q41
          refine ga_aload_n 0 dX12_cell_91 rfl rfl ?_
          refine ga_getR (kI := 31) (r := 101) dX12_cell_92 fX12_47 rfl rfl (by decide) rfl ?_
          refine ga_iload_n 3 dX12_cell_95 rfl rfl ?_
          obtain ⟨i18, h⟩ := h
          refine ga_iald (nI := 400) dX12_cell_96 rfl rfl i18 (fun r19 => ?_)
          exact ga_iret dX12_cell_97 rfl r19 h
        by_cases q42 : x4 = 2
        · refine ga_tableIn (tgt := 98) (v := 2) dX12_cell_44 q42 (by decide) rfl (by decide) ?_
          have h := hc36 q42
          refine ga_aload_n 0 dX12_cell_98 rfl rfl ?_
          refine ga_getR (kI := 32) (r := 102) dX12_cell_99 fX12_50 rfl rfl (by decide) rfl ?_
          refine ga_iload_n 3 dX12_cell_102 rfl rfl ?_
          obtain ⟨i20, h⟩ := h
          refine ga_zald (nI := 400) dX12_cell_103 rfl rfl i20 (fun r21 => ?_)
          have kJ22 : ∀ v24 : Int, gR v24 → (v24 = 0 ∨ v24 = 1) → v24 = (if (gI σ12 102 x3) = 0 then 0 else 1) → gAt l G mX12_cell (gQi G Q) 112 [(0, .ref (G.2.1 88)), (1, vI x1), (2, vI x2), (3, vI x3), (4, vI x4)] [vI v24] σ12 := by
            intro v24 rv24 bv24 ev24
            replace h := h v24 ev24
            exact ga_iret dX12_cell_112 rfl rv24 h
          replace h : ((gI σ12 102 x3) = 0 → True) ∧
          (¬ (gI σ12 102 x3) = 0 → True) := by repeat (first | exact True.intro | apply And.intro | intro _)
          obtain ⟨ht, hf⟩ := h
          refine ga_if_eq (tgt := 111) dX12_cell_104 (by decide) r21 (fun q23 => ?_) (fun q23 => ?_)
          · replace q23 : (gI σ12 102 x3) = 0 := q23
            have h := ht q23
            refine ga_iconst dX12_cell_111 ?_
            exact kJ22 0 (by decide) (Or.inl rfl) (by rw [if_pos q23])
          · replace q23 : ¬ (gI σ12 102 x3) = 0 := q23
            have h := hf q23
            refine ga_iconst dX12_cell_107 ?_
            refine ga_goto (tgt := 112) dX12_cell_108 (by decide) ?_
            exact kJ22 1 (by decide) (Or.inr rfl) (by rw [if_neg q23])
        by_cases q43 : x4 = 3
        · refine ga_tableIn (tgt := 113) (v := 3) dX12_cell_44 q43 (by decide) rfl (by decide) ?_
          have h := hc37 q43
          refine ga_aload_n 0 dX12_cell_113 rfl rfl ?_
          refine ga_getR (kI := 33) (r := 103) dX12_cell_114 fX12_53 rfl rfl (by decide) rfl ?_
          refine ga_iload_n 3 dX12_cell_117 rfl rfl ?_
          obtain ⟨i25, h⟩ := h
          refine ga_iald (nI := 400) dX12_cell_118 rfl rfl i25 (fun r26 => ?_)
          exact ga_iret dX12_cell_119 rfl r26 h
        by_cases q44 : x4 = 4
        · refine ga_tableIn (tgt := 120) (v := 4) dX12_cell_44 q44 (by decide) rfl (by decide) ?_
          have h := hc38 q44
          refine ga_aload_n 0 dX12_cell_120 rfl rfl ?_
          refine ga_getR (kI := 34) (r := 104) dX12_cell_121 fX12_56 rfl rfl (by decide) rfl ?_
          refine ga_iload_n 3 dX12_cell_124 rfl rfl ?_
          obtain ⟨i27, h⟩ := h
          refine ga_iald (nI := 400) dX12_cell_125 rfl rfl i27 (fun r28 => ?_)
          exact ga_iret dX12_cell_126 rfl r28 h
        by_cases q45 : x4 = 5
        · refine ga_tableIn (tgt := 127) (v := 5) dX12_cell_44 q45 (by decide) rfl (by decide) ?_
          have h := hc39 q45
          refine ga_aload_n 0 dX12_cell_127 rfl rfl ?_
          refine ga_getR (kI := 35) (r := 105) dX12_cell_128 fX12_59 rfl rfl (by decide) rfl ?_
          refine ga_iload_n 3 dX12_cell_131 rfl rfl ?_
          obtain ⟨i29, h⟩ := h
          refine ga_zald (nI := 400) dX12_cell_132 rfl rfl i29 (fun r30 => ?_)
          have kJ31 : ∀ v33 : Int, gR v33 → (v33 = 0 ∨ v33 = 1) → v33 = (if (gI σ12 105 x3) = 0 then 0 else 1) → gAt l G mX12_cell (gQi G Q) 141 [(0, .ref (G.2.1 88)), (1, vI x1), (2, vI x2), (3, vI x3), (4, vI x4)] [vI v33] σ12 := by
            intro v33 rv33 bv33 ev33
            replace h := h v33 ev33
            exact ga_iret dX12_cell_141 rfl rv33 h
          replace h : ((gI σ12 105 x3) = 0 → True) ∧
          (¬ (gI σ12 105 x3) = 0 → True) := by repeat (first | exact True.intro | apply And.intro | intro _)
          obtain ⟨ht, hf⟩ := h
          refine ga_if_eq (tgt := 140) dX12_cell_133 (by decide) r30 (fun q32 => ?_) (fun q32 => ?_)
          · replace q32 : (gI σ12 105 x3) = 0 := q32
            have h := ht q32
            refine ga_iconst dX12_cell_140 ?_
            exact kJ31 0 (by decide) (Or.inl rfl) (by rw [if_pos q32])
          · replace q32 : ¬ (gI σ12 105 x3) = 0 := q32
            have h := hf q32
            refine ga_iconst dX12_cell_136 ?_
            refine ga_goto (tgt := 141) dX12_cell_137 (by decide) ?_
            exact kJ31 1 (by decide) (Or.inr rfl) (by rw [if_neg q32])
        have hdc : (x4 < 0 ∨ 5 < x4) := by omega
        have h := hd hdc
        refine ga_tableOut (tgt := 142) dX12_cell_44 rx4 hdc (by decide) ?_
        refine ga_bipush dX12_cell_142 (by decide) ?_
        exact ga_iret dX12_cell_144 rfl (by decide) h
      · replace q15 : v14 = 0 := (Decidable.not_not.mp q15)
        have h := hf q15
        refine ga_bipush dX12_cell_39 (by decide) ?_
        exact ga_iret dX12_cell_41 rfl (by decide) h
    · replace q8 : v7 = 0 := (Decidable.not_not.mp q8)
      have h := hf q8
      refine ga_bipush dX12_cell_16 (by decide) ?_
      exact ga_iret dX12_cell_18 rfl (by decide) h
abbrev eX12_matchedNow (l : Launch) (G : gG)  (σ : gS) (Q : Int → gS → Prop) : Prop := gEi l G mX12_matchedNow [.ref (G.2.1 88)] σ Q
abbrev kX12_matchedNow_4 (l : Launch) (G : gG)  (x1 : Int) (x2 : Int) (σ : gS) (Q : Int → gS → Prop) : Prop := gAt l G mX12_matchedNow (gQi G Q) 4 [(0, .ref (G.2.1 88)), (1, vI x1), (2, vI x2)] [] σ
set_option maxRecDepth 100000 in
set_option maxHeartbeats 4000000 in
theorem vX12_matchedNow {l : Launch} {G : gG}  (σ : gS) (Q : Int → gS → Prop) (h : kX12_matchedNow_4 l G  0 0 σ Q) : eX12_matchedNow l G  σ Q := by
  refine ga_entry rfl (Nat.le_of_ble_eq_true rfl) ?_
  show gAt l G mX12_matchedNow (gQi G Q) 0 [(0, .ref (G.2.1 88))] [] σ
  refine ga_iconst dX12_matchedNow_0 ?_
  refine ga_istore_n (ls' := [(1, vI 0), (0, .ref (G.2.1 88))]) dX12_matchedNow_1 rfl (by decide) rfl ?_
  refine ga_iconst dX12_matchedNow_2 ?_
  refine ga_istore_n (ls' := [(2, vI 0), (1, vI 0), (0, .ref (G.2.1 88))]) dX12_matchedNow_3 rfl (by decide) rfl ?_
  exact ga_sub [2, 1, 0] rfl h
set_option maxRecDepth 100000 in
set_option maxHeartbeats 4000000 in
theorem vX12_matchedNow_4 {l : Launch} {G : gG}  (x1 : Int) (x2 : Int) (rx1 : gR x1) (rx2 : gR x2) (σ : gS) (Q : Int → gS → Prop) (h : ((gI σ 88 10) ≤ x2 → Q x1 σ) ∧
  (x2 < (gI σ 88 10) → (0 ≤ x2 ∧ x2 < 6) ∧ (∀ v7 : Int, v7 = (if (gI σ 111 x2) = (-1) then 0 else 1) →
    kX12_matchedNow_4 l G  (x1 + v7) (x2 + 1) σ Q))) : kX12_matchedNow_4 l G  x1 x2 σ Q := by
  refine ga_iload_n 2 dX12_matchedNow_4 rfl rfl ?_
  refine ga_aload_n 0 dX12_matchedNow_5 rfl rfl ?_
  refine ga_getI (kI := 10) dX12_matchedNow_6 fX12_236 rfl rfl rfl (fun r1 => ?_)
  obtain ⟨ht, hf⟩ := h
  refine ga_icmp_ge (tgt := 36) dX12_matchedNow_9 (by decide) rx2 r1 (fun q2 => ?_) (fun q2 => ?_)
  · replace q2 : (gI σ 88 10) ≤ x2 := q2
    have h := ht q2
    refine ga_iload_n 1 dX12_matchedNow_36 rfl rfl ?_
    exact ga_iret dX12_matchedNow_37 rfl rx1 h
  · replace q2 : x2 < (gI σ 88 10) := (Int.not_le.mp q2)
    have h := hf q2
    refine ga_iload_n 1 dX12_matchedNow_12 rfl rfl ?_
    refine ga_aload_n 0 dX12_matchedNow_13 rfl rfl ?_
    refine ga_getR (kI := 43) (r := 111) dX12_matchedNow_14 fX12_77 rfl rfl (by decide) rfl ?_
    refine ga_iload_n 2 dX12_matchedNow_17 rfl rfl ?_
    obtain ⟨i3, h⟩ := h
    refine ga_iald (nI := 6) dX12_matchedNow_18 rfl rfl i3 (fun r4 => ?_)
    refine ga_iconst dX12_matchedNow_19 ?_
    have kJ5 : ∀ v7 : Int, gR v7 → (v7 = 0 ∨ v7 = 1) → v7 = (if (gI σ 111 x2) = (-1) then 0 else 1) → gAt l G mX12_matchedNow (gQi G Q) 28 [(0, .ref (G.2.1 88)), (1, vI x1), (2, vI x2)] [vI v7, vI x1] σ := by
      intro v7 rv7 bv7 ev7
      replace h := h v7 ev7
      refine ga_iadd dX12_matchedNow_28 ?_
      refine ga_istore_n (ls' := [(1, vI (x1 + v7)), (0, .ref (G.2.1 88)), (2, vI x2)]) dX12_matchedNow_29 rfl (by decide) rfl ?_
      refine ga_iinc (ls' := [(2, vI (x2 + 1)), (1, vI (x1 + v7)), (0, .ref (G.2.1 88))]) 2 dX12_matchedNow_30 rfl (by decide) rfl ?_
      refine ga_goto (tgt := 4) dX12_matchedNow_33 (by decide) ?_
      exact ga_sub [2, 1, 0] rfl h
    replace h : (¬ (gI σ 111 x2) = (-1) → True) ∧
    ((gI σ 111 x2) = (-1) → True) := by repeat (first | exact True.intro | apply And.intro | intro _)
    obtain ⟨ht, hf⟩ := h
    refine ga_icmp_ne (tgt := 27) dX12_matchedNow_20 (by decide) r4 (by decide) (fun q6 => ?_) (fun q6 => ?_)
    · replace q6 : ¬ (gI σ 111 x2) = (-1) := q6
      have h := ht q6
      refine ga_iconst dX12_matchedNow_27 ?_
      exact kJ5 1 (by decide) (Or.inr rfl) (by rw [if_neg q6])
    · replace q6 : (gI σ 111 x2) = (-1) := (Decidable.not_not.mp q6)
      have h := hf q6
      refine ga_iconst dX12_matchedNow_23 ?_
      refine ga_goto (tgt := 28) dX12_matchedNow_24 (by decide) ?_
      exact kJ5 0 (by decide) (Or.inl rfl) (by rw [if_pos q6])
abbrev eX12_loads (l : Launch) (G : gG)  (σ : gS) (Q : gS → Prop) : Prop := gEv l G mX12_loads [.ref (G.2.1 88)] σ Q
set_option maxRecDepth 100000 in
set_option maxHeartbeats 4000000 in
theorem vX12_loads {l : Launch} {G : gG}  (σ : gS) (Q : gS → Prop) (h : ∀ σ1, σ1 = sI σ 88 41 0 →
  ∀ σ2, σ2 = sI σ1 88 42 0 →
  eX12_matches l G (gI σ2 88 11) 1 σ2 (fun σ4 =>
  Q σ4)) : eX12_loads l G  σ Q := by
  refine ga_entry rfl (Nat.le_of_ble_eq_true rfl) ?_
  show gAt l G mX12_loads (gQv G Q) 0 [(0, .ref (G.2.1 88))] [] σ
  refine ga_aload_n 0 dX12_loads_0 rfl rfl ?_
  refine ga_iconst dX12_loads_1 ?_
  obtain ⟨σ1, eσ1⟩ : ∃ z, z = sI σ 88 41 0 := ⟨_, rfl⟩
  replace h := h σ1 eσ1
  refine ga_putI (kI := 41) dX12_loads_2 fX12_299 pX12_41 rfl rfl rfl (by decide) eσ1 ?_
  refine ga_aload_n 0 dX12_loads_5 rfl rfl ?_
  refine ga_iconst dX12_loads_6 ?_
  obtain ⟨σ2, eσ2⟩ : ∃ z, z = sI σ1 88 42 0 := ⟨_, rfl⟩
  replace h := h σ2 eσ2
  refine ga_putI (kI := 42) dX12_loads_7 fX12_302 pX12_42 rfl rfl rfl (by decide) eσ2 ?_
  refine ga_aload_n 0 dX12_loads_10 rfl rfl ?_
  refine ga_aload_n 0 dX12_loads_11 rfl rfl ?_
  refine ga_getI (kI := 11) dX12_loads_12 fX12_239 rfl rfl rfl (fun r3 => ?_)
  refine ga_iconst dX12_loads_15 ?_
  refine ga_callVv (z := mX12_matches) (As := [vI (gI σ2 88 11), vI 1]) (rest := []) dX12_loads_16 wX12_318 qX12_loads_X12_matches rfl ⟨_, rfl, rfl⟩ rfl rfl (Nat.le_of_ble_eq_true rfl) (gEv_mono h (fun σ4 h => ?_))
  exact ga_vret dX12_loads_19 rfl h
abbrev eX12_full (l : Launch) (G : gG) (x1 : Int) (x2 : Int) (x3 : Int) (σ : gS) (Q : Int → gS → Prop) : Prop := gEi l G mX12_full [.ref (G.2.1 88), vI x1, vI x2, vI x3] σ Q
abbrev kX12_full_35 (l : Launch) (G : gG)  (x1 : Int) (x2 : Int) (x3 : Int) (x4 : Int) (σ : gS) (Q : Int → gS → Prop) : Prop := gAt l G mX12_full (gQi G Q) 35 [(0, .ref (G.2.1 88)), (1, vI x1), (2, vI x2), (3, vI x3), (4, vI x4)] [] σ
set_option maxRecDepth 100000 in
set_option maxHeartbeats 4000000 in
theorem vX12_full {l : Launch} {G : gG} (x1 : Int) (x2 : Int) (x3 : Int) (rx1 : gR x1) (rx2 : gR x2) (rx3 : gR x3) (σ : gS) (Q : Int → gS → Prop) (h : eX12_isCrossbar l G x1 σ (fun v3 σ1 => (v3 = 0 ∨ v3 = 1) →
  (v3 = 0 → Q (-1) σ1) ∧
  (¬ v3 = 0 → eX12_isIn l G x2 0 99 σ1 (fun v7 σ5 => (v7 = 0 ∨ v7 = 1) →
    (v7 = 0 → Q (-1) σ5) ∧
    (¬ v7 = 0 → eX12_isPort l G x3 σ5 (fun v11 σ9 => (v11 = 0 ∨ v11 = 1) →
      (¬ v11 = 0 → eX12_begins l G  σ9 (fun σ13 =>
        kX12_full_35 l G  x1 x2 x3 0 σ13 Q)) ∧
      (v11 = 0 → Q (-1) σ9))))))) : eX12_full l G x1 x2 x3 σ Q := by
  refine ga_entry rfl (Nat.le_of_ble_eq_true rfl) ?_
  show gAt l G mX12_full (gQi G Q) 0 [(0, .ref (G.2.1 88)), (1, vI x1), (2, vI x2), (3, vI x3)] [] σ
  refine ga_aload_n 0 dX12_full_0 rfl rfl ?_
  refine ga_iload_n 1 dX12_full_1 rfl rfl ?_
  refine ga_callVz (z := mX12_isCrossbar) (As := [vI x1]) (rest := []) dX12_full_2 wX12_344 qX12_full_X12_isCrossbar rfl ⟨_, rfl, rfl⟩ rfl rfl (Nat.le_of_ble_eq_true rfl) (gEz_mono h (fun v3 σ1 h r2 => ?_))
  replace h := h r2
  obtain ⟨ht, hf⟩ := h
  refine ga_if_eq (tgt := 26) dX12_full_5 (by decide) (gR_01 r2) (fun q4 => ?_) (fun q4 => ?_)
  · replace q4 : v3 = 0 := q4
    have h := ht q4
    refine ga_iconst dX12_full_26 ?_
    exact ga_iret dX12_full_27 rfl (by decide) h
  · replace q4 : ¬ v3 = 0 := q4
    have h := hf q4
    refine ga_iload_n 2 dX12_full_8 rfl rfl ?_
    refine ga_iconst dX12_full_9 ?_
    refine ga_bipush dX12_full_10 (by decide) ?_
    refine ga_callSz (z := mX12_isIn) (As := [vI x2, vI 0, vI 99]) (rest := []) dX12_full_12 wX12_196 qX12_full_X12_isIn rfl rfl (Nat.le_of_ble_eq_true rfl) (gEz_mono h (fun v7 σ5 h r6 => ?_))
    replace h := h r6
    obtain ⟨ht, hf⟩ := h
    refine ga_if_eq (tgt := 26) dX12_full_15 (by decide) (gR_01 r6) (fun q8 => ?_) (fun q8 => ?_)
    · replace q8 : v7 = 0 := q8
      have h := ht q8
      refine ga_iconst dX12_full_26 ?_
      exact ga_iret dX12_full_27 rfl (by decide) h
    · replace q8 : ¬ v7 = 0 := q8
      have h := hf q8
      refine ga_aload_n 0 dX12_full_18 rfl rfl ?_
      refine ga_iload_n 3 dX12_full_19 rfl rfl ?_
      refine ga_callVz (z := mX12_isPort) (As := [vI x3]) (rest := []) dX12_full_20 wX12_322 qX12_full_X12_isPort rfl ⟨_, rfl, rfl⟩ rfl rfl (Nat.le_of_ble_eq_true rfl) (gEz_mono h (fun v11 σ9 h r10 => ?_))
      replace h := h r10
      obtain ⟨ht, hf⟩ := h
      refine ga_if_ne (tgt := 28) dX12_full_23 (by decide) (gR_01 r10) (fun q12 => ?_) (fun q12 => ?_)
      · replace q12 : ¬ v11 = 0 := q12
        have h := ht q12
        refine ga_aload_n 0 dX12_full_28 rfl rfl ?_
        refine ga_callVv (z := mX12_begins) (As := []) (rest := []) dX12_full_29 wX12_334 qX12_full_X12_begins rfl ⟨_, rfl, rfl⟩ rfl rfl (Nat.le_of_ble_eq_true rfl) (gEv_mono h (fun σ13 h => ?_))
        refine ga_iconst dX12_full_32 ?_
        refine ga_istore (ls' := [(4, vI 0), (0, .ref (G.2.1 88)), (1, vI x1), (2, vI x2), (3, vI x3)]) dX12_full_33 (by decide) rfl ?_
        exact ga_sub [1, 2, 3, 4, 0] rfl h
      · replace q12 : v11 = 0 := (Decidable.not_not.mp q12)
        have h := hf q12
        refine ga_iconst dX12_full_26 ?_
        exact ga_iret dX12_full_27 rfl (by decide) h
set_option maxRecDepth 100000 in
set_option maxHeartbeats 4000000 in
theorem vX12_full_35 {l : Launch} {G : gG}  (x1 : Int) (x2 : Int) (x3 : Int) (x4 : Int) (rx1 : gR x1) (rx2 : gR x2) (rx3 : gR x3) (rx4 : gR x4) (σ : gS) (Q : Int → gS → Prop) (h : (x2 < x4 → (0 ≤ x3 ∧ x3 < 6) ∧ Q (gI σ 111 x3) σ) ∧
  (x4 ≤ x2 → eX12_loads l G  σ (fun σ18 =>
    kX12_full_35 l G  x1 x2 x3 (x4 + 1) σ18 Q))) : kX12_full_35 l G  x1 x2 x3 x4 σ Q := by
  refine ga_iload 4 dX12_full_35 rfl ?_
  refine ga_iload_n 2 dX12_full_37 rfl rfl ?_
  obtain ⟨ht, hf⟩ := h
  refine ga_icmp_gt (tgt := 51) dX12_full_38 (by decide) rx4 rx2 (fun q15 => ?_) (fun q15 => ?_)
  · replace q15 : x2 < x4 := q15
    have h := ht q15
    refine ga_aload_n 0 dX12_full_51 rfl rfl ?_
    refine ga_getR (kI := 43) (r := 111) dX12_full_52 fX12_77 rfl rfl (by decide) rfl ?_
    refine ga_iload_n 3 dX12_full_55 rfl rfl ?_
    obtain ⟨i16, h⟩ := h
    refine ga_iald (nI := 6) dX12_full_56 rfl rfl i16 (fun r17 => ?_)
    exact ga_iret dX12_full_57 rfl r17 h
  · replace q15 : x4 ≤ x2 := (Int.not_lt.mp q15)
    have h := hf q15
    refine ga_aload_n 0 dX12_full_41 rfl rfl ?_
    refine ga_callVv (z := mX12_loads) (As := []) (rest := []) dX12_full_42 wX12_357 qX12_full_X12_loads rfl ⟨_, rfl, rfl⟩ rfl rfl (Nat.le_of_ble_eq_true rfl) (gEv_mono h (fun σ18 h => ?_))
    refine ga_iinc (ls' := [(4, vI (x4 + 1)), (0, .ref (G.2.1 88)), (1, vI x1), (2, vI x2), (3, vI x3)]) 4 dX12_full_45 rfl (by decide) rfl ?_
    refine ga_goto (tgt := 35) dX12_full_48 (by decide) ?_
    exact ga_sub [1, 2, 3, 4, 0] rfl h
abbrev eX12_keepsPointers (l : Launch) (G : gG) (x1 : Int) (σ : gS) (Q : gS → Prop) : Prop := gEv l G mX12_keepsPointers [.ref (G.2.1 88), vI x1] σ Q
abbrev kX12_keepsPointers_2 (l : Launch) (G : gG)  (x1 : Int) (x2 : Int) (σ : gS) (Q : gS → Prop) : Prop := gAt l G mX12_keepsPointers (gQv G Q) 2 [(0, .ref (G.2.1 88)), (1, vI x1), (2, vI x2)] [] σ
set_option maxRecDepth 100000 in
set_option maxHeartbeats 4000000 in
theorem vX12_keepsPointers {l : Launch} {G : gG} (x1 : Int) (rx1 : gR x1) (σ : gS) (Q : gS → Prop) (h : kX12_keepsPointers_2 l G  x1 0 σ Q) : eX12_keepsPointers l G x1 σ Q := by
  refine ga_entry rfl (Nat.le_of_ble_eq_true rfl) ?_
  show gAt l G mX12_keepsPointers (gQv G Q) 0 [(0, .ref (G.2.1 88)), (1, vI x1)] [] σ
  refine ga_iconst dX12_keepsPointers_0 ?_
  refine ga_istore_n (ls' := [(2, vI 0), (0, .ref (G.2.1 88)), (1, vI x1)]) dX12_keepsPointers_1 rfl (by decide) rfl ?_
  exact ga_sub [1, 2, 0] rfl h
set_option maxRecDepth 100000 in
set_option maxHeartbeats 4000000 in
theorem vX12_keepsPointers_2 {l : Launch} {G : gG}  (x1 : Int) (x2 : Int) (rx1 : gR x1) (rx2 : gR x2) (σ : gS) (Q : gS → Prop) (h : (6 ≤ x2 → Q σ) ∧
  (x2 < 6 → (((gI σ 88 10) ≤ x2 → True) ∧
    (x2 < (gI σ 88 10) → (0 ≤ x2 ∧ x2 < 6) ∧ True)) ∧
    (∀ v7 : Int, v7 = (if (gI σ 88 10) ≤ x2 then 0 else (gI σ 92 x2)) →
    (0 ≤ ((12 * x1) + x2) ∧ ((12 * x1) + x2) < 14400) ∧ ∀ σ9, σ9 = sI σ 114 ((12 * x1) + x2) v7 →
      (((gI σ9 88 10) ≤ x2 → True) ∧
      (x2 < (gI σ9 88 10) → (0 ≤ x2 ∧ x2 < 6) ∧ True)) ∧
      (∀ v15 : Int, v15 = (if (gI σ9 88 10) ≤ x2 then 0 else (gI σ9 93 x2)) →
      (0 ≤ (((12 * x1) + 6) + x2) ∧ (((12 * x1) + 6) + x2) < 14400) ∧ ∀ σ17, σ17 = sI σ9 114 (((12 * x1) + 6) + x2) v15 →
        kX12_keepsPointers_2 l G  x1 (x2 + 1) σ17 Q)))) : kX12_keepsPointers_2 l G  x1 x2 σ Q := by
  refine ga_iload_n 2 dX12_keepsPointers_2 rfl rfl ?_
  refine ga_bipush dX12_keepsPointers_3 (by decide) ?_
  obtain ⟨ht, hf⟩ := h
  refine ga_icmp_ge (tgt := 75) dX12_keepsPointers_5 (by decide) rx2 (by decide) (fun q1 => ?_) (fun q1 => ?_)
  · replace q1 : 6 ≤ x2 := q1
    have h := ht q1
    exact ga_vret dX12_keepsPointers_75 rfl h
  · replace q1 : x2 < 6 := (Int.not_le.mp q1)
    have h := hf q1
    refine ga_aload_n 0 dX12_keepsPointers_8 rfl rfl ?_
    refine ga_getR (kI := 46) (r := 114) dX12_keepsPointers_9 fX12_86 rfl rfl (by decide) rfl ?_
    refine ga_bipush dX12_keepsPointers_12 (by decide) ?_
    refine ga_iload_n 1 dX12_keepsPointers_14 rfl rfl ?_
    refine ga_imul dX12_keepsPointers_15 ?_
    refine ga_iload_n 2 dX12_keepsPointers_16 rfl rfl ?_
    refine ga_iadd dX12_keepsPointers_17 ?_
    refine ga_iload_n 2 dX12_keepsPointers_18 rfl rfl ?_
    refine ga_aload_n 0 dX12_keepsPointers_19 rfl rfl ?_
    refine ga_getI (kI := 10) dX12_keepsPointers_20 fX12_236 rfl rfl rfl (fun r2 => ?_)
    obtain ⟨hob, h⟩ := h
    have kJ3 : ∀ v7 : Int, gR v7 → v7 = (if (gI σ 88 10) ≤ x2 then 0 else (gI σ 92 x2)) → gAt l G mX12_keepsPointers (gQv G Q) 36 [(0, .ref (G.2.1 88)), (1, vI x1), (2, vI x2)] [vI v7, vI ((12 * x1) + x2), .ref (G.2.1 114)] σ := by
      intro v7 rv7 ev7
      replace h := h v7 ev7
      obtain ⟨i8, h⟩ := h
      obtain ⟨σ9, eσ9⟩ : ∃ z, z = sI σ 114 ((12 * x1) + x2) v7 := ⟨_, rfl⟩
      replace h := h σ9 eσ9
      refine ga_iast (nI := 14400) dX12_keepsPointers_36 rfl rfl i8 rv7 eσ9 ?_
      refine ga_aload_n 0 dX12_keepsPointers_37 rfl rfl ?_
      refine ga_getR (kI := 46) (r := 114) dX12_keepsPointers_38 fX12_86 rfl rfl (by decide) rfl ?_
      refine ga_bipush dX12_keepsPointers_41 (by decide) ?_
      refine ga_iload_n 1 dX12_keepsPointers_43 rfl rfl ?_
      refine ga_imul dX12_keepsPointers_44 ?_
      refine ga_bipush dX12_keepsPointers_45 (by decide) ?_
      refine ga_iadd dX12_keepsPointers_47 ?_
      refine ga_iload_n 2 dX12_keepsPointers_48 rfl rfl ?_
      refine ga_iadd dX12_keepsPointers_49 ?_
      refine ga_iload_n 2 dX12_keepsPointers_50 rfl rfl ?_
      refine ga_aload_n 0 dX12_keepsPointers_51 rfl rfl ?_
      refine ga_getI (kI := 10) dX12_keepsPointers_52 fX12_236 rfl rfl rfl (fun r10 => ?_)
      obtain ⟨hob, h⟩ := h
      have kJ11 : ∀ v15 : Int, gR v15 → v15 = (if (gI σ9 88 10) ≤ x2 then 0 else (gI σ9 93 x2)) → gAt l G mX12_keepsPointers (gQv G Q) 68 [(0, .ref (G.2.1 88)), (1, vI x1), (2, vI x2)] [vI v15, vI (((12 * x1) + 6) + x2), .ref (G.2.1 114)] σ9 := by
        intro v15 rv15 ev15
        replace h := h v15 ev15
        obtain ⟨i16, h⟩ := h
        obtain ⟨σ17, eσ17⟩ : ∃ z, z = sI σ9 114 (((12 * x1) + 6) + x2) v15 := ⟨_, rfl⟩
        replace h := h σ17 eσ17
        refine ga_iast (nI := 14400) dX12_keepsPointers_68 rfl rfl i16 rv15 eσ17 ?_
        refine ga_iinc (ls' := [(2, vI (x2 + 1)), (0, .ref (G.2.1 88)), (1, vI x1)]) 2 dX12_keepsPointers_69 rfl (by decide) rfl ?_
        refine ga_goto (tgt := 2) dX12_keepsPointers_72 (by decide) ?_
        exact ga_sub [1, 2, 0] rfl h
      replace h := hob
      obtain ⟨ht, hf⟩ := h
      refine ga_icmp_ge (tgt := 67) dX12_keepsPointers_55 (by decide) rx2 r10 (fun q12 => ?_) (fun q12 => ?_)
      · replace q12 : (gI σ9 88 10) ≤ x2 := q12
        have h := ht q12
        refine ga_iconst dX12_keepsPointers_67 ?_
        exact kJ11 0 (by decide) (by rw [if_pos q12])
      · replace q12 : x2 < (gI σ9 88 10) := (Int.not_le.mp q12)
        have h := hf q12
        refine ga_aload_n 0 dX12_keepsPointers_58 rfl rfl ?_
        refine ga_getR (kI := 16) (r := 93) dX12_keepsPointers_59 fX12_23 rfl rfl (by decide) rfl ?_
        refine ga_iload_n 2 dX12_keepsPointers_62 rfl rfl ?_
        obtain ⟨i13, h⟩ := h
        refine ga_iald (nI := 6) dX12_keepsPointers_63 rfl rfl i13 (fun r14 => ?_)
        refine ga_goto (tgt := 68) dX12_keepsPointers_64 (by decide) ?_
        exact kJ11 (gI σ9 93 x2) r14 (by rw [if_neg (Int.not_le.mpr q12)])
    replace h := hob
    obtain ⟨ht, hf⟩ := h
    refine ga_icmp_ge (tgt := 35) dX12_keepsPointers_23 (by decide) rx2 r2 (fun q4 => ?_) (fun q4 => ?_)
    · replace q4 : (gI σ 88 10) ≤ x2 := q4
      have h := ht q4
      refine ga_iconst dX12_keepsPointers_35 ?_
      exact kJ3 0 (by decide) (by rw [if_pos q4])
    · replace q4 : x2 < (gI σ 88 10) := (Int.not_le.mp q4)
      have h := hf q4
      refine ga_aload_n 0 dX12_keepsPointers_26 rfl rfl ?_
      refine ga_getR (kI := 15) (r := 92) dX12_keepsPointers_27 fX12_20 rfl rfl (by decide) rfl ?_
      refine ga_iload_n 2 dX12_keepsPointers_30 rfl rfl ?_
      obtain ⟨i5, h⟩ := h
      refine ga_iald (nI := 6) dX12_keepsPointers_31 rfl rfl i5 (fun r6 => ?_)
      refine ga_goto (tgt := 36) dX12_keepsPointers_32 (by decide) ?_
      exact kJ3 (gI σ 92 x2) r6 (by rw [if_neg (Int.not_le.mpr q4)])
abbrev eX12_likeOf (l : Launch) (G : gG) (x1 : Int) (σ : gS) (Q : Int → gS → Prop) : Prop := gEi l G mX12_likeOf [.ref (G.2.1 88), vI x1] σ Q
abbrev kX12_likeOf_2 (l : Launch) (G : gG)  (x1 : Int) (x2 : Int) (σ : gS) (Q : Int → gS → Prop) : Prop := gAt l G mX12_likeOf (gQi G Q) 2 [(0, .ref (G.2.1 88)), (1, vI x1), (2, vI x2)] [] σ
abbrev kX12_likeOf_12 (l : Launch) (G : gG)  (x1 : Int) (x2 : Int) (x3 : Int) (x4 : Int) (σ : gS) (Q : Int → gS → Prop) : Prop := gAt l G mX12_likeOf (gQi G Q) 12 [(0, .ref (G.2.1 88)), (1, vI x1), (2, vI x2), (3, vI x3), (4, vI x4)] [] σ
set_option maxRecDepth 100000 in
set_option maxHeartbeats 4000000 in
theorem vX12_likeOf {l : Launch} {G : gG} (x1 : Int) (rx1 : gR x1) (σ : gS) (Q : Int → gS → Prop) (h : kX12_likeOf_2 l G  x1 0 σ Q) : eX12_likeOf l G x1 σ Q := by
  refine ga_entry rfl (Nat.le_of_ble_eq_true rfl) ?_
  show gAt l G mX12_likeOf (gQi G Q) 0 [(0, .ref (G.2.1 88)), (1, vI x1)] [] σ
  refine ga_iconst dX12_likeOf_0 ?_
  refine ga_istore_n (ls' := [(2, vI 0), (0, .ref (G.2.1 88)), (1, vI x1)]) dX12_likeOf_1 rfl (by decide) rfl ?_
  exact ga_sub [1, 2, 0] rfl h
set_option maxRecDepth 100000 in
set_option maxHeartbeats 4000000 in
theorem vX12_likeOf_2 {l : Launch} {G : gG}  (x1 : Int) (x2 : Int) (rx1 : gR x1) (rx2 : gR x2) (σ : gS) (Q : Int → gS → Prop) (h : (x1 ≤ x2 → Q (-1) σ) ∧
  (x2 < x1 → kX12_likeOf_12 l G  x1 x2 1 0 σ Q)) : kX12_likeOf_2 l G  x1 x2 σ Q := by
  refine ga_iload_n 2 dX12_likeOf_2 rfl rfl ?_
  refine ga_iload_n 1 dX12_likeOf_3 rfl rfl ?_
  obtain ⟨ht, hf⟩ := h
  refine ga_icmp_ge (tgt := 74) dX12_likeOf_4 (by decide) rx2 rx1 (fun q1 => ?_) (fun q1 => ?_)
  · replace q1 : x1 ≤ x2 := q1
    have h := ht q1
    refine ga_iconst dX12_likeOf_74 ?_
    exact ga_iret dX12_likeOf_75 rfl (by decide) h
  · replace q1 : x2 < x1 := (Int.not_le.mp q1)
    have h := hf q1
    refine ga_iconst dX12_likeOf_7 ?_
    refine ga_istore_n (ls' := [(3, vI 1), (0, .ref (G.2.1 88)), (1, vI x1), (2, vI x2)]) dX12_likeOf_8 rfl (by decide) rfl ?_
    refine ga_iconst dX12_likeOf_9 ?_
    refine ga_istore (ls' := [(4, vI 0), (3, vI 1), (0, .ref (G.2.1 88)), (1, vI x1), (2, vI x2)]) dX12_likeOf_10 (by decide) rfl ?_
    exact ga_sub [2, 3, 4, 1, 0] rfl h
set_option maxRecDepth 100000 in
set_option maxHeartbeats 4000000 in
theorem vX12_likeOf_12 {l : Launch} {G : gG}  (x1 : Int) (x2 : Int) (x3 : Int) (x4 : Int) (rx1 : gR x1) (rx2 : gR x2) (rx3 : gR x3) (rx4 : gR x4) (σ : gS) (Q : Int → gS → Prop) (h : (12 ≤ x4 → (x3 = 0 → kX12_likeOf_2 l G  x1 (x2 + 1) σ Q) ∧
    (¬ x3 = 0 → Q x2 σ)) ∧
  (x4 < 12 → ((x3 = 0 → True) ∧
    (¬ x3 = 0 → (0 ≤ ((12 * x2) + x4) ∧ ((12 * x2) + x4) < 14400) ∧ (0 ≤ ((12 * x1) + x4) ∧ ((12 * x1) + x4) < 14400) ∧ (¬ (gI σ 114 ((12 * x2) + x4)) = (gI σ 114 ((12 * x1) + x4)) → True) ∧
      ((gI σ 114 ((12 * x2) + x4)) = (gI σ 114 ((12 * x1) + x4)) → True))) ∧
    (∀ v11 : Int, v11 = (if x3 = 0 then 0 else (if (gI σ 114 ((12 * x2) + x4)) = (gI σ 114 ((12 * x1) + x4)) then 1 else 0)) →
    kX12_likeOf_12 l G  x1 x2 v11 (x4 + 1) σ Q))) : kX12_likeOf_12 l G  x1 x2 x3 x4 σ Q := by
  refine ga_iload 4 dX12_likeOf_12 rfl ?_
  refine ga_bipush dX12_likeOf_14 (by decide) ?_
  obtain ⟨ht, hf⟩ := h
  refine ga_icmp_ge (tgt := 62) dX12_likeOf_16 (by decide) rx4 (by decide) (fun q2 => ?_) (fun q2 => ?_)
  · replace q2 : 12 ≤ x4 := q2
    have h := ht q2
    refine ga_iload_n 3 dX12_likeOf_62 rfl rfl ?_
    obtain ⟨ht, hf⟩ := h
    refine ga_if_eq (tgt := 68) dX12_likeOf_63 (by decide) rx3 (fun q3 => ?_) (fun q3 => ?_)
    · replace q3 : x3 = 0 := q3
      have h := ht q3
      refine ga_iinc (ls' := [(2, vI (x2 + 1)), (0, .ref (G.2.1 88)), (1, vI x1), (3, vI x3), (4, vI x4)]) 2 dX12_likeOf_68 rfl (by decide) rfl ?_
      refine ga_goto (tgt := 2) dX12_likeOf_71 (by decide) ?_
      exact ga_sub [1, 2, 0] rfl h
    · replace q3 : ¬ x3 = 0 := q3
      have h := hf q3
      refine ga_iload_n 2 dX12_likeOf_66 rfl rfl ?_
      exact ga_iret dX12_likeOf_67 rfl rx2 h
  · replace q2 : x4 < 12 := (Int.not_le.mp q2)
    have h := hf q2
    refine ga_iload_n 3 dX12_likeOf_19 rfl rfl ?_
    obtain ⟨hob, h⟩ := h
    have kJ4 : ∀ v11 : Int, gR v11 → (v11 = 0 ∨ v11 = 1) → v11 = (if x3 = 0 then 0 else (if (gI σ 114 ((12 * x2) + x4)) = (gI σ 114 ((12 * x1) + x4)) then 1 else 0)) → gAt l G mX12_likeOf (gQi G Q) 55 [(0, .ref (G.2.1 88)), (1, vI x1), (2, vI x2), (3, vI x3), (4, vI x4)] [vI v11] σ := by
      intro v11 rv11 bv11 ev11
      replace h := h v11 ev11
      refine ga_istore_n (ls' := [(3, vI v11), (0, .ref (G.2.1 88)), (1, vI x1), (2, vI x2), (4, vI x4)]) dX12_likeOf_55 rfl (by decide) rfl ?_
      refine ga_iinc (ls' := [(4, vI (x4 + 1)), (3, vI v11), (0, .ref (G.2.1 88)), (1, vI x1), (2, vI x2)]) 4 dX12_likeOf_56 rfl (by decide) rfl ?_
      refine ga_goto (tgt := 12) dX12_likeOf_59 (by decide) ?_
      exact ga_sub [2, 3, 4, 1, 0] rfl h
    replace h := hob
    obtain ⟨ht, hf⟩ := h
    refine ga_if_eq (tgt := 54) dX12_likeOf_20 (by decide) rx3 (fun q5 => ?_) (fun q5 => ?_)
    · replace q5 : x3 = 0 := q5
      have h := ht q5
      refine ga_iconst dX12_likeOf_54 ?_
      exact kJ4 0 (by decide) (Or.inl rfl) (by rw [if_pos q5])
    · replace q5 : ¬ x3 = 0 := q5
      have h := hf q5
      refine ga_aload_n 0 dX12_likeOf_23 rfl rfl ?_
      refine ga_getR (kI := 46) (r := 114) dX12_likeOf_24 fX12_86 rfl rfl (by decide) rfl ?_
      refine ga_bipush dX12_likeOf_27 (by decide) ?_
      refine ga_iload_n 2 dX12_likeOf_29 rfl rfl ?_
      refine ga_imul dX12_likeOf_30 ?_
      refine ga_iload 4 dX12_likeOf_31 rfl ?_
      refine ga_iadd dX12_likeOf_33 ?_
      obtain ⟨i6, h⟩ := h
      refine ga_iald (nI := 14400) dX12_likeOf_34 rfl rfl i6 (fun r7 => ?_)
      refine ga_aload_n 0 dX12_likeOf_35 rfl rfl ?_
      refine ga_getR (kI := 46) (r := 114) dX12_likeOf_36 fX12_86 rfl rfl (by decide) rfl ?_
      refine ga_bipush dX12_likeOf_39 (by decide) ?_
      refine ga_iload_n 1 dX12_likeOf_41 rfl rfl ?_
      refine ga_imul dX12_likeOf_42 ?_
      refine ga_iload 4 dX12_likeOf_43 rfl ?_
      refine ga_iadd dX12_likeOf_45 ?_
      obtain ⟨i8, h⟩ := h
      refine ga_iald (nI := 14400) dX12_likeOf_46 rfl rfl i8 (fun r9 => ?_)
      obtain ⟨ht, hf⟩ := h
      refine ga_icmp_ne (tgt := 54) dX12_likeOf_47 (by decide) r7 r9 (fun q10 => ?_) (fun q10 => ?_)
      · replace q10 : ¬ (gI σ 114 ((12 * x2) + x4)) = (gI σ 114 ((12 * x1) + x4)) := q10
        have h := ht q10
        refine ga_iconst dX12_likeOf_54 ?_
        exact kJ4 0 (by decide) (Or.inl rfl) (by rw [if_neg q5, if_neg q10])
      · replace q10 : (gI σ 114 ((12 * x2) + x4)) = (gI σ 114 ((12 * x1) + x4)) := (Decidable.not_not.mp q10)
        have h := hf q10
        refine ga_iconst dX12_likeOf_50 ?_
        refine ga_goto (tgt := 55) dX12_likeOf_51 (by decide) ?_
        exact kJ4 1 (by decide) (Or.inr rfl) (by rw [if_neg q5, if_pos q10])
abbrev eX12_rhythm (l : Launch) (G : gG) (x1 : Int) (x2 : Int) (σ : gS) (Q : Int → gS → Prop) : Prop := gEi l G mX12_rhythm [.ref (G.2.1 88), vI x1, vI x2] σ Q
abbrev kX12_rhythm_34 (l : Launch) (G : gG)  (x1 : Int) (x2 : Int) (x3 : Int) (x4 : Int) (σ : gS) (Q : Int → gS → Prop) : Prop := gAt l G mX12_rhythm (gQi G Q) 34 [(0, .ref (G.2.1 88)), (1, vI x1), (2, vI x2), (3, vI x3), (4, vI x4)] [] σ
abbrev kX12_rhythm_97 (l : Launch) (G : gG)  (x1 : Int) (x2 : Int) (x3 : Int) (x4 : Int) (x5 : Int) (x6 : Int) (σ : gS) (Q : Int → gS → Prop) : Prop := gAt l G mX12_rhythm (gQi G Q) 97 [(0, .ref (G.2.1 88)), (1, vI x1), (2, vI x2), (3, vI x3), (4, vI x4), (5, vI x5), (6, vI x6)] [] σ
abbrev kX12_rhythm_149 (l : Launch) (G : gG)  (x1 : Int) (x2 : Int) (x3 : Int) (x4 : Int) (x5 : Int) (x6 : Int) (σ : gS) (Q : Int → gS → Prop) : Prop := gAt l G mX12_rhythm (gQi G Q) 149 [(0, .ref (G.2.1 88)), (1, vI x1), (2, vI x2), (3, vI x3), (4, vI x4), (5, vI x5), (6, vI x6)] [] σ
set_option maxRecDepth 100000 in
set_option maxHeartbeats 4000000 in
theorem vX12_rhythm {l : Launch} {G : gG} (x1 : Int) (x2 : Int) (rx1 : gR x1) (rx2 : gR x2) (σ : gS) (Q : Int → gS → Prop) (h : eX12_isCrossbar l G x1 σ (fun v3 σ1 => (v3 = 0 ∨ v3 = 1) →
  (v3 = 0 → Q (-2) σ1) ∧
  (¬ v3 = 0 → eX12_isIn l G x2 0 3 σ1 (fun v7 σ5 => (v7 = 0 ∨ v7 = 1) →
    (¬ v7 = 0 → eX12_begins l G  σ5 (fun σ9 =>
      eX12_keepsPointers l G 0 σ9 (fun σ11 =>
      kX12_rhythm_34 l G  x1 x2 0 (-1) σ11 Q))) ∧
    (v7 = 0 → Q (-2) σ5))))) : eX12_rhythm l G x1 x2 σ Q := by
  refine ga_entry rfl (Nat.le_of_ble_eq_true rfl) ?_
  show gAt l G mX12_rhythm (gQi G Q) 0 [(0, .ref (G.2.1 88)), (1, vI x1), (2, vI x2)] [] σ
  refine ga_aload_n 0 dX12_rhythm_0 rfl rfl ?_
  refine ga_iload_n 1 dX12_rhythm_1 rfl rfl ?_
  refine ga_callVz (z := mX12_isCrossbar) (As := [vI x1]) (rest := []) dX12_rhythm_2 wX12_344 qX12_rhythm_X12_isCrossbar rfl ⟨_, rfl, rfl⟩ rfl rfl (Nat.le_of_ble_eq_true rfl) (gEz_mono h (fun v3 σ1 h r2 => ?_))
  replace h := h r2
  obtain ⟨ht, hf⟩ := h
  refine ga_if_eq (tgt := 17) dX12_rhythm_5 (by decide) (gR_01 r2) (fun q4 => ?_) (fun q4 => ?_)
  · replace q4 : v3 = 0 := q4
    have h := ht q4
    refine ga_bipush dX12_rhythm_17 (by decide) ?_
    exact ga_iret dX12_rhythm_19 rfl (by decide) h
  · replace q4 : ¬ v3 = 0 := q4
    have h := hf q4
    refine ga_iload_n 2 dX12_rhythm_8 rfl rfl ?_
    refine ga_iconst dX12_rhythm_9 ?_
    refine ga_iconst dX12_rhythm_10 ?_
    refine ga_callSz (z := mX12_isIn) (As := [vI x2, vI 0, vI 3]) (rest := []) dX12_rhythm_11 wX12_196 qX12_rhythm_X12_isIn rfl rfl (Nat.le_of_ble_eq_true rfl) (gEz_mono h (fun v7 σ5 h r6 => ?_))
    replace h := h r6
    obtain ⟨ht, hf⟩ := h
    refine ga_if_ne (tgt := 20) dX12_rhythm_14 (by decide) (gR_01 r6) (fun q8 => ?_) (fun q8 => ?_)
    · replace q8 : ¬ v7 = 0 := q8
      have h := ht q8
      refine ga_aload_n 0 dX12_rhythm_20 rfl rfl ?_
      refine ga_callVv (z := mX12_begins) (As := []) (rest := []) dX12_rhythm_21 wX12_334 qX12_rhythm_X12_begins rfl ⟨_, rfl, rfl⟩ rfl rfl (Nat.le_of_ble_eq_true rfl) (gEv_mono h (fun σ9 h => ?_))
      refine ga_aload_n 0 dX12_rhythm_24 rfl rfl ?_
      refine ga_iconst dX12_rhythm_25 ?_
      refine ga_callVv (z := mX12_keepsPointers) (As := [vI 0]) (rest := []) dX12_rhythm_26 wX12_360 qX12_rhythm_X12_keepsPointers rfl ⟨_, rfl, rfl⟩ rfl rfl (Nat.le_of_ble_eq_true rfl) (gEv_mono h (fun σ11 h => ?_))
      refine ga_iconst dX12_rhythm_29 ?_
      refine ga_istore_n (ls' := [(3, vI 0), (0, .ref (G.2.1 88)), (1, vI x1), (2, vI x2)]) dX12_rhythm_30 rfl (by decide) rfl ?_
      refine ga_iconst dX12_rhythm_31 ?_
      refine ga_istore (ls' := [(4, vI (-1)), (3, vI 0), (0, .ref (G.2.1 88)), (1, vI x1), (2, vI x2)]) dX12_rhythm_32 (by decide) rfl ?_
      exact ga_sub [2, 3, 4, 1, 0] rfl h
    · replace q8 : v7 = 0 := (Decidable.not_not.mp q8)
      have h := hf q8
      refine ga_bipush dX12_rhythm_17 (by decide) ?_
      exact ga_iret dX12_rhythm_19 rfl (by decide) h
set_option maxRecDepth 100000 in
set_option maxHeartbeats 4000000 in
theorem vX12_rhythm_34 {l : Launch} {G : gG}  (x1 : Int) (x2 : Int) (x3 : Int) (x4 : Int) (rx1 : gR x1) (rx2 : gR x2) (rx3 : gR x3) (rx4 : gR x4) (σ : gS) (Q : Int → gS → Prop) (h : (¬ x4 = (-1) → (2 ≤ x2 → kX12_rhythm_97 l G  x1 x2 x3 x4 0 x4 σ Q) ∧
    (x2 < 2 → ((¬ x2 = 0 → (gR (x3 - x4)) ∧ True) ∧
      (x2 = 0 → True)) ∧
      (∀ v18 : Int, v18 = (if x2 = 0 then x3 else (x3 - x4)) →
      Q v18 σ))) ∧
  (x4 = (-1) → eX12_loads l G  σ (fun σ19 =>
    eX12_matchedNow l G  σ19 (fun v23 σ21 => gR v23 →
    (0 ≤ x3 ∧ x3 < 1200) ∧ ∀ σ25, σ25 = sI σ21 115 x3 v23 →
    eX12_keepsPointers l G (x3 + 1) σ25 (fun σ26 =>
    eX12_likeOf l G (x3 + 1) σ26 (fun v30 σ28 => gR v30 →
    kX12_rhythm_34 l G  x1 x2 (x3 + 1) v30 σ28 Q)))))) : kX12_rhythm_34 l G  x1 x2 x3 x4 σ Q := by
  refine ga_iload 4 dX12_rhythm_34 rfl ?_
  refine ga_iconst dX12_rhythm_36 ?_
  obtain ⟨ht, hf⟩ := h
  refine ga_icmp_ne (tgt := 72) dX12_rhythm_37 (by decide) rx4 (by decide) (fun q13 => ?_) (fun q13 => ?_)
  · replace q13 : ¬ x4 = (-1) := q13
    have h := ht q13
    refine ga_iload_n 2 dX12_rhythm_72 rfl rfl ?_
    refine ga_iconst dX12_rhythm_73 ?_
    obtain ⟨ht, hf⟩ := h
    refine ga_icmp_ge (tgt := 90) dX12_rhythm_74 (by decide) rx2 (by decide) (fun q14 => ?_) (fun q14 => ?_)
    · replace q14 : 2 ≤ x2 := q14
      have h := ht q14
      refine ga_iconst dX12_rhythm_90 ?_
      refine ga_istore (ls' := [(5, vI 0), (0, .ref (G.2.1 88)), (1, vI x1), (2, vI x2), (3, vI x3), (4, vI x4)]) dX12_rhythm_91 (by decide) rfl ?_
      refine ga_iload 5 dX12_rhythm_93 rfl ?_
      refine ga_istore (ls' := [(6, vI x4), (5, vI 0), (0, .ref (G.2.1 88)), (1, vI x1), (2, vI x2), (3, vI x3), (4, vI x4)]) dX12_rhythm_95 (by decide) rfl ?_
      exact ga_sub [2, 3, 4, 5, 6, 1, 0] rfl h
    · replace q14 : x2 < 2 := (Int.not_le.mp q14)
      have h := hf q14
      refine ga_iload_n 2 dX12_rhythm_77 rfl rfl ?_
      obtain ⟨hob, h⟩ := h
      have kJ15 : ∀ v18 : Int, gR v18 → v18 = (if x2 = 0 then x3 else (x3 - x4)) → gAt l G mX12_rhythm (gQi G Q) 89 [(0, .ref (G.2.1 88)), (1, vI x1), (2, vI x2), (3, vI x3), (4, vI x4)] [vI v18] σ := by
        intro v18 rv18 ev18
        replace h := h v18 ev18
        exact ga_iret dX12_rhythm_89 rfl rv18 h
      replace h := hob
      obtain ⟨ht, hf⟩ := h
      refine ga_if_ne (tgt := 85) dX12_rhythm_78 (by decide) rx2 (fun q16 => ?_) (fun q16 => ?_)
      · replace q16 : ¬ x2 = 0 := q16
        have h := ht q16
        refine ga_iload_n 3 dX12_rhythm_85 rfl rfl ?_
        refine ga_iload 4 dX12_rhythm_86 rfl ?_
        refine ga_isub dX12_rhythm_88 ?_
        obtain ⟨r17, h⟩ := h
        exact kJ15 (x3 - x4) r17 (by rw [if_neg q16])
      · replace q16 : x2 = 0 := (Decidable.not_not.mp q16)
        have h := hf q16
        refine ga_iload_n 3 dX12_rhythm_81 rfl rfl ?_
        refine ga_goto (tgt := 89) dX12_rhythm_82 (by decide) ?_
        exact kJ15 x3 rx3 (by rw [if_pos q16])
  · replace q13 : x4 = (-1) := (Decidable.not_not.mp q13)
    have h := hf q13
    refine ga_aload_n 0 dX12_rhythm_40 rfl rfl ?_
    refine ga_callVv (z := mX12_loads) (As := []) (rest := []) dX12_rhythm_41 wX12_357 qX12_rhythm_X12_loads rfl ⟨_, rfl, rfl⟩ rfl rfl (Nat.le_of_ble_eq_true rfl) (gEv_mono h (fun σ19 h => ?_))
    refine ga_aload_n 0 dX12_rhythm_44 rfl rfl ?_
    refine ga_getR (kI := 47) (r := 115) dX12_rhythm_45 fX12_89 rfl rfl (by decide) rfl ?_
    refine ga_iload_n 3 dX12_rhythm_48 rfl rfl ?_
    refine ga_aload_n 0 dX12_rhythm_49 rfl rfl ?_
    refine ga_callVi (z := mX12_matchedNow) (As := []) (rest := [vI x3, .ref (G.2.1 115)]) dX12_rhythm_50 wX12_363 qX12_rhythm_X12_matchedNow rfl ⟨_, rfl, rfl⟩ rfl rfl (Nat.le_of_ble_eq_true rfl) (gEi_mono h (fun v23 σ21 h r22 => ?_))
    replace h := h r22
    obtain ⟨i24, h⟩ := h
    obtain ⟨σ25, eσ25⟩ : ∃ z, z = sI σ21 115 x3 v23 := ⟨_, rfl⟩
    replace h := h σ25 eσ25
    refine ga_iast (nI := 1200) dX12_rhythm_53 rfl rfl i24 r22 eσ25 ?_
    refine ga_iinc (ls' := [(3, vI (x3 + 1)), (0, .ref (G.2.1 88)), (1, vI x1), (2, vI x2), (4, vI x4)]) 3 dX12_rhythm_54 rfl (by decide) rfl ?_
    refine ga_aload_n 1 dX12_rhythm_57 rfl rfl ?_
    refine ga_iload_n 0 dX12_rhythm_58 rfl rfl ?_
    refine ga_callVv (z := mX12_keepsPointers) (As := [vI (x3 + 1)]) (rest := []) dX12_rhythm_59 wX12_360 qX12_rhythm_X12_keepsPointers rfl ⟨_, rfl, rfl⟩ rfl rfl (Nat.le_of_ble_eq_true rfl) (gEv_mono h (fun σ26 h => ?_))
    refine ga_aload_n 1 dX12_rhythm_62 rfl rfl ?_
    refine ga_iload_n 0 dX12_rhythm_63 rfl rfl ?_
    refine ga_callVi (z := mX12_likeOf) (As := [vI (x3 + 1)]) (rest := []) dX12_rhythm_64 wX12_366 qX12_rhythm_X12_likeOf rfl ⟨_, rfl, rfl⟩ rfl rfl (Nat.le_of_ble_eq_true rfl) (gEi_mono h (fun v30 σ28 h r29 => ?_))
    replace h := h r29
    refine ga_istore (ls' := [(4, vI v30), (3, vI (x3 + 1)), (0, .ref (G.2.1 88)), (1, vI x1), (2, vI x2)]) dX12_rhythm_67 (by decide) rfl ?_
    refine ga_goto (tgt := 34) dX12_rhythm_69 (by decide) ?_
    exact ga_sub [2, 3, 4, 1, 0] rfl h
set_option maxRecDepth 100000 in
set_option maxHeartbeats 4000000 in
theorem vX12_rhythm_97 {l : Launch} {G : gG}  (x1 : Int) (x2 : Int) (x3 : Int) (x4 : Int) (x5 : Int) (x6 : Int) (rx1 : gR x1) (rx2 : gR x2) (rx3 : gR x3) (rx4 : gR x4) (rx5 : gR x5) (rx6 : gR x6) (σ : gS) (Q : Int → gS → Prop) (h : (x3 ≤ x6 → (¬ x2 = 2 → (gR ((gI σ 88 10) * (x3 - x4))) ∧ (((gI σ 88 10) * (x3 - x4)) ≤ x5 → kX12_rhythm_149 l G  x1 x2 x3 x4 x5 x4 σ Q) ∧
      (x5 < ((gI σ 88 10) * (x3 - x4)) → Q (-1) σ)) ∧
    (x2 = 2 → Q x5 σ)) ∧
  (x6 < x3 → (0 ≤ x6 ∧ x6 < 1200) ∧ kX12_rhythm_97 l G  x1 x2 x3 x4 (x5 + (gI σ 115 x6)) (x6 + 1) σ Q)) : kX12_rhythm_97 l G  x1 x2 x3 x4 x5 x6 σ Q := by
  refine ga_iload 6 dX12_rhythm_97 rfl ?_
  refine ga_iload_n 3 dX12_rhythm_99 rfl rfl ?_
  obtain ⟨ht, hf⟩ := h
  refine ga_icmp_ge (tgt := 121) dX12_rhythm_100 (by decide) rx6 rx3 (fun q31 => ?_) (fun q31 => ?_)
  · replace q31 : x3 ≤ x6 := q31
    have h := ht q31
    refine ga_iload_n 2 dX12_rhythm_121 rfl rfl ?_
    refine ga_iconst dX12_rhythm_122 ?_
    obtain ⟨ht, hf⟩ := h
    refine ga_icmp_ne (tgt := 129) dX12_rhythm_123 (by decide) rx2 (by decide) (fun q32 => ?_) (fun q32 => ?_)
    · replace q32 : ¬ x2 = 2 := q32
      have h := ht q32
      refine ga_iload 5 dX12_rhythm_129 rfl ?_
      refine ga_aload_n 0 dX12_rhythm_131 rfl rfl ?_
      refine ga_getI (kI := 10) dX12_rhythm_132 fX12_236 rfl rfl rfl (fun r33 => ?_)
      refine ga_iload_n 3 dX12_rhythm_135 rfl rfl ?_
      refine ga_iload 4 dX12_rhythm_136 rfl ?_
      refine ga_isub dX12_rhythm_138 ?_
      refine ga_imul dX12_rhythm_139 ?_
      obtain ⟨r34, h⟩ := h
      obtain ⟨ht, hf⟩ := h
      refine ga_icmp_ge (tgt := 145) dX12_rhythm_140 (by decide) rx5 r34 (fun q35 => ?_) (fun q35 => ?_)
      · replace q35 : ((gI σ 88 10) * (x3 - x4)) ≤ x5 := q35
        have h := ht q35
        refine ga_iload 4 dX12_rhythm_145 rfl ?_
        refine ga_istore (ls' := [(6, vI x4), (0, .ref (G.2.1 88)), (1, vI x1), (2, vI x2), (3, vI x3), (4, vI x4), (5, vI x5)]) dX12_rhythm_147 (by decide) rfl ?_
        exact ga_sub [1, 2, 3, 4, 5, 6, 0] rfl h
      · replace q35 : x5 < ((gI σ 88 10) * (x3 - x4)) := (Int.not_le.mp q35)
        have h := hf q35
        refine ga_iconst dX12_rhythm_143 ?_
        exact ga_iret dX12_rhythm_144 rfl (by decide) h
    · replace q32 : x2 = 2 := (Decidable.not_not.mp q32)
      have h := hf q32
      refine ga_iload 5 dX12_rhythm_126 rfl ?_
      exact ga_iret dX12_rhythm_128 rfl rx5 h
  · replace q31 : x6 < x3 := (Int.not_le.mp q31)
    have h := hf q31
    refine ga_iload 5 dX12_rhythm_103 rfl ?_
    refine ga_aload_n 0 dX12_rhythm_105 rfl rfl ?_
    refine ga_getR (kI := 47) (r := 115) dX12_rhythm_106 fX12_89 rfl rfl (by decide) rfl ?_
    refine ga_iload 6 dX12_rhythm_109 rfl ?_
    obtain ⟨i36, h⟩ := h
    refine ga_iald (nI := 1200) dX12_rhythm_111 rfl rfl i36 (fun r37 => ?_)
    refine ga_iadd dX12_rhythm_112 ?_
    refine ga_istore (ls' := [(5, vI (x5 + (gI σ 115 x6))), (0, .ref (G.2.1 88)), (1, vI x1), (2, vI x2), (3, vI x3), (4, vI x4), (6, vI x6)]) dX12_rhythm_113 (by decide) rfl ?_
    refine ga_iinc (ls' := [(6, vI (x6 + 1)), (5, vI (x5 + (gI σ 115 x6))), (0, .ref (G.2.1 88)), (1, vI x1), (2, vI x2), (3, vI x3), (4, vI x4)]) 6 dX12_rhythm_115 rfl (by decide) rfl ?_
    refine ga_goto (tgt := 97) dX12_rhythm_118 (by decide) ?_
    exact ga_sub [2, 3, 4, 5, 6, 1, 0] rfl h
set_option maxRecDepth 100000 in
set_option maxHeartbeats 4000000 in
theorem vX12_rhythm_149 {l : Launch} {G : gG}  (x1 : Int) (x2 : Int) (x3 : Int) (x4 : Int) (x5 : Int) (x6 : Int) (rx1 : gR x1) (rx2 : gR x2) (rx3 : gR x3) (rx4 : gR x4) (rx5 : gR x5) (rx6 : gR x6) (σ : gS) (Q : Int → gS → Prop) (h : (x6 ≤ 0 → Q x6 σ) ∧
  (0 < x6 → (0 ≤ (x6 - 1) ∧ (x6 - 1) < 1200) ∧ (¬ (gI σ 115 (x6 - 1)) = (gI σ 88 10) → Q x6 σ) ∧
    ((gI σ 115 (x6 - 1)) = (gI σ 88 10) → kX12_rhythm_149 l G  x1 x2 x3 x4 x5 (x6 + (-1)) σ Q))) : kX12_rhythm_149 l G  x1 x2 x3 x4 x5 x6 σ Q := by
  refine ga_iload 6 dX12_rhythm_149 rfl ?_
  obtain ⟨ht, hf⟩ := h
  refine ga_if_le (tgt := 176) dX12_rhythm_151 (by decide) rx6 (fun q38 => ?_) (fun q38 => ?_)
  · replace q38 : x6 ≤ 0 := q38
    have h := ht q38
    refine ga_iload 6 dX12_rhythm_176 rfl ?_
    exact ga_iret dX12_rhythm_178 rfl rx6 h
  · replace q38 : 0 < x6 := (Int.not_le.mp q38)
    have h := hf q38
    refine ga_aload_n 0 dX12_rhythm_154 rfl rfl ?_
    refine ga_getR (kI := 47) (r := 115) dX12_rhythm_155 fX12_89 rfl rfl (by decide) rfl ?_
    refine ga_iload 6 dX12_rhythm_158 rfl ?_
    refine ga_iconst dX12_rhythm_160 ?_
    refine ga_isub dX12_rhythm_161 ?_
    obtain ⟨i39, h⟩ := h
    refine ga_iald (nI := 1200) dX12_rhythm_162 rfl rfl i39 (fun r40 => ?_)
    refine ga_aload_n 0 dX12_rhythm_163 rfl rfl ?_
    refine ga_getI (kI := 10) dX12_rhythm_164 fX12_236 rfl rfl rfl (fun r41 => ?_)
    obtain ⟨ht, hf⟩ := h
    refine ga_icmp_ne (tgt := 176) dX12_rhythm_167 (by decide) r40 r41 (fun q42 => ?_) (fun q42 => ?_)
    · replace q42 : ¬ (gI σ 115 (x6 - 1)) = (gI σ 88 10) := q42
      have h := ht q42
      refine ga_iload 6 dX12_rhythm_176 rfl ?_
      exact ga_iret dX12_rhythm_178 rfl rx6 h
    · replace q42 : (gI σ 115 (x6 - 1)) = (gI σ 88 10) := (Decidable.not_not.mp q42)
      have h := hf q42
      refine ga_iinc (ls' := [(6, vI (x6 + (-1))), (0, .ref (G.2.1 88)), (1, vI x1), (2, vI x2), (3, vI x3), (4, vI x4), (5, vI x5)]) 6 dX12_rhythm_170 rfl (by decide) rfl ?_
      refine ga_goto (tgt := 149) dX12_rhythm_173 (by decide) ?_
      exact ga_sub [1, 2, 3, 4, 5, 6, 0] rfl h
