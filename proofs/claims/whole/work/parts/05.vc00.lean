abbrev eX0_add (l : Launch) (G : gG) (x1 : Int) (x2 : Int) (x3 : Int) (x4 : Int) (x5 : Int) (σ : gS) (Q : Int → gS → Prop) : Prop := gEi l G mX0_add [.ref (G.2.1 33), vI x1, vI x2, vI x3, vI x4, vI x5] σ Q
set_option maxRecDepth 100000 in
set_option maxHeartbeats 4000000 in
theorem vX0_add {l : Launch} {G : gG} (x1 : Int) (x2 : Int) (x3 : Int) (x4 : Int) (x5 : Int) (rx1 : gR x1) (rx2 : gR x2) (rx3 : gR x3) (rx4 : gR x4) (rx5 : gR x5) (σ : gS) (Q : Int → gS → Prop) (h : ((gI σ 33 0) < 360 → (0 ≤ (gI σ 33 0) ∧ (gI σ 33 0) < 360) ∧ ∀ σ5, σ5 = sI σ 34 (gI σ 33 0) x1 →
    ∀ σ6, σ6 = sI σ5 35 (gI σ 33 0) x2 →
    (x3 = 0 ∨ x3 = 1) ∧ ∀ σ7, σ7 = sI σ6 36 (gI σ 33 0) x3 →
    ∀ σ9, σ9 = sI σ7 37 (gI σ 33 0) x4 →
    ∀ σ10, σ10 = sI σ9 38 (gI σ 33 0) (-1) →
    (x5 = 0 ∨ x5 = 1) ∧ ∀ σ11, σ11 = sI σ10 39 (gI σ 33 0) x5 →
    ∀ σ13, σ13 = sI σ11 40 (gI σ 33 0) 0 →
    (gR ((gI σ13 33 0) + 1)) ∧ ∀ σ15, σ15 = sI σ13 33 0 ((gI σ13 33 0) + 1) →
    Q (gI σ 33 0) σ15) ∧
  (360 ≤ (gI σ 33 0) → Q (-1) σ)) : eX0_add l G x1 x2 x3 x4 x5 σ Q := by
  refine ga_entry rfl (Nat.le_of_ble_eq_true rfl) ?_
  show gAt l G mX0_add (gQi G Q) 0 [(0, .ref (G.2.1 33)), (1, vI x1), (2, vI x2), (3, vI x3), (4, vI x4), (5, vI x5)] [] σ
  refine ga_aload_n 0 dX0_add_0 rfl rfl ?_
  refine ga_getI (kI := 0) dX0_add_1 fX0_34 rfl rfl rfl (fun r1 => ?_)
  refine ga_sipush dX0_add_4 (by decide) ?_
  obtain ⟨ht, hf⟩ := h
  refine ga_icmp_lt (tgt := 12) dX0_add_7 (by decide) r1 (by decide) (fun q2 => ?_) (fun q2 => ?_)
  · replace q2 : (gI σ 33 0) < 360 := q2
    have h := ht q2
    refine ga_aload_n 0 dX0_add_12 rfl rfl ?_
    refine ga_getI (kI := 0) dX0_add_13 fX0_34 rfl rfl rfl (fun r3 => ?_)
    refine ga_istore (ls' := [(6, vI (gI σ 33 0)), (0, .ref (G.2.1 33)), (1, vI x1), (2, vI x2), (3, vI x3), (4, vI x4), (5, vI x5)]) dX0_add_16 (by decide) rfl ?_
    refine ga_aload_n 1 dX0_add_18 rfl rfl ?_
    refine ga_getR (kI := 1) (r := 34) dX0_add_19 fX0_9 rfl rfl (by decide) rfl ?_
    refine ga_iload 0 dX0_add_22 rfl ?_
    refine ga_iload_n 2 dX0_add_24 rfl rfl ?_
    obtain ⟨i4, h⟩ := h
    obtain ⟨σ5, eσ5⟩ : ∃ z, z = sI σ 34 (gI σ 33 0) x1 := ⟨_, rfl⟩
    replace h := h σ5 eσ5
    refine ga_iast (nI := 360) dX0_add_25 rfl rfl i4 rx1 eσ5 ?_
    refine ga_aload_n 1 dX0_add_26 rfl rfl ?_
    refine ga_getR (kI := 2) (r := 35) dX0_add_27 fX0_15 rfl rfl (by decide) rfl ?_
    refine ga_iload 0 dX0_add_30 rfl ?_
    refine ga_iload_n 3 dX0_add_32 rfl rfl ?_
    obtain ⟨σ6, eσ6⟩ : ∃ z, z = sI σ5 35 (gI σ 33 0) x2 := ⟨_, rfl⟩
    replace h := h σ6 eσ6
    refine ga_iast (nI := 360) dX0_add_33 rfl rfl i4 rx2 eσ6 ?_
    refine ga_aload_n 1 dX0_add_34 rfl rfl ?_
    refine ga_getR (kI := 3) (r := 36) dX0_add_35 fX0_18 rfl rfl (by decide) rfl ?_
    refine ga_iload 0 dX0_add_38 rfl ?_
    refine ga_iload_n 4 dX0_add_40 rfl rfl ?_
    obtain ⟨o8, h⟩ := h
    obtain ⟨σ7, eσ7⟩ : ∃ z, z = sI σ6 36 (gI σ 33 0) x3 := ⟨_, rfl⟩
    replace h := h σ7 eσ7
    refine ga_zast (nI := 360) dX0_add_41 rfl rfl i4 o8 eσ7 ?_
    refine ga_aload_n 1 dX0_add_42 rfl rfl ?_
    refine ga_getR (kI := 4) (r := 37) dX0_add_43 fX0_22 rfl rfl (by decide) rfl ?_
    refine ga_iload 0 dX0_add_46 rfl ?_
    refine ga_iload 5 dX0_add_48 rfl ?_
    obtain ⟨σ9, eσ9⟩ : ∃ z, z = sI σ7 37 (gI σ 33 0) x4 := ⟨_, rfl⟩
    replace h := h σ9 eσ9
    refine ga_iast (nI := 360) dX0_add_50 rfl rfl i4 rx4 eσ9 ?_
    refine ga_aload_n 1 dX0_add_51 rfl rfl ?_
    refine ga_getR (kI := 5) (r := 38) dX0_add_52 fX0_25 rfl rfl (by decide) rfl ?_
    refine ga_iload 0 dX0_add_55 rfl ?_
    refine ga_iconst dX0_add_57 ?_
    obtain ⟨σ10, eσ10⟩ : ∃ z, z = sI σ9 38 (gI σ 33 0) (-1) := ⟨_, rfl⟩
    replace h := h σ10 eσ10
    refine ga_iast (nI := 360) dX0_add_58 rfl rfl i4 (by decide) eσ10 ?_
    refine ga_aload_n 1 dX0_add_59 rfl rfl ?_
    refine ga_getR (kI := 6) (r := 39) dX0_add_60 fX0_28 rfl rfl (by decide) rfl ?_
    refine ga_iload 0 dX0_add_63 rfl ?_
    refine ga_iload 6 dX0_add_65 rfl ?_
    obtain ⟨o12, h⟩ := h
    obtain ⟨σ11, eσ11⟩ : ∃ z, z = sI σ10 39 (gI σ 33 0) x5 := ⟨_, rfl⟩
    replace h := h σ11 eσ11
    refine ga_zast (nI := 360) dX0_add_67 rfl rfl i4 o12 eσ11 ?_
    refine ga_aload_n 1 dX0_add_68 rfl rfl ?_
    refine ga_getR (kI := 7) (r := 40) dX0_add_69 fX0_31 rfl rfl (by decide) rfl ?_
    refine ga_iload 0 dX0_add_72 rfl ?_
    refine ga_iconst dX0_add_74 ?_
    obtain ⟨σ13, eσ13⟩ : ∃ z, z = sI σ11 40 (gI σ 33 0) 0 := ⟨_, rfl⟩
    replace h := h σ13 eσ13
    refine ga_iast (nI := 360) dX0_add_75 rfl rfl i4 (by decide) eσ13 ?_
    refine ga_aload_n 1 dX0_add_76 rfl rfl ?_
    refine ga_dup dX0_add_77 rfl ?_
    refine ga_getI (kI := 0) dX0_add_78 fX0_34 rfl rfl rfl (fun r14 => ?_)
    refine ga_iconst dX0_add_81 ?_
    refine ga_iadd dX0_add_82 ?_
    obtain ⟨r16, h⟩ := h
    obtain ⟨σ15, eσ15⟩ : ∃ z, z = sI σ13 33 0 ((gI σ13 33 0) + 1) := ⟨_, rfl⟩
    replace h := h σ15 eσ15
    refine ga_putI (kI := 0) dX0_add_83 fX0_34 pX0_0 rfl rfl rfl r16 eσ15 ?_
    refine ga_iload 0 dX0_add_86 rfl ?_
    exact ga_iret dX0_add_88 rfl r3 h
  · replace q2 : 360 ≤ (gI σ 33 0) := (Int.not_lt.mp q2)
    have h := hf q2
    refine ga_iconst dX0_add_10 ?_
    exact ga_iret dX0_add_11 rfl (by decide) h
abbrev eX0_tell (l : Launch) (G : gG) (x1 : Int) (x2 : Int) (σ : gS) (Q : Int → gS → Prop) : Prop := gEi l G mX0_tell [.ref (G.2.1 33), vI x1, vI x2] σ Q
set_option maxRecDepth 100000 in
set_option maxHeartbeats 4000000 in
theorem vX0_tell {l : Launch} {G : gG} (x1 : Int) (x2 : Int) (rx1 : gR x1) (rx2 : gR x2) (σ : gS) (Q : Int → gS → Prop) (h : (x1 < 0 → Q (-2) σ) ∧
  (0 ≤ x1 → (x1 < (gI σ 33 0) → (x2 = 0 → (0 ≤ x1 ∧ x1 < 360) ∧ Q (gI σ 34 x1) σ) ∧
      (x2 = 1 → (0 ≤ x1 ∧ x1 < 360) ∧ Q (gI σ 35 x1) σ) ∧
      (x2 = 2 → (0 ≤ x1 ∧ x1 < 360) ∧ (∀ v12 : Int, v12 = (if (gI σ 36 x1) = 0 then 0 else 1) →
        Q v12 σ)) ∧
      (x2 = 3 → (0 ≤ x1 ∧ x1 < 360) ∧ Q (gI σ 37 x1) σ) ∧
      (x2 = 4 → (0 ≤ x1 ∧ x1 < 360) ∧ Q (gI σ 38 x1) σ) ∧
      (x2 = 5 → (0 ≤ x1 ∧ x1 < 360) ∧ (∀ v21 : Int, v21 = (if (gI σ 39 x1) = 0 then 0 else 1) →
        Q v21 σ)) ∧
      ((x2 < 0 ∨ 5 < x2) → Q (-2) σ)) ∧
    ((gI σ 33 0) ≤ x1 → Q (-2) σ))) : eX0_tell l G x1 x2 σ Q := by
  refine ga_entry rfl (Nat.le_of_ble_eq_true rfl) ?_
  show gAt l G mX0_tell (gQi G Q) 0 [(0, .ref (G.2.1 33)), (1, vI x1), (2, vI x2)] [] σ
  refine ga_iload_n 1 dX0_tell_0 rfl rfl ?_
  obtain ⟨ht, hf⟩ := h
  refine ga_if_lt (tgt := 12) dX0_tell_1 (by decide) rx1 (fun q1 => ?_) (fun q1 => ?_)
  · replace q1 : x1 < 0 := q1
    have h := ht q1
    refine ga_bipush dX0_tell_12 (by decide) ?_
    exact ga_iret dX0_tell_14 rfl (by decide) h
  · replace q1 : 0 ≤ x1 := (Int.not_lt.mp q1)
    have h := hf q1
    refine ga_iload_n 1 dX0_tell_4 rfl rfl ?_
    refine ga_aload_n 0 dX0_tell_5 rfl rfl ?_
    refine ga_getI (kI := 0) dX0_tell_6 fX0_34 rfl rfl rfl (fun r2 => ?_)
    obtain ⟨ht, hf⟩ := h
    refine ga_icmp_lt (tgt := 15) dX0_tell_9 (by decide) rx1 r2 (fun q3 => ?_) (fun q3 => ?_)
    · replace q3 : x1 < (gI σ 33 0) := q3
      have h := ht q3
      refine ga_iload_n 2 dX0_tell_15 rfl rfl ?_
      obtain ⟨hc22, hc23, hc24, hc25, hc26, hc27, hd⟩ := h
      by_cases q28 : x2 = 0
      · refine ga_tableIn (tgt := 56) (v := 0) dX0_tell_16 q28 (by decide) rfl (by decide) ?_
        have h := hc22 q28
        refine ga_aload_n 0 dX0_tell_56 rfl rfl ?_
        refine ga_getR (kI := 1) (r := 34) dX0_tell_57 fX0_9 rfl rfl (by decide) rfl ?_
        refine ga_iload_n 1 dX0_tell_60 rfl rfl ?_
        obtain ⟨i4, h⟩ := h
        refine ga_iald (nI := 360) dX0_tell_61 rfl rfl i4 (fun r5 => ?_)
        exact ga_iret dX0_tell_62 rfl r5 h
      by_cases q29 : x2 = 1
      · refine ga_tableIn (tgt := 63) (v := 1) dX0_tell_16 q29 (by decide) rfl (by decide) ?_
        have h := hc23 q29
        refine ga_aload_n 0 dX0_tell_63 rfl rfl ?_
        refine ga_getR (kI := 2) (r := 35) dX0_tell_64 fX0_15 rfl rfl (by decide) rfl ?_
        refine ga_iload_n 1 dX0_tell_67 rfl rfl ?_
        obtain ⟨i6, h⟩ := h
        refine ga_iald (nI := 360) dX0_tell_68 rfl rfl i6 (fun r7 => ?_)
        exact ga_iret dX0_tell_69 rfl r7 h
      by_cases q30 : x2 = 2
      · refine ga_tableIn (tgt := 70) (v := 2) dX0_tell_16 q30 (by decide) rfl (by decide) ?_
        have h := hc24 q30
        refine ga_aload_n 0 dX0_tell_70 rfl rfl ?_
        refine ga_getR (kI := 3) (r := 36) dX0_tell_71 fX0_18 rfl rfl (by decide) rfl ?_
        refine ga_iload_n 1 dX0_tell_74 rfl rfl ?_
        obtain ⟨i8, h⟩ := h
        refine ga_zald (nI := 360) dX0_tell_75 rfl rfl i8 (fun r9 => ?_)
        have kJ10 : ∀ v12 : Int, gR v12 → (v12 = 0 ∨ v12 = 1) → v12 = (if (gI σ 36 x1) = 0 then 0 else 1) → gAt l G mX0_tell (gQi G Q) 84 [(0, .ref (G.2.1 33)), (1, vI x1), (2, vI x2)] [vI v12] σ := by
          intro v12 rv12 bv12 ev12
          replace h := h v12 ev12
          exact ga_iret dX0_tell_84 rfl rv12 h
        replace h : ((gI σ 36 x1) = 0 → True) ∧
        (¬ (gI σ 36 x1) = 0 → True) := by repeat (first | exact True.intro | apply And.intro | intro _)
        obtain ⟨ht, hf⟩ := h
        refine ga_if_eq (tgt := 83) dX0_tell_76 (by decide) r9 (fun q11 => ?_) (fun q11 => ?_)
        · replace q11 : (gI σ 36 x1) = 0 := q11
          have h := ht q11
          refine ga_iconst dX0_tell_83 ?_
          exact kJ10 0 (by decide) (Or.inl rfl) (by rw [if_pos q11])
        · replace q11 : ¬ (gI σ 36 x1) = 0 := q11
          have h := hf q11
          refine ga_iconst dX0_tell_79 ?_
          refine ga_goto (tgt := 84) dX0_tell_80 (by decide) ?_
          exact kJ10 1 (by decide) (Or.inr rfl) (by rw [if_neg q11])
      by_cases q31 : x2 = 3
      · refine ga_tableIn (tgt := 85) (v := 3) dX0_tell_16 q31 (by decide) rfl (by decide) ?_
        have h := hc25 q31
        refine ga_aload_n 0 dX0_tell_85 rfl rfl ?_
        refine ga_getR (kI := 4) (r := 37) dX0_tell_86 fX0_22 rfl rfl (by decide) rfl ?_
        refine ga_iload_n 1 dX0_tell_89 rfl rfl ?_
        obtain ⟨i13, h⟩ := h
        refine ga_iald (nI := 360) dX0_tell_90 rfl rfl i13 (fun r14 => ?_)
        exact ga_iret dX0_tell_91 rfl r14 h
      by_cases q32 : x2 = 4
      · refine ga_tableIn (tgt := 92) (v := 4) dX0_tell_16 q32 (by decide) rfl (by decide) ?_
        have h := hc26 q32
        refine ga_aload_n 0 dX0_tell_92 rfl rfl ?_
        refine ga_getR (kI := 5) (r := 38) dX0_tell_93 fX0_25 rfl rfl (by decide) rfl ?_
        refine ga_iload_n 1 dX0_tell_96 rfl rfl ?_
        obtain ⟨i15, h⟩ := h
        refine ga_iald (nI := 360) dX0_tell_97 rfl rfl i15 (fun r16 => ?_)
        exact ga_iret dX0_tell_98 rfl r16 h
      by_cases q33 : x2 = 5
      · refine ga_tableIn (tgt := 99) (v := 5) dX0_tell_16 q33 (by decide) rfl (by decide) ?_
        have h := hc27 q33
        refine ga_aload_n 0 dX0_tell_99 rfl rfl ?_
        refine ga_getR (kI := 6) (r := 39) dX0_tell_100 fX0_28 rfl rfl (by decide) rfl ?_
        refine ga_iload_n 1 dX0_tell_103 rfl rfl ?_
        obtain ⟨i17, h⟩ := h
        refine ga_zald (nI := 360) dX0_tell_104 rfl rfl i17 (fun r18 => ?_)
        have kJ19 : ∀ v21 : Int, gR v21 → (v21 = 0 ∨ v21 = 1) → v21 = (if (gI σ 39 x1) = 0 then 0 else 1) → gAt l G mX0_tell (gQi G Q) 113 [(0, .ref (G.2.1 33)), (1, vI x1), (2, vI x2)] [vI v21] σ := by
          intro v21 rv21 bv21 ev21
          replace h := h v21 ev21
          exact ga_iret dX0_tell_113 rfl rv21 h
        replace h : ((gI σ 39 x1) = 0 → True) ∧
        (¬ (gI σ 39 x1) = 0 → True) := by repeat (first | exact True.intro | apply And.intro | intro _)
        obtain ⟨ht, hf⟩ := h
        refine ga_if_eq (tgt := 112) dX0_tell_105 (by decide) r18 (fun q20 => ?_) (fun q20 => ?_)
        · replace q20 : (gI σ 39 x1) = 0 := q20
          have h := ht q20
          refine ga_iconst dX0_tell_112 ?_
          exact kJ19 0 (by decide) (Or.inl rfl) (by rw [if_pos q20])
        · replace q20 : ¬ (gI σ 39 x1) = 0 := q20
          have h := hf q20
          refine ga_iconst dX0_tell_108 ?_
          refine ga_goto (tgt := 113) dX0_tell_109 (by decide) ?_
          exact kJ19 1 (by decide) (Or.inr rfl) (by rw [if_neg q20])
      have hdc : (x2 < 0 ∨ 5 < x2) := by omega
      have h := hd hdc
      refine ga_tableOut (tgt := 114) dX0_tell_16 rx2 hdc (by decide) ?_
      refine ga_bipush dX0_tell_114 (by decide) ?_
      exact ga_iret dX0_tell_116 rfl (by decide) h
    · replace q3 : (gI σ 33 0) ≤ x1 := (Int.not_lt.mp q3)
      have h := hf q3
      refine ga_bipush dX0_tell_12 (by decide) ?_
      exact ga_iret dX0_tell_14 rfl (by decide) h
abbrev eX0_waitOf (l : Launch) (G : gG) (x1 : Int) (σ : gS) (Q : Int → gS → Prop) : Prop := gEi l G mX0_waitOf [.ref (G.2.1 33), vI x1] σ Q
set_option maxRecDepth 100000 in
set_option maxHeartbeats 4000000 in
theorem vX0_waitOf {l : Launch} {G : gG} (x1 : Int) (rx1 : gR x1) (σ : gS) (Q : Int → gS → Prop) (h : (0 ≤ x1 ∧ x1 < 360) ∧ (gR ((gI σ 38 x1) - (gI σ 37 x1))) ∧ Q ((gI σ 38 x1) - (gI σ 37 x1)) σ) : eX0_waitOf l G x1 σ Q := by
  refine ga_entry rfl (Nat.le_of_ble_eq_true rfl) ?_
  show gAt l G mX0_waitOf (gQi G Q) 0 [(0, .ref (G.2.1 33)), (1, vI x1)] [] σ
  refine ga_aload_n 0 dX0_waitOf_0 rfl rfl ?_
  refine ga_getR (kI := 5) (r := 38) dX0_waitOf_1 fX0_25 rfl rfl (by decide) rfl ?_
  refine ga_iload_n 1 dX0_waitOf_4 rfl rfl ?_
  obtain ⟨i1, h⟩ := h
  refine ga_iald (nI := 360) dX0_waitOf_5 rfl rfl i1 (fun r2 => ?_)
  refine ga_aload_n 0 dX0_waitOf_6 rfl rfl ?_
  refine ga_getR (kI := 4) (r := 37) dX0_waitOf_7 fX0_22 rfl rfl (by decide) rfl ?_
  refine ga_iload_n 1 dX0_waitOf_10 rfl rfl ?_
  refine ga_iald (nI := 360) dX0_waitOf_11 rfl rfl i1 (fun r3 => ?_)
  refine ga_isub dX0_waitOf_12 ?_
  obtain ⟨r4, h⟩ := h
  exact ga_iret dX0_waitOf_13 rfl r4 h
abbrev eX1_begin (l : Launch) (G : gG) (x1 : Int) (σ : gS) (Q : gS → Prop) : Prop := gEv l G mX1_begin [.ref (G.2.1 84), vI x1] σ Q
set_option maxRecDepth 100000 in
set_option maxHeartbeats 4000000 in
theorem vX1_begin {l : Launch} {G : gG} (x1 : Int) (rx1 : gR x1) (σ : gS) (Q : gS → Prop) (h : ∀ σ1, σ1 = sI σ 84 1 0 →
  ∀ σ2, σ2 = sI σ1 84 2 0 →
  ∀ σ3, σ3 = sI σ2 84 0 x1 →
  Q σ3) : eX1_begin l G x1 σ Q := by
  refine ga_entry rfl (Nat.le_of_ble_eq_true rfl) ?_
  show gAt l G mX1_begin (gQv G Q) 0 [(0, .ref (G.2.1 84)), (1, vI x1)] [] σ
  refine ga_aload_n 0 dX1_begin_0 rfl rfl ?_
  refine ga_iconst dX1_begin_1 ?_
  obtain ⟨σ1, eσ1⟩ : ∃ z, z = sI σ 84 1 0 := ⟨_, rfl⟩
  replace h := h σ1 eσ1
  refine ga_putI (kI := 1) dX1_begin_2 fX1_21 pX1_1 rfl rfl rfl (by decide) eσ1 ?_
  refine ga_aload_n 0 dX1_begin_5 rfl rfl ?_
  refine ga_iconst dX1_begin_6 ?_
  obtain ⟨σ2, eσ2⟩ : ∃ z, z = sI σ1 84 2 0 := ⟨_, rfl⟩
  replace h := h σ2 eσ2
  refine ga_putI (kI := 2) dX1_begin_7 fX1_25 pX1_2 rfl rfl rfl (by decide) eσ2 ?_
  refine ga_aload_n 0 dX1_begin_10 rfl rfl ?_
  refine ga_iload_n 1 dX1_begin_11 rfl rfl ?_
  obtain ⟨σ3, eσ3⟩ : ∃ z, z = sI σ2 84 0 x1 := ⟨_, rfl⟩
  replace h := h σ3 eσ3
  refine ga_putI (kI := 0) dX1_begin_12 fX1_28 pX1_0 rfl rfl rfl rx1 eσ3 ?_
  exact ga_vret dX1_begin_15 rfl h
abbrev eX10_placeOf (l : Launch) (G : gG) (x0 : Int) (x1 : Int) (σ : gS) (Q : Int → gS → Prop) : Prop := gEi l G mX10_placeOf [vI x0, vI x1] σ Q
set_option maxRecDepth 100000 in
set_option maxHeartbeats 4000000 in
theorem vX10_placeOf {l : Launch} {G : gG} (x0 : Int) (x1 : Int) (rx0 : gR x0) (rx1 : gR x1) (σ : gS) (Q : Int → gS → Prop) (h : (gR (((x0 - 1) * 2) + x1)) ∧ Q (((x0 - 1) * 2) + x1) σ) : eX10_placeOf l G x0 x1 σ Q := by
  refine ga_entry rfl (Nat.le_of_ble_eq_true rfl) ?_
  show gAt l G mX10_placeOf (gQi G Q) 0 [(0, vI x0), (1, vI x1)] [] σ
  refine ga_iload_n 0 dX10_placeOf_0 rfl rfl ?_
  refine ga_iconst dX10_placeOf_1 ?_
  refine ga_isub dX10_placeOf_2 ?_
  refine ga_iconst dX10_placeOf_3 ?_
  refine ga_imul dX10_placeOf_4 ?_
  refine ga_iload_n 1 dX10_placeOf_5 rfl rfl ?_
  refine ga_iadd dX10_placeOf_6 ?_
  obtain ⟨r1, h⟩ := h
  exact ga_iret dX10_placeOf_7 rfl r1 h
abbrev eX10_lineCount (l : Launch) (G : gG) (x1 : Int) (x2 : Int) (σ : gS) (Q : Int → gS → Prop) : Prop := gEi l G mX10_lineCount [.ref (G.2.1 1), vI x1, vI x2] σ Q
set_option maxRecDepth 100000 in
set_option maxHeartbeats 4000000 in
theorem vX10_lineCount {l : Launch} {G : gG} (x1 : Int) (x2 : Int) (rx1 : gR x1) (rx2 : gR x2) (σ : gS) (Q : Int → gS → Prop) (h : eX10_placeOf l G x1 x2 σ (fun v3 σ1 => gR v3 →
  (0 ≤ v3 ∧ v3 < 4) ∧ Q (gI σ1 6 v3) σ1)) : eX10_lineCount l G x1 x2 σ Q := by
  refine ga_entry rfl (Nat.le_of_ble_eq_true rfl) ?_
  show gAt l G mX10_lineCount (gQi G Q) 0 [(0, .ref (G.2.1 1)), (1, vI x1), (2, vI x2)] [] σ
  refine ga_aload_n 0 dX10_lineCount_0 rfl rfl ?_
  refine ga_getR (kI := 7) (r := 6) dX10_lineCount_1 fX10_35 rfl rfl (by decide) rfl ?_
  refine ga_iload_n 1 dX10_lineCount_4 rfl rfl ?_
  refine ga_iload_n 2 dX10_lineCount_5 rfl rfl ?_
  refine ga_callSi (z := mX10_placeOf) (As := [vI x1, vI x2]) (rest := [.ref (G.2.1 6)]) dX10_lineCount_6 wX10_42 qX10_lineCount_X10_placeOf rfl rfl (Nat.le_of_ble_eq_true rfl) (gEi_mono h (fun v3 σ1 h r2 => ?_))
  replace h := h r2
  obtain ⟨i4, h⟩ := h
  refine ga_iald (nI := 4) dX10_lineCount_9 rfl rfl i4 (fun r5 => ?_)
  exact ga_iret dX10_lineCount_10 rfl r5 h
abbrev eX10_line (l : Launch) (G : gG) (x1 : Int) (x2 : Int) (x3 : Int) (x4 : Int) (σ : gS) (Q : Int → gS → Prop) : Prop := gEi l G mX10_line [.ref (G.2.1 1), vI x1, vI x2, vI x3, vI x4] σ Q
set_option maxRecDepth 100000 in
set_option maxHeartbeats 4000000 in
theorem vX10_line {l : Launch} {G : gG} (x1 : Int) (x2 : Int) (x3 : Int) (x4 : Int) (rx1 : gR x1) (rx2 : gR x2) (rx3 : gR x3) (rx4 : gR x4) (σ : gS) (Q : Int → gS → Prop) (h : eX10_placeOf l G x1 x2 σ (fun v3 σ1 => gR v3 →
  (0 ≤ ((((v3 * 40) + x3) * 4) + x4) ∧ ((((v3 * 40) + x3) * 4) + x4) < 640) ∧ Q (gI σ1 5 ((((v3 * 40) + x3) * 4) + x4)) σ1)) : eX10_line l G x1 x2 x3 x4 σ Q := by
  refine ga_entry rfl (Nat.le_of_ble_eq_true rfl) ?_
  show gAt l G mX10_line (gQi G Q) 0 [(0, .ref (G.2.1 1)), (1, vI x1), (2, vI x2), (3, vI x3), (4, vI x4)] [] σ
  refine ga_aload_n 0 dX10_line_0 rfl rfl ?_
  refine ga_getR (kI := 6) (r := 5) dX10_line_1 fX10_32 rfl rfl (by decide) rfl ?_
  refine ga_iload_n 1 dX10_line_4 rfl rfl ?_
  refine ga_iload_n 2 dX10_line_5 rfl rfl ?_
  refine ga_callSi (z := mX10_placeOf) (As := [vI x1, vI x2]) (rest := [.ref (G.2.1 5)]) dX10_line_6 wX10_42 qX10_line_X10_placeOf rfl rfl (Nat.le_of_ble_eq_true rfl) (gEi_mono h (fun v3 σ1 h r2 => ?_))
  replace h := h r2
  refine ga_bipush dX10_line_9 (by decide) ?_
  refine ga_imul dX10_line_11 ?_
  refine ga_iload_n 3 dX10_line_12 rfl rfl ?_
  refine ga_iadd dX10_line_13 ?_
  refine ga_iconst dX10_line_14 ?_
  refine ga_imul dX10_line_15 ?_
  refine ga_iload 4 dX10_line_16 rfl ?_
  refine ga_iadd dX10_line_18 ?_
  obtain ⟨i4, h⟩ := h
  refine ga_iald (nI := 640) dX10_line_19 rfl rfl i4 (fun r5 => ?_)
  exact ga_iret dX10_line_20 rfl r5 h
abbrev eX6_inputOf (l : Launch) (G : gG) (x0 : Int) (x1 : Int) (σ : gS) (Q : Int → gS → Prop) : Prop := gEi l G mX6_inputOf [vI x0, vI x1] σ Q
set_option maxRecDepth 100000 in
set_option maxHeartbeats 4000000 in
theorem vX6_inputOf {l : Launch} {G : gG} (x0 : Int) (x1 : Int) (rx0 : gR x0) (rx1 : gR x1) (σ : gS) (Q : Int → gS → Prop) (h : (gR ((gand (gshr x0 (3 * x1)) 7) - 1)) ∧ Q ((gand (gshr x0 (3 * x1)) 7) - 1) σ) : eX6_inputOf l G x0 x1 σ Q := by
  refine ga_entry rfl (Nat.le_of_ble_eq_true rfl) ?_
  show gAt l G mX6_inputOf (gQi G Q) 0 [(0, vI x0), (1, vI x1)] [] σ
  refine ga_iload_n 0 dX6_inputOf_0 rfl rfl ?_
  refine ga_iconst dX6_inputOf_1 ?_
  refine ga_iload_n 1 dX6_inputOf_2 rfl rfl ?_
  refine ga_imul dX6_inputOf_3 ?_
  refine ga_ishr dX6_inputOf_4 (fun r1 => ?_)
  refine ga_bipush dX6_inputOf_5 (by decide) ?_
  refine ga_iand dX6_inputOf_7 (fun r2 => ?_)
  refine ga_iconst dX6_inputOf_8 ?_
  refine ga_isub dX6_inputOf_9 ?_
  obtain ⟨r3, h⟩ := h
  exact ga_iret dX6_inputOf_10 rfl r3 h
abbrev eX6_wereMatched (l : Launch) (G : gG) (x1 : Int) (x2 : Int) (x3 : Int) (σ : gS) (Q : Int → gS → Prop) : Prop := gEz l G mX6_wereMatched [.ref (G.2.1 41), vI x1, vI x2, vI x3] σ Q
set_option maxRecDepth 100000 in
set_option maxHeartbeats 4000000 in
theorem vX6_wereMatched {l : Launch} {G : gG} (x1 : Int) (x2 : Int) (x3 : Int) (rx1 : gR x1) (rx2 : gR x2) (rx3 : gR x3) (σ : gS) (Q : Int → gS → Prop) (h : (x1 < 0 → Q 0 σ) ∧
  (0 ≤ x1 → ((gI σ 41 0) ≤ x1 → Q 0 σ) ∧
    (x1 < (gI σ 41 0) → (0 ≤ x1 ∧ x1 < 360) ∧ eX6_inputOf l G (gI σ 42 x1) x3 σ (fun v8 σ6 => gR v8 →
      (∀ v11 : Int, v11 = (if v8 = x2 then 1 else 0) →
      Q v11 σ6))))) : eX6_wereMatched l G x1 x2 x3 σ Q := by
  refine ga_entry rfl (Nat.le_of_ble_eq_true rfl) ?_
  show gAt l G mX6_wereMatched (gQz G Q) 0 [(0, .ref (G.2.1 41)), (1, vI x1), (2, vI x2), (3, vI x3)] [] σ
  refine ga_iload_n 1 dX6_wereMatched_0 rfl rfl ?_
  obtain ⟨ht, hf⟩ := h
  refine ga_if_lt (tgt := 30) dX6_wereMatched_1 (by decide) rx1 (fun q1 => ?_) (fun q1 => ?_)
  · replace q1 : x1 < 0 := q1
    have h := ht q1
    refine ga_iconst dX6_wereMatched_30 ?_
    exact ga_bret dX6_wereMatched_31 rfl (Or.inl rfl) h
  · replace q1 : 0 ≤ x1 := (Int.not_lt.mp q1)
    have h := hf q1
    refine ga_iload_n 1 dX6_wereMatched_4 rfl rfl ?_
    refine ga_aload_n 0 dX6_wereMatched_5 rfl rfl ?_
    refine ga_getI (kI := 0) dX6_wereMatched_6 fX6_21 rfl rfl rfl (fun r2 => ?_)
    obtain ⟨ht, hf⟩ := h
    refine ga_icmp_ge (tgt := 30) dX6_wereMatched_9 (by decide) rx1 r2 (fun q3 => ?_) (fun q3 => ?_)
    · replace q3 : (gI σ 41 0) ≤ x1 := q3
      have h := ht q3
      refine ga_iconst dX6_wereMatched_30 ?_
      exact ga_bret dX6_wereMatched_31 rfl (Or.inl rfl) h
    · replace q3 : x1 < (gI σ 41 0) := (Int.not_le.mp q3)
      have h := hf q3
      refine ga_aload_n 0 dX6_wereMatched_12 rfl rfl ?_
      refine ga_getR (kI := 1) (r := 42) dX6_wereMatched_13 fX6_9 rfl rfl (by decide) rfl ?_
      refine ga_iload_n 1 dX6_wereMatched_16 rfl rfl ?_
      obtain ⟨i4, h⟩ := h
      refine ga_iald (nI := 360) dX6_wereMatched_17 rfl rfl i4 (fun r5 => ?_)
      refine ga_iload_n 3 dX6_wereMatched_18 rfl rfl ?_
      refine ga_callSi (z := mX6_inputOf) (As := [vI (gI σ 42 x1), vI x3]) (rest := []) dX6_wereMatched_19 wX6_39 qX6_wereMatched_X6_inputOf rfl rfl (Nat.le_of_ble_eq_true rfl) (gEi_mono h (fun v8 σ6 h r7 => ?_))
      replace h := h r7
      refine ga_iload_n 2 dX6_wereMatched_22 rfl rfl ?_
      have kJ9 : ∀ v11 : Int, gR v11 → (v11 = 0 ∨ v11 = 1) → v11 = (if v8 = x2 then 1 else 0) → gAt l G mX6_wereMatched (gQz G Q) 31 [(0, .ref (G.2.1 41)), (1, vI x1), (2, vI x2), (3, vI x3)] [vI v11] σ6 := by
        intro v11 rv11 bv11 ev11
        replace h := h v11 ev11
        exact ga_bret dX6_wereMatched_31 rfl bv11 h
      replace h : (¬ v8 = x2 → True) ∧
      (v8 = x2 → True) := by repeat (first | exact True.intro | apply And.intro | intro _)
      obtain ⟨ht, hf⟩ := h
      refine ga_icmp_ne (tgt := 30) dX6_wereMatched_23 (by decide) r7 rx2 (fun q10 => ?_) (fun q10 => ?_)
      · replace q10 : ¬ v8 = x2 := q10
        have h := ht q10
        refine ga_iconst dX6_wereMatched_30 ?_
        exact kJ9 0 (by decide) (Or.inl rfl) (by rw [if_neg q10])
      · replace q10 : v8 = x2 := (Decidable.not_not.mp q10)
        have h := hf q10
        refine ga_iconst dX6_wereMatched_26 ?_
        refine ga_goto (tgt := 31) dX6_wereMatched_27 (by decide) ?_
        exact kJ9 1 (by decide) (Or.inr rfl) (by rw [if_pos q10])
abbrev eX1_allSo (l : Launch) (G : gG) (x1 : Int) (σ : gS) (Q : Int → gS → Prop) : Prop := gEz l G mX1_allSo [.ref (G.2.1 1), vI x1, .ref (G.2.1 41)] σ Q
abbrev kX1_allSo_10 (l : Launch) (G : gG)  (x1 : Int) (x3 : Int) (x4 : Int) (σ : gS) (Q : Int → gS → Prop) : Prop := gAt l G mX1_allSo (gQz G Q) 10 [(0, .ref (G.2.1 1)), (1, vI x1), (2, .ref (G.2.1 41)), (3, vI x3), (4, vI x4)] [] σ
set_option maxRecDepth 100000 in
set_option maxHeartbeats 4000000 in
theorem vX1_allSo {l : Launch} {G : gG} (x1 : Int) (rx1 : gR x1) (σ : gS) (Q : Int → gS → Prop) (h : eX10_lineCount l G 2 x1 σ (fun v3 σ1 => gR v3 →
  kX1_allSo_10 l G  x1 v3 0 σ1 Q)) : eX1_allSo l G x1 σ Q := by
  refine ga_entry rfl (Nat.le_of_ble_eq_true rfl) ?_
  show gAt l G mX1_allSo (gQz G Q) 0 [(0, .ref (G.2.1 1)), (1, vI x1), (2, .ref (G.2.1 41))] [] σ
  refine ga_aload_n 0 dX1_allSo_0 rfl rfl ?_
  refine ga_iconst dX1_allSo_1 ?_
  refine ga_iload_n 1 dX1_allSo_2 rfl rfl ?_
  refine ga_callVi (z := mX10_lineCount) (As := [vI 2, vI x1]) (rest := []) dX1_allSo_3 wX1_45 qX1_allSo_X10_lineCount rfl ⟨_, rfl, rfl⟩ rfl rfl (Nat.le_of_ble_eq_true rfl) (gEi_mono h (fun v3 σ1 h r2 => ?_))
  replace h := h r2
  refine ga_istore_n (ls' := [(3, vI v3), (0, .ref (G.2.1 1)), (1, vI x1), (2, .ref (G.2.1 41))]) dX1_allSo_6 rfl (by decide) rfl ?_
  refine ga_iconst dX1_allSo_7 ?_
  refine ga_istore (ls' := [(4, vI 0), (3, vI v3), (0, .ref (G.2.1 1)), (1, vI x1), (2, .ref (G.2.1 41))]) dX1_allSo_8 (by decide) rfl ?_
  exact ga_sub [2, 3, 4, 1, 0] rfl h
set_option maxRecDepth 100000 in
set_option maxHeartbeats 4000000 in
theorem vX1_allSo_10 {l : Launch} {G : gG}  (x1 : Int) (x3 : Int) (x4 : Int) (rx1 : gR x1) (rx3 : gR x3) (rx4 : gR x4) (σ : gS) (Q : Int → gS → Prop) (h : (x3 ≤ x4 → Q 1 σ) ∧
  (x4 < x3 → eX10_line l G 2 x1 x4 1 σ (fun v7 σ5 => gR v7 →
    eX10_line l G 2 x1 x4 2 σ5 (fun v10 σ8 => gR v10 →
    eX10_line l G 2 x1 x4 3 σ8 (fun v13 σ11 => gR v13 →
    eX10_line l G 2 x1 x4 0 σ11 (fun v16 σ14 => gR v16 →
    (∀ v19 : Int, v19 = (if v16 = 1 then 1 else 0) →
    eX6_wereMatched l G v7 v10 v13 σ14 (fun v22 σ20 => (v22 = 0 ∨ v22 = 1) →
      (v22 = v19 → kX1_allSo_10 l G  x1 x3 (x4 + 1) σ20 Q) ∧
      (¬ v22 = v19 → Q 0 σ20))))))))) : kX1_allSo_10 l G  x1 x3 x4 σ Q := by
  refine ga_iload 4 dX1_allSo_10 rfl ?_
  refine ga_iload_n 3 dX1_allSo_12 rfl rfl ?_
  obtain ⟨ht, hf⟩ := h
  refine ga_icmp_ge (tgt := 92) dX1_allSo_13 (by decide) rx4 rx3 (fun q4 => ?_) (fun q4 => ?_)
  · replace q4 : x3 ≤ x4 := q4
    have h := ht q4
    refine ga_iconst dX1_allSo_92 ?_
    exact ga_bret dX1_allSo_93 rfl (Or.inr rfl) h
  · replace q4 : x4 < x3 := (Int.not_le.mp q4)
    have h := hf q4
    refine ga_aload_n 0 dX1_allSo_16 rfl rfl ?_
    refine ga_iconst dX1_allSo_17 ?_
    refine ga_iload_n 1 dX1_allSo_18 rfl rfl ?_
    refine ga_iload 4 dX1_allSo_19 rfl ?_
    refine ga_iconst dX1_allSo_21 ?_
    refine ga_callVi (z := mX10_line) (As := [vI 2, vI x1, vI x4, vI 1]) (rest := []) dX1_allSo_22 wX1_51 qX1_allSo_X10_line rfl ⟨_, rfl, rfl⟩ rfl rfl (Nat.le_of_ble_eq_true rfl) (gEi_mono h (fun v7 σ5 h r6 => ?_))
    replace h := h r6
    refine ga_istore (ls' := [(5, vI v7), (0, .ref (G.2.1 1)), (1, vI x1), (2, .ref (G.2.1 41)), (3, vI x3), (4, vI x4)]) dX1_allSo_25 (by decide) rfl ?_
    refine ga_aload_n 1 dX1_allSo_27 rfl rfl ?_
    refine ga_iconst dX1_allSo_28 ?_
    refine ga_iload_n 2 dX1_allSo_29 rfl rfl ?_
    refine ga_iload 5 dX1_allSo_30 rfl ?_
    refine ga_iconst dX1_allSo_32 ?_
    refine ga_callVi (z := mX10_line) (As := [vI 2, vI x1, vI x4, vI 2]) (rest := []) dX1_allSo_33 wX1_51 qX1_allSo_X10_line rfl ⟨_, rfl, rfl⟩ rfl rfl (Nat.le_of_ble_eq_true rfl) (gEi_mono h (fun v10 σ8 h r9 => ?_))
    replace h := h r9
    refine ga_istore (ls' := [(6, vI v10), (5, vI v7), (0, .ref (G.2.1 1)), (1, vI x1), (2, .ref (G.2.1 41)), (3, vI x3), (4, vI x4)]) dX1_allSo_36 (by decide) rfl ?_
    refine ga_aload_n 2 dX1_allSo_38 rfl rfl ?_
    refine ga_iconst dX1_allSo_39 ?_
    refine ga_iload_n 3 dX1_allSo_40 rfl rfl ?_
    refine ga_iload 6 dX1_allSo_41 rfl ?_
    refine ga_iconst dX1_allSo_43 ?_
    refine ga_callVi (z := mX10_line) (As := [vI 2, vI x1, vI x4, vI 3]) (rest := []) dX1_allSo_44 wX1_51 qX1_allSo_X10_line rfl ⟨_, rfl, rfl⟩ rfl rfl (Nat.le_of_ble_eq_true rfl) (gEi_mono h (fun v13 σ11 h r12 => ?_))
    replace h := h r12
    refine ga_istore (ls' := [(7, vI v13), (6, vI v10), (5, vI v7), (0, .ref (G.2.1 1)), (1, vI x1), (2, .ref (G.2.1 41)), (3, vI x3), (4, vI x4)]) dX1_allSo_47 (by decide) rfl ?_
    refine ga_aload_n 3 dX1_allSo_49 rfl rfl ?_
    refine ga_iconst dX1_allSo_50 ?_
    refine ga_iload_n 4 dX1_allSo_51 rfl rfl ?_
    refine ga_iload 7 dX1_allSo_52 rfl ?_
    refine ga_iconst dX1_allSo_54 ?_
    refine ga_callVi (z := mX10_line) (As := [vI 2, vI x1, vI x4, vI 0]) (rest := []) dX1_allSo_55 wX1_51 qX1_allSo_X10_line rfl ⟨_, rfl, rfl⟩ rfl rfl (Nat.le_of_ble_eq_true rfl) (gEi_mono h (fun v16 σ14 h r15 => ?_))
    replace h := h r15
    refine ga_iconst dX1_allSo_58 ?_
    have kJ17 : ∀ v19 : Int, gR v19 → (v19 = 0 ∨ v19 = 1) → v19 = (if v16 = 1 then 1 else 0) → gAt l G mX1_allSo (gQz G Q) 67 [(7, vI v13), (6, vI v10), (5, vI v7), (0, .ref (G.2.1 1)), (1, vI x1), (2, .ref (G.2.1 41)), (3, vI x3), (4, vI x4)] [vI v19] σ14 := by
      intro v19 rv19 bv19 ev19
      replace h := h v19 ev19
      refine ga_istore (ls' := [(8, vI v19), (7, vI v13), (6, vI v10), (5, vI v7), (0, .ref (G.2.1 1)), (1, vI x1), (2, .ref (G.2.1 41)), (3, vI x3), (4, vI x4)]) dX1_allSo_67 (by decide) rfl ?_
      refine ga_aload_n 6 dX1_allSo_69 rfl rfl ?_
      refine ga_iload 3 dX1_allSo_70 rfl ?_
      refine ga_iload 2 dX1_allSo_72 rfl ?_
      refine ga_iload 1 dX1_allSo_74 rfl ?_
      refine ga_callVz (z := mX6_wereMatched) (As := [vI v7, vI v10, vI v13]) (rest := []) dX1_allSo_76 wX1_55 qX1_allSo_X6_wereMatched rfl ⟨_, rfl, rfl⟩ rfl rfl (Nat.le_of_ble_eq_true rfl) (gEz_mono h (fun v22 σ20 h r21 => ?_))
      replace h := h r21
      refine ga_iload 0 dX1_allSo_79 rfl ?_
      obtain ⟨ht, hf⟩ := h
      refine ga_icmp_eq (tgt := 86) dX1_allSo_81 (by decide) (gR_01 r21) rv19 (fun q23 => ?_) (fun q23 => ?_)
      · replace q23 : v22 = v19 := q23
        have h := ht q23
        refine ga_iinc (ls' := [(4, vI (x4 + 1)), (8, vI v19), (7, vI v13), (6, vI v10), (5, vI v7), (0, .ref (G.2.1 1)), (1, vI x1), (2, .ref (G.2.1 41)), (3, vI x3)]) 8 dX1_allSo_86 rfl (by decide) rfl ?_
        refine ga_goto (tgt := 10) dX1_allSo_89 (by decide) ?_
        exact ga_sub [5, 6, 7, 8, 0] rfl h
      · replace q23 : ¬ v22 = v19 := q23
        have h := hf q23
        refine ga_iconst dX1_allSo_84 ?_
        exact ga_bret dX1_allSo_85 rfl (Or.inl rfl) h
    replace h : (¬ v16 = 1 → True) ∧
    (v16 = 1 → True) := by repeat (first | exact True.intro | apply And.intro | intro _)
    obtain ⟨ht, hf⟩ := h
    refine ga_icmp_ne (tgt := 66) dX1_allSo_59 (by decide) r15 (by decide) (fun q18 => ?_) (fun q18 => ?_)
    · replace q18 : ¬ v16 = 1 := q18
      have h := ht q18
      refine ga_iconst dX1_allSo_66 ?_
      exact kJ17 0 (by decide) (Or.inl rfl) (by rw [if_neg q18])
    · replace q18 : v16 = 1 := (Decidable.not_not.mp q18)
      have h := hf q18
      refine ga_iconst dX1_allSo_62 ?_
      refine ga_goto (tgt := 67) dX1_allSo_63 (by decide) ?_
      exact kJ17 1 (by decide) (Or.inr rfl) (by rw [if_pos q18])
abbrev eX1_keepIfSo (l : Launch) (G : gG) (x2 : Int) (x3 : Int) (σ : gS) (Q : gS → Prop) : Prop := gEv l G mX1_keepIfSo [.ref (G.2.1 84), .ref (G.2.1 1), vI x2, vI x3, .ref (G.2.1 41)] σ Q
set_option maxRecDepth 100000 in
set_option maxHeartbeats 4000000 in
theorem vX1_keepIfSo {l : Launch} {G : gG} (x2 : Int) (x3 : Int) (rx2 : gR x2) (rx3 : gR x3) (σ : gS) (Q : gS → Prop) (h : (24 ≤ (gI σ 84 1) → Q σ) ∧
  ((gI σ 84 1) < 24 → eX1_allSo l G x2 σ (fun v5 σ3 => (v5 = 0 ∨ v5 = 1) →
    (¬ v5 = 0 → ∀ σ8, σ8 = sI σ3 84 2 (gI σ3 41 0) →
      (0 ≤ (gI σ8 84 1) ∧ (gI σ8 84 1) < 24) ∧ ∀ σ11, σ11 = sI σ8 85 (gI σ8 84 1) x3 →
      ((0 : Int) ≤ 0 ∧ (0 : Int) ≤ ((gI σ11 84 1) * 360) ∧ (0 : Int) ≤ (gI σ11 84 2) ∧ (0 : Int) + (gI σ11 84 2) ≤ 360 ∧ (((gI σ11 84 1) * 360) : Int) + (gI σ11 84 2) ≤ 8640) ∧ ∀ σ15, σ15 = cpI σ11 42 0 86 ((gI σ11 84 1) * 360) (gI σ11 84 2) →
      (gR ((gI σ15 84 1) + 1)) ∧ ∀ σ17, σ17 = sI σ15 84 1 ((gI σ15 84 1) + 1) →
      Q σ17) ∧
    (v5 = 0 → Q σ3)))) : eX1_keepIfSo l G x2 x3 σ Q := by
  refine ga_entry rfl (Nat.le_of_ble_eq_true rfl) ?_
  show gAt l G mX1_keepIfSo (gQv G Q) 0 [(0, .ref (G.2.1 84)), (1, .ref (G.2.1 1)), (2, vI x2), (3, vI x3), (4, .ref (G.2.1 41))] [] σ
  refine ga_aload_n 0 dX1_keepIfSo_0 rfl rfl ?_
  refine ga_getI (kI := 1) dX1_keepIfSo_1 fX1_21 rfl rfl rfl (fun r1 => ?_)
  refine ga_bipush dX1_keepIfSo_4 (by decide) ?_
  obtain ⟨ht, hf⟩ := h
  refine ga_icmp_ge (tgt := 19) dX1_keepIfSo_6 (by decide) r1 (by decide) (fun q2 => ?_) (fun q2 => ?_)
  · replace q2 : 24 ≤ (gI σ 84 1) := q2
    have h := ht q2
    exact ga_vret dX1_keepIfSo_19 rfl h
  · replace q2 : (gI σ 84 1) < 24 := (Int.not_le.mp q2)
    have h := hf q2
    refine ga_aload_n 1 dX1_keepIfSo_9 rfl rfl ?_
    refine ga_iload_n 2 dX1_keepIfSo_10 rfl rfl ?_
    refine ga_aload 4 dX1_keepIfSo_11 rfl ?_
    refine ga_callSz (z := mX1_allSo) (As := [.ref (G.2.1 1), vI x2, .ref (G.2.1 41)]) (rest := []) dX1_keepIfSo_13 wX1_31 qX1_keepIfSo_X1_allSo rfl rfl (Nat.le_of_ble_eq_true rfl) (gEz_mono h (fun v5 σ3 h r4 => ?_))
    replace h := h r4
    obtain ⟨ht, hf⟩ := h
    refine ga_if_ne (tgt := 20) dX1_keepIfSo_16 (by decide) (gR_01 r4) (fun q6 => ?_) (fun q6 => ?_)
    · replace q6 : ¬ v5 = 0 := q6
      have h := ht q6
      refine ga_aload_n 0 dX1_keepIfSo_20 rfl rfl ?_
      refine ga_aload 4 dX1_keepIfSo_21 rfl ?_
      refine ga_getI (kI := 0) dX1_keepIfSo_23 fX1_35 rfl rfl rfl (fun r7 => ?_)
      obtain ⟨σ8, eσ8⟩ : ∃ z, z = sI σ3 84 2 (gI σ3 41 0) := ⟨_, rfl⟩
      replace h := h σ8 eσ8
      refine ga_putI (kI := 2) dX1_keepIfSo_26 fX1_25 pX1_2 rfl rfl rfl r7 eσ8 ?_
      refine ga_aload_n 0 dX1_keepIfSo_29 rfl rfl ?_
      refine ga_getR (kI := 3) (r := 85) dX1_keepIfSo_30 fX1_9 rfl rfl (by decide) rfl ?_
      refine ga_aload_n 0 dX1_keepIfSo_33 rfl rfl ?_
      refine ga_getI (kI := 1) dX1_keepIfSo_34 fX1_21 rfl rfl rfl (fun r9 => ?_)
      refine ga_iload_n 3 dX1_keepIfSo_37 rfl rfl ?_
      obtain ⟨i10, h⟩ := h
      obtain ⟨σ11, eσ11⟩ : ∃ z, z = sI σ8 85 (gI σ8 84 1) x3 := ⟨_, rfl⟩
      replace h := h σ11 eσ11
      refine ga_iast (nI := 24) dX1_keepIfSo_38 rfl rfl i10 rx3 eσ11 ?_
      refine ga_aload 4 dX1_keepIfSo_39 rfl ?_
      refine ga_getR (kI := 1) (r := 42) dX1_keepIfSo_41 fX1_38 rfl rfl (by decide) rfl ?_
      refine ga_iconst dX1_keepIfSo_44 ?_
      refine ga_aload_n 0 dX1_keepIfSo_45 rfl rfl ?_
      refine ga_getR (kI := 4) (r := 86) dX1_keepIfSo_46 fX1_15 rfl rfl (by decide) rfl ?_
      refine ga_aload_n 0 dX1_keepIfSo_49 rfl rfl ?_
      refine ga_getI (kI := 1) dX1_keepIfSo_50 fX1_21 rfl rfl rfl (fun r12 => ?_)
      refine ga_sipush dX1_keepIfSo_53 (by decide) ?_
      refine ga_imul dX1_keepIfSo_56 ?_
      refine ga_aload_n 0 dX1_keepIfSo_57 rfl rfl ?_
      refine ga_getI (kI := 2) dX1_keepIfSo_58 fX1_25 rfl rfl rfl (fun r13 => ?_)
      obtain ⟨o14, h⟩ := h
      obtain ⟨σ15, eσ15⟩ : ∃ z, z = cpI σ11 42 0 86 ((gI σ11 84 1) * 360) (gI σ11 84 2) := ⟨_, rfl⟩
      replace h := h σ15 eσ15
      refine ga_copy dX1_keepIfSo_61 wX1_39 rfl rfl (Or.inl rfl) o14 (fun e => by cases e) (by decide) (Nat.le_of_ble_eq_true rfl) eσ15 ?_
      refine ga_aload_n 0 dX1_keepIfSo_64 rfl rfl ?_
      refine ga_dup dX1_keepIfSo_65 rfl ?_
      refine ga_getI (kI := 1) dX1_keepIfSo_66 fX1_21 rfl rfl rfl (fun r16 => ?_)
      refine ga_iconst dX1_keepIfSo_69 ?_
      refine ga_iadd dX1_keepIfSo_70 ?_
      obtain ⟨r18, h⟩ := h
      obtain ⟨σ17, eσ17⟩ : ∃ z, z = sI σ15 84 1 ((gI σ15 84 1) + 1) := ⟨_, rfl⟩
      replace h := h σ17 eσ17
      refine ga_putI (kI := 1) dX1_keepIfSo_71 fX1_21 pX1_1 rfl rfl rfl r18 eσ17 ?_
      exact ga_vret dX1_keepIfSo_74 rfl h
    · replace q6 : v5 = 0 := (Decidable.not_not.mp q6)
      have h := hf q6
      exact ga_vret dX1_keepIfSo_19 rfl h
abbrev eX1_sureOf (l : Launch) (G : gG) (x1 : Int) (σ : gS) (Q : Int → gS → Prop) : Prop := gEi l G mX1_sureOf [.ref (G.2.1 84), vI x1] σ Q
abbrev kX1_sureOf_4 (l : Launch) (G : gG)  (x1 : Int) (x2 : Int) (x3 : Int) (σ : gS) (Q : Int → gS → Prop) : Prop := gAt l G mX1_sureOf (gQi G Q) 4 [(0, .ref (G.2.1 84)), (1, vI x1), (2, vI x2), (3, vI x3)] [] σ
set_option maxRecDepth 100000 in
set_option maxHeartbeats 4000000 in
theorem vX1_sureOf {l : Launch} {G : gG} (x1 : Int) (rx1 : gR x1) (σ : gS) (Q : Int → gS → Prop) (h : kX1_sureOf_4 l G  x1 (-1) 0 σ Q) : eX1_sureOf l G x1 σ Q := by
  refine ga_entry rfl (Nat.le_of_ble_eq_true rfl) ?_
  show gAt l G mX1_sureOf (gQi G Q) 0 [(0, .ref (G.2.1 84)), (1, vI x1)] [] σ
  refine ga_iconst dX1_sureOf_0 ?_
  refine ga_istore_n (ls' := [(2, vI (-1)), (0, .ref (G.2.1 84)), (1, vI x1)]) dX1_sureOf_1 rfl (by decide) rfl ?_
  refine ga_iconst dX1_sureOf_2 ?_
  refine ga_istore_n (ls' := [(3, vI 0), (2, vI (-1)), (0, .ref (G.2.1 84)), (1, vI x1)]) dX1_sureOf_3 rfl (by decide) rfl ?_
  exact ga_sub [2, 3, 1, 0] rfl h
set_option maxRecDepth 100000 in
set_option maxHeartbeats 4000000 in
theorem vX1_sureOf_4 {l : Launch} {G : gG}  (x1 : Int) (x2 : Int) (x3 : Int) (rx1 : gR x1) (rx2 : gR x2) (rx3 : gR x3) (σ : gS) (Q : Int → gS → Prop) (h : ((gI σ 84 1) ≤ x3 → Q x2 σ) ∧
  (x3 < (gI σ 84 1) → ((x1 = 0 → (0 ≤ x3 ∧ x3 < 24) ∧ True) ∧
    (¬ x1 = 0 → (0 ≤ x3 ∧ x3 < 24) ∧ True)) ∧
    (∀ v11 : Int, v11 = (if x1 = 0 then (grem (gI σ 85 x3) 10) else (gdiv (gI σ 85 x3) 10)) →
    (x3 ≤ 0 → kX1_sureOf_4 l G  x1 v11 (x3 + 1) σ Q) ∧
      (0 < x3 → (v11 = x2 → kX1_sureOf_4 l G  x1 v11 (x3 + 1) σ Q) ∧
        (¬ v11 = x2 → Q (-1) σ))))) : kX1_sureOf_4 l G  x1 x2 x3 σ Q := by
  refine ga_iload_n 3 dX1_sureOf_4 rfl rfl ?_
  refine ga_aload_n 0 dX1_sureOf_5 rfl rfl ?_
  refine ga_getI (kI := 1) dX1_sureOf_6 fX1_21 rfl rfl rfl (fun r1 => ?_)
  obtain ⟨ht, hf⟩ := h
  refine ga_icmp_ge (tgt := 60) dX1_sureOf_9 (by decide) rx3 r1 (fun q2 => ?_) (fun q2 => ?_)
  · replace q2 : (gI σ 84 1) ≤ x3 := q2
    have h := ht q2
    refine ga_iload_n 2 dX1_sureOf_60 rfl rfl ?_
    exact ga_iret dX1_sureOf_61 rfl rx2 h
  · replace q2 : x3 < (gI σ 84 1) := (Int.not_le.mp q2)
    have h := hf q2
    refine ga_iload_n 1 dX1_sureOf_12 rfl rfl ?_
    obtain ⟨hob, h⟩ := h
    have kJ3 : ∀ v11 : Int, gR v11 → v11 = (if x1 = 0 then (grem (gI σ 85 x3) 10) else (gdiv (gI σ 85 x3) 10)) → gAt l G mX1_sureOf (gQi G Q) 37 [(0, .ref (G.2.1 84)), (1, vI x1), (2, vI x2), (3, vI x3)] [vI v11] σ := by
      intro v11 rv11 ev11
      replace h := h v11 ev11
      refine ga_istore (ls' := [(4, vI v11), (0, .ref (G.2.1 84)), (1, vI x1), (2, vI x2), (3, vI x3)]) dX1_sureOf_37 (by decide) rfl ?_
      refine ga_iload_n 4 dX1_sureOf_39 rfl rfl ?_
      obtain ⟨ht, hf⟩ := h
      refine ga_if_le (tgt := 51) dX1_sureOf_40 (by decide) rx3 (fun q12 => ?_) (fun q12 => ?_)
      · replace q12 : x3 ≤ 0 := q12
        have h := ht q12
        refine ga_iload 0 dX1_sureOf_51 rfl ?_
        refine ga_istore_n (ls' := [(2, vI v11), (4, vI v11), (0, .ref (G.2.1 84)), (1, vI x1), (3, vI x3)]) dX1_sureOf_53 rfl (by decide) rfl ?_
        refine ga_iinc (ls' := [(3, vI (x3 + 1)), (2, vI v11), (4, vI v11), (0, .ref (G.2.1 84)), (1, vI x1)]) 4 dX1_sureOf_54 rfl (by decide) rfl ?_
        refine ga_goto (tgt := 4) dX1_sureOf_57 (by decide) ?_
        exact ga_sub [3, 4, 1, 0] rfl h
      · replace q12 : 0 < x3 := (Int.not_le.mp q12)
        have h := hf q12
        refine ga_iload 0 dX1_sureOf_43 rfl ?_
        refine ga_iload_n 3 dX1_sureOf_45 rfl rfl ?_
        obtain ⟨ht, hf⟩ := h
        refine ga_icmp_eq (tgt := 51) dX1_sureOf_46 (by decide) rv11 rx2 (fun q13 => ?_) (fun q13 => ?_)
        · replace q13 : v11 = x2 := q13
          have h := ht q13
          refine ga_iload 0 dX1_sureOf_51 rfl ?_
          refine ga_istore_n (ls' := [(2, vI v11), (4, vI v11), (0, .ref (G.2.1 84)), (1, vI x1), (3, vI x3)]) dX1_sureOf_53 rfl (by decide) rfl ?_
          refine ga_iinc (ls' := [(3, vI (x3 + 1)), (2, vI v11), (4, vI v11), (0, .ref (G.2.1 84)), (1, vI x1)]) 4 dX1_sureOf_54 rfl (by decide) rfl ?_
          refine ga_goto (tgt := 4) dX1_sureOf_57 (by decide) ?_
          exact ga_sub [3, 4, 1, 0] rfl h
        · replace q13 : ¬ v11 = x2 := q13
          have h := hf q13
          refine ga_iconst dX1_sureOf_49 ?_
          exact ga_iret dX1_sureOf_50 rfl (by decide) h
    replace h := hob
    obtain ⟨ht, hf⟩ := h
    refine ga_if_eq (tgt := 28) dX1_sureOf_13 (by decide) rx1 (fun q4 => ?_) (fun q4 => ?_)
    · replace q4 : x1 = 0 := q4
      have h := ht q4
      refine ga_aload_n 0 dX1_sureOf_28 rfl rfl ?_
      refine ga_getR (kI := 3) (r := 85) dX1_sureOf_29 fX1_9 rfl rfl (by decide) rfl ?_
      refine ga_iload_n 3 dX1_sureOf_32 rfl rfl ?_
      obtain ⟨i5, h⟩ := h
      refine ga_iald (nI := 24) dX1_sureOf_33 rfl rfl i5 (fun r6 => ?_)
      refine ga_bipush dX1_sureOf_34 (by decide) ?_
      refine ga_irem dX1_sureOf_36 (by decide) (by decide) (fun r7 => ?_)
      exact kJ3 (grem (gI σ 85 x3) 10) r7 (by rw [if_pos q4])
    · replace q4 : ¬ x1 = 0 := q4
      have h := hf q4
      refine ga_aload_n 0 dX1_sureOf_16 rfl rfl ?_
      refine ga_getR (kI := 3) (r := 85) dX1_sureOf_17 fX1_9 rfl rfl (by decide) rfl ?_
      refine ga_iload_n 3 dX1_sureOf_20 rfl rfl ?_
      obtain ⟨i8, h⟩ := h
      refine ga_iald (nI := 24) dX1_sureOf_21 rfl rfl i8 (fun r9 => ?_)
      refine ga_bipush dX1_sureOf_22 (by decide) ?_
      refine ga_idiv dX1_sureOf_24 (by decide) (by decide) (fun r10 => ?_)
      refine ga_goto (tgt := 37) dX1_sureOf_25 (by decide) ?_
      exact kJ3 (gdiv (gI σ 85 x3) 10) r10 (by rw [if_neg q4])
abbrev eX1_mostAlike (l : Launch) (G : gG) (x1 : Int) (x2 : Int) (σ : gS) (Q : Int → gS → Prop) : Prop := gEi l G mX1_mostAlike [.ref (G.2.1 84), vI x1, vI x2] σ Q
abbrev kX1_mostAlike_2 (l : Launch) (G : gG)  (x1 : Int) (x2 : Int) (x3 : Int) (σ : gS) (Q : Int → gS → Prop) : Prop := gAt l G mX1_mostAlike (gQi G Q) 2 [(0, .ref (G.2.1 84)), (1, vI x1), (2, vI x2), (3, vI x3)] [] σ
abbrev kX1_mostAlike_26 (l : Launch) (G : gG)  (x1 : Int) (x2 : Int) (x3 : Int) (x4 : Int) (σ : gS) (Q : Int → gS → Prop) : Prop := gAt l G mX1_mostAlike (gQi G Q) 26 [(0, .ref (G.2.1 84)), (1, vI x1), (2, vI x2), (3, vI x3), (4, vI x4)] [] σ
set_option maxRecDepth 100000 in
set_option maxHeartbeats 4000000 in
theorem vX1_mostAlike {l : Launch} {G : gG} (x1 : Int) (x2 : Int) (rx1 : gR x1) (rx2 : gR x2) (σ : gS) (Q : Int → gS → Prop) (h : kX1_mostAlike_2 l G  x1 x2 0 σ Q) : eX1_mostAlike l G x1 x2 σ Q := by
  refine ga_entry rfl (Nat.le_of_ble_eq_true rfl) ?_
  show gAt l G mX1_mostAlike (gQi G Q) 0 [(0, .ref (G.2.1 84)), (1, vI x1), (2, vI x2)] [] σ
  refine ga_iconst dX1_mostAlike_0 ?_
  refine ga_istore_n (ls' := [(3, vI 0), (0, .ref (G.2.1 84)), (1, vI x1), (2, vI x2)]) dX1_mostAlike_1 rfl (by decide) rfl ?_
  exact ga_sub [1, 2, 3, 0] rfl h
set_option maxRecDepth 100000 in
set_option maxHeartbeats 4000000 in
theorem vX1_mostAlike_2 {l : Launch} {G : gG}  (x1 : Int) (x2 : Int) (x3 : Int) (rx1 : gR x1) (rx2 : gR x2) (rx3 : gR x3) (σ : gS) (Q : Int → gS → Prop) (h : (6 < x3 → kX1_mostAlike_26 l G  x1 x2 0 0 σ Q) ∧
  (x3 ≤ 6 → (0 ≤ x3 ∧ x3 < 7) ∧ ∀ σ3, σ3 = sI σ 87 x3 0 →
    kX1_mostAlike_2 l G  x1 x2 (x3 + 1) σ3 Q)) : kX1_mostAlike_2 l G  x1 x2 x3 σ Q := by
  refine ga_iload_n 3 dX1_mostAlike_2 rfl rfl ?_
  refine ga_bipush dX1_mostAlike_3 (by decide) ?_
  obtain ⟨ht, hf⟩ := h
  refine ga_icmp_gt (tgt := 21) dX1_mostAlike_5 (by decide) rx3 (by decide) (fun q1 => ?_) (fun q1 => ?_)
  · replace q1 : 6 < x3 := q1
    have h := ht q1
    refine ga_iconst dX1_mostAlike_21 ?_
    refine ga_istore_n (ls' := [(3, vI 0), (0, .ref (G.2.1 84)), (1, vI x1), (2, vI x2)]) dX1_mostAlike_22 rfl (by decide) rfl ?_
    refine ga_iconst dX1_mostAlike_23 ?_
    refine ga_istore (ls' := [(4, vI 0), (3, vI 0), (0, .ref (G.2.1 84)), (1, vI x1), (2, vI x2)]) dX1_mostAlike_24 (by decide) rfl ?_
    exact ga_sub [2, 3, 4, 1, 0] rfl h
  · replace q1 : x3 ≤ 6 := (Int.not_lt.mp q1)
    have h := hf q1
    refine ga_aload_n 0 dX1_mostAlike_8 rfl rfl ?_
    refine ga_getR (kI := 5) (r := 87) dX1_mostAlike_9 fX1_18 rfl rfl (by decide) rfl ?_
    refine ga_iload_n 3 dX1_mostAlike_12 rfl rfl ?_
    refine ga_iconst dX1_mostAlike_13 ?_
    obtain ⟨i2, h⟩ := h
    obtain ⟨σ3, eσ3⟩ : ∃ z, z = sI σ 87 x3 0 := ⟨_, rfl⟩
    replace h := h σ3 eσ3
    refine ga_iast (nI := 7) dX1_mostAlike_14 rfl rfl i2 (by decide) eσ3 ?_
    refine ga_iinc (ls' := [(3, vI (x3 + 1)), (0, .ref (G.2.1 84)), (1, vI x1), (2, vI x2)]) 3 dX1_mostAlike_15 rfl (by decide) rfl ?_
    refine ga_goto (tgt := 2) dX1_mostAlike_18 (by decide) ?_
    exact ga_sub [1, 2, 3, 0] rfl h
set_option maxRecDepth 100000 in
set_option maxHeartbeats 4000000 in
theorem vX1_mostAlike_26 {l : Launch} {G : gG}  (x1 : Int) (x2 : Int) (x3 : Int) (x4 : Int) (rx1 : gR x1) (rx2 : gR x2) (rx3 : gR x3) (rx4 : gR x4) (σ : gS) (Q : Int → gS → Prop) (h : ((gI σ 84 1) ≤ x4 → Q x3 σ) ∧
  (x4 < (gI σ 84 1) → (0 ≤ ((x4 * 360) + x1) ∧ ((x4 * 360) + x1) < 8640) ∧ eX6_inputOf l G (gI σ 86 ((x4 * 360) + x1)) x2 σ (fun v10 σ8 => gR v10 →
    (gR (v10 + 1)) ∧ ((v10 + 1) < 0 → kX1_mostAlike_26 l G  x1 x2 x3 (x4 + 1) σ8 Q) ∧
    (0 ≤ (v10 + 1) → (6 < (v10 + 1) → kX1_mostAlike_26 l G  x1 x2 x3 (x4 + 1) σ8 Q) ∧
      ((v10 + 1) ≤ 6 → (0 ≤ (v10 + 1) ∧ (v10 + 1) < 7) ∧ (gR ((gI σ8 87 (v10 + 1)) + 1)) ∧ ∀ σ16, σ16 = sI σ8 87 (v10 + 1) ((gI σ8 87 (v10 + 1)) + 1) →
        kX1_mostAlike_26 l G  x1 x2 (max x3 (gI σ16 87 (v10 + 1))) (x4 + 1) σ16 Q))))) : kX1_mostAlike_26 l G  x1 x2 x3 x4 σ Q := by
  refine ga_iload 4 dX1_mostAlike_26 rfl ?_
  refine ga_aload_n 0 dX1_mostAlike_28 rfl rfl ?_
  refine ga_getI (kI := 1) dX1_mostAlike_29 fX1_21 rfl rfl rfl (fun r4 => ?_)
  obtain ⟨ht, hf⟩ := h
  refine ga_icmp_ge (tgt := 97) dX1_mostAlike_32 (by decide) rx4 r4 (fun q5 => ?_) (fun q5 => ?_)
  · replace q5 : (gI σ 84 1) ≤ x4 := q5
    have h := ht q5
    refine ga_iload_n 3 dX1_mostAlike_97 rfl rfl ?_
    exact ga_iret dX1_mostAlike_98 rfl rx3 h
  · replace q5 : x4 < (gI σ 84 1) := (Int.not_le.mp q5)
    have h := hf q5
    refine ga_aload_n 0 dX1_mostAlike_35 rfl rfl ?_
    refine ga_getR (kI := 4) (r := 86) dX1_mostAlike_36 fX1_15 rfl rfl (by decide) rfl ?_
    refine ga_iload 4 dX1_mostAlike_39 rfl ?_
    refine ga_sipush dX1_mostAlike_41 (by decide) ?_
    refine ga_imul dX1_mostAlike_44 ?_
    refine ga_iload_n 1 dX1_mostAlike_45 rfl rfl ?_
    refine ga_iadd dX1_mostAlike_46 ?_
    obtain ⟨i6, h⟩ := h
    refine ga_iald (nI := 8640) dX1_mostAlike_47 rfl rfl i6 (fun r7 => ?_)
    refine ga_iload_n 2 dX1_mostAlike_48 rfl rfl ?_
    refine ga_callSi (z := mX6_inputOf) (As := [vI (gI σ 86 ((x4 * 360) + x1)), vI x2]) (rest := []) dX1_mostAlike_49 wX1_70 qX1_mostAlike_X6_inputOf rfl rfl (Nat.le_of_ble_eq_true rfl) (gEi_mono h (fun v10 σ8 h r9 => ?_))
    replace h := h r9
    refine ga_iconst dX1_mostAlike_52 ?_
    refine ga_iadd dX1_mostAlike_53 ?_
    refine ga_istore (ls' := [(5, vI (v10 + 1)), (0, .ref (G.2.1 84)), (1, vI x1), (2, vI x2), (3, vI x3), (4, vI x4)]) dX1_mostAlike_54 (by decide) rfl ?_
    refine ga_iload 0 dX1_mostAlike_56 rfl ?_
    obtain ⟨r11, h⟩ := h
    obtain ⟨ht, hf⟩ := h
    refine ga_if_lt (tgt := 91) dX1_mostAlike_58 (by decide) r11 (fun q12 => ?_) (fun q12 => ?_)
    · replace q12 : (v10 + 1) < 0 := q12
      have h := ht q12
      refine ga_iinc (ls' := [(4, vI (x4 + 1)), (5, vI (v10 + 1)), (0, .ref (G.2.1 84)), (1, vI x1), (2, vI x2), (3, vI x3)]) 5 dX1_mostAlike_91 rfl (by decide) rfl ?_
      refine ga_goto (tgt := 26) dX1_mostAlike_94 (by decide) ?_
      exact ga_sub [2, 3, 4, 5, 0] rfl h
    · replace q12 : 0 ≤ (v10 + 1) := (Int.not_lt.mp q12)
      have h := hf q12
      refine ga_iload 0 dX1_mostAlike_61 rfl ?_
      refine ga_bipush dX1_mostAlike_63 (by decide) ?_
      obtain ⟨ht, hf⟩ := h
      refine ga_icmp_gt (tgt := 91) dX1_mostAlike_65 (by decide) r11 (by decide) (fun q13 => ?_) (fun q13 => ?_)
      · replace q13 : 6 < (v10 + 1) := q13
        have h := ht q13
        refine ga_iinc (ls' := [(4, vI (x4 + 1)), (5, vI (v10 + 1)), (0, .ref (G.2.1 84)), (1, vI x1), (2, vI x2), (3, vI x3)]) 5 dX1_mostAlike_91 rfl (by decide) rfl ?_
        refine ga_goto (tgt := 26) dX1_mostAlike_94 (by decide) ?_
        exact ga_sub [2, 3, 4, 5, 0] rfl h
      · replace q13 : (v10 + 1) ≤ 6 := (Int.not_lt.mp q13)
        have h := hf q13
        refine ga_aload_n 1 dX1_mostAlike_68 rfl rfl ?_
        refine ga_getR (kI := 5) (r := 87) dX1_mostAlike_69 fX1_18 rfl rfl (by decide) rfl ?_
        refine ga_iload 0 dX1_mostAlike_72 rfl ?_
        refine ga_dup2 dX1_mostAlike_74 rfl rfl ?_
        obtain ⟨i14, h⟩ := h
        refine ga_iald (nI := 7) dX1_mostAlike_75 rfl rfl i14 (fun r15 => ?_)
        refine ga_iconst dX1_mostAlike_76 ?_
        refine ga_iadd dX1_mostAlike_77 ?_
        obtain ⟨r17, h⟩ := h
        obtain ⟨σ16, eσ16⟩ : ∃ z, z = sI σ8 87 (v10 + 1) ((gI σ8 87 (v10 + 1)) + 1) := ⟨_, rfl⟩
        replace h := h σ16 eσ16
        refine ga_iast (nI := 7) dX1_mostAlike_78 rfl rfl i14 r17 eσ16 ?_
        refine ga_iload_n 4 dX1_mostAlike_79 rfl rfl ?_
        refine ga_aload_n 1 dX1_mostAlike_80 rfl rfl ?_
        refine ga_getR (kI := 5) (r := 87) dX1_mostAlike_81 fX1_18 rfl rfl (by decide) rfl ?_
        refine ga_iload 0 dX1_mostAlike_84 rfl ?_
        refine ga_iald (nI := 7) dX1_mostAlike_86 rfl rfl i14 (fun r18 => ?_)
        refine ga_max dX1_mostAlike_87 wX1_73 (by decide) (Nat.le_of_ble_eq_true rfl) rx3 r18 ?_
        refine ga_istore_n (ls' := [(3, vI (max x3 (gI σ16 87 (v10 + 1)))), (5, vI (v10 + 1)), (0, .ref (G.2.1 84)), (1, vI x1), (2, vI x2), (4, vI x4)]) dX1_mostAlike_90 rfl (by decide) rfl ?_
        refine ga_iinc (ls' := [(4, vI (x4 + 1)), (3, vI (max x3 (gI σ16 87 (v10 + 1)))), (5, vI (v10 + 1)), (0, .ref (G.2.1 84)), (1, vI x1), (2, vI x2)]) 5 dX1_mostAlike_91 rfl (by decide) rfl ?_
        refine ga_goto (tgt := 26) dX1_mostAlike_94 (by decide) ?_
        exact ga_sub [3, 4, 5, 1, 0] rfl h
abbrev eX1_bestToAsk (l : Launch) (G : gG)  (σ : gS) (Q : Int → gS → Prop) : Prop := gEi l G mX1_bestToAsk [.ref (G.2.1 84)] σ Q
abbrev kX1_bestToAsk_9 (l : Launch) (G : gG)  (x1 : Int) (x2 : Int) (x3 : Int) (σ : gS) (Q : Int → gS → Prop) : Prop := gAt l G mX1_bestToAsk (gQi G Q) 9 [(0, .ref (G.2.1 84)), (1, vI x1), (2, vI x2), (3, vI x3)] [] σ
abbrev kX1_bestToAsk_27 (l : Launch) (G : gG)  (x1 : Int) (x2 : Int) (x3 : Int) (x4 : Int) (σ : gS) (Q : Int → gS → Prop) : Prop := gAt l G mX1_bestToAsk (gQi G Q) 27 [(0, .ref (G.2.1 84)), (1, vI x1), (2, vI x2), (3, vI x3), (4, vI x4)] [] σ
set_option maxRecDepth 100000 in
set_option maxHeartbeats 4000000 in
theorem vX1_bestToAsk {l : Launch} {G : gG}  (σ : gS) (Q : Int → gS → Prop) (h : kX1_bestToAsk_9 l G  (-1) (gI σ 84 1) 0 σ Q) : eX1_bestToAsk l G  σ Q := by
  refine ga_entry rfl (Nat.le_of_ble_eq_true rfl) ?_
  show gAt l G mX1_bestToAsk (gQi G Q) 0 [(0, .ref (G.2.1 84))] [] σ
  refine ga_iconst dX1_bestToAsk_0 ?_
  refine ga_istore_n (ls' := [(1, vI (-1)), (0, .ref (G.2.1 84))]) dX1_bestToAsk_1 rfl (by decide) rfl ?_
  refine ga_aload_n 1 dX1_bestToAsk_2 rfl rfl ?_
  refine ga_getI (kI := 1) dX1_bestToAsk_3 fX1_21 rfl rfl rfl (fun r1 => ?_)
  refine ga_istore_n (ls' := [(2, vI (gI σ 84 1)), (1, vI (-1)), (0, .ref (G.2.1 84))]) dX1_bestToAsk_6 rfl (by decide) rfl ?_
  refine ga_iconst dX1_bestToAsk_7 ?_
  refine ga_istore_n (ls' := [(3, vI 0), (2, vI (gI σ 84 1)), (1, vI (-1)), (0, .ref (G.2.1 84))]) dX1_bestToAsk_8 rfl (by decide) rfl ?_
  exact ga_sub [3, 2, 1, 0] rfl h
set_option maxRecDepth 100000 in
set_option maxHeartbeats 4000000 in
theorem vX1_bestToAsk_9 {l : Launch} {G : gG}  (x1 : Int) (x2 : Int) (x3 : Int) (rx1 : gR x1) (rx2 : gR x2) (rx3 : gR x3) (σ : gS) (Q : Int → gS → Prop) (h : ((gI σ 84 2) ≤ x3 → Q x1 σ) ∧
  (x3 < (gI σ 84 2) → ((gI σ 84 1) ≤ 0 → Q x1 σ) ∧
    (0 < (gI σ 84 1) → kX1_bestToAsk_27 l G  x1 x2 x3 0 σ Q))) : kX1_bestToAsk_9 l G  x1 x2 x3 σ Q := by
  refine ga_iload_n 3 dX1_bestToAsk_9 rfl rfl ?_
  refine ga_aload_n 0 dX1_bestToAsk_10 rfl rfl ?_
  refine ga_getI (kI := 2) dX1_bestToAsk_11 fX1_25 rfl rfl rfl (fun r2 => ?_)
  obtain ⟨ht, hf⟩ := h
  refine ga_icmp_ge (tgt := 79) dX1_bestToAsk_14 (by decide) rx3 r2 (fun q3 => ?_) (fun q3 => ?_)
  · replace q3 : (gI σ 84 2) ≤ x3 := q3
    have h := ht q3
    refine ga_iload_n 1 dX1_bestToAsk_79 rfl rfl ?_
    exact ga_iret dX1_bestToAsk_80 rfl rx1 h
  · replace q3 : x3 < (gI σ 84 2) := (Int.not_le.mp q3)
    have h := hf q3
    refine ga_aload_n 0 dX1_bestToAsk_17 rfl rfl ?_
    refine ga_getI (kI := 1) dX1_bestToAsk_18 fX1_21 rfl rfl rfl (fun r4 => ?_)
    obtain ⟨ht, hf⟩ := h
    refine ga_if_le (tgt := 79) dX1_bestToAsk_21 (by decide) r4 (fun q5 => ?_) (fun q5 => ?_)
    · replace q5 : (gI σ 84 1) ≤ 0 := q5
      have h := ht q5
      refine ga_iload_n 1 dX1_bestToAsk_79 rfl rfl ?_
      exact ga_iret dX1_bestToAsk_80 rfl rx1 h
    · replace q5 : 0 < (gI σ 84 1) := (Int.not_le.mp q5)
      have h := hf q5
      refine ga_iconst dX1_bestToAsk_24 ?_
      refine ga_istore (ls' := [(4, vI 0), (0, .ref (G.2.1 84)), (1, vI x1), (2, vI x2), (3, vI x3)]) dX1_bestToAsk_25 (by decide) rfl ?_
      exact ga_sub [1, 2, 3, 4, 0] rfl h
set_option maxRecDepth 100000 in
set_option maxHeartbeats 4000000 in
theorem vX1_bestToAsk_27 {l : Launch} {G : gG}  (x1 : Int) (x2 : Int) (x3 : Int) (x4 : Int) (rx1 : gR x1) (rx2 : gR x2) (rx3 : gR x3) (rx4 : gR x4) (σ : gS) (Q : Int → gS → Prop) (h : ((gI σ 84 0) ≤ x4 → kX1_bestToAsk_9 l G  x1 x2 (x3 + 1) σ Q) ∧
  (x4 < (gI σ 84 0) → eX1_mostAlike l G x3 x4 σ (fun v10 σ8 => gR v10 →
    (x1 = (-1) → kX1_bestToAsk_27 l G  ((10 * x3) + x4) v10 x3 (x4 + 1) σ8 Q) ∧
    (¬ x1 = (-1) → (x2 ≤ v10 → kX1_bestToAsk_27 l G  x1 x2 x3 (x4 + 1) σ8 Q) ∧
      (v10 < x2 → kX1_bestToAsk_27 l G  ((10 * x3) + x4) v10 x3 (x4 + 1) σ8 Q))))) : kX1_bestToAsk_27 l G  x1 x2 x3 x4 σ Q := by
  refine ga_iload 4 dX1_bestToAsk_27 rfl ?_
  refine ga_aload_n 0 dX1_bestToAsk_29 rfl rfl ?_
  refine ga_getI (kI := 0) dX1_bestToAsk_30 fX1_28 rfl rfl rfl (fun r6 => ?_)
  obtain ⟨ht, hf⟩ := h
  refine ga_icmp_ge (tgt := 73) dX1_bestToAsk_33 (by decide) rx4 r6 (fun q7 => ?_) (fun q7 => ?_)
  · replace q7 : (gI σ 84 0) ≤ x4 := q7
    have h := ht q7
    refine ga_iinc (ls' := [(3, vI (x3 + 1)), (0, .ref (G.2.1 84)), (1, vI x1), (2, vI x2), (4, vI x4)]) 3 dX1_bestToAsk_73 rfl (by decide) rfl ?_
    refine ga_goto (tgt := 9) dX1_bestToAsk_76 (by decide) ?_
    exact ga_sub [1, 2, 3, 0] rfl h
  · replace q7 : x4 < (gI σ 84 0) := (Int.not_le.mp q7)
    have h := hf q7
    refine ga_aload_n 0 dX1_bestToAsk_36 rfl rfl ?_
    refine ga_iload_n 3 dX1_bestToAsk_37 rfl rfl ?_
    refine ga_iload 4 dX1_bestToAsk_38 rfl ?_
    refine ga_callVi (z := mX1_mostAlike) (As := [vI x3, vI x4]) (rest := []) dX1_bestToAsk_40 wX1_67 qX1_bestToAsk_X1_mostAlike rfl ⟨_, rfl, rfl⟩ rfl rfl (Nat.le_of_ble_eq_true rfl) (gEi_mono h (fun v10 σ8 h r9 => ?_))
    replace h := h r9
    refine ga_istore (ls' := [(5, vI v10), (0, .ref (G.2.1 84)), (1, vI x1), (2, vI x2), (3, vI x3), (4, vI x4)]) dX1_bestToAsk_43 (by decide) rfl ?_
    refine ga_iload_n 2 dX1_bestToAsk_45 rfl rfl ?_
    refine ga_iconst dX1_bestToAsk_46 ?_
    obtain ⟨ht, hf⟩ := h
    refine ga_icmp_eq (tgt := 56) dX1_bestToAsk_47 (by decide) rx1 (by decide) (fun q11 => ?_) (fun q11 => ?_)
    · replace q11 : x1 = (-1) := q11
      have h := ht q11
      refine ga_iload 0 dX1_bestToAsk_56 rfl ?_
      refine ga_istore_n (ls' := [(2, vI v10), (5, vI v10), (0, .ref (G.2.1 84)), (1, vI x1), (3, vI x3), (4, vI x4)]) dX1_bestToAsk_58 rfl (by decide) rfl ?_
      refine ga_bipush dX1_bestToAsk_59 (by decide) ?_
      refine ga_iload_n 4 dX1_bestToAsk_61 rfl rfl ?_
      refine ga_imul dX1_bestToAsk_62 ?_
      refine ga_iload 5 dX1_bestToAsk_63 rfl ?_
      refine ga_iadd dX1_bestToAsk_65 ?_
      refine ga_istore_n (ls' := [(1, vI ((10 * x3) + x4)), (2, vI v10), (5, vI v10), (0, .ref (G.2.1 84)), (3, vI x3), (4, vI x4)]) dX1_bestToAsk_66 rfl (by decide) rfl ?_
      refine ga_iinc (ls' := [(4, vI (x4 + 1)), (1, vI ((10 * x3) + x4)), (2, vI v10), (5, vI v10), (0, .ref (G.2.1 84)), (3, vI x3)]) 5 dX1_bestToAsk_67 rfl (by decide) rfl ?_
      refine ga_goto (tgt := 27) dX1_bestToAsk_70 (by decide) ?_
      exact ga_sub [4, 1, 2, 5, 0] rfl h
    · replace q11 : ¬ x1 = (-1) := q11
      have h := hf q11
      refine ga_iload 0 dX1_bestToAsk_50 rfl ?_
      refine ga_iload_n 3 dX1_bestToAsk_52 rfl rfl ?_
      obtain ⟨ht, hf⟩ := h
      refine ga_icmp_ge (tgt := 67) dX1_bestToAsk_53 (by decide) r9 rx2 (fun q12 => ?_) (fun q12 => ?_)
      · replace q12 : x2 ≤ v10 := q12
        have h := ht q12
        refine ga_iinc (ls' := [(4, vI (x4 + 1)), (5, vI v10), (0, .ref (G.2.1 84)), (1, vI x1), (2, vI x2), (3, vI x3)]) 5 dX1_bestToAsk_67 rfl (by decide) rfl ?_
        refine ga_goto (tgt := 27) dX1_bestToAsk_70 (by decide) ?_
        exact ga_sub [2, 3, 4, 5, 0] rfl h
      · replace q12 : v10 < x2 := (Int.not_le.mp q12)
        have h := hf q12
        refine ga_iload 0 dX1_bestToAsk_56 rfl ?_
        refine ga_istore_n (ls' := [(2, vI v10), (5, vI v10), (0, .ref (G.2.1 84)), (1, vI x1), (3, vI x3), (4, vI x4)]) dX1_bestToAsk_58 rfl (by decide) rfl ?_
        refine ga_bipush dX1_bestToAsk_59 (by decide) ?_
        refine ga_iload_n 4 dX1_bestToAsk_61 rfl rfl ?_
        refine ga_imul dX1_bestToAsk_62 ?_
        refine ga_iload 5 dX1_bestToAsk_63 rfl ?_
        refine ga_iadd dX1_bestToAsk_65 ?_
        refine ga_istore_n (ls' := [(1, vI ((10 * x3) + x4)), (2, vI v10), (5, vI v10), (0, .ref (G.2.1 84)), (3, vI x3), (4, vI x4)]) dX1_bestToAsk_66 rfl (by decide) rfl ?_
        refine ga_iinc (ls' := [(4, vI (x4 + 1)), (1, vI ((10 * x3) + x4)), (2, vI v10), (5, vI v10), (0, .ref (G.2.1 84)), (3, vI x3)]) 5 dX1_bestToAsk_67 rfl (by decide) rfl ?_
        refine ga_goto (tgt := 27) dX1_bestToAsk_70 (by decide) ?_
        exact ga_sub [4, 1, 2, 5, 0] rfl h
abbrev eX1_tell (l : Launch) (G : gG) (x1 : Int) (σ : gS) (Q : Int → gS → Prop) : Prop := gEi l G mX1_tell [.ref (G.2.1 84), vI x1] σ Q
set_option maxRecDepth 100000 in
set_option maxHeartbeats 4000000 in
theorem vX1_tell {l : Launch} {G : gG} (x1 : Int) (rx1 : gR x1) (σ : gS) (Q : Int → gS → Prop) (h : (x1 = 0 → Q (gI σ 84 1) σ) ∧
  (x1 = 1 → eX1_sureOf l G 1 σ (fun v4 σ2 => gR v4 →
    Q v4 σ2)) ∧
  (x1 = 2 → eX1_sureOf l G 0 σ (fun v7 σ5 => gR v7 →
    Q v7 σ5)) ∧
  (x1 = 3 → eX1_bestToAsk l G  σ (fun v10 σ8 => gR v10 →
    Q v10 σ8)) ∧
  ((x1 < 0 ∨ 3 < x1) → ((x1 < 10 → True) ∧
    (10 ≤ x1 → (gR (10 + (gI σ 84 1))) ∧ (x1 < (10 + (gI σ 84 1)) → (0 ≤ (x1 - 10) ∧ (x1 - 10) < 24) ∧ True) ∧
      ((10 + (gI σ 84 1)) ≤ x1 → True))) ∧
    (∀ v18 : Int, v18 = (if x1 < 10 then (-2) else (if x1 < (10 + (gI σ 84 1)) then (gI σ 85 (x1 - 10)) else (-2))) →
    Q v18 σ))) : eX1_tell l G x1 σ Q := by
  refine ga_entry rfl (Nat.le_of_ble_eq_true rfl) ?_
  show gAt l G mX1_tell (gQi G Q) 0 [(0, .ref (G.2.1 84)), (1, vI x1)] [] σ
  refine ga_iload_n 1 dX1_tell_0 rfl rfl ?_
  obtain ⟨hc19, hc20, hc21, hc22, hd⟩ := h
  by_cases q23 : x1 = 0
  · refine ga_tableIn (tgt := 32) (v := 0) dX1_tell_1 q23 (by decide) rfl (by decide) ?_
    have h := hc19 q23
    refine ga_aload_n 0 dX1_tell_32 rfl rfl ?_
    refine ga_getI (kI := 1) dX1_tell_33 fX1_21 rfl rfl rfl (fun r1 => ?_)
    exact ga_iret dX1_tell_36 rfl r1 h
  by_cases q24 : x1 = 1
  · refine ga_tableIn (tgt := 37) (v := 1) dX1_tell_1 q24 (by decide) rfl (by decide) ?_
    have h := hc20 q24
    refine ga_aload_n 0 dX1_tell_37 rfl rfl ?_
    refine ga_iconst dX1_tell_38 ?_
    refine ga_callVi (z := mX1_sureOf) (As := [vI 1]) (rest := []) dX1_tell_39 wX1_59 qX1_tell_X1_sureOf rfl ⟨_, rfl, rfl⟩ rfl rfl (Nat.le_of_ble_eq_true rfl) (gEi_mono h (fun v4 σ2 h r3 => ?_))
    replace h := h r3
    exact ga_iret dX1_tell_42 rfl r3 h
  by_cases q25 : x1 = 2
  · refine ga_tableIn (tgt := 43) (v := 2) dX1_tell_1 q25 (by decide) rfl (by decide) ?_
    have h := hc21 q25
    refine ga_aload_n 0 dX1_tell_43 rfl rfl ?_
    refine ga_iconst dX1_tell_44 ?_
    refine ga_callVi (z := mX1_sureOf) (As := [vI 0]) (rest := []) dX1_tell_45 wX1_59 qX1_tell_X1_sureOf rfl ⟨_, rfl, rfl⟩ rfl rfl (Nat.le_of_ble_eq_true rfl) (gEi_mono h (fun v7 σ5 h r6 => ?_))
    replace h := h r6
    exact ga_iret dX1_tell_48 rfl r6 h
  by_cases q26 : x1 = 3
  · refine ga_tableIn (tgt := 49) (v := 3) dX1_tell_1 q26 (by decide) rfl (by decide) ?_
    have h := hc22 q26
    refine ga_aload_n 0 dX1_tell_49 rfl rfl ?_
    refine ga_callVi (z := mX1_bestToAsk) (As := []) (rest := []) dX1_tell_50 wX1_63 qX1_tell_X1_bestToAsk rfl ⟨_, rfl, rfl⟩ rfl rfl (Nat.le_of_ble_eq_true rfl) (gEi_mono h (fun v10 σ8 h r9 => ?_))
    replace h := h r9
    exact ga_iret dX1_tell_53 rfl r9 h
  have hdc : (x1 < 0 ∨ 3 < x1) := by omega
  have h := hd hdc
  refine ga_tableOut (tgt := 54) dX1_tell_1 rx1 hdc (by decide) ?_
  refine ga_iload_n 1 dX1_tell_54 rfl rfl ?_
  refine ga_bipush dX1_tell_55 (by decide) ?_
  obtain ⟨hob, h⟩ := h
  have kJ11 : ∀ v18 : Int, gR v18 → v18 = (if x1 < 10 then (-2) else (if x1 < (10 + (gI σ 84 1)) then (gI σ 85 (x1 - 10)) else (-2))) → gAt l G mX1_tell (gQi G Q) 85 [(0, .ref (G.2.1 84)), (1, vI x1)] [vI v18] σ := by
    intro v18 rv18 ev18
    replace h := h v18 ev18
    exact ga_iret dX1_tell_85 rfl rv18 h
  replace h := hob
  obtain ⟨ht, hf⟩ := h
  refine ga_icmp_lt (tgt := 71) dX1_tell_57 (by decide) rx1 (by decide) (fun q12 => ?_) (fun q12 => ?_)
  · replace q12 : x1 < 10 := q12
    have h := ht q12
    refine ga_bipush dX1_tell_71 (by decide) ?_
    refine ga_goto (tgt := 85) dX1_tell_73 (by decide) ?_
    exact kJ11 (-2) (by decide) (by rw [if_pos q12])
  · replace q12 : 10 ≤ x1 := (Int.not_lt.mp q12)
    have h := hf q12
    refine ga_iload_n 1 dX1_tell_60 rfl rfl ?_
    refine ga_bipush dX1_tell_61 (by decide) ?_
    refine ga_aload_n 0 dX1_tell_63 rfl rfl ?_
    refine ga_getI (kI := 1) dX1_tell_64 fX1_21 rfl rfl rfl (fun r13 => ?_)
    refine ga_iadd dX1_tell_67 ?_
    obtain ⟨r14, h⟩ := h
    obtain ⟨ht, hf⟩ := h
    refine ga_icmp_lt (tgt := 76) dX1_tell_68 (by decide) rx1 r14 (fun q15 => ?_) (fun q15 => ?_)
    · replace q15 : x1 < (10 + (gI σ 84 1)) := q15
      have h := ht q15
      refine ga_aload_n 0 dX1_tell_76 rfl rfl ?_
      refine ga_getR (kI := 3) (r := 85) dX1_tell_77 fX1_9 rfl rfl (by decide) rfl ?_
      refine ga_iload_n 1 dX1_tell_80 rfl rfl ?_
      refine ga_bipush dX1_tell_81 (by decide) ?_
      refine ga_isub dX1_tell_83 ?_
      obtain ⟨i16, h⟩ := h
      refine ga_iald (nI := 24) dX1_tell_84 rfl rfl i16 (fun r17 => ?_)
      exact kJ11 (gI σ 85 (x1 - 10)) r17 (by rw [if_neg (Int.not_lt.mpr q12), if_pos q15])
    · replace q15 : (10 + (gI σ 84 1)) ≤ x1 := (Int.not_lt.mp q15)
      have h := hf q15
      refine ga_bipush dX1_tell_71 (by decide) ?_
      refine ga_goto (tgt := 85) dX1_tell_73 (by decide) ?_
      exact kJ11 (-2) (by decide) (by rw [if_neg (Int.not_lt.mpr q12), if_neg (Int.not_lt.mpr q15)])
abbrev eX10_bar (l : Launch) (G : gG) (x1 : Int) (x2 : Int) (σ : gS) (Q : Int → gS → Prop) : Prop := gEi l G mX10_bar [.ref (G.2.1 1), vI x1, vI x2] σ Q
set_option maxRecDepth 100000 in
set_option maxHeartbeats 4000000 in
theorem vX10_bar {l : Launch} {G : gG} (x1 : Int) (x2 : Int) (rx1 : gR x1) (rx2 : gR x2) (σ : gS) (Q : Int → gS → Prop) (h : (0 ≤ ((x1 * 4) + x2) ∧ ((x1 * 4) + x2) < 8) ∧ Q (gI σ 4 ((x1 * 4) + x2)) σ) : eX10_bar l G x1 x2 σ Q := by
  refine ga_entry rfl (Nat.le_of_ble_eq_true rfl) ?_
  show gAt l G mX10_bar (gQi G Q) 0 [(0, .ref (G.2.1 1)), (1, vI x1), (2, vI x2)] [] σ
  refine ga_aload_n 0 dX10_bar_0 rfl rfl ?_
  refine ga_getR (kI := 5) (r := 4) dX10_bar_1 fX10_29 rfl rfl (by decide) rfl ?_
  refine ga_iload_n 1 dX10_bar_4 rfl rfl ?_
  refine ga_iconst dX10_bar_5 ?_
  refine ga_imul dX10_bar_6 ?_
  refine ga_iload_n 2 dX10_bar_7 rfl rfl ?_
  refine ga_iadd dX10_bar_8 ?_
  obtain ⟨i1, h⟩ := h
  refine ga_iald (nI := 8) dX10_bar_9 rfl rfl i1 (fun r2 => ?_)
  exact ga_iret dX10_bar_10 rfl r2 h
abbrev eX4_free (l : Launch) (G : gG) (b : Nat) (σ : gS) (Q : gS → Prop) : Prop := gEv l G mX4_free [.ref (G.2.1 b)] σ Q
abbrev kX4_free_22 (l : Launch) (G : gG) (b : Nat) (x1 : Int) (σ : gS) (Q : gS → Prop) : Prop := gAt l G mX4_free (gQv G Q) 22 [(0, .ref (G.2.1 b)), (1, vI x1)] [] σ
set_option maxRecDepth 100000 in
set_option maxHeartbeats 4000000 in
theorem vX4_free {l : Launch} {G : gG} (b : Nat) (hb : b = 45 ∨ b = 59) (σ : gS) (Q : gS → Prop) (h : (gR ((gshl 1 (gI σ b 0)) - 1)) ∧ ∀ σ3, σ3 = sI σ b 5 ((gshl 1 (gI σ b 0)) - 1) →
  ∀ σ6, σ6 = sI σ3 b 6 (gI σ3 b 5) →
  kX4_free_22 l G b 0 σ6 Q) : eX4_free l G b σ Q := by
  have hsb0 : gshL[b]? = some (.inr (4, [none, some (b + 1), some (b + 2), some (b + 3), some (b + 4), none, none, some (b + 5)])) := by rcases hb with rfl | rfl <;> rfl
  have hsb1 : gshL[b + 1]? = some (.inl (6, .int)) := by rcases hb with rfl | rfl <;> rfl
  have h9b1 : b + 1 ≠ 9999 := by omega
  have hsb2 : gshL[b + 2]? = some (.inl (6, .int)) := by rcases hb with rfl | rfl <;> rfl
  have h9b2 : b + 2 ≠ 9999 := by omega
  have hsb3 : gshL[b + 3]? = some (.inl (6, .int)) := by rcases hb with rfl | rfl <;> rfl
  have h9b3 : b + 3 ≠ 9999 := by omega
  have hsb4 : gshL[b + 4]? = some (.inl (6, .int)) := by rcases hb with rfl | rfl <;> rfl
  have h9b4 : b + 4 ≠ 9999 := by omega
  have hsb5 : gshL[b + 5]? = some (.inl (6, .int)) := by rcases hb with rfl | rfl <;> rfl
  have h9b5 : b + 5 ≠ 9999 := by omega
  refine ga_entry rfl (Nat.le_of_ble_eq_true rfl) ?_
  show gAt l G mX4_free (gQv G Q) 0 [(0, .ref (G.2.1 b))] [] σ
  refine ga_aload_n 0 dX4_free_0 rfl rfl ?_
  refine ga_iconst dX4_free_1 ?_
  refine ga_aload_n 0 dX4_free_2 rfl rfl ?_
  refine ga_getI (kI := 0) dX4_free_3 fX4_9 hsb0 rfl rfl (fun r1 => ?_)
  refine ga_ishl dX4_free_6 (fun r2 => ?_)
  refine ga_iconst dX4_free_7 ?_
  refine ga_isub dX4_free_8 ?_
  obtain ⟨r4, h⟩ := h
  obtain ⟨σ3, eσ3⟩ : ∃ z, z = sI σ b 5 ((gshl 1 (gI σ b 0)) - 1) := ⟨_, rfl⟩
  replace h := h σ3 eσ3
  refine ga_putI (kI := 5) dX4_free_9 fX4_43 pX4_5 hsb0 rfl rfl r4 eσ3 ?_
  refine ga_aload_n 0 dX4_free_12 rfl rfl ?_
  refine ga_aload_n 0 dX4_free_13 rfl rfl ?_
  refine ga_getI (kI := 5) dX4_free_14 fX4_43 hsb0 rfl rfl (fun r5 => ?_)
  obtain ⟨σ6, eσ6⟩ : ∃ z, z = sI σ3 b 6 (gI σ3 b 5) := ⟨_, rfl⟩
  replace h := h σ6 eσ6
  refine ga_putI (kI := 6) dX4_free_17 fX4_46 pX4_6 hsb0 rfl rfl r5 eσ6 ?_
  refine ga_iconst dX4_free_20 ?_
  refine ga_istore_n (ls' := [(1, vI 0), (0, .ref (G.2.1 b))]) dX4_free_21 rfl (by decide) rfl ?_
  exact ga_sub [1, 0] rfl h
set_option maxRecDepth 100000 in
set_option maxHeartbeats 4000000 in
theorem vX4_free_22 {l : Launch} {G : gG} (b : Nat) (x1 : Int) (hb : b = 45 ∨ b = 59) (rx1 : gR x1) (σ : gS) (Q : gS → Prop) (h : (6 ≤ x1 → Q σ) ∧
  (x1 < 6 → (0 ≤ x1 ∧ x1 < 6) ∧ ∀ σ9, σ9 = sI σ (b + 4) x1 (-1) →
    kX4_free_22 l G b (x1 + 1) σ9 Q)) : kX4_free_22 l G b x1 σ Q := by
  have hsb0 : gshL[b]? = some (.inr (4, [none, some (b + 1), some (b + 2), some (b + 3), some (b + 4), none, none, some (b + 5)])) := by rcases hb with rfl | rfl <;> rfl
  have hsb1 : gshL[b + 1]? = some (.inl (6, .int)) := by rcases hb with rfl | rfl <;> rfl
  have h9b1 : b + 1 ≠ 9999 := by omega
  have hsb2 : gshL[b + 2]? = some (.inl (6, .int)) := by rcases hb with rfl | rfl <;> rfl
  have h9b2 : b + 2 ≠ 9999 := by omega
  have hsb3 : gshL[b + 3]? = some (.inl (6, .int)) := by rcases hb with rfl | rfl <;> rfl
  have h9b3 : b + 3 ≠ 9999 := by omega
  have hsb4 : gshL[b + 4]? = some (.inl (6, .int)) := by rcases hb with rfl | rfl <;> rfl
  have h9b4 : b + 4 ≠ 9999 := by omega
  have hsb5 : gshL[b + 5]? = some (.inl (6, .int)) := by rcases hb with rfl | rfl <;> rfl
  have h9b5 : b + 5 ≠ 9999 := by omega
  refine ga_iload_n 1 dX4_free_22 rfl rfl ?_
  refine ga_bipush dX4_free_23 (by decide) ?_
  obtain ⟨ht, hf⟩ := h
  refine ga_icmp_ge (tgt := 41) dX4_free_25 (by decide) rx1 (by decide) (fun q7 => ?_) (fun q7 => ?_)
  · replace q7 : 6 ≤ x1 := q7
    have h := ht q7
    exact ga_vret dX4_free_41 rfl h
  · replace q7 : x1 < 6 := (Int.not_le.mp q7)
    have h := hf q7
    refine ga_aload_n 0 dX4_free_28 rfl rfl ?_
    refine ga_getR (kI := 4) (r := (b + 4)) dX4_free_29 fX4_25 hsb0 rfl h9b4 rfl ?_
    refine ga_iload_n 1 dX4_free_32 rfl rfl ?_
    refine ga_iconst dX4_free_33 ?_
    obtain ⟨i8, h⟩ := h
    obtain ⟨σ9, eσ9⟩ : ∃ z, z = sI σ (b + 4) x1 (-1) := ⟨_, rfl⟩
    replace h := h σ9 eσ9
    refine ga_iast (nI := 6) dX4_free_34 hsb4 rfl i8 (by decide) eσ9 ?_
    refine ga_iinc (ls' := [(1, vI (x1 + 1)), (0, .ref (G.2.1 b))]) 1 dX4_free_35 rfl (by decide) rfl ?_
    refine ga_goto (tgt := 22) dX4_free_38 (by decide) ?_
    exact ga_sub [1, 0] rfl h
abbrev eX4_begin (l : Launch) (G : gG) (b : Nat) (x1 : Int) (x2 : Int) (σ : gS) (Q : gS → Prop) : Prop := gEv l G mX4_begin [.ref (G.2.1 b), vI x1, vI x2] σ Q
abbrev kX4_begin_16 (l : Launch) (G : gG) (b : Nat) (x1 : Int) (x2 : Int) (x3 : Int) (σ : gS) (Q : gS → Prop) : Prop := gAt l G mX4_begin (gQv G Q) 16 [(0, .ref (G.2.1 b)), (1, vI x1), (2, vI x2), (3, vI x3)] [] σ
set_option maxRecDepth 100000 in
set_option maxHeartbeats 4000000 in
theorem vX4_begin {l : Launch} {G : gG} (b : Nat) (x1 : Int) (x2 : Int) (hb : b = 45 ∨ b = 59) (rx1 : gR x1) (rx2 : gR x2) (σ : gS) (Q : gS → Prop) (h : ∀ σ1, σ1 = sI σ b 0 (max 1 (min 6 x1)) →
  kX4_begin_16 l G b x1 x2 0 σ1 Q) : eX4_begin l G b x1 x2 σ Q := by
  have hsb0 : gshL[b]? = some (.inr (4, [none, some (b + 1), some (b + 2), some (b + 3), some (b + 4), none, none, some (b + 5)])) := by rcases hb with rfl | rfl <;> rfl
  have hsb1 : gshL[b + 1]? = some (.inl (6, .int)) := by rcases hb with rfl | rfl <;> rfl
  have h9b1 : b + 1 ≠ 9999 := by omega
  have hsb2 : gshL[b + 2]? = some (.inl (6, .int)) := by rcases hb with rfl | rfl <;> rfl
  have h9b2 : b + 2 ≠ 9999 := by omega
  have hsb3 : gshL[b + 3]? = some (.inl (6, .int)) := by rcases hb with rfl | rfl <;> rfl
  have h9b3 : b + 3 ≠ 9999 := by omega
  have hsb4 : gshL[b + 4]? = some (.inl (6, .int)) := by rcases hb with rfl | rfl <;> rfl
  have h9b4 : b + 4 ≠ 9999 := by omega
  have hsb5 : gshL[b + 5]? = some (.inl (6, .int)) := by rcases hb with rfl | rfl <;> rfl
  have h9b5 : b + 5 ≠ 9999 := by omega
  refine ga_entry rfl (Nat.le_of_ble_eq_true rfl) ?_
  show gAt l G mX4_begin (gQv G Q) 0 [(0, .ref (G.2.1 b)), (1, vI x1), (2, vI x2)] [] σ
  refine ga_aload_n 0 dX4_begin_0 rfl rfl ?_
  refine ga_iconst dX4_begin_1 ?_
  refine ga_bipush dX4_begin_2 (by decide) ?_
  refine ga_iload_n 1 dX4_begin_4 rfl rfl ?_
  refine ga_min dX4_begin_5 wX4_31 (by decide) (Nat.le_of_ble_eq_true rfl) (by decide) rx1 ?_
  refine ga_max dX4_begin_8 wX4_37 (by decide) (Nat.le_of_ble_eq_true rfl) (by decide) (show gR (min 6 x1) from gR_min (by decide) rx1) ?_
  obtain ⟨σ1, eσ1⟩ : ∃ z, z = sI σ b 0 (max 1 (min 6 x1)) := ⟨_, rfl⟩
  replace h := h σ1 eσ1
  refine ga_putI (kI := 0) dX4_begin_11 fX4_9 pX4_0 hsb0 rfl rfl (show gR (max 1 (min 6 x1)) from gR_max (by decide) (show gR (min 6 x1) from gR_min (by decide) rx1)) eσ1 ?_
  refine ga_iconst dX4_begin_14 ?_
  refine ga_istore_n (ls' := [(3, vI 0), (0, .ref (G.2.1 b)), (1, vI x1), (2, vI x2)]) dX4_begin_15 rfl (by decide) rfl ?_
  exact ga_sub [1, 2, 3, 0] rfl h
set_option maxRecDepth 100000 in
set_option maxHeartbeats 4000000 in
theorem vX4_begin_16 {l : Launch} {G : gG} (b : Nat) (x1 : Int) (x2 : Int) (x3 : Int) (hb : b = 45 ∨ b = 59) (rx1 : gR x1) (rx2 : gR x2) (rx3 : gR x3) (σ : gS) (Q : gS → Prop) (h : (6 ≤ x3 → eX4_free l G b σ (fun σ3 =>
    Q σ3)) ∧
  (x3 < 6 → ((gI σ b 0) ≠ 0) ∧ (0 ≤ x3 ∧ x3 < 6) ∧ ∀ σ9, σ9 = sI σ (b + 1) x3 (grem x2 (gI σ b 0)) →
    ((gI σ9 b 0) ≠ 0) ∧ ∀ σ13, σ13 = sI σ9 (b + 2) x3 (grem x2 (gI σ9 b 0)) →
    ∀ σ14, σ14 = sI σ13 (b + 3) x3 0 →
    kX4_begin_16 l G b x1 x2 (x3 + 1) σ14 Q)) : kX4_begin_16 l G b x1 x2 x3 σ Q := by
  have hsb0 : gshL[b]? = some (.inr (4, [none, some (b + 1), some (b + 2), some (b + 3), some (b + 4), none, none, some (b + 5)])) := by rcases hb with rfl | rfl <;> rfl
  have hsb1 : gshL[b + 1]? = some (.inl (6, .int)) := by rcases hb with rfl | rfl <;> rfl
  have h9b1 : b + 1 ≠ 9999 := by omega
  have hsb2 : gshL[b + 2]? = some (.inl (6, .int)) := by rcases hb with rfl | rfl <;> rfl
  have h9b2 : b + 2 ≠ 9999 := by omega
  have hsb3 : gshL[b + 3]? = some (.inl (6, .int)) := by rcases hb with rfl | rfl <;> rfl
  have h9b3 : b + 3 ≠ 9999 := by omega
  have hsb4 : gshL[b + 4]? = some (.inl (6, .int)) := by rcases hb with rfl | rfl <;> rfl
  have h9b4 : b + 4 ≠ 9999 := by omega
  have hsb5 : gshL[b + 5]? = some (.inl (6, .int)) := by rcases hb with rfl | rfl <;> rfl
  have h9b5 : b + 5 ≠ 9999 := by omega
  refine ga_iload_n 3 dX4_begin_16 rfl rfl ?_
  refine ga_bipush dX4_begin_17 (by decide) ?_
  obtain ⟨ht, hf⟩ := h
  refine ga_icmp_ge (tgt := 59) dX4_begin_19 (by decide) rx3 (by decide) (fun q2 => ?_) (fun q2 => ?_)
  · replace q2 : 6 ≤ x3 := q2
    have h := ht q2
    refine ga_aload_n 0 dX4_begin_59 rfl rfl ?_
    refine ga_callVv (z := mX4_free) (As := []) (rest := []) dX4_begin_60 wX4_40 qX4_begin_X4_free hsb0 ⟨_, rfl, rfl⟩ rfl rfl (Nat.le_of_ble_eq_true rfl) (gEv_mono h (fun σ3 h => ?_))
    exact ga_vret dX4_begin_63 rfl h
  · replace q2 : x3 < 6 := (Int.not_le.mp q2)
    have h := hf q2
    refine ga_aload_n 0 dX4_begin_22 rfl rfl ?_
    refine ga_getR (kI := 1) (r := (b + 1)) dX4_begin_23 fX4_15 hsb0 rfl h9b1 rfl ?_
    refine ga_iload_n 3 dX4_begin_26 rfl rfl ?_
    refine ga_iload_n 2 dX4_begin_27 rfl rfl ?_
    refine ga_aload_n 0 dX4_begin_28 rfl rfl ?_
    refine ga_getI (kI := 0) dX4_begin_29 fX4_9 hsb0 rfl rfl (fun r5 => ?_)
    obtain ⟨o6, h⟩ := h
    refine ga_irem dX4_begin_32 r5 o6 (fun r7 => ?_)
    obtain ⟨i8, h⟩ := h
    obtain ⟨σ9, eσ9⟩ : ∃ z, z = sI σ (b + 1) x3 (grem x2 (gI σ b 0)) := ⟨_, rfl⟩
    replace h := h σ9 eσ9
    refine ga_iast (nI := 6) dX4_begin_33 hsb1 rfl i8 r7 eσ9 ?_
    refine ga_aload_n 0 dX4_begin_34 rfl rfl ?_
    refine ga_getR (kI := 2) (r := (b + 2)) dX4_begin_35 fX4_19 hsb0 rfl h9b2 rfl ?_
    refine ga_iload_n 3 dX4_begin_38 rfl rfl ?_
    refine ga_iload_n 2 dX4_begin_39 rfl rfl ?_
    refine ga_aload_n 0 dX4_begin_40 rfl rfl ?_
    refine ga_getI (kI := 0) dX4_begin_41 fX4_9 hsb0 rfl rfl (fun r10 => ?_)
    obtain ⟨o11, h⟩ := h
    refine ga_irem dX4_begin_44 r10 o11 (fun r12 => ?_)
    obtain ⟨σ13, eσ13⟩ : ∃ z, z = sI σ9 (b + 2) x3 (grem x2 (gI σ9 b 0)) := ⟨_, rfl⟩
    replace h := h σ13 eσ13
    refine ga_iast (nI := 6) dX4_begin_45 hsb2 rfl i8 r12 eσ13 ?_
    refine ga_aload_n 0 dX4_begin_46 rfl rfl ?_
    refine ga_getR (kI := 3) (r := (b + 3)) dX4_begin_47 fX4_22 hsb0 rfl h9b3 rfl ?_
    refine ga_iload_n 3 dX4_begin_50 rfl rfl ?_
    refine ga_iconst dX4_begin_51 ?_
    obtain ⟨σ14, eσ14⟩ : ∃ z, z = sI σ13 (b + 3) x3 0 := ⟨_, rfl⟩
    replace h := h σ14 eσ14
    refine ga_iast (nI := 6) dX4_begin_52 hsb3 rfl i8 (by decide) eσ14 ?_
    refine ga_iinc (ls' := [(3, vI (x3 + 1)), (0, .ref (G.2.1 b)), (1, vI x1), (2, vI x2)]) 3 dX4_begin_53 rfl (by decide) rfl ?_
    refine ga_goto (tgt := 16) dX4_begin_56 (by decide) ?_
    exact ga_sub [1, 2, 3, 0] rfl h
abbrev eX2_begin (l : Launch) (G : gG) (x2 : Int) (σ : gS) (Q : gS → Prop) : Prop := gEv l G mX2_begin [.ref (G.2.1 58), .ref (G.2.1 1), vI x2] σ Q
abbrev kX2_begin_31 (l : Launch) (G : gG)  (x2 : Int) (x3 : Int) (σ : gS) (Q : gS → Prop) : Prop := gAt l G mX2_begin (gQv G Q) 31 [(0, .ref (G.2.1 58)), (1, .ref (G.2.1 1)), (2, vI x2), (3, vI x3)] [] σ
set_option maxRecDepth 100000 in
set_option maxHeartbeats 4000000 in
theorem vX2_begin {l : Launch} {G : gG} (x2 : Int) (rx2 : gR x2) (σ : gS) (Q : gS → Prop) (h : eX10_bar l G x2 0 σ (fun v3 σ1 => gR v3 →
  eX10_bar l G x2 3 σ1 (fun v6 σ4 => gR v6 →
  eX4_begin l G 59 v3 v6 σ4 (fun σ7 =>
  eX10_bar l G x2 1 σ7 (fun v11 σ9 => gR v11 →
  ∀ σ12, σ12 = sI σ9 58 1 v11 →
  kX2_begin_31 l G  x2 0 σ12 Q))))) : eX2_begin l G x2 σ Q := by
  refine ga_entry rfl (Nat.le_of_ble_eq_true rfl) ?_
  show gAt l G mX2_begin (gQv G Q) 0 [(0, .ref (G.2.1 58)), (1, .ref (G.2.1 1)), (2, vI x2)] [] σ
  refine ga_aload_n 0 dX2_begin_0 rfl rfl ?_
  refine ga_getR (kI := 0) (r := 59) dX2_begin_1 fX2_12 rfl rfl (by decide) rfl ?_
  refine ga_aload_n 1 dX2_begin_4 rfl rfl ?_
  refine ga_iload_n 2 dX2_begin_5 rfl rfl ?_
  refine ga_iconst dX2_begin_6 ?_
  refine ga_callVi (z := mX10_bar) (As := [vI x2, vI 0]) (rest := [.ref (G.2.1 59)]) dX2_begin_7 wX2_26 qX2_begin_X10_bar rfl ⟨_, rfl, rfl⟩ rfl rfl (Nat.le_of_ble_eq_true rfl) (gEi_mono h (fun v3 σ1 h r2 => ?_))
  replace h := h r2
  refine ga_aload_n 1 dX2_begin_10 rfl rfl ?_
  refine ga_iload_n 2 dX2_begin_11 rfl rfl ?_
  refine ga_iconst dX2_begin_12 ?_
  refine ga_callVi (z := mX10_bar) (As := [vI x2, vI 3]) (rest := [vI v3, .ref (G.2.1 59)]) dX2_begin_13 wX2_26 qX2_begin_X10_bar rfl ⟨_, rfl, rfl⟩ rfl rfl (Nat.le_of_ble_eq_true rfl) (gEi_mono h (fun v6 σ4 h r5 => ?_))
  replace h := h r5
  refine ga_callVv (z := mX4_begin) (As := [vI v3, vI v6]) (rest := []) dX2_begin_16 wX2_32 qX2_begin_X4_begin rfl ⟨_, rfl, rfl⟩ rfl rfl (Nat.le_of_ble_eq_true rfl) (gEv_mono h (fun σ7 h => ?_))
  refine ga_aload_n 0 dX2_begin_19 rfl rfl ?_
  refine ga_aload_n 1 dX2_begin_20 rfl rfl ?_
  refine ga_iload_n 2 dX2_begin_21 rfl rfl ?_
  refine ga_iconst dX2_begin_22 ?_
  refine ga_callVi (z := mX10_bar) (As := [vI x2, vI 1]) (rest := [.ref (G.2.1 58)]) dX2_begin_23 wX2_26 qX2_begin_X10_bar rfl ⟨_, rfl, rfl⟩ rfl rfl (Nat.le_of_ble_eq_true rfl) (gEi_mono h (fun v11 σ9 h r10 => ?_))
  replace h := h r10
  obtain ⟨σ12, eσ12⟩ : ∃ z, z = sI σ9 58 1 v11 := ⟨_, rfl⟩
  replace h := h σ12 eσ12
  refine ga_putI (kI := 1) dX2_begin_26 fX2_36 pX2_1 rfl rfl rfl r10 eσ12 ?_
  refine ga_iconst dX2_begin_29 ?_
  refine ga_istore_n (ls' := [(3, vI 0), (0, .ref (G.2.1 58)), (1, .ref (G.2.1 1)), (2, vI x2)]) dX2_begin_30 rfl (by decide) rfl ?_
  exact ga_sub [1, 2, 3, 0] rfl h
set_option maxRecDepth 100000 in
set_option maxHeartbeats 4000000 in
theorem vX2_begin_31 {l : Launch} {G : gG}  (x2 : Int) (x3 : Int) (rx2 : gR x2) (rx3 : gR x3) (σ : gS) (Q : gS → Prop) (h : ((gI σ 59 0) ≤ x3 → Q σ) ∧
  (x3 < (gI σ 59 0) → (0 ≤ x3 ∧ x3 < 6) ∧ (gR ((gshl 1 (gI σ 59 0)) - 1)) ∧ ∀ σ18, σ18 = sI σ 62 x3 ((gshl 1 (gI σ 59 0)) - 1) →
    kX2_begin_31 l G  x2 (x3 + 1) σ18 Q)) : kX2_begin_31 l G  x2 x3 σ Q := by
  refine ga_iload_n 3 dX2_begin_31 rfl rfl ?_
  refine ga_aload_n 0 dX2_begin_32 rfl rfl ?_
  refine ga_getR (kI := 0) (r := 59) dX2_begin_33 fX2_12 rfl rfl (by decide) rfl ?_
  refine ga_getI (kI := 0) dX2_begin_36 fX2_40 rfl rfl rfl (fun r13 => ?_)
  obtain ⟨ht, hf⟩ := h
  refine ga_icmp_ge (tgt := 68) dX2_begin_39 (by decide) rx3 r13 (fun q14 => ?_) (fun q14 => ?_)
  · replace q14 : (gI σ 59 0) ≤ x3 := q14
    have h := ht q14
    exact ga_vret dX2_begin_68 rfl h
  · replace q14 : x3 < (gI σ 59 0) := (Int.not_le.mp q14)
    have h := hf q14
    refine ga_aload_n 0 dX2_begin_42 rfl rfl ?_
    refine ga_getR (kI := 0) (r := 59) dX2_begin_43 fX2_12 rfl rfl (by decide) rfl ?_
    refine ga_getR (kI := 3) (r := 62) dX2_begin_46 fX2_43 rfl rfl (by decide) rfl ?_
    refine ga_iload_n 3 dX2_begin_49 rfl rfl ?_
    refine ga_iconst dX2_begin_50 ?_
    refine ga_aload_n 0 dX2_begin_51 rfl rfl ?_
    refine ga_getR (kI := 0) (r := 59) dX2_begin_52 fX2_12 rfl rfl (by decide) rfl ?_
    refine ga_getI (kI := 0) dX2_begin_55 fX2_40 rfl rfl rfl (fun r15 => ?_)
    refine ga_ishl dX2_begin_58 (fun r16 => ?_)
    refine ga_iconst dX2_begin_59 ?_
    refine ga_isub dX2_begin_60 ?_
    obtain ⟨i17, h⟩ := h
    obtain ⟨r19, h⟩ := h
    obtain ⟨σ18, eσ18⟩ : ∃ z, z = sI σ 62 x3 ((gshl 1 (gI σ 59 0)) - 1) := ⟨_, rfl⟩
    replace h := h σ18 eσ18
    refine ga_iast (nI := 6) dX2_begin_61 rfl rfl i17 r19 eσ18 ?_
    refine ga_iinc (ls' := [(3, vI (x3 + 1)), (0, .ref (G.2.1 58)), (1, .ref (G.2.1 1)), (2, vI x2)]) 3 dX2_begin_62 rfl (by decide) rfl ?_
    refine ga_goto (tgt := 31) dX2_begin_65 (by decide) ?_
    exact ga_sub [1, 2, 3, 0] rfl h
abbrev eX11_holds (l : Launch) (G : gG) (x0 : Int) (x1 : Int) (σ : gS) (Q : Int → gS → Prop) : Prop := gEz l G mX11_holds [vI x0, vI x1] σ Q
set_option maxRecDepth 100000 in
set_option maxHeartbeats 4000000 in
theorem vX11_holds {l : Launch} {G : gG} (x0 : Int) (x1 : Int) (rx0 : gR x0) (rx1 : gR x1) (σ : gS) (Q : Int → gS → Prop) (h : (∀ v5 : Int, v5 = (if (gand (gshr x0 x1) 1) = 0 then 0 else 1) →
  Q v5 σ)) : eX11_holds l G x0 x1 σ Q := by
  refine ga_entry rfl (Nat.le_of_ble_eq_true rfl) ?_
  show gAt l G mX11_holds (gQz G Q) 0 [(0, vI x0), (1, vI x1)] [] σ
  refine ga_iload_n 0 dX11_holds_0 rfl rfl ?_
  refine ga_iload_n 1 dX11_holds_1 rfl rfl ?_
  refine ga_ishr dX11_holds_2 (fun r1 => ?_)
  refine ga_iconst dX11_holds_3 ?_
  refine ga_iand dX11_holds_4 (fun r2 => ?_)
  have kJ3 : ∀ v5 : Int, gR v5 → (v5 = 0 ∨ v5 = 1) → v5 = (if (gand (gshr x0 x1) 1) = 0 then 0 else 1) → gAt l G mX11_holds (gQz G Q) 13 [(0, vI x0), (1, vI x1)] [vI v5] σ := by
    intro v5 rv5 bv5 ev5
    replace h := h v5 ev5
    exact ga_bret dX11_holds_13 rfl bv5 h
  replace h : ((gand (gshr x0 x1) 1) = 0 → True) ∧
  (¬ (gand (gshr x0 x1) 1) = 0 → True) := by repeat (first | exact True.intro | apply And.intro | intro _)
  obtain ⟨ht, hf⟩ := h
  refine ga_if_eq (tgt := 12) dX11_holds_5 (by decide) r2 (fun q4 => ?_) (fun q4 => ?_)
  · replace q4 : (gand (gshr x0 x1) 1) = 0 := q4
    have h := ht q4
    refine ga_iconst dX11_holds_12 ?_
    exact kJ3 0 (by decide) (Or.inl rfl) (by rw [if_pos q4])
  · replace q4 : ¬ (gand (gshr x0 x1) 1) = 0 := q4
    have h := hf q4
    refine ga_iconst dX11_holds_8 ?_
    refine ga_goto (tgt := 13) dX11_holds_9 (by decide) ?_
    exact kJ3 1 (by decide) (Or.inr rfl) (by rw [if_neg q4])
abbrev eX11_firstFrom (l : Launch) (G : gG) (x0 : Int) (x1 : Int) (x2 : Int) (σ : gS) (Q : Int → gS → Prop) : Prop := gEi l G mX11_firstFrom [vI x0, vI x1, vI x2] σ Q
abbrev kX11_firstFrom_5 (l : Launch) (G : gG)  (x0 : Int) (x1 : Int) (x2 : Int) (x3 : Int) (x4 : Int) (σ : gS) (Q : Int → gS → Prop) : Prop := gAt l G mX11_firstFrom (gQi G Q) 5 [(0, vI x0), (1, vI x1), (2, vI x2), (3, vI x3), (4, vI x4)] [] σ
set_option maxRecDepth 100000 in
set_option maxHeartbeats 4000000 in
theorem vX11_firstFrom {l : Launch} {G : gG} (x0 : Int) (x1 : Int) (x2 : Int) (rx0 : gR x0) (rx1 : gR x1) (rx2 : gR x2) (σ : gS) (Q : Int → gS → Prop) (h : kX11_firstFrom_5 l G  x0 x1 x2 x1 0 σ Q) : eX11_firstFrom l G x0 x1 x2 σ Q := by
  refine ga_entry rfl (Nat.le_of_ble_eq_true rfl) ?_
  show gAt l G mX11_firstFrom (gQi G Q) 0 [(0, vI x0), (1, vI x1), (2, vI x2)] [] σ
  refine ga_iload_n 1 dX11_firstFrom_0 rfl rfl ?_
  refine ga_istore_n (ls' := [(3, vI x1), (0, vI x0), (1, vI x1), (2, vI x2)]) dX11_firstFrom_1 rfl (by decide) rfl ?_
  refine ga_iconst dX11_firstFrom_2 ?_
  refine ga_istore (ls' := [(4, vI 0), (3, vI x1), (0, vI x0), (1, vI x1), (2, vI x2)]) dX11_firstFrom_3 (by decide) rfl ?_
  exact ga_sub [2, 3, 4, 1, 0] rfl h
set_option maxRecDepth 100000 in
set_option maxHeartbeats 4000000 in
theorem vX11_firstFrom_5 {l : Launch} {G : gG}  (x0 : Int) (x1 : Int) (x2 : Int) (x3 : Int) (x4 : Int) (rx0 : gR x0) (rx1 : gR x1) (rx2 : gR x2) (rx3 : gR x3) (rx4 : gR x4) (σ : gS) (Q : Int → gS → Prop) (h : (x2 ≤ x4 → Q (-1) σ) ∧
  (x4 < x2 → ((gand (gshr x0 x3) 1) = 0 → ((gR (x3 + 1)) ∧ ((x3 + 1) < x2 → True) ∧
      (x2 ≤ (x3 + 1) → True)) ∧
      (∀ v8 : Int, v8 = (if (x3 + 1) < x2 then (x3 + 1) else 0) →
      kX11_firstFrom_5 l G  x0 x1 x2 v8 (x4 + 1) σ Q)) ∧
    (¬ (gand (gshr x0 x3) 1) = 0 → Q x3 σ))) : kX11_firstFrom_5 l G  x0 x1 x2 x3 x4 σ Q := by
  refine ga_iload 4 dX11_firstFrom_5 rfl ?_
  refine ga_iload_n 2 dX11_firstFrom_7 rfl rfl ?_
  obtain ⟨ht, hf⟩ := h
  refine ga_icmp_ge (tgt := 42) dX11_firstFrom_8 (by decide) rx4 rx2 (fun q1 => ?_) (fun q1 => ?_)
  · replace q1 : x2 ≤ x4 := q1
    have h := ht q1
    refine ga_iconst dX11_firstFrom_42 ?_
    exact ga_iret dX11_firstFrom_43 rfl (by decide) h
  · replace q1 : x4 < x2 := (Int.not_le.mp q1)
    have h := hf q1
    refine ga_iload_n 0 dX11_firstFrom_11 rfl rfl ?_
    refine ga_iload_n 3 dX11_firstFrom_12 rfl rfl ?_
    refine ga_ishr dX11_firstFrom_13 (fun r2 => ?_)
    refine ga_iconst dX11_firstFrom_14 ?_
    refine ga_iand dX11_firstFrom_15 (fun r3 => ?_)
    obtain ⟨ht, hf⟩ := h
    refine ga_if_eq (tgt := 21) dX11_firstFrom_16 (by decide) r3 (fun q4 => ?_) (fun q4 => ?_)
    · replace q4 : (gand (gshr x0 x3) 1) = 0 := q4
      have h := ht q4
      refine ga_iload_n 3 dX11_firstFrom_21 rfl rfl ?_
      refine ga_iconst dX11_firstFrom_22 ?_
      refine ga_iadd dX11_firstFrom_23 ?_
      refine ga_iload_n 2 dX11_firstFrom_24 rfl rfl ?_
      obtain ⟨hob, h⟩ := h
      have kJ5 : ∀ v8 : Int, gR v8 → v8 = (if (x3 + 1) < x2 then (x3 + 1) else 0) → gAt l G mX11_firstFrom (gQi G Q) 35 [(0, vI x0), (1, vI x1), (2, vI x2), (3, vI x3), (4, vI x4)] [vI v8] σ := by
        intro v8 rv8 ev8
        replace h := h v8 ev8
        refine ga_istore_n (ls' := [(3, vI v8), (0, vI x0), (1, vI x1), (2, vI x2), (4, vI x4)]) dX11_firstFrom_35 rfl (by decide) rfl ?_
        refine ga_iinc (ls' := [(4, vI (x4 + 1)), (3, vI v8), (0, vI x0), (1, vI x1), (2, vI x2)]) 4 dX11_firstFrom_36 rfl (by decide) rfl ?_
        refine ga_goto (tgt := 5) dX11_firstFrom_39 (by decide) ?_
        exact ga_sub [2, 3, 4, 1, 0] rfl h
      replace h := hob
      obtain ⟨r6, h⟩ := h
      obtain ⟨ht, hf⟩ := h
      refine ga_icmp_lt (tgt := 32) dX11_firstFrom_25 (by decide) r6 rx2 (fun q7 => ?_) (fun q7 => ?_)
      · replace q7 : (x3 + 1) < x2 := q7
        have h := ht q7
        refine ga_iload_n 3 dX11_firstFrom_32 rfl rfl ?_
        refine ga_iconst dX11_firstFrom_33 ?_
        refine ga_iadd dX11_firstFrom_34 ?_
        exact kJ5 (x3 + 1) r6 (by rw [if_pos q7])
      · replace q7 : x2 ≤ (x3 + 1) := (Int.not_lt.mp q7)
        have h := hf q7
        refine ga_iconst dX11_firstFrom_28 ?_
        refine ga_goto (tgt := 35) dX11_firstFrom_29 (by decide) ?_
        exact kJ5 0 (by decide) (by rw [if_neg (Int.not_lt.mpr q7)])
    · replace q4 : ¬ (gand (gshr x0 x3) 1) = 0 := q4
      have h := hf q4
      refine ga_iload_n 3 dX11_firstFrom_19 rfl rfl ?_
      exact ga_iret dX11_firstFrom_20 rfl rx3 h
abbrev eX11_next (l : Launch) (G : gG) (x0 : Int) (x1 : Int) (σ : gS) (Q : Int → gS → Prop) : Prop := gEi l G mX11_next [vI x0, vI x1] σ Q
set_option maxRecDepth 100000 in
set_option maxHeartbeats 4000000 in
theorem vX11_next {l : Launch} {G : gG} (x0 : Int) (x1 : Int) (rx0 : gR x0) (rx1 : gR x1) (σ : gS) (Q : Int → gS → Prop) (h : ((gR (x0 + 1)) ∧ ((x0 + 1) < x1 → True) ∧
  (x1 ≤ (x0 + 1) → True)) ∧
  (∀ v4 : Int, v4 = (if (x0 + 1) < x1 then (x0 + 1) else 0) →
  Q v4 σ)) : eX11_next l G x0 x1 σ Q := by
  refine ga_entry rfl (Nat.le_of_ble_eq_true rfl) ?_
  show gAt l G mX11_next (gQi G Q) 0 [(0, vI x0), (1, vI x1)] [] σ
  refine ga_iload_n 0 dX11_next_0 rfl rfl ?_
  refine ga_iconst dX11_next_1 ?_
  refine ga_iadd dX11_next_2 ?_
  refine ga_iload_n 1 dX11_next_3 rfl rfl ?_
  obtain ⟨hob, h⟩ := h
  have kJ1 : ∀ v4 : Int, gR v4 → v4 = (if (x0 + 1) < x1 then (x0 + 1) else 0) → gAt l G mX11_next (gQi G Q) 14 [(0, vI x0), (1, vI x1)] [vI v4] σ := by
    intro v4 rv4 ev4
    replace h := h v4 ev4
    exact ga_iret dX11_next_14 rfl rv4 h
  replace h := hob
  obtain ⟨r2, h⟩ := h
  obtain ⟨ht, hf⟩ := h
  refine ga_icmp_lt (tgt := 11) dX11_next_4 (by decide) r2 rx1 (fun q3 => ?_) (fun q3 => ?_)
  · replace q3 : (x0 + 1) < x1 := q3
    have h := ht q3
    refine ga_iload_n 0 dX11_next_11 rfl rfl ?_
    refine ga_iconst dX11_next_12 ?_
    refine ga_iadd dX11_next_13 ?_
    exact kJ1 (x0 + 1) r2 (by rw [if_pos q3])
  · replace q3 : x1 ≤ (x0 + 1) := (Int.not_lt.mp q3)
    have h := hf q3
    refine ga_iconst dX11_next_7 ?_
    refine ga_goto (tgt := 14) dX11_next_8 (by decide) ?_
    exact kJ1 0 (by decide) (by rw [if_neg (Int.not_lt.mpr q3)])
abbrev eX4_pair (l : Launch) (G : gG) (b : Nat) (x1 : Int) (x2 : Int) (x3 : Int) (σ : gS) (Q : gS → Prop) : Prop := gEv l G mX4_pair [.ref (G.2.1 b), vI x1, vI x2, vI x3] σ Q
set_option maxRecDepth 100000 in
set_option maxHeartbeats 4000000 in
theorem vX4_pair {l : Launch} {G : gG} (b : Nat) (x1 : Int) (x2 : Int) (x3 : Int) (hb : b = 45 ∨ b = 59) (rx1 : gR x1) (rx2 : gR x2) (rx3 : gR x3) (σ : gS) (Q : gS → Prop) (h : (0 ≤ x2 ∧ x2 < 6) ∧ ∀ σ2, σ2 = sI σ (b + 4) x2 x1 →
  ∀ σ7, σ7 = sI σ2 b 5 (gand (gI σ2 b 5) (gxor (gshl 1 x1) (-1))) →
  ∀ σ12, σ12 = sI σ7 b 6 (gand (gI σ7 b 6) (gxor (gshl 1 x2) (-1))) →
  (x3 = 0 → Q σ12) ∧
  (¬ x3 = 0 → eX11_next l G x1 (gI σ12 b 0) σ12 (fun v17 σ15 => gR v17 →
    ∀ σ18, σ18 = sI σ15 (b + 1) x2 v17 →
    eX11_next l G x2 (gI σ18 b 0) σ18 (fun v22 σ20 => gR v22 →
    (0 ≤ x1 ∧ x1 < 6) ∧ ∀ σ24, σ24 = sI σ20 (b + 2) x1 v22 →
    Q σ24)))) : eX4_pair l G b x1 x2 x3 σ Q := by
  have hsb0 : gshL[b]? = some (.inr (4, [none, some (b + 1), some (b + 2), some (b + 3), some (b + 4), none, none, some (b + 5)])) := by rcases hb with rfl | rfl <;> rfl
  have hsb1 : gshL[b + 1]? = some (.inl (6, .int)) := by rcases hb with rfl | rfl <;> rfl
  have h9b1 : b + 1 ≠ 9999 := by omega
  have hsb2 : gshL[b + 2]? = some (.inl (6, .int)) := by rcases hb with rfl | rfl <;> rfl
  have h9b2 : b + 2 ≠ 9999 := by omega
  have hsb3 : gshL[b + 3]? = some (.inl (6, .int)) := by rcases hb with rfl | rfl <;> rfl
  have h9b3 : b + 3 ≠ 9999 := by omega
  have hsb4 : gshL[b + 4]? = some (.inl (6, .int)) := by rcases hb with rfl | rfl <;> rfl
  have h9b4 : b + 4 ≠ 9999 := by omega
  have hsb5 : gshL[b + 5]? = some (.inl (6, .int)) := by rcases hb with rfl | rfl <;> rfl
  have h9b5 : b + 5 ≠ 9999 := by omega
  refine ga_entry rfl (Nat.le_of_ble_eq_true rfl) ?_
  show gAt l G mX4_pair (gQv G Q) 0 [(0, .ref (G.2.1 b)), (1, vI x1), (2, vI x2), (3, vI x3)] [] σ
  refine ga_aload_n 0 dX4_pair_0 rfl rfl ?_
  refine ga_getR (kI := 4) (r := (b + 4)) dX4_pair_1 fX4_25 hsb0 rfl h9b4 rfl ?_
  refine ga_iload_n 2 dX4_pair_4 rfl rfl ?_
  refine ga_iload_n 1 dX4_pair_5 rfl rfl ?_
  obtain ⟨i1, h⟩ := h
  obtain ⟨σ2, eσ2⟩ : ∃ z, z = sI σ (b + 4) x2 x1 := ⟨_, rfl⟩
  replace h := h σ2 eσ2
  refine ga_iast (nI := 6) dX4_pair_6 hsb4 rfl i1 rx1 eσ2 ?_
  refine ga_aload_n 0 dX4_pair_7 rfl rfl ?_
  refine ga_dup dX4_pair_8 rfl ?_
  refine ga_getI (kI := 5) dX4_pair_9 fX4_43 hsb0 rfl rfl (fun r3 => ?_)
  refine ga_iconst dX4_pair_12 ?_
  refine ga_iload_n 1 dX4_pair_13 rfl rfl ?_
  refine ga_ishl dX4_pair_14 (fun r4 => ?_)
  refine ga_iconst dX4_pair_15 ?_
  refine ga_ixor dX4_pair_16 (fun r5 => ?_)
  refine ga_iand dX4_pair_17 (fun r6 => ?_)
  obtain ⟨σ7, eσ7⟩ : ∃ z, z = sI σ2 b 5 (gand (gI σ2 b 5) (gxor (gshl 1 x1) (-1))) := ⟨_, rfl⟩
  replace h := h σ7 eσ7
  refine ga_putI (kI := 5) dX4_pair_18 fX4_43 pX4_5 hsb0 rfl rfl r6 eσ7 ?_
  refine ga_aload_n 0 dX4_pair_21 rfl rfl ?_
  refine ga_dup dX4_pair_22 rfl ?_
  refine ga_getI (kI := 6) dX4_pair_23 fX4_46 hsb0 rfl rfl (fun r8 => ?_)
  refine ga_iconst dX4_pair_26 ?_
  refine ga_iload_n 2 dX4_pair_27 rfl rfl ?_
  refine ga_ishl dX4_pair_28 (fun r9 => ?_)
  refine ga_iconst dX4_pair_29 ?_
  refine ga_ixor dX4_pair_30 (fun r10 => ?_)
  refine ga_iand dX4_pair_31 (fun r11 => ?_)
  obtain ⟨σ12, eσ12⟩ : ∃ z, z = sI σ7 b 6 (gand (gI σ7 b 6) (gxor (gshl 1 x2) (-1))) := ⟨_, rfl⟩
  replace h := h σ12 eσ12
  refine ga_putI (kI := 6) dX4_pair_32 fX4_46 pX4_6 hsb0 rfl rfl r11 eσ12 ?_
  refine ga_iload_n 3 dX4_pair_35 rfl rfl ?_
  obtain ⟨ht, hf⟩ := h
  refine ga_if_eq (tgt := 67) dX4_pair_36 (by decide) rx3 (fun q13 => ?_) (fun q13 => ?_)
  · replace q13 : x3 = 0 := q13
    have h := ht q13
    exact ga_vret dX4_pair_67 rfl h
  · replace q13 : ¬ x3 = 0 := q13
    have h := hf q13
    refine ga_aload_n 0 dX4_pair_39 rfl rfl ?_
    refine ga_getR (kI := 1) (r := (b + 1)) dX4_pair_40 fX4_15 hsb0 rfl h9b1 rfl ?_
    refine ga_iload_n 2 dX4_pair_43 rfl rfl ?_
    refine ga_iload_n 1 dX4_pair_44 rfl rfl ?_
    refine ga_aload_n 0 dX4_pair_45 rfl rfl ?_
    refine ga_getI (kI := 0) dX4_pair_46 fX4_9 hsb0 rfl rfl (fun r14 => ?_)
    refine ga_callNi (z := mX11_next) (As := [vI x1, vI (gI σ12 b 0)]) (rest := [vI x2, .ref (G.2.1 (b + 1))]) dX4_pair_49 wX4_61 qX4_pair_X11_next rfl rfl (Nat.le_of_ble_eq_true rfl) (gEi_mono h (fun v17 σ15 h r16 => ?_))
    replace h := h r16
    obtain ⟨σ18, eσ18⟩ : ∃ z, z = sI σ15 (b + 1) x2 v17 := ⟨_, rfl⟩
    replace h := h σ18 eσ18
    refine ga_iast (nI := 6) dX4_pair_52 hsb1 rfl i1 r16 eσ18 ?_
    refine ga_aload_n 0 dX4_pair_53 rfl rfl ?_
    refine ga_getR (kI := 2) (r := (b + 2)) dX4_pair_54 fX4_19 hsb0 rfl h9b2 rfl ?_
    refine ga_iload_n 1 dX4_pair_57 rfl rfl ?_
    refine ga_iload_n 2 dX4_pair_58 rfl rfl ?_
    refine ga_aload_n 0 dX4_pair_59 rfl rfl ?_
    refine ga_getI (kI := 0) dX4_pair_60 fX4_9 hsb0 rfl rfl (fun r19 => ?_)
    refine ga_callNi (z := mX11_next) (As := [vI x2, vI (gI σ18 b 0)]) (rest := [vI x1, .ref (G.2.1 (b + 2))]) dX4_pair_63 wX4_61 qX4_pair_X11_next rfl rfl (Nat.le_of_ble_eq_true rfl) (gEi_mono h (fun v22 σ20 h r21 => ?_))
    replace h := h r21
    obtain ⟨i23, h⟩ := h
    obtain ⟨σ24, eσ24⟩ : ∃ z, z = sI σ20 (b + 2) x1 v22 := ⟨_, rfl⟩
    replace h := h σ24 eσ24
    refine ga_iast (nI := 6) dX4_pair_66 hsb2 rfl i23 r21 eσ24 ?_
    exact ga_vret dX4_pair_67 rfl h
abbrev eX4_passRound (l : Launch) (G : gG) (b : Nat) (x1 : Int) (σ : gS) (Q : Int → gS → Prop) : Prop := gEi l G mX4_passRound [.ref (G.2.1 b), vI x1] σ Q
abbrev kX4_passRound_2 (l : Launch) (G : gG) (b : Nat) (x1 : Int) (x2 : Int) (σ : gS) (Q : Int → gS → Prop) : Prop := gAt l G mX4_passRound (gQi G Q) 2 [(0, .ref (G.2.1 b)), (1, vI x1), (2, vI x2)] [] σ
abbrev kX4_passRound_25 (l : Launch) (G : gG) (b : Nat) (x1 : Int) (x2 : Int) (σ : gS) (Q : Int → gS → Prop) : Prop := gAt l G mX4_passRound (gQi G Q) 25 [(0, .ref (G.2.1 b)), (1, vI x1), (2, vI x2)] [] σ
abbrev kX4_passRound_113 (l : Launch) (G : gG) (b : Nat) (x1 : Int) (x2 : Int) (x3 : Int) (σ : gS) (Q : Int → gS → Prop) : Prop := gAt l G mX4_passRound (gQi G Q) 113 [(0, .ref (G.2.1 b)), (1, vI x1), (2, vI x2), (3, vI x3)] [] σ
set_option maxRecDepth 100000 in
set_option maxHeartbeats 4000000 in
theorem vX4_passRound {l : Launch} {G : gG} (b : Nat) (x1 : Int) (hb : b = 45 ∨ b = 59) (rx1 : gR x1) (σ : gS) (Q : Int → gS → Prop) (h : kX4_passRound_2 l G b x1 0 σ Q) : eX4_passRound l G b x1 σ Q := by
  have hsb0 : gshL[b]? = some (.inr (4, [none, some (b + 1), some (b + 2), some (b + 3), some (b + 4), none, none, some (b + 5)])) := by rcases hb with rfl | rfl <;> rfl
  have hsb1 : gshL[b + 1]? = some (.inl (6, .int)) := by rcases hb with rfl | rfl <;> rfl
  have h9b1 : b + 1 ≠ 9999 := by omega
  have hsb2 : gshL[b + 2]? = some (.inl (6, .int)) := by rcases hb with rfl | rfl <;> rfl
  have h9b2 : b + 2 ≠ 9999 := by omega
  have hsb3 : gshL[b + 3]? = some (.inl (6, .int)) := by rcases hb with rfl | rfl <;> rfl
  have h9b3 : b + 3 ≠ 9999 := by omega
  have hsb4 : gshL[b + 4]? = some (.inl (6, .int)) := by rcases hb with rfl | rfl <;> rfl
  have h9b4 : b + 4 ≠ 9999 := by omega
  have hsb5 : gshL[b + 5]? = some (.inl (6, .int)) := by rcases hb with rfl | rfl <;> rfl
  have h9b5 : b + 5 ≠ 9999 := by omega
  refine ga_entry rfl (Nat.le_of_ble_eq_true rfl) ?_
  show gAt l G mX4_passRound (gQi G Q) 0 [(0, .ref (G.2.1 b)), (1, vI x1)] [] σ
  refine ga_iconst dX4_passRound_0 ?_
  refine ga_istore_n (ls' := [(2, vI 0), (0, .ref (G.2.1 b)), (1, vI x1)]) dX4_passRound_1 rfl (by decide) rfl ?_
  exact ga_sub [1, 2, 0] rfl h
set_option maxRecDepth 100000 in
set_option maxHeartbeats 4000000 in
theorem vX4_passRound_2 {l : Launch} {G : gG} (b : Nat) (x1 : Int) (x2 : Int) (hb : b = 45 ∨ b = 59) (rx1 : gR x1) (rx2 : gR x2) (σ : gS) (Q : Int → gS → Prop) (h : ((gI σ b 0) ≤ x2 → kX4_passRound_25 l G b x1 0 σ Q) ∧
  (x2 < (gI σ b 0) → (0 ≤ x2 ∧ x2 < 6) ∧ ∀ σ4, σ4 = sI σ (b + 5) x2 0 →
    kX4_passRound_2 l G b x1 (x2 + 1) σ4 Q)) : kX4_passRound_2 l G b x1 x2 σ Q := by
  have hsb0 : gshL[b]? = some (.inr (4, [none, some (b + 1), some (b + 2), some (b + 3), some (b + 4), none, none, some (b + 5)])) := by rcases hb with rfl | rfl <;> rfl
  have hsb1 : gshL[b + 1]? = some (.inl (6, .int)) := by rcases hb with rfl | rfl <;> rfl
  have h9b1 : b + 1 ≠ 9999 := by omega
  have hsb2 : gshL[b + 2]? = some (.inl (6, .int)) := by rcases hb with rfl | rfl <;> rfl
  have h9b2 : b + 2 ≠ 9999 := by omega
  have hsb3 : gshL[b + 3]? = some (.inl (6, .int)) := by rcases hb with rfl | rfl <;> rfl
  have h9b3 : b + 3 ≠ 9999 := by omega
  have hsb4 : gshL[b + 4]? = some (.inl (6, .int)) := by rcases hb with rfl | rfl <;> rfl
  have h9b4 : b + 4 ≠ 9999 := by omega
  have hsb5 : gshL[b + 5]? = some (.inl (6, .int)) := by rcases hb with rfl | rfl <;> rfl
  have h9b5 : b + 5 ≠ 9999 := by omega
  refine ga_iload_n 2 dX4_passRound_2 rfl rfl ?_
  refine ga_aload_n 0 dX4_passRound_3 rfl rfl ?_
  refine ga_getI (kI := 0) dX4_passRound_4 fX4_9 hsb0 rfl rfl (fun r1 => ?_)
  obtain ⟨ht, hf⟩ := h
  refine ga_icmp_ge (tgt := 23) dX4_passRound_7 (by decide) rx2 r1 (fun q2 => ?_) (fun q2 => ?_)
  · replace q2 : (gI σ b 0) ≤ x2 := q2
    have h := ht q2
    refine ga_iconst dX4_passRound_23 ?_
    refine ga_istore_n (ls' := [(2, vI 0), (0, .ref (G.2.1 b)), (1, vI x1)]) dX4_passRound_24 rfl (by decide) rfl ?_
    exact ga_sub [1, 2, 0] rfl h
  · replace q2 : x2 < (gI σ b 0) := (Int.not_le.mp q2)
    have h := hf q2
    refine ga_aload_n 0 dX4_passRound_10 rfl rfl ?_
    refine ga_getR (kI := 7) (r := (b + 5)) dX4_passRound_11 fX4_28 hsb0 rfl h9b5 rfl ?_
    refine ga_iload_n 2 dX4_passRound_14 rfl rfl ?_
    refine ga_iconst dX4_passRound_15 ?_
    obtain ⟨i3, h⟩ := h
    obtain ⟨σ4, eσ4⟩ : ∃ z, z = sI σ (b + 5) x2 0 := ⟨_, rfl⟩
    replace h := h σ4 eσ4
    refine ga_iast (nI := 6) dX4_passRound_16 hsb5 rfl i3 (by decide) eσ4 ?_
    refine ga_iinc (ls' := [(2, vI (x2 + 1)), (0, .ref (G.2.1 b)), (1, vI x1)]) 2 dX4_passRound_17 rfl (by decide) rfl ?_
    refine ga_goto (tgt := 2) dX4_passRound_20 (by decide) ?_
    exact ga_sub [1, 2, 0] rfl h
set_option maxRecDepth 100000 in
set_option maxHeartbeats 4000000 in
theorem vX4_passRound_25 {l : Launch} {G : gG} (b : Nat) (x1 : Int) (x2 : Int) (hb : b = 45 ∨ b = 59) (rx1 : gR x1) (rx2 : gR x2) (σ : gS) (Q : Int → gS → Prop) (h : ((gI σ b 0) ≤ x2 → kX4_passRound_113 l G b x1 0 0 σ Q) ∧
  (x2 < (gI σ b 0) → eX11_holds l G (gI σ b 6) x2 σ (fun v10 σ8 => (v10 = 0 ∨ v10 = 1) →
    ((v10 = 0 → True) ∧
    (¬ v10 = 0 → (0 ≤ x2 ∧ x2 < 6) ∧ True)) ∧
    (∀ v17 : Int, v17 = (if v10 = 0 then 0 else (gand (gI σ8 (b + 3) x2) (gI σ8 b 5))) →
    (¬ v17 = 0 → (0 ≤ x2 ∧ x2 < 6) ∧ eX11_firstFrom l G v17 (gI σ8 (b + 1) x2) (gI σ8 b 0) σ8 (fun v24 σ22 => gR v24 →
        (v24 = (-1) → kX4_passRound_25 l G b x1 (x2 + 1) σ22 Q) ∧
        (¬ v24 = (-1) → (0 ≤ v24 ∧ v24 < 6) ∧ ∀ σ30, σ30 = sI σ22 (b + 5) v24 (gor (gI σ22 (b + 5) v24) (gshl 1 x2)) →
          kX4_passRound_25 l G b x1 (x2 + 1) σ30 Q))) ∧
      (v17 = 0 → kX4_passRound_25 l G b x1 (x2 + 1) σ8 Q))))) : kX4_passRound_25 l G b x1 x2 σ Q := by
  have hsb0 : gshL[b]? = some (.inr (4, [none, some (b + 1), some (b + 2), some (b + 3), some (b + 4), none, none, some (b + 5)])) := by rcases hb with rfl | rfl <;> rfl
  have hsb1 : gshL[b + 1]? = some (.inl (6, .int)) := by rcases hb with rfl | rfl <;> rfl
  have h9b1 : b + 1 ≠ 9999 := by omega
  have hsb2 : gshL[b + 2]? = some (.inl (6, .int)) := by rcases hb with rfl | rfl <;> rfl
  have h9b2 : b + 2 ≠ 9999 := by omega
  have hsb3 : gshL[b + 3]? = some (.inl (6, .int)) := by rcases hb with rfl | rfl <;> rfl
  have h9b3 : b + 3 ≠ 9999 := by omega
  have hsb4 : gshL[b + 4]? = some (.inl (6, .int)) := by rcases hb with rfl | rfl <;> rfl
  have h9b4 : b + 4 ≠ 9999 := by omega
  have hsb5 : gshL[b + 5]? = some (.inl (6, .int)) := by rcases hb with rfl | rfl <;> rfl
  have h9b5 : b + 5 ≠ 9999 := by omega
  refine ga_iload_n 2 dX4_passRound_25 rfl rfl ?_
  refine ga_aload_n 0 dX4_passRound_26 rfl rfl ?_
  refine ga_getI (kI := 0) dX4_passRound_27 fX4_9 hsb0 rfl rfl (fun r5 => ?_)
  obtain ⟨ht, hf⟩ := h
  refine ga_icmp_ge (tgt := 109) dX4_passRound_30 (by decide) rx2 r5 (fun q6 => ?_) (fun q6 => ?_)
  · replace q6 : (gI σ b 0) ≤ x2 := q6
    have h := ht q6
    refine ga_iconst dX4_passRound_109 ?_
    refine ga_istore_n (ls' := [(2, vI 0), (0, .ref (G.2.1 b)), (1, vI x1)]) dX4_passRound_110 rfl (by decide) rfl ?_
    refine ga_iconst dX4_passRound_111 ?_
    refine ga_istore_n (ls' := [(3, vI 0), (2, vI 0), (0, .ref (G.2.1 b)), (1, vI x1)]) dX4_passRound_112 rfl (by decide) rfl ?_
    exact ga_sub [2, 3, 1, 0] rfl h
  · replace q6 : x2 < (gI σ b 0) := (Int.not_le.mp q6)
    have h := hf q6
    refine ga_aload_n 0 dX4_passRound_33 rfl rfl ?_
    refine ga_getI (kI := 6) dX4_passRound_34 fX4_46 hsb0 rfl rfl (fun r7 => ?_)
    refine ga_iload_n 2 dX4_passRound_37 rfl rfl ?_
    refine ga_callNz (z := mX11_holds) (As := [vI (gI σ b 6), vI x2]) (rest := []) dX4_passRound_38 wX4_49 qX4_passRound_X11_holds rfl rfl (Nat.le_of_ble_eq_true rfl) (gEz_mono h (fun v10 σ8 h r9 => ?_))
    replace h := h r9
    obtain ⟨hob, h⟩ := h
    have kJ11 : ∀ v17 : Int, gR v17 → v17 = (if v10 = 0 then 0 else (gand (gI σ8 (b + 3) x2) (gI σ8 b 5))) → gAt l G mX4_passRound (gQi G Q) 59 [(0, .ref (G.2.1 b)), (1, vI x1), (2, vI x2)] [vI v17] σ8 := by
      intro v17 rv17 ev17
      replace h := h v17 ev17
      refine ga_istore_n (ls' := [(3, vI v17), (0, .ref (G.2.1 b)), (1, vI x1), (2, vI x2)]) dX4_passRound_59 rfl (by decide) rfl ?_
      refine ga_iload_n 0 dX4_passRound_60 rfl rfl ?_
      obtain ⟨ht, hf⟩ := h
      refine ga_if_ne (tgt := 68) dX4_passRound_61 (by decide) rv17 (fun q18 => ?_) (fun q18 => ?_)
      · replace q18 : ¬ v17 = 0 := q18
        have h := ht q18
        refine ga_iload_n 0 dX4_passRound_68 rfl rfl ?_
        refine ga_aload_n 1 dX4_passRound_69 rfl rfl ?_
        refine ga_getR (kI := 1) (r := (b + 1)) dX4_passRound_70 fX4_15 hsb0 rfl h9b1 rfl ?_
        refine ga_iload_n 3 dX4_passRound_73 rfl rfl ?_
        obtain ⟨i19, h⟩ := h
        refine ga_iald (nI := 6) dX4_passRound_74 hsb1 rfl i19 (fun r20 => ?_)
        refine ga_aload_n 1 dX4_passRound_75 rfl rfl ?_
        refine ga_getI (kI := 0) dX4_passRound_76 fX4_9 hsb0 rfl rfl (fun r21 => ?_)
        refine ga_callNi (z := mX11_firstFrom) (As := [vI v17, vI (gI σ8 (b + 1) x2), vI (gI σ8 b 0)]) (rest := []) dX4_passRound_79 wX4_53 qX4_passRound_X11_firstFrom rfl rfl (Nat.le_of_ble_eq_true rfl) (gEi_mono h (fun v24 σ22 h r23 => ?_))
        replace h := h r23
        refine ga_istore (ls' := [(4, vI v24), (3, vI v17), (0, .ref (G.2.1 b)), (1, vI x1), (2, vI x2)]) dX4_passRound_82 (by decide) rfl ?_
        refine ga_iload 0 dX4_passRound_84 rfl ?_
        refine ga_iconst dX4_passRound_86 ?_
        obtain ⟨ht, hf⟩ := h
        refine ga_icmp_eq (tgt := 103) dX4_passRound_87 (by decide) r23 (by decide) (fun q25 => ?_) (fun q25 => ?_)
        · replace q25 : v24 = (-1) := q25
          have h := ht q25
          refine ga_iinc (ls' := [(2, vI (x2 + 1)), (4, vI v24), (3, vI v17), (0, .ref (G.2.1 b)), (1, vI x1)]) 4 dX4_passRound_103 rfl (by decide) rfl ?_
          refine ga_goto (tgt := 25) dX4_passRound_106 (by decide) ?_
          exact ga_sub [3, 4, 0] rfl h
        · replace q25 : ¬ v24 = (-1) := q25
          have h := hf q25
          refine ga_aload_n 2 dX4_passRound_90 rfl rfl ?_
          refine ga_getR (kI := 7) (r := (b + 5)) dX4_passRound_91 fX4_28 hsb0 rfl h9b5 rfl ?_
          refine ga_iload 0 dX4_passRound_94 rfl ?_
          refine ga_dup2 dX4_passRound_96 rfl rfl ?_
          obtain ⟨i26, h⟩ := h
          refine ga_iald (nI := 6) dX4_passRound_97 hsb5 rfl i26 (fun r27 => ?_)
          refine ga_iconst dX4_passRound_98 ?_
          refine ga_iload_n 4 dX4_passRound_99 rfl rfl ?_
          refine ga_ishl dX4_passRound_100 (fun r28 => ?_)
          refine ga_ior dX4_passRound_101 (fun r29 => ?_)
          obtain ⟨σ30, eσ30⟩ : ∃ z, z = sI σ22 (b + 5) v24 (gor (gI σ22 (b + 5) v24) (gshl 1 x2)) := ⟨_, rfl⟩
          replace h := h σ30 eσ30
          refine ga_iast (nI := 6) dX4_passRound_102 hsb5 rfl i26 r29 eσ30 ?_
          refine ga_iinc (ls' := [(2, vI (x2 + 1)), (4, vI v24), (3, vI v17), (0, .ref (G.2.1 b)), (1, vI x1)]) 4 dX4_passRound_103 rfl (by decide) rfl ?_
          refine ga_goto (tgt := 25) dX4_passRound_106 (by decide) ?_
          exact ga_sub [3, 4, 0] rfl h
      · replace q18 : v17 = 0 := (Decidable.not_not.mp q18)
        have h := hf q18
        refine ga_iconst dX4_passRound_64 ?_
        refine ga_goto (tgt := 82) dX4_passRound_65 (by decide) ?_
        refine ga_istore (ls' := [(4, vI (-1)), (3, vI v17), (0, .ref (G.2.1 b)), (1, vI x1), (2, vI x2)]) dX4_passRound_82 (by decide) rfl ?_
        refine ga_iload 0 dX4_passRound_84 rfl ?_
        refine ga_iconst dX4_passRound_86 ?_
        refine ga_icmp_eq (x := (-1)) (y := (-1)) (tgt := 103) dX4_passRound_87 (by decide) (by decide) (by decide) (fun _ => ?_) (fun q => absurd (by decide) q)
        refine ga_iinc (ls' := [(2, vI (x2 + 1)), (4, vI (-1)), (3, vI v17), (0, .ref (G.2.1 b)), (1, vI x1)]) 4 dX4_passRound_103 rfl (by decide) rfl ?_
        refine ga_goto (tgt := 25) dX4_passRound_106 (by decide) ?_
        exact ga_sub [3, 4, 0] rfl h
    replace h := hob
    obtain ⟨ht, hf⟩ := h
    refine ga_if_eq (tgt := 58) dX4_passRound_41 (by decide) (gR_01 r9) (fun q12 => ?_) (fun q12 => ?_)
    · replace q12 : v10 = 0 := q12
      have h := ht q12
      refine ga_iconst dX4_passRound_58 ?_
      exact kJ11 0 (by decide) (by rw [if_pos q12])
    · replace q12 : ¬ v10 = 0 := q12
      have h := hf q12
      refine ga_aload_n 0 dX4_passRound_44 rfl rfl ?_
      refine ga_getR (kI := 3) (r := (b + 3)) dX4_passRound_45 fX4_22 hsb0 rfl h9b3 rfl ?_
      refine ga_iload_n 2 dX4_passRound_48 rfl rfl ?_
      obtain ⟨i13, h⟩ := h
      refine ga_iald (nI := 6) dX4_passRound_49 hsb3 rfl i13 (fun r14 => ?_)
      refine ga_aload_n 0 dX4_passRound_50 rfl rfl ?_
      refine ga_getI (kI := 5) dX4_passRound_51 fX4_43 hsb0 rfl rfl (fun r15 => ?_)
      refine ga_iand dX4_passRound_54 (fun r16 => ?_)
      refine ga_goto (tgt := 59) dX4_passRound_55 (by decide) ?_
      exact kJ11 (gand (gI σ8 (b + 3) x2) (gI σ8 b 5)) r16 (by rw [if_neg q12])
set_option maxRecDepth 100000 in
set_option maxHeartbeats 4000000 in
theorem vX4_passRound_113 {l : Launch} {G : gG} (b : Nat) (x1 : Int) (x2 : Int) (x3 : Int) (hb : b = 45 ∨ b = 59) (rx1 : gR x1) (rx2 : gR x2) (rx3 : gR x3) (σ : gS) (Q : Int → gS → Prop) (h : ((gI σ b 0) ≤ x3 → Q x2 σ) ∧
  (x3 < (gI σ b 0) → (0 ≤ x3 ∧ x3 < 6) ∧ (¬ (gI σ (b + 5) x3) = 0 → eX11_firstFrom l G (gI σ (b + 5) x3) (gI σ (b + 2) x3) (gI σ b 0) σ (fun v41 σ39 => gR v41 →
      (v41 = (-1) → kX4_passRound_113 l G b x1 x2 (x3 + 1) σ39 Q) ∧
      (¬ v41 = (-1) → eX4_pair l G b x3 v41 x1 σ39 (fun σ43 =>
        kX4_passRound_113 l G b x1 (x2 + 1) (x3 + 1) σ43 Q)))) ∧
    ((gI σ (b + 5) x3) = 0 → kX4_passRound_113 l G b x1 x2 (x3 + 1) σ Q))) : kX4_passRound_113 l G b x1 x2 x3 σ Q := by
  have hsb0 : gshL[b]? = some (.inr (4, [none, some (b + 1), some (b + 2), some (b + 3), some (b + 4), none, none, some (b + 5)])) := by rcases hb with rfl | rfl <;> rfl
  have hsb1 : gshL[b + 1]? = some (.inl (6, .int)) := by rcases hb with rfl | rfl <;> rfl
  have h9b1 : b + 1 ≠ 9999 := by omega
  have hsb2 : gshL[b + 2]? = some (.inl (6, .int)) := by rcases hb with rfl | rfl <;> rfl
  have h9b2 : b + 2 ≠ 9999 := by omega
  have hsb3 : gshL[b + 3]? = some (.inl (6, .int)) := by rcases hb with rfl | rfl <;> rfl
  have h9b3 : b + 3 ≠ 9999 := by omega
  have hsb4 : gshL[b + 4]? = some (.inl (6, .int)) := by rcases hb with rfl | rfl <;> rfl
  have h9b4 : b + 4 ≠ 9999 := by omega
  have hsb5 : gshL[b + 5]? = some (.inl (6, .int)) := by rcases hb with rfl | rfl <;> rfl
  have h9b5 : b + 5 ≠ 9999 := by omega
  refine ga_iload_n 3 dX4_passRound_113 rfl rfl ?_
  refine ga_aload_n 0 dX4_passRound_114 rfl rfl ?_
  refine ga_getI (kI := 0) dX4_passRound_115 fX4_9 hsb0 rfl rfl (fun r31 => ?_)
  obtain ⟨ht, hf⟩ := h
  refine ga_icmp_ge (tgt := 178) dX4_passRound_118 (by decide) rx3 r31 (fun q32 => ?_) (fun q32 => ?_)
  · replace q32 : (gI σ b 0) ≤ x3 := q32
    have h := ht q32
    refine ga_iload_n 2 dX4_passRound_178 rfl rfl ?_
    exact ga_iret dX4_passRound_179 rfl rx2 h
  · replace q32 : x3 < (gI σ b 0) := (Int.not_le.mp q32)
    have h := hf q32
    refine ga_aload_n 0 dX4_passRound_121 rfl rfl ?_
    refine ga_getR (kI := 7) (r := (b + 5)) dX4_passRound_122 fX4_28 hsb0 rfl h9b5 rfl ?_
    refine ga_iload_n 3 dX4_passRound_125 rfl rfl ?_
    obtain ⟨i33, h⟩ := h
    refine ga_iald (nI := 6) dX4_passRound_126 hsb5 rfl i33 (fun r34 => ?_)
    obtain ⟨ht, hf⟩ := h
    refine ga_if_ne (tgt := 134) dX4_passRound_127 (by decide) r34 (fun q35 => ?_) (fun q35 => ?_)
    · replace q35 : ¬ (gI σ (b + 5) x3) = 0 := q35
      have h := ht q35
      refine ga_aload_n 0 dX4_passRound_134 rfl rfl ?_
      refine ga_getR (kI := 7) (r := (b + 5)) dX4_passRound_135 fX4_28 hsb0 rfl h9b5 rfl ?_
      refine ga_iload_n 3 dX4_passRound_138 rfl rfl ?_
      refine ga_iald (nI := 6) dX4_passRound_139 hsb5 rfl i33 (fun r36 => ?_)
      refine ga_aload_n 0 dX4_passRound_140 rfl rfl ?_
      refine ga_getR (kI := 2) (r := (b + 2)) dX4_passRound_141 fX4_19 hsb0 rfl h9b2 rfl ?_
      refine ga_iload_n 3 dX4_passRound_144 rfl rfl ?_
      refine ga_iald (nI := 6) dX4_passRound_145 hsb2 rfl i33 (fun r37 => ?_)
      refine ga_aload_n 0 dX4_passRound_146 rfl rfl ?_
      refine ga_getI (kI := 0) dX4_passRound_147 fX4_9 hsb0 rfl rfl (fun r38 => ?_)
      refine ga_callNi (z := mX11_firstFrom) (As := [vI (gI σ (b + 5) x3), vI (gI σ (b + 2) x3), vI (gI σ b 0)]) (rest := []) dX4_passRound_150 wX4_53 qX4_passRound_X11_firstFrom rfl rfl (Nat.le_of_ble_eq_true rfl) (gEi_mono h (fun v41 σ39 h r40 => ?_))
      replace h := h r40
      refine ga_istore (ls' := [(4, vI v41), (0, .ref (G.2.1 b)), (1, vI x1), (2, vI x2), (3, vI x3)]) dX4_passRound_153 (by decide) rfl ?_
      refine ga_iload 0 dX4_passRound_155 rfl ?_
      refine ga_iconst dX4_passRound_157 ?_
      obtain ⟨ht, hf⟩ := h
      refine ga_icmp_eq (tgt := 172) dX4_passRound_158 (by decide) r40 (by decide) (fun q42 => ?_) (fun q42 => ?_)
      · replace q42 : v41 = (-1) := q42
        have h := ht q42
        refine ga_iinc (ls' := [(3, vI (x3 + 1)), (4, vI v41), (0, .ref (G.2.1 b)), (1, vI x1), (2, vI x2)]) 4 dX4_passRound_172 rfl (by decide) rfl ?_
        refine ga_goto (tgt := 113) dX4_passRound_175 (by decide) ?_
        exact ga_sub [2, 3, 4, 0] rfl h
      · replace q42 : ¬ v41 = (-1) := q42
        have h := hf q42
        refine ga_aload_n 1 dX4_passRound_161 rfl rfl ?_
        refine ga_iload_n 4 dX4_passRound_162 rfl rfl ?_
        refine ga_iload 0 dX4_passRound_163 rfl ?_
        refine ga_iload_n 2 dX4_passRound_165 rfl rfl ?_
        refine ga_callVv (z := mX4_pair) (As := [vI x3, vI v41, vI x1]) (rest := []) dX4_passRound_166 wX4_57 qX4_passRound_X4_pair hsb0 ⟨_, rfl, rfl⟩ rfl rfl (Nat.le_of_ble_eq_true rfl) (gEv_mono h (fun σ43 h => ?_))
        refine ga_iinc (ls' := [(2, vI (x2 + 1)), (4, vI v41), (0, .ref (G.2.1 b)), (1, vI x1), (3, vI x3)]) 3 dX4_passRound_169 rfl (by decide) rfl ?_
        refine ga_iinc (ls' := [(3, vI (x3 + 1)), (2, vI (x2 + 1)), (4, vI v41), (0, .ref (G.2.1 b)), (1, vI x1)]) 4 dX4_passRound_172 rfl (by decide) rfl ?_
        refine ga_goto (tgt := 113) dX4_passRound_175 (by decide) ?_
        exact ga_sub [3, 4, 1, 0] rfl h
    · replace q35 : (gI σ (b + 5) x3) = 0 := (Decidable.not_not.mp q35)
      have h := hf q35
      refine ga_iconst dX4_passRound_130 ?_
      refine ga_goto (tgt := 153) dX4_passRound_131 (by decide) ?_
      refine ga_istore (ls' := [(4, vI (-1)), (0, .ref (G.2.1 b)), (1, vI x1), (2, vI x2), (3, vI x3)]) dX4_passRound_153 (by decide) rfl ?_
      refine ga_iload 0 dX4_passRound_155 rfl ?_
      refine ga_iconst dX4_passRound_157 ?_
      refine ga_icmp_eq (x := (-1)) (y := (-1)) (tgt := 172) dX4_passRound_158 (by decide) (by decide) (by decide) (fun _ => ?_) (fun q => absurd (by decide) q)
      refine ga_iinc (ls' := [(3, vI (x3 + 1)), (4, vI (-1)), (0, .ref (G.2.1 b)), (1, vI x1), (2, vI x2)]) 4 dX4_passRound_172 rfl (by decide) rfl ?_
      refine ga_goto (tgt := 113) dX4_passRound_175 (by decide) ?_
      exact ga_sub [2, 3, 4, 0] rfl h
abbrev eX4_passRounds (l : Launch) (G : gG) (b : Nat) (x1 : Int) (σ : gS) (Q : gS → Prop) : Prop := gEv l G mX4_passRounds [.ref (G.2.1 b), vI x1] σ Q
abbrev kX4_passRounds_4 (l : Launch) (G : gG) (b : Nat) (x1 : Int) (x2 : Int) (x3 : Int) (σ : gS) (Q : gS → Prop) : Prop := gAt l G mX4_passRounds (gQv G Q) 4 [(0, .ref (G.2.1 b)), (1, vI x1), (2, vI x2), (3, vI x3)] [] σ
set_option maxRecDepth 100000 in
set_option maxHeartbeats 4000000 in
theorem vX4_passRounds {l : Launch} {G : gG} (b : Nat) (x1 : Int) (hb : b = 45 ∨ b = 59) (rx1 : gR x1) (σ : gS) (Q : gS → Prop) (h : kX4_passRounds_4 l G b x1 1 0 σ Q) : eX4_passRounds l G b x1 σ Q := by
  have hsb0 : gshL[b]? = some (.inr (4, [none, some (b + 1), some (b + 2), some (b + 3), some (b + 4), none, none, some (b + 5)])) := by rcases hb with rfl | rfl <;> rfl
  have hsb1 : gshL[b + 1]? = some (.inl (6, .int)) := by rcases hb with rfl | rfl <;> rfl
  have h9b1 : b + 1 ≠ 9999 := by omega
  have hsb2 : gshL[b + 2]? = some (.inl (6, .int)) := by rcases hb with rfl | rfl <;> rfl
  have h9b2 : b + 2 ≠ 9999 := by omega
  have hsb3 : gshL[b + 3]? = some (.inl (6, .int)) := by rcases hb with rfl | rfl <;> rfl
  have h9b3 : b + 3 ≠ 9999 := by omega
  have hsb4 : gshL[b + 4]? = some (.inl (6, .int)) := by rcases hb with rfl | rfl <;> rfl
  have h9b4 : b + 4 ≠ 9999 := by omega
  have hsb5 : gshL[b + 5]? = some (.inl (6, .int)) := by rcases hb with rfl | rfl <;> rfl
  have h9b5 : b + 5 ≠ 9999 := by omega
  refine ga_entry rfl (Nat.le_of_ble_eq_true rfl) ?_
  show gAt l G mX4_passRounds (gQv G Q) 0 [(0, .ref (G.2.1 b)), (1, vI x1)] [] σ
  refine ga_iconst dX4_passRounds_0 ?_
  refine ga_istore_n (ls' := [(2, vI 1), (0, .ref (G.2.1 b)), (1, vI x1)]) dX4_passRounds_1 rfl (by decide) rfl ?_
  refine ga_iconst dX4_passRounds_2 ?_
  refine ga_istore_n (ls' := [(3, vI 0), (2, vI 1), (0, .ref (G.2.1 b)), (1, vI x1)]) dX4_passRounds_3 rfl (by decide) rfl ?_
  exact ga_sub [2, 3, 1, 0] rfl h
set_option maxRecDepth 100000 in
set_option maxHeartbeats 4000000 in
theorem vX4_passRounds_4 {l : Launch} {G : gG} (b : Nat) (x1 : Int) (x2 : Int) (x3 : Int) (hb : b = 45 ∨ b = 59) (rx1 : gR x1) (rx2 : gR x2) (rx3 : gR x3) (σ : gS) (Q : gS → Prop) (h : (x1 ≤ x3 → Q σ) ∧
  (x3 < x1 → (x2 ≤ 0 → Q σ) ∧
    (0 < x2 → (∀ v5 : Int, v5 = (if x3 = 0 then 1 else 0) →
      eX4_passRound l G b v5 σ (fun v8 σ6 => gR v8 →
        kX4_passRounds_4 l G b x1 v8 (x3 + 1) σ6 Q))))) : kX4_passRounds_4 l G b x1 x2 x3 σ Q := by
  have hsb0 : gshL[b]? = some (.inr (4, [none, some (b + 1), some (b + 2), some (b + 3), some (b + 4), none, none, some (b + 5)])) := by rcases hb with rfl | rfl <;> rfl
  have hsb1 : gshL[b + 1]? = some (.inl (6, .int)) := by rcases hb with rfl | rfl <;> rfl
  have h9b1 : b + 1 ≠ 9999 := by omega
  have hsb2 : gshL[b + 2]? = some (.inl (6, .int)) := by rcases hb with rfl | rfl <;> rfl
  have h9b2 : b + 2 ≠ 9999 := by omega
  have hsb3 : gshL[b + 3]? = some (.inl (6, .int)) := by rcases hb with rfl | rfl <;> rfl
  have h9b3 : b + 3 ≠ 9999 := by omega
  have hsb4 : gshL[b + 4]? = some (.inl (6, .int)) := by rcases hb with rfl | rfl <;> rfl
  have h9b4 : b + 4 ≠ 9999 := by omega
  have hsb5 : gshL[b + 5]? = some (.inl (6, .int)) := by rcases hb with rfl | rfl <;> rfl
  have h9b5 : b + 5 ≠ 9999 := by omega
  refine ga_iload_n 3 dX4_passRounds_4 rfl rfl ?_
  refine ga_iload_n 1 dX4_passRounds_5 rfl rfl ?_
  obtain ⟨ht, hf⟩ := h
  refine ga_icmp_ge (tgt := 33) dX4_passRounds_6 (by decide) rx3 rx1 (fun q1 => ?_) (fun q1 => ?_)
  · replace q1 : x1 ≤ x3 := q1
    have h := ht q1
    exact ga_vret dX4_passRounds_33 rfl h
  · replace q1 : x3 < x1 := (Int.not_le.mp q1)
    have h := hf q1
    refine ga_iload_n 2 dX4_passRounds_9 rfl rfl ?_
    obtain ⟨ht, hf⟩ := h
    refine ga_if_le (tgt := 33) dX4_passRounds_10 (by decide) rx2 (fun q2 => ?_) (fun q2 => ?_)
    · replace q2 : x2 ≤ 0 := q2
      have h := ht q2
      exact ga_vret dX4_passRounds_33 rfl h
    · replace q2 : 0 < x2 := (Int.not_le.mp q2)
      have h := hf q2
      refine ga_aload_n 0 dX4_passRounds_13 rfl rfl ?_
      refine ga_iload_n 3 dX4_passRounds_14 rfl rfl ?_
      have kJ3 : ∀ v5 : Int, gR v5 → (v5 = 0 ∨ v5 = 1) → v5 = (if x3 = 0 then 1 else 0) → gAt l G mX4_passRounds (gQv G Q) 23 [(0, .ref (G.2.1 b)), (1, vI x1), (2, vI x2), (3, vI x3)] [vI v5, .ref (G.2.1 b)] σ := by
        intro v5 rv5 bv5 ev5
        replace h := h v5 ev5
        refine ga_callVi (z := mX4_passRound) (As := [vI v5]) (rest := []) dX4_passRounds_23 wX4_64 qX4_passRounds_X4_passRound hsb0 ⟨_, rfl, rfl⟩ rfl rfl (Nat.le_of_ble_eq_true rfl) (gEi_mono h (fun v8 σ6 h r7 => ?_))
        replace h := h r7
        refine ga_istore_n (ls' := [(2, vI v8), (0, .ref (G.2.1 b)), (1, vI x1), (3, vI x3)]) dX4_passRounds_26 rfl (by decide) rfl ?_
        refine ga_iinc (ls' := [(3, vI (x3 + 1)), (2, vI v8), (0, .ref (G.2.1 b)), (1, vI x1)]) 3 dX4_passRounds_27 rfl (by decide) rfl ?_
        refine ga_goto (tgt := 4) dX4_passRounds_30 (by decide) ?_
        exact ga_sub [2, 3, 1, 0] rfl h
      replace h : (¬ x3 = 0 → True) ∧
      (x3 = 0 → True) := by repeat (first | exact True.intro | apply And.intro | intro _)
      obtain ⟨ht, hf⟩ := h
      refine ga_if_ne (tgt := 22) dX4_passRounds_15 (by decide) rx3 (fun q4 => ?_) (fun q4 => ?_)
      · replace q4 : ¬ x3 = 0 := q4
        have h := ht q4
        refine ga_iconst dX4_passRounds_22 ?_
        exact kJ3 0 (by decide) (Or.inl rfl) (by rw [if_neg q4])
      · replace q4 : x3 = 0 := (Decidable.not_not.mp q4)
        have h := hf q4
        refine ga_iconst dX4_passRounds_18 ?_
        refine ga_goto (tgt := 23) dX4_passRounds_19 (by decide) ?_
        exact kJ3 1 (by decide) (Or.inr rfl) (by rw [if_pos q4])
abbrev eX2_passSlot (l : Launch) (G : gG)  (σ : gS) (Q : gS → Prop) : Prop := gEv l G mX2_passSlot [.ref (G.2.1 58)] σ Q
set_option maxRecDepth 100000 in
set_option maxHeartbeats 4000000 in
theorem vX2_passSlot {l : Launch} {G : gG}  (σ : gS) (Q : gS → Prop) (h : eX4_free l G 59 σ (fun σ1 =>
  eX4_passRounds l G 59 (gI σ1 58 1) σ1 (fun σ4 =>
  Q σ4))) : eX2_passSlot l G  σ Q := by
  refine ga_entry rfl (Nat.le_of_ble_eq_true rfl) ?_
  show gAt l G mX2_passSlot (gQv G Q) 0 [(0, .ref (G.2.1 58))] [] σ
  refine ga_aload_n 0 dX2_passSlot_0 rfl rfl ?_
  refine ga_getR (kI := 0) (r := 59) dX2_passSlot_1 fX2_12 rfl rfl (by decide) rfl ?_
  refine ga_callVv (z := mX4_free) (As := []) (rest := []) dX2_passSlot_4 wX2_46 qX2_passSlot_X4_free rfl ⟨_, rfl, rfl⟩ rfl rfl (Nat.le_of_ble_eq_true rfl) (gEv_mono h (fun σ1 h => ?_))
  refine ga_aload_n 0 dX2_passSlot_7 rfl rfl ?_
  refine ga_getR (kI := 0) (r := 59) dX2_passSlot_8 fX2_12 rfl rfl (by decide) rfl ?_
  refine ga_aload_n 0 dX2_passSlot_11 rfl rfl ?_
  refine ga_getI (kI := 1) dX2_passSlot_12 fX2_36 rfl rfl rfl (fun r3 => ?_)
  refine ga_callVv (z := mX4_passRounds) (As := [vI (gI σ1 58 1)]) (rest := []) dX2_passSlot_15 wX2_49 qX2_passSlot_X4_passRounds rfl ⟨_, rfl, rfl⟩ rfl rfl (Nat.le_of_ble_eq_true rfl) (gEv_mono h (fun σ4 h => ?_))
  exact ga_vret dX2_passSlot_18 rfl h
abbrev eX2_inputAt (l : Launch) (G : gG) (x2 : Int) (x3 : Int) (x4 : Int) (σ : gS) (Q : Int → gS → Prop) : Prop := gEi l G mX2_inputAt [.ref (G.2.1 58), .ref (G.2.1 1), vI x2, vI x3, vI x4] σ Q
abbrev kX2_inputAt_9 (l : Launch) (G : gG)  (x2 : Int) (x3 : Int) (x4 : Int) (x5 : Int) (σ : gS) (Q : Int → gS → Prop) : Prop := gAt l G mX2_inputAt (gQi G Q) 9 [(0, .ref (G.2.1 58)), (1, .ref (G.2.1 1)), (2, vI x2), (3, vI x3), (4, vI x4), (5, vI x5)] [] σ
set_option maxRecDepth 100000 in
set_option maxHeartbeats 4000000 in
theorem vX2_inputAt {l : Launch} {G : gG} (x2 : Int) (x3 : Int) (x4 : Int) (rx2 : gR x2) (rx3 : gR x3) (rx4 : gR x4) (σ : gS) (Q : Int → gS → Prop) (h : eX2_begin l G x2 σ (fun σ1 =>
  kX2_inputAt_9 l G  x2 x3 x4 0 σ1 Q)) : eX2_inputAt l G x2 x3 x4 σ Q := by
  refine ga_entry rfl (Nat.le_of_ble_eq_true rfl) ?_
  show gAt l G mX2_inputAt (gQi G Q) 0 [(0, .ref (G.2.1 58)), (1, .ref (G.2.1 1)), (2, vI x2), (3, vI x3), (4, vI x4)] [] σ
  refine ga_aload_n 0 dX2_inputAt_0 rfl rfl ?_
  refine ga_aload_n 1 dX2_inputAt_1 rfl rfl ?_
  refine ga_iload_n 2 dX2_inputAt_2 rfl rfl ?_
  refine ga_callVv (z := mX2_begin) (As := [.ref (G.2.1 1), vI x2]) (rest := []) dX2_inputAt_3 wX2_53 qX2_inputAt_X2_begin rfl ⟨_, rfl, rfl⟩ rfl rfl (Nat.le_of_ble_eq_true rfl) (gEv_mono h (fun σ1 h => ?_))
  refine ga_iconst dX2_inputAt_6 ?_
  refine ga_istore (ls' := [(5, vI 0), (0, .ref (G.2.1 58)), (1, .ref (G.2.1 1)), (2, vI x2), (3, vI x3), (4, vI x4)]) dX2_inputAt_7 (by decide) rfl ?_
  exact ga_sub [1, 2, 3, 4, 5, 0] rfl h
set_option maxRecDepth 100000 in
set_option maxHeartbeats 4000000 in
theorem vX2_inputAt_9 {l : Launch} {G : gG}  (x2 : Int) (x3 : Int) (x4 : Int) (x5 : Int) (rx2 : gR x2) (rx3 : gR x3) (rx4 : gR x4) (rx5 : gR x5) (σ : gS) (Q : Int → gS → Prop) (h : (x3 < x5 → (0 ≤ x4 ∧ x4 < 6) ∧ Q (gI σ 63 x4) σ) ∧
  (x5 ≤ x3 → eX2_passSlot l G  σ (fun σ6 =>
    kX2_inputAt_9 l G  x2 x3 x4 (x5 + 1) σ6 Q))) : kX2_inputAt_9 l G  x2 x3 x4 x5 σ Q := by
  refine ga_iload 5 dX2_inputAt_9 rfl ?_
  refine ga_iload_n 3 dX2_inputAt_11 rfl rfl ?_
  obtain ⟨ht, hf⟩ := h
  refine ga_icmp_gt (tgt := 25) dX2_inputAt_12 (by decide) rx5 rx3 (fun q3 => ?_) (fun q3 => ?_)
  · replace q3 : x3 < x5 := q3
    have h := ht q3
    refine ga_aload_n 0 dX2_inputAt_25 rfl rfl ?_
    refine ga_getR (kI := 0) (r := 59) dX2_inputAt_26 fX2_12 rfl rfl (by decide) rfl ?_
    refine ga_getR (kI := 4) (r := 63) dX2_inputAt_29 fX2_59 rfl rfl (by decide) rfl ?_
    refine ga_iload 4 dX2_inputAt_32 rfl ?_
    obtain ⟨i4, h⟩ := h
    refine ga_iald (nI := 6) dX2_inputAt_34 rfl rfl i4 (fun r5 => ?_)
    exact ga_iret dX2_inputAt_35 rfl r5 h
  · replace q3 : x5 ≤ x3 := (Int.not_lt.mp q3)
    have h := hf q3
    refine ga_aload_n 0 dX2_inputAt_15 rfl rfl ?_
    refine ga_callVv (z := mX2_passSlot) (As := []) (rest := []) dX2_inputAt_16 wX2_56 qX2_inputAt_X2_passSlot rfl ⟨_, rfl, rfl⟩ rfl rfl (Nat.le_of_ble_eq_true rfl) (gEv_mono h (fun σ6 h => ?_))
    refine ga_iinc (ls' := [(5, vI (x5 + 1)), (0, .ref (G.2.1 58)), (1, .ref (G.2.1 1)), (2, vI x2), (3, vI x3), (4, vI x4)]) 5 dX2_inputAt_19 rfl (by decide) rfl ?_
    refine ga_goto (tgt := 9) dX2_inputAt_22 (by decide) ?_
    exact ga_sub [1, 2, 3, 4, 5, 0] rfl h
abbrev eX2_pointersNow (l : Launch) (G : gG)  (σ : gS) (Q : Int → gS → Prop) : Prop := gEl l G mX2_pointersNow [.ref (G.2.1 58)] σ Q
abbrev kX2_pointersNow_4 (l : Launch) (G : gG)  (x1 : Int) (x3 : Int) (σ : gS) (Q : Int → gS → Prop) : Prop := gAt l G mX2_pointersNow (gQl G Q) 4 [(0, .ref (G.2.1 58)), (1, vL x1), (3, vI x3)] [] σ
set_option maxRecDepth 100000 in
set_option maxHeartbeats 4000000 in
theorem vX2_pointersNow {l : Launch} {G : gG}  (σ : gS) (Q : Int → gS → Prop) (h : kX2_pointersNow_4 l G  0 0 σ Q) : eX2_pointersNow l G  σ Q := by
  refine ga_entry rfl (Nat.le_of_ble_eq_true rfl) ?_
  show gAt l G mX2_pointersNow (gQl G Q) 0 [(0, .ref (G.2.1 58))] [] σ
  refine ga_lconst (v := 0) dX2_pointersNow_0 (by decide) ?_
  refine ga_lstore_n (ls' := [(1, vL 0), (0, .ref (G.2.1 58))]) dX2_pointersNow_1 rfl (by decide) rfl ?_
  refine ga_iconst dX2_pointersNow_2 ?_
  refine ga_istore_n (ls' := [(3, vI 0), (1, vL 0), (0, .ref (G.2.1 58))]) dX2_pointersNow_3 rfl (by decide) rfl ?_
  exact ga_sub [2, 1, 0] rfl h
set_option maxRecDepth 100000 in
set_option maxHeartbeats 4000000 in
theorem vX2_pointersNow_4 {l : Launch} {G : gG}  (x1 : Int) (x3 : Int) (rx1 : gRl x1) (rx3 : gR x3) (σ : gS) (Q : Int → gS → Prop) (h : ((gI σ 59 0) ≤ x3 → Q x1 σ) ∧
  (x3 < (gI σ 59 0) → (0 ≤ x3 ∧ x3 < 6) ∧ kX2_pointersNow_4 l G  (glor (glshl (glor (glshl x1 3) (gI σ 60 x3)) 3) (gI σ 61 x3)) (x3 + 1) σ Q)) : kX2_pointersNow_4 l G  x1 x3 σ Q := by
  refine ga_iload_n 2 dX2_pointersNow_4 rfl rfl ?_
  refine ga_aload_n 0 dX2_pointersNow_5 rfl rfl ?_
  refine ga_getR (kI := 0) (r := 59) dX2_pointersNow_6 fX2_12 rfl rfl (by decide) rfl ?_
  refine ga_getI (kI := 0) dX2_pointersNow_9 fX2_40 rfl rfl rfl (fun r1 => ?_)
  obtain ⟨ht, hf⟩ := h
  refine ga_icmp_ge (tgt := 49) dX2_pointersNow_12 (by decide) rx3 r1 (fun q2 => ?_) (fun q2 => ?_)
  · replace q2 : (gI σ 59 0) ≤ x3 := q2
    have h := ht q2
    refine ga_lload_n 1 dX2_pointersNow_49 rfl rfl ?_
    exact ga_lret dX2_pointersNow_50 rfl rx1 h
  · replace q2 : x3 < (gI σ 59 0) := (Int.not_le.mp q2)
    have h := hf q2
    refine ga_lload_n 1 dX2_pointersNow_15 rfl rfl ?_
    refine ga_iconst dX2_pointersNow_16 ?_
    refine ga_lshl dX2_pointersNow_17 (fun r3 => ?_)
    refine ga_aload_n 0 dX2_pointersNow_18 rfl rfl ?_
    refine ga_getR (kI := 0) (r := 59) dX2_pointersNow_19 fX2_12 rfl rfl (by decide) rfl ?_
    refine ga_getR (kI := 1) (r := 60) dX2_pointersNow_22 fX2_91 rfl rfl (by decide) rfl ?_
    refine ga_iload_n 2 dX2_pointersNow_25 rfl rfl ?_
    obtain ⟨i4, h⟩ := h
    refine ga_iald (nI := 6) dX2_pointersNow_26 rfl rfl i4 (fun r5 => ?_)
    refine ga_i2l dX2_pointersNow_27 r5 ?_
    refine ga_lor dX2_pointersNow_28 (fun r6 => ?_)
    refine ga_iconst dX2_pointersNow_29 ?_
    refine ga_lshl dX2_pointersNow_30 (fun r7 => ?_)
    refine ga_aload_n 0 dX2_pointersNow_31 rfl rfl ?_
    refine ga_getR (kI := 0) (r := 59) dX2_pointersNow_32 fX2_12 rfl rfl (by decide) rfl ?_
    refine ga_getR (kI := 2) (r := 61) dX2_pointersNow_35 fX2_94 rfl rfl (by decide) rfl ?_
    refine ga_iload_n 2 dX2_pointersNow_38 rfl rfl ?_
    refine ga_iald (nI := 6) dX2_pointersNow_39 rfl rfl i4 (fun r8 => ?_)
    refine ga_i2l dX2_pointersNow_40 r8 ?_
    refine ga_lor dX2_pointersNow_41 (fun r9 => ?_)
    refine ga_lstore_n (ls' := [(1, vL (glor (glshl (glor (glshl x1 3) (gI σ 60 x3)) 3) (gI σ 61 x3))), (0, .ref (G.2.1 58)), (3, vI x3)]) dX2_pointersNow_42 rfl (by decide) rfl ?_
    refine ga_iinc (ls' := [(3, vI (x3 + 1)), (1, vL (glor (glshl (glor (glshl x1 3) (gI σ 60 x3)) 3) (gI σ 61 x3))), (0, .ref (G.2.1 58))]) 2 dX2_pointersNow_43 rfl (by decide) rfl ?_
    refine ga_goto (tgt := 4) dX2_pointersNow_46 (by decide) ?_
    exact ga_sub [2, 1, 0] rfl h
abbrev eJ6_bitCount_0f7a4 (l : Launch) (G : gG) (x0 : Int) (σ : gS) (Q : Int → gS → Prop) : Prop := gEi l G mJ6_bitCount_0f7a4 [vI x0] σ Q
set_option maxRecDepth 100000 in
set_option maxHeartbeats 4000000 in
theorem vJ6_bitCount_0f7a4 {l : Launch} {G : gG} (x0 : Int) (rx0 : gR x0) (σ : gS) (Q : Int → gS → Prop) (h : Q (gand (((gand (((gand (x0 - (gand (gushr x0 1) 1431655765)) 858993459) + (gand (gushr (x0 - (gand (gushr x0 1) 1431655765)) 2) 858993459)) + (gushr ((gand (x0 - (gand (gushr x0 1) 1431655765)) 858993459) + (gand (gushr (x0 - (gand (gushr x0 1) 1431655765)) 2) 858993459)) 4)) 252645135) + (gushr (gand (((gand (x0 - (gand (gushr x0 1) 1431655765)) 858993459) + (gand (gushr (x0 - (gand (gushr x0 1) 1431655765)) 2) 858993459)) + (gushr ((gand (x0 - (gand (gushr x0 1) 1431655765)) 858993459) + (gand (gushr (x0 - (gand (gushr x0 1) 1431655765)) 2) 858993459)) 4)) 252645135) 8)) + (gushr ((gand (((gand (x0 - (gand (gushr x0 1) 1431655765)) 858993459) + (gand (gushr (x0 - (gand (gushr x0 1) 1431655765)) 2) 858993459)) + (gushr ((gand (x0 - (gand (gushr x0 1) 1431655765)) 858993459) + (gand (gushr (x0 - (gand (gushr x0 1) 1431655765)) 2) 858993459)) 4)) 252645135) + (gushr (gand (((gand (x0 - (gand (gushr x0 1) 1431655765)) 858993459) + (gand (gushr (x0 - (gand (gushr x0 1) 1431655765)) 2) 858993459)) + (gushr ((gand (x0 - (gand (gushr x0 1) 1431655765)) 858993459) + (gand (gushr (x0 - (gand (gushr x0 1) 1431655765)) 2) 858993459)) 4)) 252645135) 8)) 16)) 63) σ) : eJ6_bitCount_0f7a4 l G x0 σ Q := by
  refine ga_entry rfl (Nat.le_of_ble_eq_true rfl) ?_
  show gAt l G mJ6_bitCount_0f7a4 (gQi G Q) 0 [(0, vI x0)] [] σ
  refine ga_iload_n 0 dJ6_bitCount_0f7a4_0 rfl rfl ?_
  refine ga_iload_n 0 dJ6_bitCount_0f7a4_1 rfl rfl ?_
  refine ga_iconst dJ6_bitCount_0f7a4_2 ?_
  refine ga_iushr dJ6_bitCount_0f7a4_3 (fun r1 => ?_)
  refine ga_ldcw (n := 1431655765) dJ6_bitCount_0f7a4_4 wJ6_265 (by decide) ?_
  refine ga_iand dJ6_bitCount_0f7a4_7 (fun r2 => ?_)
  refine ga_isub dJ6_bitCount_0f7a4_8 ?_
  refine ga_istore_n (ls' := [(0, vI (x0 - (gand (gushr x0 1) 1431655765)))]) dJ6_bitCount_0f7a4_9 rfl (by decide) rfl ?_
  refine ga_iload_n 0 dJ6_bitCount_0f7a4_10 rfl rfl ?_
  refine ga_ldcw (n := 858993459) dJ6_bitCount_0f7a4_11 wJ6_266 (by decide) ?_
  refine ga_iand dJ6_bitCount_0f7a4_14 (fun r3 => ?_)
  refine ga_iload_n 0 dJ6_bitCount_0f7a4_15 rfl rfl ?_
  refine ga_iconst dJ6_bitCount_0f7a4_16 ?_
  refine ga_iushr dJ6_bitCount_0f7a4_17 (fun r4 => ?_)
  refine ga_ldcw (n := 858993459) dJ6_bitCount_0f7a4_18 wJ6_266 (by decide) ?_
  refine ga_iand dJ6_bitCount_0f7a4_21 (fun r5 => ?_)
  refine ga_iadd dJ6_bitCount_0f7a4_22 ?_
  refine ga_istore_n (ls' := [(0, vI ((gand (x0 - (gand (gushr x0 1) 1431655765)) 858993459) + (gand (gushr (x0 - (gand (gushr x0 1) 1431655765)) 2) 858993459)))]) dJ6_bitCount_0f7a4_23 rfl (by decide) rfl ?_
  refine ga_iload_n 0 dJ6_bitCount_0f7a4_24 rfl rfl ?_
  refine ga_iload_n 0 dJ6_bitCount_0f7a4_25 rfl rfl ?_
  refine ga_iconst dJ6_bitCount_0f7a4_26 ?_
  refine ga_iushr dJ6_bitCount_0f7a4_27 (fun r6 => ?_)
  refine ga_iadd dJ6_bitCount_0f7a4_28 ?_
  refine ga_ldcw (n := 252645135) dJ6_bitCount_0f7a4_29 wJ6_267 (by decide) ?_
  refine ga_iand dJ6_bitCount_0f7a4_32 (fun r7 => ?_)
  refine ga_istore_n (ls' := [(0, vI (gand (((gand (x0 - (gand (gushr x0 1) 1431655765)) 858993459) + (gand (gushr (x0 - (gand (gushr x0 1) 1431655765)) 2) 858993459)) + (gushr ((gand (x0 - (gand (gushr x0 1) 1431655765)) 858993459) + (gand (gushr (x0 - (gand (gushr x0 1) 1431655765)) 2) 858993459)) 4)) 252645135))]) dJ6_bitCount_0f7a4_33 rfl (by decide) rfl ?_
  refine ga_iload_n 0 dJ6_bitCount_0f7a4_34 rfl rfl ?_
  refine ga_iload_n 0 dJ6_bitCount_0f7a4_35 rfl rfl ?_
  refine ga_bipush dJ6_bitCount_0f7a4_36 (by decide) ?_
  refine ga_iushr dJ6_bitCount_0f7a4_38 (fun r8 => ?_)
  refine ga_iadd dJ6_bitCount_0f7a4_39 ?_
  refine ga_istore_n (ls' := [(0, vI ((gand (((gand (x0 - (gand (gushr x0 1) 1431655765)) 858993459) + (gand (gushr (x0 - (gand (gushr x0 1) 1431655765)) 2) 858993459)) + (gushr ((gand (x0 - (gand (gushr x0 1) 1431655765)) 858993459) + (gand (gushr (x0 - (gand (gushr x0 1) 1431655765)) 2) 858993459)) 4)) 252645135) + (gushr (gand (((gand (x0 - (gand (gushr x0 1) 1431655765)) 858993459) + (gand (gushr (x0 - (gand (gushr x0 1) 1431655765)) 2) 858993459)) + (gushr ((gand (x0 - (gand (gushr x0 1) 1431655765)) 858993459) + (gand (gushr (x0 - (gand (gushr x0 1) 1431655765)) 2) 858993459)) 4)) 252645135) 8)))]) dJ6_bitCount_0f7a4_40 rfl (by decide) rfl ?_
  refine ga_iload_n 0 dJ6_bitCount_0f7a4_41 rfl rfl ?_
  refine ga_iload_n 0 dJ6_bitCount_0f7a4_42 rfl rfl ?_
  refine ga_bipush dJ6_bitCount_0f7a4_43 (by decide) ?_
  refine ga_iushr dJ6_bitCount_0f7a4_45 (fun r9 => ?_)
  refine ga_iadd dJ6_bitCount_0f7a4_46 ?_
  refine ga_istore_n (ls' := [(0, vI (((gand (((gand (x0 - (gand (gushr x0 1) 1431655765)) 858993459) + (gand (gushr (x0 - (gand (gushr x0 1) 1431655765)) 2) 858993459)) + (gushr ((gand (x0 - (gand (gushr x0 1) 1431655765)) 858993459) + (gand (gushr (x0 - (gand (gushr x0 1) 1431655765)) 2) 858993459)) 4)) 252645135) + (gushr (gand (((gand (x0 - (gand (gushr x0 1) 1431655765)) 858993459) + (gand (gushr (x0 - (gand (gushr x0 1) 1431655765)) 2) 858993459)) + (gushr ((gand (x0 - (gand (gushr x0 1) 1431655765)) 858993459) + (gand (gushr (x0 - (gand (gushr x0 1) 1431655765)) 2) 858993459)) 4)) 252645135) 8)) + (gushr ((gand (((gand (x0 - (gand (gushr x0 1) 1431655765)) 858993459) + (gand (gushr (x0 - (gand (gushr x0 1) 1431655765)) 2) 858993459)) + (gushr ((gand (x0 - (gand (gushr x0 1) 1431655765)) 858993459) + (gand (gushr (x0 - (gand (gushr x0 1) 1431655765)) 2) 858993459)) 4)) 252645135) + (gushr (gand (((gand (x0 - (gand (gushr x0 1) 1431655765)) 858993459) + (gand (gushr (x0 - (gand (gushr x0 1) 1431655765)) 2) 858993459)) + (gushr ((gand (x0 - (gand (gushr x0 1) 1431655765)) 858993459) + (gand (gushr (x0 - (gand (gushr x0 1) 1431655765)) 2) 858993459)) 4)) 252645135) 8)) 16)))]) dJ6_bitCount_0f7a4_47 rfl (by decide) rfl ?_
  refine ga_iload_n 0 dJ6_bitCount_0f7a4_48 rfl rfl ?_
  refine ga_bipush dJ6_bitCount_0f7a4_49 (by decide) ?_
  refine ga_iand dJ6_bitCount_0f7a4_51 (fun r10 => ?_)
  exact ga_iret dJ6_bitCount_0f7a4_52 rfl r10 h
abbrev eX2_findRhythm (l : Launch) (G : gG)  (σ : gS) (Q : gS → Prop) : Prop := gEv l G mX2_findRhythm [.ref (G.2.1 58)] σ Q
abbrev kX2_findRhythm_22 (l : Launch) (G : gG)  (x1 : Int) (σ : gS) (Q : gS → Prop) : Prop := gAt l G mX2_findRhythm (gQv G Q) 22 [(0, .ref (G.2.1 58)), (1, vI x1)] [] σ
abbrev kX2_findRhythm_90 (l : Launch) (G : gG)  (x1 : Int) (x2 : Int) (σ : gS) (Q : gS → Prop) : Prop := gAt l G mX2_findRhythm (gQv G Q) 90 [(0, .ref (G.2.1 58)), (1, vI x1), (2, vI x2)] [] σ
set_option maxRecDepth 100000 in
set_option maxHeartbeats 4000000 in
theorem vX2_findRhythm {l : Launch} {G : gG}  (σ : gS) (Q : gS → Prop) (h : ∀ σ1, σ1 = sI σ 58 4 0 →
  ∀ σ2, σ2 = sI σ1 58 5 0 →
  eX2_pointersNow l G  σ2 (fun v5 σ3 => gRl v5 →
  ∀ σ6, σ6 = sL σ3 0 v5 →
  kX2_findRhythm_22 l G  0 σ6 Q)) : eX2_findRhythm l G  σ Q := by
  refine ga_entry rfl (Nat.le_of_ble_eq_true rfl) ?_
  show gAt l G mX2_findRhythm (gQv G Q) 0 [(0, .ref (G.2.1 58))] [] σ
  refine ga_aload_n 0 dX2_findRhythm_0 rfl rfl ?_
  refine ga_iconst dX2_findRhythm_1 ?_
  obtain ⟨σ1, eσ1⟩ : ∃ z, z = sI σ 58 4 0 := ⟨_, rfl⟩
  replace h := h σ1 eσ1
  refine ga_putI (kI := 4) dX2_findRhythm_2 fX2_65 pX2_4 rfl rfl rfl (by decide) eσ1 ?_
  refine ga_aload_n 0 dX2_findRhythm_5 rfl rfl ?_
  refine ga_iconst dX2_findRhythm_6 ?_
  obtain ⟨σ2, eσ2⟩ : ∃ z, z = sI σ1 58 5 0 := ⟨_, rfl⟩
  replace h := h σ2 eσ2
  refine ga_putI (kI := 5) dX2_findRhythm_7 fX2_68 pX2_5 rfl rfl rfl (by decide) eσ2 ?_
  refine ga_aload_n 0 dX2_findRhythm_10 rfl rfl ?_
  refine ga_getR (kI := 2) (r := 65) dX2_findRhythm_11 fX2_18 rfl rfl (by decide) rfl ?_
  refine ga_iconst dX2_findRhythm_14 ?_
  refine ga_aload_n 0 dX2_findRhythm_15 rfl rfl ?_
  refine ga_callVl (z := mX2_pointersNow) (As := []) (rest := [vI 0, .ref (G.2.1 65)]) dX2_findRhythm_16 wX2_79 qX2_findRhythm_X2_pointersNow rfl ⟨_, rfl, rfl⟩ rfl rfl (Nat.le_of_ble_eq_true rfl) (gEl_mono h (fun v5 σ3 h r4 => ?_))
  replace h := h r4
  obtain ⟨σ6, eσ6⟩ : ∃ z, z = sL σ3 0 v5 := ⟨_, rfl⟩
  replace h := h σ6 eσ6
  refine ga_last (nI := 61) dX2_findRhythm_19 rfl rfl (by decide) r4 eσ6 ?_
  refine ga_iconst dX2_findRhythm_20 ?_
  refine ga_istore_n (ls' := [(1, vI 0), (0, .ref (G.2.1 58))]) dX2_findRhythm_21 rfl (by decide) rfl ?_
  exact ga_sub [1, 0] rfl h
set_option maxRecDepth 100000 in
set_option maxHeartbeats 4000000 in
theorem vX2_findRhythm_22 {l : Launch} {G : gG}  (x1 : Int) (rx1 : gR x1) (σ : gS) (Q : gS → Prop) (h : (60 ≤ x1 → Q σ) ∧
  (x1 < 60 → (¬ (gI σ 58 5) = 0 → Q σ) ∧
    ((gI σ 58 5) = 0 → eX2_passSlot l G  σ (fun σ10 =>
      eJ6_bitCount_0f7a4 l G (gI σ10 59 6) σ10 (fun v16 σ14 => gR v16 →
      (0 ≤ x1 ∧ x1 < 60) ∧ (gR ((gI σ10 59 0) - v16)) ∧ ∀ σ18, σ18 = sI σ14 66 x1 ((gI σ10 59 0) - v16) →
      (gR (x1 + 1)) ∧ ∀ σ20, σ20 = sI σ18 58 4 (x1 + 1) →
      eX2_pointersNow l G  σ20 (fun v25 σ23 => gRl v25 →
      (0 ≤ (gI σ20 58 4) ∧ (gI σ20 58 4) < 61) ∧ ∀ σ27, σ27 = sL σ23 (gI σ20 58 4) v25 →
      kX2_findRhythm_90 l G  x1 ((gI σ27 58 4) - 1) σ27 Q)))))) : kX2_findRhythm_22 l G  x1 σ Q := by
  refine ga_iload_n 1 dX2_findRhythm_22 rfl rfl ?_
  refine ga_bipush dX2_findRhythm_23 (by decide) ?_
  obtain ⟨ht, hf⟩ := h
  refine ga_icmp_ge (tgt := 142) dX2_findRhythm_25 (by decide) rx1 (by decide) (fun q7 => ?_) (fun q7 => ?_)
  · replace q7 : 60 ≤ x1 := q7
    have h := ht q7
    exact ga_vret dX2_findRhythm_142 rfl h
  · replace q7 : x1 < 60 := (Int.not_le.mp q7)
    have h := hf q7
    refine ga_aload_n 0 dX2_findRhythm_28 rfl rfl ?_
    refine ga_getI (kI := 5) dX2_findRhythm_29 fX2_68 rfl rfl rfl (fun r8 => ?_)
    obtain ⟨ht, hf⟩ := h
    refine ga_if_ne (tgt := 142) dX2_findRhythm_32 (by decide) r8 (fun q9 => ?_) (fun q9 => ?_)
    · replace q9 : ¬ (gI σ 58 5) = 0 := q9
      have h := ht q9
      exact ga_vret dX2_findRhythm_142 rfl h
    · replace q9 : (gI σ 58 5) = 0 := (Decidable.not_not.mp q9)
      have h := hf q9
      refine ga_aload_n 0 dX2_findRhythm_35 rfl rfl ?_
      refine ga_callVv (z := mX2_passSlot) (As := []) (rest := []) dX2_findRhythm_36 wX2_56 qX2_findRhythm_X2_passSlot rfl ⟨_, rfl, rfl⟩ rfl rfl (Nat.le_of_ble_eq_true rfl) (gEv_mono h (fun σ10 h => ?_))
      refine ga_aload_n 0 dX2_findRhythm_39 rfl rfl ?_
      refine ga_getR (kI := 3) (r := 66) dX2_findRhythm_40 fX2_22 rfl rfl (by decide) rfl ?_
      refine ga_iload_n 1 dX2_findRhythm_43 rfl rfl ?_
      refine ga_aload_n 0 dX2_findRhythm_44 rfl rfl ?_
      refine ga_getR (kI := 0) (r := 59) dX2_findRhythm_45 fX2_12 rfl rfl (by decide) rfl ?_
      refine ga_getI (kI := 0) dX2_findRhythm_48 fX2_40 rfl rfl rfl (fun r12 => ?_)
      refine ga_aload_n 0 dX2_findRhythm_51 rfl rfl ?_
      refine ga_getR (kI := 0) (r := 59) dX2_findRhythm_52 fX2_12 rfl rfl (by decide) rfl ?_
      refine ga_getI (kI := 6) dX2_findRhythm_55 fX2_83 rfl rfl rfl (fun r13 => ?_)
      refine ga_callSi (z := mJ6_bitCount_0f7a4) (As := [vI (gI σ10 59 6)]) (rest := [vI (gI σ10 59 0), vI x1, .ref (G.2.1 66)]) dX2_findRhythm_58 wX2_86 qX2_findRhythm_J6_bitCount_0f7a4 rfl rfl (Nat.le_of_ble_eq_true rfl) (gEi_mono h (fun v16 σ14 h r15 => ?_))
      replace h := h r15
      refine ga_isub dX2_findRhythm_61 ?_
      obtain ⟨i17, h⟩ := h
      obtain ⟨r19, h⟩ := h
      obtain ⟨σ18, eσ18⟩ : ∃ z, z = sI σ14 66 x1 ((gI σ10 59 0) - v16) := ⟨_, rfl⟩
      replace h := h σ18 eσ18
      refine ga_iast (nI := 60) dX2_findRhythm_62 rfl rfl i17 r19 eσ18 ?_
      refine ga_aload_n 0 dX2_findRhythm_63 rfl rfl ?_
      refine ga_iload_n 1 dX2_findRhythm_64 rfl rfl ?_
      refine ga_iconst dX2_findRhythm_65 ?_
      refine ga_iadd dX2_findRhythm_66 ?_
      obtain ⟨r21, h⟩ := h
      obtain ⟨σ20, eσ20⟩ : ∃ z, z = sI σ18 58 4 (x1 + 1) := ⟨_, rfl⟩
      replace h := h σ20 eσ20
      refine ga_putI (kI := 4) dX2_findRhythm_67 fX2_65 pX2_4 rfl rfl rfl r21 eσ20 ?_
      refine ga_aload_n 0 dX2_findRhythm_70 rfl rfl ?_
      refine ga_getR (kI := 2) (r := 65) dX2_findRhythm_71 fX2_18 rfl rfl (by decide) rfl ?_
      refine ga_aload_n 0 dX2_findRhythm_74 rfl rfl ?_
      refine ga_getI (kI := 4) dX2_findRhythm_75 fX2_65 rfl rfl rfl (fun r22 => ?_)
      refine ga_aload_n 0 dX2_findRhythm_78 rfl rfl ?_
      refine ga_callVl (z := mX2_pointersNow) (As := []) (rest := [vI (gI σ20 58 4), .ref (G.2.1 65)]) dX2_findRhythm_79 wX2_79 qX2_findRhythm_X2_pointersNow rfl ⟨_, rfl, rfl⟩ rfl rfl (Nat.le_of_ble_eq_true rfl) (gEl_mono h (fun v25 σ23 h r24 => ?_))
      replace h := h r24
      obtain ⟨i26, h⟩ := h
      obtain ⟨σ27, eσ27⟩ : ∃ z, z = sL σ23 (gI σ20 58 4) v25 := ⟨_, rfl⟩
      replace h := h σ27 eσ27
      refine ga_last (nI := 61) dX2_findRhythm_82 rfl rfl i26 r24 eσ27 ?_
      refine ga_aload_n 0 dX2_findRhythm_83 rfl rfl ?_
      refine ga_getI (kI := 4) dX2_findRhythm_84 fX2_65 rfl rfl rfl (fun r28 => ?_)
      refine ga_iconst dX2_findRhythm_87 ?_
      refine ga_isub dX2_findRhythm_88 ?_
      refine ga_istore_n (ls' := [(2, vI ((gI σ27 58 4) - 1)), (0, .ref (G.2.1 58)), (1, vI x1)]) dX2_findRhythm_89 rfl (by decide) rfl ?_
      exact ga_sub [1, 2, 0] rfl h
set_option maxRecDepth 100000 in
set_option maxHeartbeats 4000000 in
theorem vX2_findRhythm_90 {l : Launch} {G : gG}  (x1 : Int) (x2 : Int) (rx1 : gR x1) (rx2 : gR x2) (σ : gS) (Q : gS → Prop) (h : (x2 < 0 → kX2_findRhythm_22 l G  (x1 + 1) σ Q) ∧
  (0 ≤ x2 → (¬ (gI σ 58 5) = 0 → kX2_findRhythm_22 l G  (x1 + 1) σ Q) ∧
    ((gI σ 58 5) = 0 → (0 ≤ x2 ∧ x2 < 61) ∧ (0 ≤ (gI σ 58 4) ∧ (gI σ 58 4) < 61) ∧ (¬ (glcmp (σ.2.1 x2) (σ.2.1 (gI σ 58 4))) = 0 → kX2_findRhythm_90 l G  x1 (x2 + (-1)) σ Q) ∧
      ((glcmp (σ.2.1 x2) (σ.2.1 (gI σ 58 4))) = 0 → (gR ((gI σ 58 4) - x2)) ∧ ∀ σ40, σ40 = sI σ 58 5 ((gI σ 58 4) - x2) →
        kX2_findRhythm_90 l G  x1 (x2 + (-1)) σ40 Q)))) : kX2_findRhythm_90 l G  x1 x2 σ Q := by
  refine ga_iload_n 2 dX2_findRhythm_90 rfl rfl ?_
  obtain ⟨ht, hf⟩ := h
  refine ga_if_lt (tgt := 136) dX2_findRhythm_91 (by decide) rx2 (fun q29 => ?_) (fun q29 => ?_)
  · replace q29 : x2 < 0 := q29
    have h := ht q29
    refine ga_iinc (ls' := [(1, vI (x1 + 1)), (0, .ref (G.2.1 58)), (2, vI x2)]) 1 dX2_findRhythm_136 rfl (by decide) rfl ?_
    refine ga_goto (tgt := 22) dX2_findRhythm_139 (by decide) ?_
    exact ga_sub [1, 0] rfl h
  · replace q29 : 0 ≤ x2 := (Int.not_lt.mp q29)
    have h := hf q29
    refine ga_aload_n 0 dX2_findRhythm_94 rfl rfl ?_
    refine ga_getI (kI := 5) dX2_findRhythm_95 fX2_68 rfl rfl rfl (fun r30 => ?_)
    obtain ⟨ht, hf⟩ := h
    refine ga_if_ne (tgt := 136) dX2_findRhythm_98 (by decide) r30 (fun q31 => ?_) (fun q31 => ?_)
    · replace q31 : ¬ (gI σ 58 5) = 0 := q31
      have h := ht q31
      refine ga_iinc (ls' := [(1, vI (x1 + 1)), (0, .ref (G.2.1 58)), (2, vI x2)]) 1 dX2_findRhythm_136 rfl (by decide) rfl ?_
      refine ga_goto (tgt := 22) dX2_findRhythm_139 (by decide) ?_
      exact ga_sub [1, 0] rfl h
    · replace q31 : (gI σ 58 5) = 0 := (Decidable.not_not.mp q31)
      have h := hf q31
      refine ga_aload_n 0 dX2_findRhythm_101 rfl rfl ?_
      refine ga_getR (kI := 2) (r := 65) dX2_findRhythm_102 fX2_18 rfl rfl (by decide) rfl ?_
      refine ga_iload_n 2 dX2_findRhythm_105 rfl rfl ?_
      obtain ⟨i32, h⟩ := h
      refine ga_lald (nI := 61) dX2_findRhythm_106 rfl rfl i32 (fun r33 => ?_)
      refine ga_aload_n 0 dX2_findRhythm_107 rfl rfl ?_
      refine ga_getR (kI := 2) (r := 65) dX2_findRhythm_108 fX2_18 rfl rfl (by decide) rfl ?_
      refine ga_aload_n 0 dX2_findRhythm_111 rfl rfl ?_
      refine ga_getI (kI := 4) dX2_findRhythm_112 fX2_65 rfl rfl rfl (fun r34 => ?_)
      obtain ⟨i35, h⟩ := h
      refine ga_lald (nI := 61) dX2_findRhythm_115 rfl rfl i35 (fun r36 => ?_)
      refine ga_lcmp dX2_findRhythm_116 (fun r37 => ?_)
      obtain ⟨ht, hf⟩ := h
      refine ga_if_ne (tgt := 130) dX2_findRhythm_117 (by decide) r37 (fun q38 => ?_) (fun q38 => ?_)
      · replace q38 : ¬ (glcmp (σ.2.1 x2) (σ.2.1 (gI σ 58 4))) = 0 := q38
        have h := ht q38
        refine ga_iinc (ls' := [(2, vI (x2 + (-1))), (0, .ref (G.2.1 58)), (1, vI x1)]) 2 dX2_findRhythm_130 rfl (by decide) rfl ?_
        refine ga_goto (tgt := 90) dX2_findRhythm_133 (by decide) ?_
        exact ga_sub [1, 2, 0] rfl h
      · replace q38 : (glcmp (σ.2.1 x2) (σ.2.1 (gI σ 58 4))) = 0 := (Decidable.not_not.mp q38)
        have h := hf q38
        refine ga_aload_n 0 dX2_findRhythm_120 rfl rfl ?_
        refine ga_aload_n 0 dX2_findRhythm_121 rfl rfl ?_
        refine ga_getI (kI := 4) dX2_findRhythm_122 fX2_65 rfl rfl rfl (fun r39 => ?_)
        refine ga_iload_n 2 dX2_findRhythm_125 rfl rfl ?_
        refine ga_isub dX2_findRhythm_126 ?_
        obtain ⟨r41, h⟩ := h
        obtain ⟨σ40, eσ40⟩ : ∃ z, z = sI σ 58 5 ((gI σ 58 4) - x2) := ⟨_, rfl⟩
        replace h := h σ40 eσ40
        refine ga_putI (kI := 5) dX2_findRhythm_127 fX2_68 pX2_5 rfl rfl rfl r41 eσ40 ?_
        refine ga_iinc (ls' := [(2, vI (x2 + (-1))), (0, .ref (G.2.1 58)), (1, vI x1)]) 2 dX2_findRhythm_130 rfl (by decide) rfl ?_
        refine ga_goto (tgt := 90) dX2_findRhythm_133 (by decide) ?_
        exact ga_sub [1, 2, 0] rfl h
abbrev eX2_madeFrom (l : Launch) (G : gG) (x1 : Int) (σ : gS) (Q : Int → gS → Prop) : Prop := gEi l G mX2_madeFrom [.ref (G.2.1 58), vI x1] σ Q
abbrev kX2_madeFrom_4 (l : Launch) (G : gG)  (x1 : Int) (x2 : Int) (x3 : Int) (σ : gS) (Q : Int → gS → Prop) : Prop := gAt l G mX2_madeFrom (gQi G Q) 4 [(0, .ref (G.2.1 58)), (1, vI x1), (2, vI x2), (3, vI x3)] [] σ
set_option maxRecDepth 100000 in
set_option maxHeartbeats 4000000 in
theorem vX2_madeFrom {l : Launch} {G : gG} (x1 : Int) (rx1 : gR x1) (σ : gS) (Q : Int → gS → Prop) (h : kX2_madeFrom_4 l G  x1 0 x1 σ Q) : eX2_madeFrom l G x1 σ Q := by
  refine ga_entry rfl (Nat.le_of_ble_eq_true rfl) ?_
  show gAt l G mX2_madeFrom (gQi G Q) 0 [(0, .ref (G.2.1 58)), (1, vI x1)] [] σ
  refine ga_iconst dX2_madeFrom_0 ?_
  refine ga_istore_n (ls' := [(2, vI 0), (0, .ref (G.2.1 58)), (1, vI x1)]) dX2_madeFrom_1 rfl (by decide) rfl ?_
  refine ga_iload_n 2 dX2_madeFrom_2 rfl rfl ?_
  refine ga_istore_n (ls' := [(3, vI x1), (2, vI 0), (0, .ref (G.2.1 58)), (1, vI x1)]) dX2_madeFrom_3 rfl (by decide) rfl ?_
  exact ga_sub [2, 3, 1, 0] rfl h
set_option maxRecDepth 100000 in
set_option maxHeartbeats 4000000 in
theorem vX2_madeFrom_4 {l : Launch} {G : gG}  (x1 : Int) (x2 : Int) (x3 : Int) (rx1 : gR x1) (rx2 : gR x2) (rx3 : gR x3) (σ : gS) (Q : Int → gS → Prop) (h : ((gI σ 58 4) ≤ x3 → Q x2 σ) ∧
  (x3 < (gI σ 58 4) → (0 ≤ x3 ∧ x3 < 60) ∧ kX2_madeFrom_4 l G  x1 (x2 + (gI σ 66 x3)) (x3 + 1) σ Q)) : kX2_madeFrom_4 l G  x1 x2 x3 σ Q := by
  refine ga_iload_n 3 dX2_madeFrom_4 rfl rfl ?_
  refine ga_aload_n 0 dX2_madeFrom_5 rfl rfl ?_
  refine ga_getI (kI := 4) dX2_madeFrom_6 fX2_65 rfl rfl rfl (fun r1 => ?_)
  obtain ⟨ht, hf⟩ := h
  refine ga_icmp_ge (tgt := 27) dX2_madeFrom_9 (by decide) rx3 r1 (fun q2 => ?_) (fun q2 => ?_)
  · replace q2 : (gI σ 58 4) ≤ x3 := q2
    have h := ht q2
    refine ga_iload_n 2 dX2_madeFrom_27 rfl rfl ?_
    exact ga_iret dX2_madeFrom_28 rfl rx2 h
  · replace q2 : x3 < (gI σ 58 4) := (Int.not_le.mp q2)
    have h := hf q2
    refine ga_iload_n 2 dX2_madeFrom_12 rfl rfl ?_
    refine ga_aload_n 0 dX2_madeFrom_13 rfl rfl ?_
    refine ga_getR (kI := 3) (r := 66) dX2_madeFrom_14 fX2_22 rfl rfl (by decide) rfl ?_
    refine ga_iload_n 3 dX2_madeFrom_17 rfl rfl ?_
    obtain ⟨i3, h⟩ := h
    refine ga_iald (nI := 60) dX2_madeFrom_18 rfl rfl i3 (fun r4 => ?_)
    refine ga_iadd dX2_madeFrom_19 ?_
    refine ga_istore_n (ls' := [(2, vI (x2 + (gI σ 66 x3))), (0, .ref (G.2.1 58)), (1, vI x1), (3, vI x3)]) dX2_madeFrom_20 rfl (by decide) rfl ?_
    refine ga_iinc (ls' := [(3, vI (x3 + 1)), (2, vI (x2 + (gI σ 66 x3))), (0, .ref (G.2.1 58)), (1, vI x1)]) 3 dX2_madeFrom_21 rfl (by decide) rfl ?_
    refine ga_goto (tgt := 4) dX2_madeFrom_24 (by decide) ?_
    exact ga_sub [2, 3, 1, 0] rfl h
abbrev eX2_stepAt (l : Launch) (G : gG)  (σ : gS) (Q : Int → gS → Prop) : Prop := gEi l G mX2_stepAt [.ref (G.2.1 58)] σ Q
abbrev kX2_stepAt_5 (l : Launch) (G : gG)  (x1 : Int) (σ : gS) (Q : Int → gS → Prop) : Prop := gAt l G mX2_stepAt (gQi G Q) 5 [(0, .ref (G.2.1 58)), (1, vI x1)] [] σ
set_option maxRecDepth 100000 in
set_option maxHeartbeats 4000000 in
theorem vX2_stepAt {l : Launch} {G : gG}  (σ : gS) (Q : Int → gS → Prop) (h : kX2_stepAt_5 l G  (gI σ 58 4) σ Q) : eX2_stepAt l G  σ Q := by
  refine ga_entry rfl (Nat.le_of_ble_eq_true rfl) ?_
  show gAt l G mX2_stepAt (gQi G Q) 0 [(0, .ref (G.2.1 58))] [] σ
  refine ga_aload_n 0 dX2_stepAt_0 rfl rfl ?_
  refine ga_getI (kI := 4) dX2_stepAt_1 fX2_65 rfl rfl rfl (fun r1 => ?_)
  refine ga_istore_n (ls' := [(1, vI (gI σ 58 4)), (0, .ref (G.2.1 58))]) dX2_stepAt_4 rfl (by decide) rfl ?_
  exact ga_sub [1, 0] rfl h
set_option maxRecDepth 100000 in
set_option maxHeartbeats 4000000 in
theorem vX2_stepAt_5 {l : Launch} {G : gG}  (x1 : Int) (rx1 : gR x1) (σ : gS) (Q : Int → gS → Prop) (h : (x1 ≤ 0 → ((gR ((gI σ 58 4) - (gI σ 58 5))) ∧ (((gI σ 58 4) - (gI σ 58 5)) < x1 → True) ∧
    (x1 ≤ ((gI σ 58 4) - (gI σ 58 5)) → True)) ∧
    (∀ v8 : Int, v8 = (if ((gI σ 58 4) - (gI σ 58 5)) < x1 then (-1) else x1) →
    Q v8 σ)) ∧
  (0 < x1 → (0 ≤ (x1 - 1) ∧ (x1 - 1) < 60) ∧ (¬ (gI σ 66 (x1 - 1)) = (gI σ 59 0) → ((gR ((gI σ 58 4) - (gI σ 58 5))) ∧ (((gI σ 58 4) - (gI σ 58 5)) < x1 → True) ∧
      (x1 ≤ ((gI σ 58 4) - (gI σ 58 5)) → True)) ∧
      (∀ v18 : Int, v18 = (if ((gI σ 58 4) - (gI σ 58 5)) < x1 then (-1) else x1) →
      Q v18 σ)) ∧
    ((gI σ 66 (x1 - 1)) = (gI σ 59 0) → kX2_stepAt_5 l G  (x1 + (-1)) σ Q))) : kX2_stepAt_5 l G  x1 σ Q := by
  refine ga_iload_n 1 dX2_stepAt_5 rfl rfl ?_
  obtain ⟨ht, hf⟩ := h
  refine ga_if_le (tgt := 33) dX2_stepAt_6 (by decide) rx1 (fun q2 => ?_) (fun q2 => ?_)
  · replace q2 : x1 ≤ 0 := q2
    have h := ht q2
    refine ga_iload_n 1 dX2_stepAt_33 rfl rfl ?_
    refine ga_aload_n 0 dX2_stepAt_34 rfl rfl ?_
    refine ga_getI (kI := 4) dX2_stepAt_35 fX2_65 rfl rfl rfl (fun r3 => ?_)
    refine ga_aload_n 0 dX2_stepAt_38 rfl rfl ?_
    refine ga_getI (kI := 5) dX2_stepAt_39 fX2_68 rfl rfl rfl (fun r4 => ?_)
    refine ga_isub dX2_stepAt_42 ?_
    obtain ⟨hob, h⟩ := h
    have kJ5 : ∀ v8 : Int, gR v8 → v8 = (if ((gI σ 58 4) - (gI σ 58 5)) < x1 then (-1) else x1) → gAt l G mX2_stepAt (gQi G Q) 51 [(0, .ref (G.2.1 58)), (1, vI x1)] [vI v8] σ := by
      intro v8 rv8 ev8
      replace h := h v8 ev8
      exact ga_iret dX2_stepAt_51 rfl rv8 h
    replace h := hob
    obtain ⟨r6, h⟩ := h
    obtain ⟨ht, hf⟩ := h
    refine ga_icmp_gt (tgt := 50) dX2_stepAt_43 (by decide) rx1 r6 (fun q7 => ?_) (fun q7 => ?_)
    · replace q7 : ((gI σ 58 4) - (gI σ 58 5)) < x1 := q7
      have h := ht q7
      refine ga_iconst dX2_stepAt_50 ?_
      exact kJ5 (-1) (by decide) (by rw [if_pos q7])
    · replace q7 : x1 ≤ ((gI σ 58 4) - (gI σ 58 5)) := (Int.not_lt.mp q7)
      have h := hf q7
      refine ga_iload_n 1 dX2_stepAt_46 rfl rfl ?_
      refine ga_goto (tgt := 51) dX2_stepAt_47 (by decide) ?_
      exact kJ5 x1 rx1 (by rw [if_neg (Int.not_lt.mpr q7)])
  · replace q2 : 0 < x1 := (Int.not_le.mp q2)
    have h := hf q2
    refine ga_aload_n 0 dX2_stepAt_9 rfl rfl ?_
    refine ga_getR (kI := 3) (r := 66) dX2_stepAt_10 fX2_22 rfl rfl (by decide) rfl ?_
    refine ga_iload_n 1 dX2_stepAt_13 rfl rfl ?_
    refine ga_iconst dX2_stepAt_14 ?_
    refine ga_isub dX2_stepAt_15 ?_
    obtain ⟨i9, h⟩ := h
    refine ga_iald (nI := 60) dX2_stepAt_16 rfl rfl i9 (fun r10 => ?_)
    refine ga_aload_n 0 dX2_stepAt_17 rfl rfl ?_
    refine ga_getR (kI := 0) (r := 59) dX2_stepAt_18 fX2_12 rfl rfl (by decide) rfl ?_
    refine ga_getI (kI := 0) dX2_stepAt_21 fX2_40 rfl rfl rfl (fun r11 => ?_)
    obtain ⟨ht, hf⟩ := h
    refine ga_icmp_ne (tgt := 33) dX2_stepAt_24 (by decide) r10 r11 (fun q12 => ?_) (fun q12 => ?_)
    · replace q12 : ¬ (gI σ 66 (x1 - 1)) = (gI σ 59 0) := q12
      have h := ht q12
      refine ga_iload_n 1 dX2_stepAt_33 rfl rfl ?_
      refine ga_aload_n 0 dX2_stepAt_34 rfl rfl ?_
      refine ga_getI (kI := 4) dX2_stepAt_35 fX2_65 rfl rfl rfl (fun r13 => ?_)
      refine ga_aload_n 0 dX2_stepAt_38 rfl rfl ?_
      refine ga_getI (kI := 5) dX2_stepAt_39 fX2_68 rfl rfl rfl (fun r14 => ?_)
      refine ga_isub dX2_stepAt_42 ?_
      obtain ⟨hob, h⟩ := h
      have kJ15 : ∀ v18 : Int, gR v18 → v18 = (if ((gI σ 58 4) - (gI σ 58 5)) < x1 then (-1) else x1) → gAt l G mX2_stepAt (gQi G Q) 51 [(0, .ref (G.2.1 58)), (1, vI x1)] [vI v18] σ := by
        intro v18 rv18 ev18
        replace h := h v18 ev18
        exact ga_iret dX2_stepAt_51 rfl rv18 h
      replace h := hob
      obtain ⟨r16, h⟩ := h
      obtain ⟨ht, hf⟩ := h
      refine ga_icmp_gt (tgt := 50) dX2_stepAt_43 (by decide) rx1 r16 (fun q17 => ?_) (fun q17 => ?_)
      · replace q17 : ((gI σ 58 4) - (gI σ 58 5)) < x1 := q17
        have h := ht q17
        refine ga_iconst dX2_stepAt_50 ?_
        exact kJ15 (-1) (by decide) (by rw [if_pos q17])
      · replace q17 : x1 ≤ ((gI σ 58 4) - (gI σ 58 5)) := (Int.not_lt.mp q17)
        have h := hf q17
        refine ga_iload_n 1 dX2_stepAt_46 rfl rfl ?_
        refine ga_goto (tgt := 51) dX2_stepAt_47 (by decide) ?_
        exact kJ15 x1 rx1 (by rw [if_neg (Int.not_lt.mpr q17)])
    · replace q12 : (gI σ 66 (x1 - 1)) = (gI σ 59 0) := (Decidable.not_not.mp q12)
      have h := hf q12
      refine ga_iinc (ls' := [(1, vI (x1 + (-1))), (0, .ref (G.2.1 58))]) 1 dX2_stepAt_27 rfl (by decide) rfl ?_
      refine ga_goto (tgt := 5) dX2_stepAt_30 (by decide) ?_
      exact ga_sub [1, 0] rfl h
abbrev eX2_tellRhythm (l : Launch) (G : gG) (x2 : Int) (x3 : Int) (σ : gS) (Q : Int → gS → Prop) : Prop := gEi l G mX2_tellRhythm [.ref (G.2.1 58), .ref (G.2.1 1), vI x2, vI x3] σ Q
set_option maxRecDepth 100000 in
set_option maxHeartbeats 4000000 in
theorem vX2_tellRhythm {l : Launch} {G : gG} (x2 : Int) (x3 : Int) (rx2 : gR x2) (rx3 : gR x3) (σ : gS) (Q : Int → gS → Prop) (h : eX2_begin l G x2 σ (fun σ1 =>
  eX2_findRhythm l G  σ1 (fun σ3 =>
  (x3 = 0 → Q (gI σ3 58 4) σ3) ∧
  (x3 = 1 → Q (gI σ3 58 5) σ3) ∧
  (x3 = 2 → eX2_madeFrom l G ((gI σ3 58 4) - (gI σ3 58 5)) σ3 (fun v11 σ9 => gR v11 →
    Q v11 σ9)) ∧
  (x3 = 3 → eX2_stepAt l G  σ3 (fun v14 σ12 => gR v14 →
    Q v14 σ12)) ∧
  ((x3 < 0 ∨ 3 < x3) → Q (-2) σ3)))) : eX2_tellRhythm l G x2 x3 σ Q := by
  refine ga_entry rfl (Nat.le_of_ble_eq_true rfl) ?_
  show gAt l G mX2_tellRhythm (gQi G Q) 0 [(0, .ref (G.2.1 58)), (1, .ref (G.2.1 1)), (2, vI x2), (3, vI x3)] [] σ
  refine ga_aload_n 0 dX2_tellRhythm_0 rfl rfl ?_
  refine ga_aload_n 1 dX2_tellRhythm_1 rfl rfl ?_
  refine ga_iload_n 2 dX2_tellRhythm_2 rfl rfl ?_
  refine ga_callVv (z := mX2_begin) (As := [.ref (G.2.1 1), vI x2]) (rest := []) dX2_tellRhythm_3 wX2_53 qX2_tellRhythm_X2_begin rfl ⟨_, rfl, rfl⟩ rfl rfl (Nat.le_of_ble_eq_true rfl) (gEv_mono h (fun σ1 h => ?_))
  refine ga_aload_n 0 dX2_tellRhythm_6 rfl rfl ?_
  refine ga_callVv (z := mX2_findRhythm) (As := []) (rest := []) dX2_tellRhythm_7 wX2_62 qX2_tellRhythm_X2_findRhythm rfl ⟨_, rfl, rfl⟩ rfl rfl (Nat.le_of_ble_eq_true rfl) (gEv_mono h (fun σ3 h => ?_))
  refine ga_iload_n 3 dX2_tellRhythm_10 rfl rfl ?_
  obtain ⟨hc15, hc16, hc17, hc18, hd⟩ := h
  by_cases q19 : x3 = 0
  · refine ga_tableIn (tgt := 40) (v := 0) dX2_tellRhythm_11 q19 (by decide) rfl (by decide) ?_
    have h := hc15 q19
    refine ga_aload_n 0 dX2_tellRhythm_40 rfl rfl ?_
    refine ga_getI (kI := 4) dX2_tellRhythm_41 fX2_65 rfl rfl rfl (fun r5 => ?_)
    exact ga_iret dX2_tellRhythm_44 rfl r5 h
  by_cases q20 : x3 = 1
  · refine ga_tableIn (tgt := 45) (v := 1) dX2_tellRhythm_11 q20 (by decide) rfl (by decide) ?_
    have h := hc16 q20
    refine ga_aload_n 0 dX2_tellRhythm_45 rfl rfl ?_
    refine ga_getI (kI := 5) dX2_tellRhythm_46 fX2_68 rfl rfl rfl (fun r6 => ?_)
    exact ga_iret dX2_tellRhythm_49 rfl r6 h
  by_cases q21 : x3 = 2
  · refine ga_tableIn (tgt := 50) (v := 2) dX2_tellRhythm_11 q21 (by decide) rfl (by decide) ?_
    have h := hc17 q21
    refine ga_aload_n 0 dX2_tellRhythm_50 rfl rfl ?_
    refine ga_aload_n 0 dX2_tellRhythm_51 rfl rfl ?_
    refine ga_getI (kI := 4) dX2_tellRhythm_52 fX2_65 rfl rfl rfl (fun r7 => ?_)
    refine ga_aload_n 0 dX2_tellRhythm_55 rfl rfl ?_
    refine ga_getI (kI := 5) dX2_tellRhythm_56 fX2_68 rfl rfl rfl (fun r8 => ?_)
    refine ga_isub dX2_tellRhythm_59 ?_
    refine ga_callVi (z := mX2_madeFrom) (As := [vI ((gI σ3 58 4) - (gI σ3 58 5))]) (rest := []) dX2_tellRhythm_60 wX2_71 qX2_tellRhythm_X2_madeFrom rfl ⟨_, rfl, rfl⟩ rfl rfl (Nat.le_of_ble_eq_true rfl) (gEi_mono h (fun v11 σ9 h r10 => ?_))
    replace h := h r10
    exact ga_iret dX2_tellRhythm_63 rfl r10 h
  by_cases q22 : x3 = 3
  · refine ga_tableIn (tgt := 64) (v := 3) dX2_tellRhythm_11 q22 (by decide) rfl (by decide) ?_
    have h := hc18 q22
    refine ga_aload_n 0 dX2_tellRhythm_64 rfl rfl ?_
    refine ga_callVi (z := mX2_stepAt) (As := []) (rest := []) dX2_tellRhythm_65 wX2_75 qX2_tellRhythm_X2_stepAt rfl ⟨_, rfl, rfl⟩ rfl rfl (Nat.le_of_ble_eq_true rfl) (gEi_mono h (fun v14 σ12 h r13 => ?_))
    replace h := h r13
    exact ga_iret dX2_tellRhythm_68 rfl r13 h
  have hdc : (x3 < 0 ∨ 3 < x3) := by omega
  have h := hd hdc
  refine ga_tableOut (tgt := 69) dX2_tellRhythm_11 rx3 hdc (by decide) ?_
  refine ga_bipush dX2_tellRhythm_69 (by decide) ?_
  exact ga_iret dX2_tellRhythm_71 rfl (by decide) h
abbrev eX3_mayPair (l : Launch) (G : gG) (x1 : Int) (x2 : Int) (x3 : Int) (σ : gS) (Q : Int → gS → Prop) : Prop := gEz l G mX3_mayPair [.ref (G.2.1 32), vI x1, vI x2, vI x3] σ Q
set_option maxRecDepth 100000 in
set_option maxHeartbeats 4000000 in
theorem vX3_mayPair {l : Launch} {G : gG} (x1 : Int) (x2 : Int) (x3 : Int) (rx1 : gR x1) (rx2 : gR x2) (rx3 : gR x3) (σ : gS) (Q : Int → gS → Prop) (h : eX11_holds l G x3 x2 σ (fun v3 σ1 => (v3 = 0 ∨ v3 = 1) →
  ((¬ v3 = 0 → True) ∧
  (v3 = 0 → (0 ≤ ((x1 * 6) + x2) ∧ ((x1 * 6) + x2) < 36) ∧ ((gI σ1 53 ((x1 * 6) + x2)) ≤ 0 → True) ∧
    (0 < (gI σ1 53 ((x1 * 6) + x2)) → True))) ∧
  (∀ v9 : Int, v9 = (if v3 = 0 then (if (gI σ1 53 ((x1 * 6) + x2)) ≤ 0 then 0 else 1) else 0) →
  Q v9 σ1))) : eX3_mayPair l G x1 x2 x3 σ Q := by
  refine ga_entry rfl (Nat.le_of_ble_eq_true rfl) ?_
  show gAt l G mX3_mayPair (gQz G Q) 0 [(0, .ref (G.2.1 32)), (1, vI x1), (2, vI x2), (3, vI x3)] [] σ
  refine ga_iload_n 3 dX3_mayPair_0 rfl rfl ?_
  refine ga_iload_n 2 dX3_mayPair_1 rfl rfl ?_
  refine ga_callNz (z := mX11_holds) (As := [vI x3, vI x2]) (rest := []) dX3_mayPair_2 wX3_77 qX3_mayPair_X11_holds rfl rfl (Nat.le_of_ble_eq_true rfl) (gEz_mono h (fun v3 σ1 h r2 => ?_))
  replace h := h r2
  obtain ⟨hob, h⟩ := h
  have kJ4 : ∀ v9 : Int, gR v9 → (v9 = 0 ∨ v9 = 1) → v9 = (if v3 = 0 then (if (gI σ1 53 ((x1 * 6) + x2)) ≤ 0 then 0 else 1) else 0) → gAt l G mX3_mayPair (gQz G Q) 27 [(0, .ref (G.2.1 32)), (1, vI x1), (2, vI x2), (3, vI x3)] [vI v9] σ1 := by
    intro v9 rv9 bv9 ev9
    replace h := h v9 ev9
    exact ga_bret dX3_mayPair_27 rfl bv9 h
  replace h := hob
  obtain ⟨ht, hf⟩ := h
  refine ga_if_ne (tgt := 26) dX3_mayPair_5 (by decide) (gR_01 r2) (fun q5 => ?_) (fun q5 => ?_)
  · replace q5 : ¬ v3 = 0 := q5
    have h := ht q5
    refine ga_iconst dX3_mayPair_26 ?_
    exact kJ4 0 (by decide) (Or.inl rfl) (by rw [if_neg q5])
  · replace q5 : v3 = 0 := (Decidable.not_not.mp q5)
    have h := hf q5
    refine ga_aload_n 0 dX3_mayPair_8 rfl rfl ?_
    refine ga_getR (kI := 13) (r := 53) dX3_mayPair_9 fX3_81 rfl rfl (by decide) rfl ?_
    refine ga_iload_n 1 dX3_mayPair_12 rfl rfl ?_
    refine ga_bipush dX3_mayPair_13 (by decide) ?_
    refine ga_imul dX3_mayPair_15 ?_
    refine ga_iload_n 2 dX3_mayPair_16 rfl rfl ?_
    refine ga_iadd dX3_mayPair_17 ?_
    obtain ⟨i6, h⟩ := h
    refine ga_iald (nI := 36) dX3_mayPair_18 rfl rfl i6 (fun r7 => ?_)
    obtain ⟨ht, hf⟩ := h
    refine ga_if_le (tgt := 26) dX3_mayPair_19 (by decide) r7 (fun q8 => ?_) (fun q8 => ?_)
    · replace q8 : (gI σ1 53 ((x1 * 6) + x2)) ≤ 0 := q8
      have h := ht q8
      refine ga_iconst dX3_mayPair_26 ?_
      exact kJ4 0 (by decide) (Or.inl rfl) (by rw [if_pos q5, if_pos q8])
    · replace q8 : 0 < (gI σ1 53 ((x1 * 6) + x2)) := (Int.not_le.mp q8)
      have h := hf q8
      refine ga_iconst dX3_mayPair_22 ?_
      refine ga_goto (tgt := 27) dX3_mayPair_23 (by decide) ?_
      exact kJ4 1 (by decide) (Or.inr rfl) (by rw [if_pos q5, if_neg (Int.not_le.mpr q8)])
abbrev eX3_sumWith (l : Launch) (G : gG) (x2 : Int) (x3 : Int) (x4 : Int) (σ : gS) (Q : Int → gS → Prop) : Prop := gEi l G mX3_sumWith [.ref (G.2.1 67), .ref (G.2.1 32), vI x2, vI x3, vI x4] σ Q
set_option maxRecDepth 100000 in
set_option maxHeartbeats 4000000 in
theorem vX3_sumWith {l : Launch} {G : gG} (x2 : Int) (x3 : Int) (x4 : Int) (rx2 : gR x2) (rx3 : gR x3) (rx4 : gR x4) (σ : gS) (Q : Int → gS → Prop) (h : (((gI σ 67 1) = 0 → True) ∧
  (¬ (gI σ 67 1) = 0 → (0 ≤ ((x2 * 6) + x3) ∧ ((x2 * 6) + x3) < 36) ∧ True)) ∧
  (∀ v6 : Int, v6 = (if (gI σ 67 1) = 0 then 1 else (gI σ 53 ((x2 * 6) + x3))) →
  (0 ≤ (((x2 + 1) * 64) + (gor x4 (gshl 1 x3))) ∧ (((x2 + 1) * 64) + (gor x4 (gshl 1 x3))) < 448) ∧ (gR (v6 + (gI σ 68 (((x2 + 1) * 64) + (gor x4 (gshl 1 x3)))))) ∧ Q (v6 + (gI σ 68 (((x2 + 1) * 64) + (gor x4 (gshl 1 x3))))) σ)) : eX3_sumWith l G x2 x3 x4 σ Q := by
  refine ga_entry rfl (Nat.le_of_ble_eq_true rfl) ?_
  show gAt l G mX3_sumWith (gQi G Q) 0 [(0, .ref (G.2.1 67)), (1, .ref (G.2.1 32)), (2, vI x2), (3, vI x3), (4, vI x4)] [] σ
  refine ga_aload_n 0 dX3_sumWith_0 rfl rfl ?_
  refine ga_getI (kI := 1) dX3_sumWith_1 fX3_55 rfl rfl rfl (fun r1 => ?_)
  obtain ⟨hob, h⟩ := h
  have kJ2 : ∀ v6 : Int, gR v6 → v6 = (if (gI σ 67 1) = 0 then 1 else (gI σ 53 ((x2 * 6) + x3))) → gAt l G mX3_sumWith (gQi G Q) 22 [(0, .ref (G.2.1 67)), (1, .ref (G.2.1 32)), (2, vI x2), (3, vI x3), (4, vI x4)] [vI v6] σ := by
    intro v6 rv6 ev6
    replace h := h v6 ev6
    refine ga_istore (ls' := [(5, vI v6), (0, .ref (G.2.1 67)), (1, .ref (G.2.1 32)), (2, vI x2), (3, vI x3), (4, vI x4)]) dX3_sumWith_22 (by decide) rfl ?_
    refine ga_iload 0 dX3_sumWith_24 rfl ?_
    refine ga_aload_n 1 dX3_sumWith_26 rfl rfl ?_
    refine ga_getR (kI := 0) (r := 68) dX3_sumWith_27 fX3_9 rfl rfl (by decide) rfl ?_
    refine ga_iload_n 3 dX3_sumWith_30 rfl rfl ?_
    refine ga_iconst dX3_sumWith_31 ?_
    refine ga_iadd dX3_sumWith_32 ?_
    refine ga_bipush dX3_sumWith_33 (by decide) ?_
    refine ga_imul dX3_sumWith_35 ?_
    refine ga_iload 5 dX3_sumWith_36 rfl ?_
    refine ga_iconst dX3_sumWith_38 ?_
    refine ga_iload_n 4 dX3_sumWith_39 rfl rfl ?_
    refine ga_ishl dX3_sumWith_40 (fun r7 => ?_)
    refine ga_ior dX3_sumWith_41 (fun r8 => ?_)
    refine ga_iadd dX3_sumWith_42 ?_
    obtain ⟨i9, h⟩ := h
    refine ga_iald (nI := 448) dX3_sumWith_43 rfl rfl i9 (fun r10 => ?_)
    refine ga_iadd dX3_sumWith_44 ?_
    obtain ⟨r11, h⟩ := h
    exact ga_iret dX3_sumWith_45 rfl r11 h
  replace h := hob
  obtain ⟨ht, hf⟩ := h
  refine ga_if_eq (tgt := 21) dX3_sumWith_4 (by decide) r1 (fun q3 => ?_) (fun q3 => ?_)
  · replace q3 : (gI σ 67 1) = 0 := q3
    have h := ht q3
    refine ga_iconst dX3_sumWith_21 ?_
    exact kJ2 1 (by decide) (by rw [if_pos q3])
  · replace q3 : ¬ (gI σ 67 1) = 0 := q3
    have h := hf q3
    refine ga_aload_n 1 dX3_sumWith_7 rfl rfl ?_
    refine ga_getR (kI := 13) (r := 53) dX3_sumWith_8 fX3_81 rfl rfl (by decide) rfl ?_
    refine ga_iload_n 2 dX3_sumWith_11 rfl rfl ?_
    refine ga_bipush dX3_sumWith_12 (by decide) ?_
    refine ga_imul dX3_sumWith_14 ?_
    refine ga_iload_n 3 dX3_sumWith_15 rfl rfl ?_
    refine ga_iadd dX3_sumWith_16 ?_
    obtain ⟨i4, h⟩ := h
    refine ga_iald (nI := 36) dX3_sumWith_17 rfl rfl i4 (fun r5 => ?_)
    refine ga_goto (tgt := 22) dX3_sumWith_18 (by decide) ?_
    exact kJ2 (gI σ 53 ((x2 * 6) + x3)) r5 (by rw [if_neg q3])
abbrev eX3_bestFrom (l : Launch) (G : gG) (x2 : Int) (x3 : Int) (σ : gS) (Q : Int → gS → Prop) : Prop := gEi l G mX3_bestFrom [.ref (G.2.1 67), .ref (G.2.1 32), vI x2, vI x3] σ Q
abbrev kX3_bestFrom_18 (l : Launch) (G : gG)  (x2 : Int) (x3 : Int) (x4 : Int) (x5 : Int) (σ : gS) (Q : Int → gS → Prop) : Prop := gAt l G mX3_bestFrom (gQi G Q) 18 [(0, .ref (G.2.1 67)), (1, .ref (G.2.1 32)), (2, vI x2), (3, vI x3), (4, vI x4), (5, vI x5)] [] σ
set_option maxRecDepth 100000 in
set_option maxHeartbeats 4000000 in
theorem vX3_bestFrom {l : Launch} {G : gG} (x2 : Int) (x3 : Int) (rx2 : gR x2) (rx3 : gR x3) (σ : gS) (Q : Int → gS → Prop) (h : (0 ≤ (((x2 + 1) * 64) + x3) ∧ (((x2 + 1) * 64) + x3) < 448) ∧ kX3_bestFrom_18 l G  x2 x3 (gI σ 68 (((x2 + 1) * 64) + x3)) 0 σ Q) : eX3_bestFrom l G x2 x3 σ Q := by
  refine ga_entry rfl (Nat.le_of_ble_eq_true rfl) ?_
  show gAt l G mX3_bestFrom (gQi G Q) 0 [(0, .ref (G.2.1 67)), (1, .ref (G.2.1 32)), (2, vI x2), (3, vI x3)] [] σ
  refine ga_aload_n 0 dX3_bestFrom_0 rfl rfl ?_
  refine ga_getR (kI := 0) (r := 68) dX3_bestFrom_1 fX3_9 rfl rfl (by decide) rfl ?_
  refine ga_iload_n 2 dX3_bestFrom_4 rfl rfl ?_
  refine ga_iconst dX3_bestFrom_5 ?_
  refine ga_iadd dX3_bestFrom_6 ?_
  refine ga_bipush dX3_bestFrom_7 (by decide) ?_
  refine ga_imul dX3_bestFrom_9 ?_
  refine ga_iload_n 3 dX3_bestFrom_10 rfl rfl ?_
  refine ga_iadd dX3_bestFrom_11 ?_
  obtain ⟨i1, h⟩ := h
  refine ga_iald (nI := 448) dX3_bestFrom_12 rfl rfl i1 (fun r2 => ?_)
  refine ga_istore (ls' := [(4, vI (gI σ 68 (((x2 + 1) * 64) + x3))), (0, .ref (G.2.1 67)), (1, .ref (G.2.1 32)), (2, vI x2), (3, vI x3)]) dX3_bestFrom_13 (by decide) rfl ?_
  refine ga_iconst dX3_bestFrom_15 ?_
  refine ga_istore (ls' := [(5, vI 0), (4, vI (gI σ 68 (((x2 + 1) * 64) + x3))), (0, .ref (G.2.1 67)), (1, .ref (G.2.1 32)), (2, vI x2), (3, vI x3)]) dX3_bestFrom_16 (by decide) rfl ?_
  exact ga_sub [2, 3, 4, 5, 1, 0] rfl h
set_option maxRecDepth 100000 in
set_option maxHeartbeats 4000000 in
theorem vX3_bestFrom_18 {l : Launch} {G : gG}  (x2 : Int) (x3 : Int) (x4 : Int) (x5 : Int) (rx2 : gR x2) (rx3 : gR x3) (rx4 : gR x4) (rx5 : gR x5) (σ : gS) (Q : Int → gS → Prop) (h : ((gI σ 32 3) ≤ x5 → Q x4 σ) ∧
  (x5 < (gI σ 32 3) → eX3_mayPair l G x2 x5 x3 σ (fun v7 σ5 => (v7 = 0 ∨ v7 = 1) →
    (v7 = 0 → kX3_bestFrom_18 l G  x2 x3 x4 (x5 + 1) σ5 Q) ∧
    (¬ v7 = 0 → eX3_sumWith l G x2 x5 x3 σ5 (fun v11 σ9 => gR v11 →
      kX3_bestFrom_18 l G  x2 x3 (max x4 v11) (x5 + 1) σ9 Q))))) : kX3_bestFrom_18 l G  x2 x3 x4 x5 σ Q := by
  refine ga_iload 5 dX3_bestFrom_18 rfl ?_
  refine ga_aload_n 1 dX3_bestFrom_20 rfl rfl ?_
  refine ga_getI (kI := 3) dX3_bestFrom_21 fX3_24 rfl rfl rfl (fun r3 => ?_)
  obtain ⟨ht, hf⟩ := h
  refine ga_icmp_ge (tgt := 60) dX3_bestFrom_24 (by decide) rx5 r3 (fun q4 => ?_) (fun q4 => ?_)
  · replace q4 : (gI σ 32 3) ≤ x5 := q4
    have h := ht q4
    refine ga_iload 4 dX3_bestFrom_60 rfl ?_
    exact ga_iret dX3_bestFrom_62 rfl rx4 h
  · replace q4 : x5 < (gI σ 32 3) := (Int.not_le.mp q4)
    have h := hf q4
    refine ga_aload_n 1 dX3_bestFrom_27 rfl rfl ?_
    refine ga_iload_n 2 dX3_bestFrom_28 rfl rfl ?_
    refine ga_iload 5 dX3_bestFrom_29 rfl ?_
    refine ga_iload_n 3 dX3_bestFrom_31 rfl rfl ?_
    refine ga_callSz (z := mX3_mayPair) (As := [.ref (G.2.1 32), vI x2, vI x5, vI x3]) (rest := []) dX3_bestFrom_32 wX3_63 qX3_bestFrom_X3_mayPair rfl rfl (Nat.le_of_ble_eq_true rfl) (gEz_mono h (fun v7 σ5 h r6 => ?_))
    replace h := h r6
    obtain ⟨ht, hf⟩ := h
    refine ga_if_eq (tgt := 54) dX3_bestFrom_35 (by decide) (gR_01 r6) (fun q8 => ?_) (fun q8 => ?_)
    · replace q8 : v7 = 0 := q8
      have h := ht q8
      refine ga_iinc (ls' := [(5, vI (x5 + 1)), (0, .ref (G.2.1 67)), (1, .ref (G.2.1 32)), (2, vI x2), (3, vI x3), (4, vI x4)]) 5 dX3_bestFrom_54 rfl (by decide) rfl ?_
      refine ga_goto (tgt := 18) dX3_bestFrom_57 (by decide) ?_
      exact ga_sub [1, 2, 3, 4, 5, 0] rfl h
    · replace q8 : ¬ v7 = 0 := q8
      have h := hf q8
      refine ga_iload 4 dX3_bestFrom_38 rfl ?_
      refine ga_aload_n 0 dX3_bestFrom_40 rfl rfl ?_
      refine ga_aload_n 1 dX3_bestFrom_41 rfl rfl ?_
      refine ga_iload_n 2 dX3_bestFrom_42 rfl rfl ?_
      refine ga_iload 5 dX3_bestFrom_43 rfl ?_
      refine ga_iload_n 3 dX3_bestFrom_45 rfl rfl ?_
      refine ga_callVi (z := mX3_sumWith) (As := [.ref (G.2.1 32), vI x2, vI x5, vI x3]) (rest := [vI x4]) dX3_bestFrom_46 wX3_67 qX3_bestFrom_X3_sumWith rfl ⟨_, rfl, rfl⟩ rfl rfl (Nat.le_of_ble_eq_true rfl) (gEi_mono h (fun v11 σ9 h r10 => ?_))
      replace h := h r10
      refine ga_max dX3_bestFrom_49 wX3_71 (by decide) (Nat.le_of_ble_eq_true rfl) rx4 r10 ?_
      refine ga_istore (ls' := [(4, vI (max x4 v11)), (0, .ref (G.2.1 67)), (1, .ref (G.2.1 32)), (2, vI x2), (3, vI x3), (5, vI x5)]) dX3_bestFrom_52 (by decide) rfl ?_
      refine ga_iinc (ls' := [(5, vI (x5 + 1)), (4, vI (max x4 v11)), (0, .ref (G.2.1 67)), (1, .ref (G.2.1 32)), (2, vI x2), (3, vI x3)]) 5 dX3_bestFrom_54 rfl (by decide) rfl ?_
      refine ga_goto (tgt := 18) dX3_bestFrom_57 (by decide) ?_
      exact ga_sub [2, 3, 4, 5, 1, 0] rfl h
abbrev eX3_bestOf (l : Launch) (G : gG) (x2 : Int) (σ : gS) (Q : Int → gS → Prop) : Prop := gEi l G mX3_bestOf [.ref (G.2.1 67), .ref (G.2.1 32), vI x2] σ Q
abbrev kX3_bestOf_15 (l : Launch) (G : gG)  (x2 : Int) (x3 : Int) (x4 : Int) (σ : gS) (Q : Int → gS → Prop) : Prop := gAt l G mX3_bestOf (gQi G Q) 15 [(0, .ref (G.2.1 67)), (1, .ref (G.2.1 32)), (2, vI x2), (3, vI x3), (4, vI x4)] [] σ
abbrev kX3_bestOf_51 (l : Launch) (G : gG)  (x2 : Int) (x3 : Int) (x4 : Int) (σ : gS) (Q : Int → gS → Prop) : Prop := gAt l G mX3_bestOf (gQi G Q) 51 [(0, .ref (G.2.1 67)), (1, .ref (G.2.1 32)), (2, vI x2), (3, vI x3), (4, vI x4)] [] σ
abbrev kX3_bestOf_59 (l : Launch) (G : gG)  (x2 : Int) (x3 : Int) (x4 : Int) (x5 : Int) (σ : gS) (Q : Int → gS → Prop) : Prop := gAt l G mX3_bestOf (gQi G Q) 59 [(0, .ref (G.2.1 67)), (1, .ref (G.2.1 32)), (2, vI x2), (3, vI x3), (4, vI x4), (5, vI x5)] [] σ
set_option maxRecDepth 100000 in
set_option maxHeartbeats 4000000 in
theorem vX3_bestOf {l : Launch} {G : gG} (x2 : Int) (rx2 : gR x2) (σ : gS) (Q : Int → gS → Prop) (h : (x2 = 0 ∨ x2 = 1) ∧ ∀ σ1, σ1 = sI σ 67 1 x2 →
  kX3_bestOf_15 l G  x2 (gshl 1 (gI σ1 32 3)) 0 σ1 Q) : eX3_bestOf l G x2 σ Q := by
  refine ga_entry rfl (Nat.le_of_ble_eq_true rfl) ?_
  show gAt l G mX3_bestOf (gQi G Q) 0 [(0, .ref (G.2.1 67)), (1, .ref (G.2.1 32)), (2, vI x2)] [] σ
  refine ga_aload_n 0 dX3_bestOf_0 rfl rfl ?_
  refine ga_iload_n 2 dX3_bestOf_1 rfl rfl ?_
  obtain ⟨o2, h⟩ := h
  obtain ⟨σ1, eσ1⟩ : ∃ z, z = sI σ 67 1 x2 := ⟨_, rfl⟩
  replace h := h σ1 eσ1
  refine ga_putZ (kI := 1) dX3_bestOf_2 fX3_55 pX3_1 rfl rfl rfl o2 eσ1 ?_
  refine ga_iconst dX3_bestOf_5 ?_
  refine ga_aload_n 1 dX3_bestOf_6 rfl rfl ?_
  refine ga_getI (kI := 3) dX3_bestOf_7 fX3_24 rfl rfl rfl (fun r3 => ?_)
  refine ga_ishl dX3_bestOf_10 (fun r4 => ?_)
  refine ga_istore_n (ls' := [(3, vI (gshl 1 (gI σ1 32 3))), (0, .ref (G.2.1 67)), (1, .ref (G.2.1 32)), (2, vI x2)]) dX3_bestOf_11 rfl (by decide) rfl ?_
  refine ga_iconst dX3_bestOf_12 ?_
  refine ga_istore (ls' := [(4, vI 0), (3, vI (gshl 1 (gI σ1 32 3))), (0, .ref (G.2.1 67)), (1, .ref (G.2.1 32)), (2, vI x2)]) dX3_bestOf_13 (by decide) rfl ?_
  exact ga_sub [2, 3, 4, 1, 0] rfl h
set_option maxRecDepth 100000 in
set_option maxHeartbeats 4000000 in
theorem vX3_bestOf_15 {l : Launch} {G : gG}  (x2 : Int) (x3 : Int) (x4 : Int) (rx2 : gR x2) (rx3 : gR x3) (rx4 : gR x4) (σ : gS) (Q : Int → gS → Prop) (h : (x3 ≤ x4 → kX3_bestOf_51 l G  x2 x3 ((gI σ 32 3) - 1) σ Q) ∧
  (x4 < x3 → (0 ≤ (((gI σ 32 3) * 64) + x4) ∧ (((gI σ 32 3) * 64) + x4) < 448) ∧ ∀ σ9, σ9 = sI σ 68 (((gI σ 32 3) * 64) + x4) 0 →
    kX3_bestOf_15 l G  x2 x3 (x4 + 1) σ9 Q)) : kX3_bestOf_15 l G  x2 x3 x4 σ Q := by
  refine ga_iload 4 dX3_bestOf_15 rfl ?_
  refine ga_iload_n 3 dX3_bestOf_17 rfl rfl ?_
  obtain ⟨ht, hf⟩ := h
  refine ga_icmp_ge (tgt := 43) dX3_bestOf_18 (by decide) rx4 rx3 (fun q5 => ?_) (fun q5 => ?_)
  · replace q5 : x3 ≤ x4 := q5
    have h := ht q5
    refine ga_aload_n 1 dX3_bestOf_43 rfl rfl ?_
    refine ga_getI (kI := 3) dX3_bestOf_44 fX3_24 rfl rfl rfl (fun r6 => ?_)
    refine ga_iconst dX3_bestOf_47 ?_
    refine ga_isub dX3_bestOf_48 ?_
    refine ga_istore (ls' := [(4, vI ((gI σ 32 3) - 1)), (0, .ref (G.2.1 67)), (1, .ref (G.2.1 32)), (2, vI x2), (3, vI x3)]) dX3_bestOf_49 (by decide) rfl ?_
    exact ga_sub [1, 2, 3, 4, 0] rfl h
  · replace q5 : x4 < x3 := (Int.not_le.mp q5)
    have h := hf q5
    refine ga_aload_n 0 dX3_bestOf_21 rfl rfl ?_
    refine ga_getR (kI := 0) (r := 68) dX3_bestOf_22 fX3_9 rfl rfl (by decide) rfl ?_
    refine ga_aload_n 1 dX3_bestOf_25 rfl rfl ?_
    refine ga_getI (kI := 3) dX3_bestOf_26 fX3_24 rfl rfl rfl (fun r7 => ?_)
    refine ga_bipush dX3_bestOf_29 (by decide) ?_
    refine ga_imul dX3_bestOf_31 ?_
    refine ga_iload 4 dX3_bestOf_32 rfl ?_
    refine ga_iadd dX3_bestOf_34 ?_
    refine ga_iconst dX3_bestOf_35 ?_
    obtain ⟨i8, h⟩ := h
    obtain ⟨σ9, eσ9⟩ : ∃ z, z = sI σ 68 (((gI σ 32 3) * 64) + x4) 0 := ⟨_, rfl⟩
    replace h := h σ9 eσ9
    refine ga_iast (nI := 448) dX3_bestOf_36 rfl rfl i8 (by decide) eσ9 ?_
    refine ga_iinc (ls' := [(4, vI (x4 + 1)), (0, .ref (G.2.1 67)), (1, .ref (G.2.1 32)), (2, vI x2), (3, vI x3)]) 4 dX3_bestOf_37 rfl (by decide) rfl ?_
    refine ga_goto (tgt := 15) dX3_bestOf_40 (by decide) ?_
    exact ga_sub [1, 2, 3, 4, 0] rfl h
set_option maxRecDepth 100000 in
set_option maxHeartbeats 4000000 in
theorem vX3_bestOf_51 {l : Launch} {G : gG}  (x2 : Int) (x3 : Int) (x4 : Int) (rx2 : gR x2) (rx3 : gR x3) (rx4 : gR x4) (σ : gS) (Q : Int → gS → Prop) (h : (x4 < 0 → Q (gI σ 68 0) σ) ∧
  (0 ≤ x4 → kX3_bestOf_59 l G  x2 x3 x4 0 σ Q)) : kX3_bestOf_51 l G  x2 x3 x4 σ Q := by
  refine ga_iload 4 dX3_bestOf_51 rfl ?_
  obtain ⟨ht, hf⟩ := h
  refine ga_if_lt (tgt := 99) dX3_bestOf_53 (by decide) rx4 (fun q10 => ?_) (fun q10 => ?_)
  · replace q10 : x4 < 0 := q10
    have h := ht q10
    refine ga_aload_n 0 dX3_bestOf_99 rfl rfl ?_
    refine ga_getR (kI := 0) (r := 68) dX3_bestOf_100 fX3_9 rfl rfl (by decide) rfl ?_
    refine ga_iconst dX3_bestOf_103 ?_
    refine ga_iald (nI := 448) dX3_bestOf_104 rfl rfl (by decide) (fun r11 => ?_)
    exact ga_iret dX3_bestOf_105 rfl r11 h
  · replace q10 : 0 ≤ x4 := (Int.not_lt.mp q10)
    have h := hf q10
    refine ga_iconst dX3_bestOf_56 ?_
    refine ga_istore (ls' := [(5, vI 0), (0, .ref (G.2.1 67)), (1, .ref (G.2.1 32)), (2, vI x2), (3, vI x3), (4, vI x4)]) dX3_bestOf_57 (by decide) rfl ?_
    exact ga_sub [1, 2, 3, 4, 5, 0] rfl h
set_option maxRecDepth 100000 in
set_option maxHeartbeats 4000000 in
theorem vX3_bestOf_59 {l : Launch} {G : gG}  (x2 : Int) (x3 : Int) (x4 : Int) (x5 : Int) (rx2 : gR x2) (rx3 : gR x3) (rx4 : gR x4) (rx5 : gR x5) (σ : gS) (Q : Int → gS → Prop) (h : (x3 ≤ x5 → kX3_bestOf_51 l G  x2 x3 (x4 + (-1)) σ Q) ∧
  (x5 < x3 → eX3_bestFrom l G x4 x5 σ (fun v15 σ13 => gR v15 →
    (0 ≤ ((x4 * 64) + x5) ∧ ((x4 * 64) + x5) < 448) ∧ ∀ σ17, σ17 = sI σ13 68 ((x4 * 64) + x5) v15 →
    kX3_bestOf_59 l G  x2 x3 x4 (x5 + 1) σ17 Q))) : kX3_bestOf_59 l G  x2 x3 x4 x5 σ Q := by
  refine ga_iload 5 dX3_bestOf_59 rfl ?_
  refine ga_iload_n 3 dX3_bestOf_61 rfl rfl ?_
  obtain ⟨ht, hf⟩ := h
  refine ga_icmp_ge (tgt := 93) dX3_bestOf_62 (by decide) rx5 rx3 (fun q12 => ?_) (fun q12 => ?_)
  · replace q12 : x3 ≤ x5 := q12
    have h := ht q12
    refine ga_iinc (ls' := [(4, vI (x4 + (-1))), (0, .ref (G.2.1 67)), (1, .ref (G.2.1 32)), (2, vI x2), (3, vI x3), (5, vI x5)]) 4 dX3_bestOf_93 rfl (by decide) rfl ?_
    refine ga_goto (tgt := 51) dX3_bestOf_96 (by decide) ?_
    exact ga_sub [1, 2, 3, 4, 0] rfl h
  · replace q12 : x5 < x3 := (Int.not_le.mp q12)
    have h := hf q12
    refine ga_aload_n 0 dX3_bestOf_65 rfl rfl ?_
    refine ga_getR (kI := 0) (r := 68) dX3_bestOf_66 fX3_9 rfl rfl (by decide) rfl ?_
    refine ga_iload 4 dX3_bestOf_69 rfl ?_
    refine ga_bipush dX3_bestOf_71 (by decide) ?_
    refine ga_imul dX3_bestOf_73 ?_
    refine ga_iload 5 dX3_bestOf_74 rfl ?_
    refine ga_iadd dX3_bestOf_76 ?_
    refine ga_aload_n 0 dX3_bestOf_77 rfl rfl ?_
    refine ga_aload_n 1 dX3_bestOf_78 rfl rfl ?_
    refine ga_iload 4 dX3_bestOf_79 rfl ?_
    refine ga_iload 5 dX3_bestOf_81 rfl ?_
    refine ga_callVi (z := mX3_bestFrom) (As := [.ref (G.2.1 32), vI x4, vI x5]) (rest := [vI ((x4 * 64) + x5), .ref (G.2.1 68)]) dX3_bestOf_83 wX3_59 qX3_bestOf_X3_bestFrom rfl ⟨_, rfl, rfl⟩ rfl rfl (Nat.le_of_ble_eq_true rfl) (gEi_mono h (fun v15 σ13 h r14 => ?_))
    replace h := h r14
    obtain ⟨i16, h⟩ := h
    obtain ⟨σ17, eσ17⟩ : ∃ z, z = sI σ13 68 ((x4 * 64) + x5) v15 := ⟨_, rfl⟩
    replace h := h σ17 eσ17
    refine ga_iast (nI := 448) dX3_bestOf_86 rfl rfl i16 r14 eσ17 ?_
    refine ga_iinc (ls' := [(5, vI (x5 + 1)), (0, .ref (G.2.1 67)), (1, .ref (G.2.1 32)), (2, vI x2), (3, vI x3), (4, vI x4)]) 5 dX3_bestOf_87 rfl (by decide) rfl ?_
    refine ga_goto (tgt := 59) dX3_bestOf_90 (by decide) ?_
    exact ga_sub [1, 2, 3, 4, 5, 0] rfl h
abbrev eX8_matchNow (l : Launch) (G : gG)  (σ : gS) (Q : gS → Prop) : Prop := gEv l G mX8_matchNow [.ref (G.2.1 32)] σ Q
set_option maxRecDepth 100000 in
set_option maxHeartbeats 4000000 in
theorem vX8_matchNow {l : Launch} {G : gG}  (σ : gS) (Q : gS → Prop) (h : eX4_free l G 45 σ (fun σ1 =>
  eX4_passRounds l G 45 (gI σ1 32 4) σ1 (fun σ4 =>
  Q σ4))) : eX8_matchNow l G  σ Q := by
  refine ga_entry rfl (Nat.le_of_ble_eq_true rfl) ?_
  show gAt l G mX8_matchNow (gQv G Q) 0 [(0, .ref (G.2.1 32))] [] σ
  refine ga_aload_n 0 dX8_matchNow_0 rfl rfl ?_
  refine ga_getR (kI := 2) (r := 45) dX8_matchNow_1 fX8_28 rfl rfl (by decide) rfl ?_
  refine ga_callVv (z := mX4_free) (As := []) (rest := []) dX8_matchNow_4 wX8_141 qX8_matchNow_X4_free rfl ⟨_, rfl, rfl⟩ rfl rfl (Nat.le_of_ble_eq_true rfl) (gEv_mono h (fun σ1 h => ?_))
  refine ga_aload_n 0 dX8_matchNow_7 rfl rfl ?_
  refine ga_getR (kI := 2) (r := 45) dX8_matchNow_8 fX8_28 rfl rfl (by decide) rfl ?_
  refine ga_aload_n 0 dX8_matchNow_11 rfl rfl ?_
  refine ga_getI (kI := 4) dX8_matchNow_12 fX8_72 rfl rfl rfl (fun r3 => ?_)
  refine ga_callVv (z := mX4_passRounds) (As := [vI (gI σ1 32 4)]) (rest := []) dX8_matchNow_15 wX8_152 qX8_matchNow_X4_passRounds rfl ⟨_, rfl, rfl⟩ rfl rfl (Nat.le_of_ble_eq_true rfl) (gEv_mono h (fun σ4 h => ?_))
  exact ga_vret dX8_matchNow_18 rfl h
abbrev eX3_cellsOfMatched (l : Launch) (G : gG)  (σ : gS) (Q : Int → gS → Prop) : Prop := gEi l G mX3_cellsOfMatched [.ref (G.2.1 32)] σ Q
abbrev kX3_cellsOfMatched_4 (l : Launch) (G : gG)  (x1 : Int) (x2 : Int) (σ : gS) (Q : Int → gS → Prop) : Prop := gAt l G mX3_cellsOfMatched (gQi G Q) 4 [(0, .ref (G.2.1 32)), (1, vI x1), (2, vI x2)] [] σ
set_option maxRecDepth 100000 in
set_option maxHeartbeats 4000000 in
theorem vX3_cellsOfMatched {l : Launch} {G : gG}  (σ : gS) (Q : Int → gS → Prop) (h : kX3_cellsOfMatched_4 l G  0 0 σ Q) : eX3_cellsOfMatched l G  σ Q := by
  refine ga_entry rfl (Nat.le_of_ble_eq_true rfl) ?_
  show gAt l G mX3_cellsOfMatched (gQi G Q) 0 [(0, .ref (G.2.1 32))] [] σ
  refine ga_iconst dX3_cellsOfMatched_0 ?_
  refine ga_istore_n (ls' := [(1, vI 0), (0, .ref (G.2.1 32))]) dX3_cellsOfMatched_1 rfl (by decide) rfl ?_
  refine ga_iconst dX3_cellsOfMatched_2 ?_
  refine ga_istore_n (ls' := [(2, vI 0), (1, vI 0), (0, .ref (G.2.1 32))]) dX3_cellsOfMatched_3 rfl (by decide) rfl ?_
  exact ga_sub [2, 1, 0] rfl h
set_option maxRecDepth 100000 in
set_option maxHeartbeats 4000000 in
theorem vX3_cellsOfMatched_4 {l : Launch} {G : gG}  (x1 : Int) (x2 : Int) (rx1 : gR x1) (rx2 : gR x2) (σ : gS) (Q : Int → gS → Prop) (h : ((gI σ 32 3) ≤ x2 → Q x1 σ) ∧
  (x2 < (gI σ 32 3) → (0 ≤ x2 ∧ x2 < 6) ∧ ((gI σ 49 x2) = (-1) → kX3_cellsOfMatched_4 l G  x1 (x2 + 1) σ Q) ∧
    (¬ (gI σ 49 x2) = (-1) → (0 ≤ (((gI σ 49 x2) * 6) + x2) ∧ (((gI σ 49 x2) * 6) + x2) < 36) ∧ kX3_cellsOfMatched_4 l G  (x1 + (gI σ 53 (((gI σ 49 x2) * 6) + x2))) (x2 + 1) σ Q))) : kX3_cellsOfMatched_4 l G  x1 x2 σ Q := by
  refine ga_iload_n 2 dX3_cellsOfMatched_4 rfl rfl ?_
  refine ga_aload_n 0 dX3_cellsOfMatched_5 rfl rfl ?_
  refine ga_getI (kI := 3) dX3_cellsOfMatched_6 fX3_24 rfl rfl rfl (fun r1 => ?_)
  obtain ⟨ht, hf⟩ := h
  refine ga_icmp_ge (tgt := 47) dX3_cellsOfMatched_9 (by decide) rx2 r1 (fun q2 => ?_) (fun q2 => ?_)
  · replace q2 : (gI σ 32 3) ≤ x2 := q2
    have h := ht q2
    refine ga_iload_n 1 dX3_cellsOfMatched_47 rfl rfl ?_
    exact ga_iret dX3_cellsOfMatched_48 rfl rx1 h
  · replace q2 : x2 < (gI σ 32 3) := (Int.not_le.mp q2)
    have h := hf q2
    refine ga_aload_n 0 dX3_cellsOfMatched_12 rfl rfl ?_
    refine ga_getR (kI := 2) (r := 45) dX3_cellsOfMatched_13 fX3_28 rfl rfl (by decide) rfl ?_
    refine ga_getR (kI := 4) (r := 49) dX3_cellsOfMatched_16 fX3_84 rfl rfl (by decide) rfl ?_
    refine ga_iload_n 2 dX3_cellsOfMatched_19 rfl rfl ?_
    obtain ⟨i3, h⟩ := h
    refine ga_iald (nI := 6) dX3_cellsOfMatched_20 rfl rfl i3 (fun r4 => ?_)
    refine ga_istore_n (ls' := [(3, vI (gI σ 49 x2)), (0, .ref (G.2.1 32)), (1, vI x1), (2, vI x2)]) dX3_cellsOfMatched_21 rfl (by decide) rfl ?_
    refine ga_iload_n 0 dX3_cellsOfMatched_22 rfl rfl ?_
    refine ga_iconst dX3_cellsOfMatched_23 ?_
    obtain ⟨ht, hf⟩ := h
    refine ga_icmp_eq (tgt := 41) dX3_cellsOfMatched_24 (by decide) r4 (by decide) (fun q5 => ?_) (fun q5 => ?_)
    · replace q5 : (gI σ 49 x2) = (-1) := q5
      have h := ht q5
      refine ga_iinc (ls' := [(2, vI (x2 + 1)), (3, vI (gI σ 49 x2)), (0, .ref (G.2.1 32)), (1, vI x1)]) 3 dX3_cellsOfMatched_41 rfl (by decide) rfl ?_
      refine ga_goto (tgt := 4) dX3_cellsOfMatched_44 (by decide) ?_
      exact ga_sub [2, 3, 0] rfl h
    · replace q5 : ¬ (gI σ 49 x2) = (-1) := q5
      have h := hf q5
      refine ga_iload_n 2 dX3_cellsOfMatched_27 rfl rfl ?_
      refine ga_aload_n 1 dX3_cellsOfMatched_28 rfl rfl ?_
      refine ga_getR (kI := 13) (r := 53) dX3_cellsOfMatched_29 fX3_81 rfl rfl (by decide) rfl ?_
      refine ga_iload_n 0 dX3_cellsOfMatched_32 rfl rfl ?_
      refine ga_bipush dX3_cellsOfMatched_33 (by decide) ?_
      refine ga_imul dX3_cellsOfMatched_35 ?_
      refine ga_iload_n 3 dX3_cellsOfMatched_36 rfl rfl ?_
      refine ga_iadd dX3_cellsOfMatched_37 ?_
      obtain ⟨i6, h⟩ := h
      refine ga_iald (nI := 36) dX3_cellsOfMatched_38 rfl rfl i6 (fun r7 => ?_)
      refine ga_iadd dX3_cellsOfMatched_39 ?_
      refine ga_istore_n (ls' := [(1, vI (x1 + (gI σ 53 (((gI σ 49 x2) * 6) + x2)))), (3, vI (gI σ 49 x2)), (0, .ref (G.2.1 32)), (2, vI x2)]) dX3_cellsOfMatched_40 rfl (by decide) rfl ?_
      refine ga_iinc (ls' := [(2, vI (x2 + 1)), (1, vI (x1 + (gI σ 53 (((gI σ 49 x2) * 6) + x2)))), (3, vI (gI σ 49 x2)), (0, .ref (G.2.1 32))]) 3 dX3_cellsOfMatched_41 rfl (by decide) rfl ?_
      refine ga_goto (tgt := 4) dX3_cellsOfMatched_44 (by decide) ?_
      exact ga_sub [3, 1, 0] rfl h
abbrev eX4_couldMatchMore (l : Launch) (G : gG) (b : Nat) (σ : gS) (Q : Int → gS → Prop) : Prop := gEz l G mX4_couldMatchMore [.ref (G.2.1 b)] σ Q
abbrev kX4_couldMatchMore_2 (l : Launch) (G : gG) (b : Nat) (x1 : Int) (σ : gS) (Q : Int → gS → Prop) : Prop := gAt l G mX4_couldMatchMore (gQz G Q) 2 [(0, .ref (G.2.1 b)), (1, vI x1)] [] σ
set_option maxRecDepth 100000 in
set_option maxHeartbeats 4000000 in
theorem vX4_couldMatchMore {l : Launch} {G : gG} (b : Nat) (hb : b = 45 ∨ b = 59) (σ : gS) (Q : Int → gS → Prop) (h : kX4_couldMatchMore_2 l G b 0 σ Q) : eX4_couldMatchMore l G b σ Q := by
  have hsb0 : gshL[b]? = some (.inr (4, [none, some (b + 1), some (b + 2), some (b + 3), some (b + 4), none, none, some (b + 5)])) := by rcases hb with rfl | rfl <;> rfl
  have hsb1 : gshL[b + 1]? = some (.inl (6, .int)) := by rcases hb with rfl | rfl <;> rfl
  have h9b1 : b + 1 ≠ 9999 := by omega
  have hsb2 : gshL[b + 2]? = some (.inl (6, .int)) := by rcases hb with rfl | rfl <;> rfl
  have h9b2 : b + 2 ≠ 9999 := by omega
  have hsb3 : gshL[b + 3]? = some (.inl (6, .int)) := by rcases hb with rfl | rfl <;> rfl
  have h9b3 : b + 3 ≠ 9999 := by omega
  have hsb4 : gshL[b + 4]? = some (.inl (6, .int)) := by rcases hb with rfl | rfl <;> rfl
  have h9b4 : b + 4 ≠ 9999 := by omega
  have hsb5 : gshL[b + 5]? = some (.inl (6, .int)) := by rcases hb with rfl | rfl <;> rfl
  have h9b5 : b + 5 ≠ 9999 := by omega
  refine ga_entry rfl (Nat.le_of_ble_eq_true rfl) ?_
  show gAt l G mX4_couldMatchMore (gQz G Q) 0 [(0, .ref (G.2.1 b))] [] σ
  refine ga_iconst dX4_couldMatchMore_0 ?_
  refine ga_istore_n (ls' := [(1, vI 0), (0, .ref (G.2.1 b))]) dX4_couldMatchMore_1 rfl (by decide) rfl ?_
  exact ga_sub [1, 0] rfl h
set_option maxRecDepth 100000 in
set_option maxHeartbeats 4000000 in
theorem vX4_couldMatchMore_2 {l : Launch} {G : gG} (b : Nat) (x1 : Int) (hb : b = 45 ∨ b = 59) (rx1 : gR x1) (σ : gS) (Q : Int → gS → Prop) (h : ((gI σ b 0) ≤ x1 → Q 0 σ) ∧
  (x1 < (gI σ b 0) → eX11_holds l G (gI σ b 6) x1 σ (fun v6 σ4 => (v6 = 0 ∨ v6 = 1) →
    (v6 = 0 → kX4_couldMatchMore_2 l G b (x1 + 1) σ4 Q) ∧
    (¬ v6 = 0 → (0 ≤ x1 ∧ x1 < 6) ∧ ((gand (gI σ4 (b + 3) x1) (gI σ4 b 5)) = 0 → kX4_couldMatchMore_2 l G b (x1 + 1) σ4 Q) ∧
      (¬ (gand (gI σ4 (b + 3) x1) (gI σ4 b 5)) = 0 → Q 1 σ4))))) : kX4_couldMatchMore_2 l G b x1 σ Q := by
  have hsb0 : gshL[b]? = some (.inr (4, [none, some (b + 1), some (b + 2), some (b + 3), some (b + 4), none, none, some (b + 5)])) := by rcases hb with rfl | rfl <;> rfl
  have hsb1 : gshL[b + 1]? = some (.inl (6, .int)) := by rcases hb with rfl | rfl <;> rfl
  have h9b1 : b + 1 ≠ 9999 := by omega
  have hsb2 : gshL[b + 2]? = some (.inl (6, .int)) := by rcases hb with rfl | rfl <;> rfl
  have h9b2 : b + 2 ≠ 9999 := by omega
  have hsb3 : gshL[b + 3]? = some (.inl (6, .int)) := by rcases hb with rfl | rfl <;> rfl
  have h9b3 : b + 3 ≠ 9999 := by omega
  have hsb4 : gshL[b + 4]? = some (.inl (6, .int)) := by rcases hb with rfl | rfl <;> rfl
  have h9b4 : b + 4 ≠ 9999 := by omega
  have hsb5 : gshL[b + 5]? = some (.inl (6, .int)) := by rcases hb with rfl | rfl <;> rfl
  have h9b5 : b + 5 ≠ 9999 := by omega
  refine ga_iload_n 1 dX4_couldMatchMore_2 rfl rfl ?_
  refine ga_aload_n 0 dX4_couldMatchMore_3 rfl rfl ?_
  refine ga_getI (kI := 0) dX4_couldMatchMore_4 fX4_9 hsb0 rfl rfl (fun r1 => ?_)
  obtain ⟨ht, hf⟩ := h
  refine ga_icmp_ge (tgt := 43) dX4_couldMatchMore_7 (by decide) rx1 r1 (fun q2 => ?_) (fun q2 => ?_)
  · replace q2 : (gI σ b 0) ≤ x1 := q2
    have h := ht q2
    refine ga_iconst dX4_couldMatchMore_43 ?_
    exact ga_bret dX4_couldMatchMore_44 rfl (Or.inl rfl) h
  · replace q2 : x1 < (gI σ b 0) := (Int.not_le.mp q2)
    have h := hf q2
    refine ga_aload_n 0 dX4_couldMatchMore_10 rfl rfl ?_
    refine ga_getI (kI := 6) dX4_couldMatchMore_11 fX4_46 hsb0 rfl rfl (fun r3 => ?_)
    refine ga_iload_n 1 dX4_couldMatchMore_14 rfl rfl ?_
    refine ga_callNz (z := mX11_holds) (As := [vI (gI σ b 6), vI x1]) (rest := []) dX4_couldMatchMore_15 wX4_49 qX4_couldMatchMore_X11_holds rfl rfl (Nat.le_of_ble_eq_true rfl) (gEz_mono h (fun v6 σ4 h r5 => ?_))
    replace h := h r5
    obtain ⟨ht, hf⟩ := h
    refine ga_if_eq (tgt := 37) dX4_couldMatchMore_18 (by decide) (gR_01 r5) (fun q7 => ?_) (fun q7 => ?_)
    · replace q7 : v6 = 0 := q7
      have h := ht q7
      refine ga_iinc (ls' := [(1, vI (x1 + 1)), (0, .ref (G.2.1 b))]) 1 dX4_couldMatchMore_37 rfl (by decide) rfl ?_
      refine ga_goto (tgt := 2) dX4_couldMatchMore_40 (by decide) ?_
      exact ga_sub [1, 0] rfl h
    · replace q7 : ¬ v6 = 0 := q7
      have h := hf q7
      refine ga_aload_n 0 dX4_couldMatchMore_21 rfl rfl ?_
      refine ga_getR (kI := 3) (r := (b + 3)) dX4_couldMatchMore_22 fX4_22 hsb0 rfl h9b3 rfl ?_
      refine ga_iload_n 1 dX4_couldMatchMore_25 rfl rfl ?_
      obtain ⟨i8, h⟩ := h
      refine ga_iald (nI := 6) dX4_couldMatchMore_26 hsb3 rfl i8 (fun r9 => ?_)
      refine ga_aload_n 0 dX4_couldMatchMore_27 rfl rfl ?_
      refine ga_getI (kI := 5) dX4_couldMatchMore_28 fX4_43 hsb0 rfl rfl (fun r10 => ?_)
      refine ga_iand dX4_couldMatchMore_31 (fun r11 => ?_)
      obtain ⟨ht, hf⟩ := h
      refine ga_if_eq (tgt := 37) dX4_couldMatchMore_32 (by decide) r11 (fun q12 => ?_) (fun q12 => ?_)
      · replace q12 : (gand (gI σ4 (b + 3) x1) (gI σ4 b 5)) = 0 := q12
        have h := ht q12
        refine ga_iinc (ls' := [(1, vI (x1 + 1)), (0, .ref (G.2.1 b))]) 1 dX4_couldMatchMore_37 rfl (by decide) rfl ?_
        refine ga_goto (tgt := 2) dX4_couldMatchMore_40 (by decide) ?_
        exact ga_sub [1, 0] rfl h
      · replace q12 : ¬ (gand (gI σ4 (b + 3) x1) (gI σ4 b 5)) = 0 := q12
        have h := hf q12
        refine ga_iconst dX4_couldMatchMore_35 ?_
        exact ga_bret dX4_couldMatchMore_36 rfl (Or.inr rfl) h
abbrev eX3_roundsNeeded (l : Launch) (G : gG)  (σ : gS) (Q : Int → gS → Prop) : Prop := gEi l G mX3_roundsNeeded [.ref (G.2.1 45)] σ Q
abbrev kX3_roundsNeeded_10 (l : Launch) (G : gG)  (x1 : Int) (x2 : Int) (x3 : Int) (σ : gS) (Q : Int → gS → Prop) : Prop := gAt l G mX3_roundsNeeded (gQi G Q) 10 [(0, .ref (G.2.1 45)), (1, vI x1), (2, vI x2), (3, vI x3)] [] σ
set_option maxRecDepth 100000 in
set_option maxHeartbeats 4000000 in
theorem vX3_roundsNeeded {l : Launch} {G : gG}  (σ : gS) (Q : Int → gS → Prop) (h : eX4_free l G 45 σ (fun σ1 =>
  kX3_roundsNeeded_10 l G  0 1 0 σ1 Q)) : eX3_roundsNeeded l G  σ Q := by
  refine ga_entry rfl (Nat.le_of_ble_eq_true rfl) ?_
  show gAt l G mX3_roundsNeeded (gQi G Q) 0 [(0, .ref (G.2.1 45))] [] σ
  refine ga_aload_n 0 dX3_roundsNeeded_0 rfl rfl ?_
  refine ga_callVv (z := mX4_free) (As := []) (rest := []) dX3_roundsNeeded_1 wX3_87 qX3_roundsNeeded_X4_free rfl ⟨_, rfl, rfl⟩ rfl rfl (Nat.le_of_ble_eq_true rfl) (gEv_mono h (fun σ1 h => ?_))
  refine ga_iconst dX3_roundsNeeded_4 ?_
  refine ga_istore_n (ls' := [(1, vI 0), (0, .ref (G.2.1 45))]) dX3_roundsNeeded_5 rfl (by decide) rfl ?_
  refine ga_iconst dX3_roundsNeeded_6 ?_
  refine ga_istore_n (ls' := [(2, vI 1), (1, vI 0), (0, .ref (G.2.1 45))]) dX3_roundsNeeded_7 rfl (by decide) rfl ?_
  refine ga_iconst dX3_roundsNeeded_8 ?_
  refine ga_istore_n (ls' := [(3, vI 0), (2, vI 1), (1, vI 0), (0, .ref (G.2.1 45))]) dX3_roundsNeeded_9 rfl (by decide) rfl ?_
  exact ga_sub [3, 2, 1, 0] rfl h
set_option maxRecDepth 100000 in
set_option maxHeartbeats 4000000 in
theorem vX3_roundsNeeded_10 {l : Launch} {G : gG}  (x1 : Int) (x2 : Int) (x3 : Int) (rx1 : gR x1) (rx2 : gR x2) (rx3 : gR x3) (σ : gS) (Q : Int → gS → Prop) (h : (6 ≤ x3 → Q x1 σ) ∧
  (x3 < 6 → (x2 = 0 → Q x1 σ) ∧
    (¬ x2 = 0 → (∀ v7 : Int, v7 = (if x3 = 0 then 1 else 0) →
      eX4_passRound l G 45 v7 σ (fun v10 σ8 => gR v10 →
        eX4_couldMatchMore l G 45 σ8 (fun v13 σ11 => (v13 = 0 ∨ v13 = 1) →
        kX3_roundsNeeded_10 l G  (x1 + 1) v13 (x3 + 1) σ11 Q)))))) : kX3_roundsNeeded_10 l G  x1 x2 x3 σ Q := by
  refine ga_iload_n 3 dX3_roundsNeeded_10 rfl rfl ?_
  refine ga_bipush dX3_roundsNeeded_11 (by decide) ?_
  obtain ⟨ht, hf⟩ := h
  refine ga_icmp_ge (tgt := 48) dX3_roundsNeeded_13 (by decide) rx3 (by decide) (fun q3 => ?_) (fun q3 => ?_)
  · replace q3 : 6 ≤ x3 := q3
    have h := ht q3
    refine ga_iload_n 1 dX3_roundsNeeded_48 rfl rfl ?_
    exact ga_iret dX3_roundsNeeded_49 rfl rx1 h
  · replace q3 : x3 < 6 := (Int.not_le.mp q3)
    have h := hf q3
    refine ga_iload_n 2 dX3_roundsNeeded_16 rfl rfl ?_
    obtain ⟨ht, hf⟩ := h
    refine ga_if_eq (tgt := 48) dX3_roundsNeeded_17 (by decide) rx2 (fun q4 => ?_) (fun q4 => ?_)
    · replace q4 : x2 = 0 := q4
      have h := ht q4
      refine ga_iload_n 1 dX3_roundsNeeded_48 rfl rfl ?_
      exact ga_iret dX3_roundsNeeded_49 rfl rx1 h
    · replace q4 : ¬ x2 = 0 := q4
      have h := hf q4
      refine ga_aload_n 0 dX3_roundsNeeded_20 rfl rfl ?_
      refine ga_iload_n 3 dX3_roundsNeeded_21 rfl rfl ?_
      have kJ5 : ∀ v7 : Int, gR v7 → (v7 = 0 ∨ v7 = 1) → v7 = (if x3 = 0 then 1 else 0) → gAt l G mX3_roundsNeeded (gQi G Q) 30 [(0, .ref (G.2.1 45)), (1, vI x1), (2, vI x2), (3, vI x3)] [vI v7, .ref (G.2.1 45)] σ := by
        intro v7 rv7 bv7 ev7
        replace h := h v7 ev7
        refine ga_callVi (z := mX4_passRound) (As := [vI v7]) (rest := []) dX3_roundsNeeded_30 wX3_90 qX3_roundsNeeded_X4_passRound rfl ⟨_, rfl, rfl⟩ rfl rfl (Nat.le_of_ble_eq_true rfl) (gEi_mono h (fun v10 σ8 h r9 => ?_))
        replace h := h r9
        refine ga_pop dX3_roundsNeeded_33 rfl ?_
        refine ga_iinc (ls' := [(1, vI (x1 + 1)), (0, .ref (G.2.1 45)), (2, vI x2), (3, vI x3)]) 1 dX3_roundsNeeded_34 rfl (by decide) rfl ?_
        refine ga_aload_n 1 dX3_roundsNeeded_37 rfl rfl ?_
        refine ga_callVz (z := mX4_couldMatchMore) (As := []) (rest := []) dX3_roundsNeeded_38 wX3_94 qX3_roundsNeeded_X4_couldMatchMore rfl ⟨_, rfl, rfl⟩ rfl rfl (Nat.le_of_ble_eq_true rfl) (gEz_mono h (fun v13 σ11 h r12 => ?_))
        replace h := h r12
        refine ga_istore_n (ls' := [(2, vI v13), (1, vI (x1 + 1)), (0, .ref (G.2.1 45)), (3, vI x3)]) dX3_roundsNeeded_41 rfl (by decide) rfl ?_
        refine ga_iinc (ls' := [(3, vI (x3 + 1)), (2, vI v13), (1, vI (x1 + 1)), (0, .ref (G.2.1 45))]) 3 dX3_roundsNeeded_42 rfl (by decide) rfl ?_
        refine ga_goto (tgt := 10) dX3_roundsNeeded_45 (by decide) ?_
        exact ga_sub [3, 2, 1, 0] rfl h
      replace h : (¬ x3 = 0 → True) ∧
      (x3 = 0 → True) := by repeat (first | exact True.intro | apply And.intro | intro _)
      obtain ⟨ht, hf⟩ := h
      refine ga_if_ne (tgt := 29) dX3_roundsNeeded_22 (by decide) rx3 (fun q6 => ?_) (fun q6 => ?_)
      · replace q6 : ¬ x3 = 0 := q6
        have h := ht q6
        refine ga_iconst dX3_roundsNeeded_29 ?_
        exact kJ5 0 (by decide) (Or.inl rfl) (by rw [if_neg q6])
      · replace q6 : x3 = 0 := (Decidable.not_not.mp q6)
        have h := hf q6
        refine ga_iconst dX3_roundsNeeded_25 ?_
        refine ga_goto (tgt := 30) dX3_roundsNeeded_26 (by decide) ?_
        exact kJ5 1 (by decide) (Or.inr rfl) (by rw [if_pos q6])
abbrev eX3_firstRow (l : Launch) (G : gG) (x2 : Int) (σ : gS) (Q : Int → gS → Prop) : Prop := gEi l G mX3_firstRow [.ref (G.2.1 67), .ref (G.2.1 32), vI x2] σ Q
abbrev kX3_firstRow_9 (l : Launch) (G : gG)  (x2 : Int) (x3 : Int) (x4 : Int) (x5 : Int) (σ : gS) (Q : Int → gS → Prop) : Prop := gAt l G mX3_firstRow (gQi G Q) 9 [(0, .ref (G.2.1 67)), (1, .ref (G.2.1 32)), (2, vI x2), (3, vI x3), (4, vI x4), (5, vI x5)] [] σ
abbrev kX3_firstRow_27 (l : Launch) (G : gG)  (x2 : Int) (x3 : Int) (x4 : Int) (x5 : Int) (x6 : Int) (σ : gS) (Q : Int → gS → Prop) : Prop := gAt l G mX3_firstRow (gQi G Q) 27 [(0, .ref (G.2.1 67)), (1, .ref (G.2.1 32)), (2, vI x2), (3, vI x3), (4, vI x4), (5, vI x5), (6, vI x6)] [] σ
set_option maxRecDepth 100000 in
set_option maxHeartbeats 4000000 in
theorem vX3_firstRow {l : Launch} {G : gG} (x2 : Int) (rx2 : gR x2) (σ : gS) (Q : Int → gS → Prop) (h : kX3_firstRow_9 l G  x2 0 6 0 σ Q) : eX3_firstRow l G x2 σ Q := by
  refine ga_entry rfl (Nat.le_of_ble_eq_true rfl) ?_
  show gAt l G mX3_firstRow (gQi G Q) 0 [(0, .ref (G.2.1 67)), (1, .ref (G.2.1 32)), (2, vI x2)] [] σ
  refine ga_iconst dX3_firstRow_0 ?_
  refine ga_istore_n (ls' := [(3, vI 0), (0, .ref (G.2.1 67)), (1, .ref (G.2.1 32)), (2, vI x2)]) dX3_firstRow_1 rfl (by decide) rfl ?_
  refine ga_bipush dX3_firstRow_2 (by decide) ?_
  refine ga_istore (ls' := [(4, vI 6), (3, vI 0), (0, .ref (G.2.1 67)), (1, .ref (G.2.1 32)), (2, vI x2)]) dX3_firstRow_4 (by decide) rfl ?_
  refine ga_iconst dX3_firstRow_6 ?_
  refine ga_istore (ls' := [(5, vI 0), (4, vI 6), (3, vI 0), (0, .ref (G.2.1 67)), (1, .ref (G.2.1 32)), (2, vI x2)]) dX3_firstRow_7 (by decide) rfl ?_
  exact ga_sub [3, 4, 5, 2, 1, 0] rfl h
set_option maxRecDepth 100000 in
set_option maxHeartbeats 4000000 in
theorem vX3_firstRow_9 {l : Launch} {G : gG}  (x2 : Int) (x3 : Int) (x4 : Int) (x5 : Int) (rx2 : gR x2) (rx3 : gR x3) (rx4 : gR x4) (rx5 : gR x5) (σ : gS) (Q : Int → gS → Prop) (h : (x2 < x5 → Q x4 σ) ∧
  (x5 ≤ x2 → kX3_firstRow_27 l G  x2 x3 6 x5 ((gI σ 32 3) - 1) σ Q)) : kX3_firstRow_9 l G  x2 x3 x4 x5 σ Q := by
  refine ga_iload 5 dX3_firstRow_9 rfl ?_
  refine ga_iload_n 2 dX3_firstRow_11 rfl rfl ?_
  obtain ⟨ht, hf⟩ := h
  refine ga_icmp_gt (tgt := 99) dX3_firstRow_12 (by decide) rx5 rx2 (fun q1 => ?_) (fun q1 => ?_)
  · replace q1 : x2 < x5 := q1
    have h := ht q1
    refine ga_iload 4 dX3_firstRow_99 rfl ?_
    exact ga_iret dX3_firstRow_101 rfl rx4 h
  · replace q1 : x5 ≤ x2 := (Int.not_lt.mp q1)
    have h := hf q1
    refine ga_bipush dX3_firstRow_15 (by decide) ?_
    refine ga_istore (ls' := [(4, vI 6), (0, .ref (G.2.1 67)), (1, .ref (G.2.1 32)), (2, vI x2), (3, vI x3), (5, vI x5)]) dX3_firstRow_17 (by decide) rfl ?_
    refine ga_aload_n 2 dX3_firstRow_19 rfl rfl ?_
    refine ga_getI (kI := 3) dX3_firstRow_20 fX3_24 rfl rfl rfl (fun r2 => ?_)
    refine ga_iconst dX3_firstRow_23 ?_
    refine ga_isub dX3_firstRow_24 ?_
    refine ga_istore (ls' := [(6, vI ((gI σ 32 3) - 1)), (4, vI 6), (0, .ref (G.2.1 67)), (1, .ref (G.2.1 32)), (2, vI x2), (3, vI x3), (5, vI x5)]) dX3_firstRow_25 (by decide) rfl ?_
    exact ga_sub [2, 3, 4, 5, 1, 6, 0] rfl h
set_option maxRecDepth 100000 in
set_option maxHeartbeats 4000000 in
theorem vX3_firstRow_27 {l : Launch} {G : gG}  (x2 : Int) (x3 : Int) (x4 : Int) (x5 : Int) (x6 : Int) (rx2 : gR x2) (rx3 : gR x3) (rx4 : gR x4) (rx5 : gR x5) (rx6 : gR x6) (σ : gS) (Q : Int → gS → Prop) (h : (x6 < 0 → (x4 = 6 → kX3_firstRow_9 l G  x2 x3 x4 (x5 + 1) σ Q) ∧
    (¬ x4 = 6 → kX3_firstRow_9 l G  x2 (gor x3 (gshl 1 x4)) x4 (x5 + 1) σ Q)) ∧
  (0 ≤ x6 → eX3_mayPair l G x5 x6 x3 σ (fun v9 σ7 => (v9 = 0 ∨ v9 = 1) →
    (v9 = 0 → kX3_firstRow_27 l G  x2 x3 x4 x5 (x6 + (-1)) σ7 Q) ∧
    (¬ v9 = 0 → eX3_sumWith l G x5 x6 x3 σ7 (fun v13 σ11 => gR v13 →
      (0 ≤ ((x5 * 64) + x3) ∧ ((x5 * 64) + x3) < 448) ∧ (¬ v13 = (gI σ11 68 ((x5 * 64) + x3)) → kX3_firstRow_27 l G  x2 x3 x4 x5 (x6 + (-1)) σ11 Q) ∧
      (v13 = (gI σ11 68 ((x5 * 64) + x3)) → kX3_firstRow_27 l G  x2 x3 x6 x5 (x6 + (-1)) σ11 Q)))))) : kX3_firstRow_27 l G  x2 x3 x4 x5 x6 σ Q := by
  refine ga_iload 6 dX3_firstRow_27 rfl ?_
  obtain ⟨ht, hf⟩ := h
  refine ga_if_lt (tgt := 79) dX3_firstRow_29 (by decide) rx6 (fun q3 => ?_) (fun q3 => ?_)
  · replace q3 : x6 < 0 := q3
    have h := ht q3
    refine ga_iload 4 dX3_firstRow_79 rfl ?_
    refine ga_bipush dX3_firstRow_81 (by decide) ?_
    obtain ⟨ht, hf⟩ := h
    refine ga_icmp_eq (tgt := 93) dX3_firstRow_83 (by decide) rx4 (by decide) (fun q4 => ?_) (fun q4 => ?_)
    · replace q4 : x4 = 6 := q4
      have h := ht q4
      refine ga_iinc (ls' := [(5, vI (x5 + 1)), (0, .ref (G.2.1 67)), (1, .ref (G.2.1 32)), (2, vI x2), (3, vI x3), (4, vI x4), (6, vI x6)]) 5 dX3_firstRow_93 rfl (by decide) rfl ?_
      refine ga_goto (tgt := 9) dX3_firstRow_96 (by decide) ?_
      exact ga_sub [1, 2, 3, 4, 5, 0] rfl h
    · replace q4 : ¬ x4 = 6 := q4
      have h := hf q4
      refine ga_iload_n 3 dX3_firstRow_86 rfl rfl ?_
      refine ga_iconst dX3_firstRow_87 ?_
      refine ga_iload 4 dX3_firstRow_88 rfl ?_
      refine ga_ishl dX3_firstRow_90 (fun r5 => ?_)
      refine ga_ior dX3_firstRow_91 (fun r6 => ?_)
      refine ga_istore_n (ls' := [(3, vI (gor x3 (gshl 1 x4))), (0, .ref (G.2.1 67)), (1, .ref (G.2.1 32)), (2, vI x2), (4, vI x4), (5, vI x5), (6, vI x6)]) dX3_firstRow_92 rfl (by decide) rfl ?_
      refine ga_iinc (ls' := [(5, vI (x5 + 1)), (3, vI (gor x3 (gshl 1 x4))), (0, .ref (G.2.1 67)), (1, .ref (G.2.1 32)), (2, vI x2), (4, vI x4), (6, vI x6)]) 5 dX3_firstRow_93 rfl (by decide) rfl ?_
      refine ga_goto (tgt := 9) dX3_firstRow_96 (by decide) ?_
      exact ga_sub [2, 3, 4, 1, 5, 0] rfl h
  · replace q3 : 0 ≤ x6 := (Int.not_lt.mp q3)
    have h := hf q3
    refine ga_aload_n 1 dX3_firstRow_32 rfl rfl ?_
    refine ga_iload 5 dX3_firstRow_33 rfl ?_
    refine ga_iload 6 dX3_firstRow_35 rfl ?_
    refine ga_iload_n 3 dX3_firstRow_37 rfl rfl ?_
    refine ga_callSz (z := mX3_mayPair) (As := [.ref (G.2.1 32), vI x5, vI x6, vI x3]) (rest := []) dX3_firstRow_38 wX3_63 qX3_firstRow_X3_mayPair rfl rfl (Nat.le_of_ble_eq_true rfl) (gEz_mono h (fun v9 σ7 h r8 => ?_))
    replace h := h r8
    obtain ⟨ht, hf⟩ := h
    refine ga_if_eq (tgt := 73) dX3_firstRow_41 (by decide) (gR_01 r8) (fun q10 => ?_) (fun q10 => ?_)
    · replace q10 : v9 = 0 := q10
      have h := ht q10
      refine ga_iinc (ls' := [(6, vI (x6 + (-1))), (0, .ref (G.2.1 67)), (1, .ref (G.2.1 32)), (2, vI x2), (3, vI x3), (4, vI x4), (5, vI x5)]) 6 dX3_firstRow_73 rfl (by decide) rfl ?_
      refine ga_goto (tgt := 27) dX3_firstRow_76 (by decide) ?_
      exact ga_sub [1, 2, 3, 4, 5, 6, 0] rfl h
    · replace q10 : ¬ v9 = 0 := q10
      have h := hf q10
      refine ga_aload_n 0 dX3_firstRow_44 rfl rfl ?_
      refine ga_aload_n 1 dX3_firstRow_45 rfl rfl ?_
      refine ga_iload 5 dX3_firstRow_46 rfl ?_
      refine ga_iload 6 dX3_firstRow_48 rfl ?_
      refine ga_iload_n 3 dX3_firstRow_50 rfl rfl ?_
      refine ga_callVi (z := mX3_sumWith) (As := [.ref (G.2.1 32), vI x5, vI x6, vI x3]) (rest := []) dX3_firstRow_51 wX3_67 qX3_firstRow_X3_sumWith rfl ⟨_, rfl, rfl⟩ rfl rfl (Nat.le_of_ble_eq_true rfl) (gEi_mono h (fun v13 σ11 h r12 => ?_))
      replace h := h r12
      refine ga_aload_n 0 dX3_firstRow_54 rfl rfl ?_
      refine ga_getR (kI := 0) (r := 68) dX3_firstRow_55 fX3_9 rfl rfl (by decide) rfl ?_
      refine ga_iload 5 dX3_firstRow_58 rfl ?_
      refine ga_bipush dX3_firstRow_60 (by decide) ?_
      refine ga_imul dX3_firstRow_62 ?_
      refine ga_iload_n 3 dX3_firstRow_63 rfl rfl ?_
      refine ga_iadd dX3_firstRow_64 ?_
      obtain ⟨i14, h⟩ := h
      refine ga_iald (nI := 448) dX3_firstRow_65 rfl rfl i14 (fun r15 => ?_)
      obtain ⟨ht, hf⟩ := h
      refine ga_icmp_ne (tgt := 73) dX3_firstRow_66 (by decide) r12 r15 (fun q16 => ?_) (fun q16 => ?_)
      · replace q16 : ¬ v13 = (gI σ11 68 ((x5 * 64) + x3)) := q16
        have h := ht q16
        refine ga_iinc (ls' := [(6, vI (x6 + (-1))), (0, .ref (G.2.1 67)), (1, .ref (G.2.1 32)), (2, vI x2), (3, vI x3), (4, vI x4), (5, vI x5)]) 6 dX3_firstRow_73 rfl (by decide) rfl ?_
        refine ga_goto (tgt := 27) dX3_firstRow_76 (by decide) ?_
        exact ga_sub [1, 2, 3, 4, 5, 6, 0] rfl h
      · replace q16 : v13 = (gI σ11 68 ((x5 * 64) + x3)) := (Decidable.not_not.mp q16)
        have h := hf q16
        refine ga_iload 6 dX3_firstRow_69 rfl ?_
        refine ga_istore (ls' := [(4, vI x6), (0, .ref (G.2.1 67)), (1, .ref (G.2.1 32)), (2, vI x2), (3, vI x3), (5, vI x5), (6, vI x6)]) dX3_firstRow_71 (by decide) rfl ?_
        refine ga_iinc (ls' := [(6, vI (x6 + (-1))), (4, vI x6), (0, .ref (G.2.1 67)), (1, .ref (G.2.1 32)), (2, vI x2), (3, vI x3), (5, vI x5)]) 6 dX3_firstRow_73 rfl (by decide) rfl ?_
        refine ga_goto (tgt := 27) dX3_firstRow_76 (by decide) ?_
        exact ga_sub [2, 3, 4, 5, 1, 6, 0] rfl h
abbrev eX3_tell (l : Launch) (G : gG) (x2 : Int) (σ : gS) (Q : Int → gS → Prop) : Prop := gEi l G mX3_tell [.ref (G.2.1 67), .ref (G.2.1 32), vI x2] σ Q
set_option maxRecDepth 100000 in
set_option maxHeartbeats 4000000 in
theorem vX3_tell {l : Launch} {G : gG} (x2 : Int) (rx2 : gR x2) (σ : gS) (Q : Int → gS → Prop) (h : (x2 = 0 → eX3_bestOf l G 0 σ (fun v3 σ1 => gR v3 →
    Q v3 σ1)) ∧
  (x2 = 1 → eX3_bestOf l G 1 σ (fun v6 σ4 => gR v6 →
    Q v6 σ4)) ∧
  (x2 = 2 → eX8_matchNow l G  σ (fun σ7 =>
    eJ6_bitCount_0f7a4 l G (gI σ7 45 6) σ7 (fun v13 σ11 => gR v13 →
    (gR ((gI σ7 32 3) - v13)) ∧ Q ((gI σ7 32 3) - v13) σ11))) ∧
  (x2 = 3 → eX8_matchNow l G  σ (fun σ15 =>
    eX3_cellsOfMatched l G  σ15 (fun v19 σ17 => gR v19 →
    Q v19 σ17))) ∧
  (x2 = 4 → eX3_roundsNeeded l G  σ (fun v22 σ20 => gR v22 →
    Q v22 σ20)) ∧
  ((x2 < 0 ∨ 4 < x2) → (x2 < 10 → Q (-2) σ) ∧
    (10 ≤ x2 → (gR (10 + (gI σ 32 3))) ∧ (x2 < (10 + (gI σ 32 3)) → eX3_bestOf l G 1 σ (fun v29 σ27 => gR v29 →
        eX3_firstRow l G (x2 - 10) σ27 (fun v32 σ30 => gR v32 →
        Q v32 σ30))) ∧
      ((10 + (gI σ 32 3)) ≤ x2 → Q (-2) σ)))) : eX3_tell l G x2 σ Q := by
  refine ga_entry rfl (Nat.le_of_ble_eq_true rfl) ?_
  show gAt l G mX3_tell (gQi G Q) 0 [(0, .ref (G.2.1 67)), (1, .ref (G.2.1 32)), (2, vI x2)] [] σ
  refine ga_iload_n 2 dX3_tell_0 rfl rfl ?_
  obtain ⟨hc33, hc34, hc35, hc36, hc37, hd⟩ := h
  by_cases q38 : x2 = 0
  · refine ga_tableIn (tgt := 36) (v := 0) dX3_tell_1 q38 (by decide) rfl (by decide) ?_
    have h := hc33 q38
    refine ga_aload_n 0 dX3_tell_36 rfl rfl ?_
    refine ga_aload_n 1 dX3_tell_37 rfl rfl ?_
    refine ga_iconst dX3_tell_38 ?_
    refine ga_callVi (z := mX3_bestOf) (As := [.ref (G.2.1 32), vI 0]) (rest := []) dX3_tell_39 wX3_15 qX3_tell_X3_bestOf rfl ⟨_, rfl, rfl⟩ rfl rfl (Nat.le_of_ble_eq_true rfl) (gEi_mono h (fun v3 σ1 h r2 => ?_))
    replace h := h r2
    exact ga_iret dX3_tell_42 rfl r2 h
  by_cases q39 : x2 = 1
  · refine ga_tableIn (tgt := 43) (v := 1) dX3_tell_1 q39 (by decide) rfl (by decide) ?_
    have h := hc34 q39
    refine ga_aload_n 0 dX3_tell_43 rfl rfl ?_
    refine ga_aload_n 1 dX3_tell_44 rfl rfl ?_
    refine ga_iconst dX3_tell_45 ?_
    refine ga_callVi (z := mX3_bestOf) (As := [.ref (G.2.1 32), vI 1]) (rest := []) dX3_tell_46 wX3_15 qX3_tell_X3_bestOf rfl ⟨_, rfl, rfl⟩ rfl rfl (Nat.le_of_ble_eq_true rfl) (gEi_mono h (fun v6 σ4 h r5 => ?_))
    replace h := h r5
    exact ga_iret dX3_tell_49 rfl r5 h
  by_cases q40 : x2 = 2
  · refine ga_tableIn (tgt := 50) (v := 2) dX3_tell_1 q40 (by decide) rfl (by decide) ?_
    have h := hc35 q40
    refine ga_aload_n 1 dX3_tell_50 rfl rfl ?_
    refine ga_callVv (z := mX8_matchNow) (As := []) (rest := []) dX3_tell_51 wX3_19 qX3_tell_X8_matchNow rfl ⟨_, rfl, rfl⟩ rfl rfl (Nat.le_of_ble_eq_true rfl) (gEv_mono h (fun σ7 h => ?_))
    refine ga_aload_n 1 dX3_tell_54 rfl rfl ?_
    refine ga_getI (kI := 3) dX3_tell_55 fX3_24 rfl rfl rfl (fun r9 => ?_)
    refine ga_aload_n 1 dX3_tell_58 rfl rfl ?_
    refine ga_getR (kI := 2) (r := 45) dX3_tell_59 fX3_28 rfl rfl (by decide) rfl ?_
    refine ga_getI (kI := 6) dX3_tell_62 fX3_32 rfl rfl rfl (fun r10 => ?_)
    refine ga_callSi (z := mJ6_bitCount_0f7a4) (As := [vI (gI σ7 45 6)]) (rest := [vI (gI σ7 32 3)]) dX3_tell_65 wX3_37 qX3_tell_J6_bitCount_0f7a4 rfl rfl (Nat.le_of_ble_eq_true rfl) (gEi_mono h (fun v13 σ11 h r12 => ?_))
    replace h := h r12
    refine ga_isub dX3_tell_68 ?_
    obtain ⟨r14, h⟩ := h
    exact ga_iret dX3_tell_69 rfl r14 h
  by_cases q41 : x2 = 3
  · refine ga_tableIn (tgt := 70) (v := 3) dX3_tell_1 q41 (by decide) rfl (by decide) ?_
    have h := hc36 q41
    refine ga_aload_n 1 dX3_tell_70 rfl rfl ?_
    refine ga_callVv (z := mX8_matchNow) (As := []) (rest := []) dX3_tell_71 wX3_19 qX3_tell_X8_matchNow rfl ⟨_, rfl, rfl⟩ rfl rfl (Nat.le_of_ble_eq_true rfl) (gEv_mono h (fun σ15 h => ?_))
    refine ga_aload_n 1 dX3_tell_74 rfl rfl ?_
    refine ga_callSi (z := mX3_cellsOfMatched) (As := [.ref (G.2.1 32)]) (rest := []) dX3_tell_75 wX3_43 qX3_tell_X3_cellsOfMatched rfl rfl (Nat.le_of_ble_eq_true rfl) (gEi_mono h (fun v19 σ17 h r18 => ?_))
    replace h := h r18
    exact ga_iret dX3_tell_78 rfl r18 h
  by_cases q42 : x2 = 4
  · refine ga_tableIn (tgt := 79) (v := 4) dX3_tell_1 q42 (by decide) rfl (by decide) ?_
    have h := hc37 q42
    refine ga_aload_n 1 dX3_tell_79 rfl rfl ?_
    refine ga_getR (kI := 2) (r := 45) dX3_tell_80 fX3_28 rfl rfl (by decide) rfl ?_
    refine ga_callSi (z := mX3_roundsNeeded) (As := [.ref (G.2.1 45)]) (rest := []) dX3_tell_83 wX3_47 qX3_tell_X3_roundsNeeded rfl rfl (Nat.le_of_ble_eq_true rfl) (gEi_mono h (fun v22 σ20 h r21 => ?_))
    replace h := h r21
    exact ga_iret dX3_tell_86 rfl r21 h
  have hdc : (x2 < 0 ∨ 4 < x2) := by omega
  have h := hd hdc
  refine ga_tableOut (tgt := 87) dX3_tell_1 rx2 hdc (by decide) ?_
  refine ga_iload_n 2 dX3_tell_87 rfl rfl ?_
  refine ga_bipush dX3_tell_88 (by decide) ?_
  obtain ⟨ht, hf⟩ := h
  refine ga_icmp_lt (tgt := 104) dX3_tell_90 (by decide) rx2 (by decide) (fun q23 => ?_) (fun q23 => ?_)
  · replace q23 : x2 < 10 := q23
    have h := ht q23
    refine ga_bipush dX3_tell_104 (by decide) ?_
    exact ga_iret dX3_tell_106 rfl (by decide) h
  · replace q23 : 10 ≤ x2 := (Int.not_lt.mp q23)
    have h := hf q23
    refine ga_iload_n 2 dX3_tell_93 rfl rfl ?_
    refine ga_bipush dX3_tell_94 (by decide) ?_
    refine ga_aload_n 1 dX3_tell_96 rfl rfl ?_
    refine ga_getI (kI := 3) dX3_tell_97 fX3_24 rfl rfl rfl (fun r24 => ?_)
    refine ga_iadd dX3_tell_100 ?_
    obtain ⟨r25, h⟩ := h
    obtain ⟨ht, hf⟩ := h
    refine ga_icmp_lt (tgt := 107) dX3_tell_101 (by decide) rx2 r25 (fun q26 => ?_) (fun q26 => ?_)
    · replace q26 : x2 < (10 + (gI σ 32 3)) := q26
      have h := ht q26
      refine ga_aload_n 0 dX3_tell_107 rfl rfl ?_
      refine ga_aload_n 1 dX3_tell_108 rfl rfl ?_
      refine ga_iconst dX3_tell_109 ?_
      refine ga_callVi (z := mX3_bestOf) (As := [.ref (G.2.1 32), vI 1]) (rest := []) dX3_tell_110 wX3_15 qX3_tell_X3_bestOf rfl ⟨_, rfl, rfl⟩ rfl rfl (Nat.le_of_ble_eq_true rfl) (gEi_mono h (fun v29 σ27 h r28 => ?_))
      replace h := h r28
      refine ga_pop dX3_tell_113 rfl ?_
      refine ga_aload_n 0 dX3_tell_114 rfl rfl ?_
      refine ga_aload_n 1 dX3_tell_115 rfl rfl ?_
      refine ga_iload_n 2 dX3_tell_116 rfl rfl ?_
      refine ga_bipush dX3_tell_117 (by decide) ?_
      refine ga_isub dX3_tell_119 ?_
      refine ga_callVi (z := mX3_firstRow) (As := [.ref (G.2.1 32), vI (x2 - 10)]) (rest := []) dX3_tell_120 wX3_51 qX3_tell_X3_firstRow rfl ⟨_, rfl, rfl⟩ rfl rfl (Nat.le_of_ble_eq_true rfl) (gEi_mono h (fun v32 σ30 h r31 => ?_))
      replace h := h r31
      exact ga_iret dX3_tell_123 rfl r31 h
    · replace q26 : (10 + (gI σ 32 3)) ≤ x2 := (Int.not_lt.mp q26)
      have h := hf q26
      refine ga_bipush dX3_tell_104 (by decide) ?_
      exact ga_iret dX3_tell_106 rfl (by decide) h
abbrev eX5_noteCell (l : Launch) (G : gG) (x1 : Int) (x2 : Int) (σ : gS) (Q : gS → Prop) : Prop := gEv l G mX5_noteCell [.ref (G.2.1 81), vI x1, vI x2] σ Q
set_option maxRecDepth 100000 in
set_option maxHeartbeats 4000000 in
theorem vX5_noteCell {l : Launch} {G : gG} (x1 : Int) (x2 : Int) (rx1 : gR x1) (rx2 : gR x2) (σ : gS) (Q : gS → Prop) (h : (0 ≤ ((x1 * 6) + x2) ∧ ((x1 * 6) + x2) < 36) ∧ (¬ (gI σ 83 ((x1 * 6) + x2)) = 0 → (gR ((gI σ 83 ((x1 * 6) + x2)) + 1)) ∧ ∀ σ5, σ5 = sI σ 83 ((x1 * 6) + x2) ((gI σ 83 ((x1 * 6) + x2)) + 1) →
    Q σ5) ∧
  ((gI σ 83 ((x1 * 6) + x2)) = 0 → (0 ≤ (gI σ 81 0) ∧ (gI σ 81 0) < 36) ∧ (gR ((10 * x1) + x2)) ∧ ∀ σ9, σ9 = sI σ 82 (gI σ 81 0) ((10 * x1) + x2) →
    (gR ((gI σ9 81 0) + 1)) ∧ ∀ σ12, σ12 = sI σ9 81 0 ((gI σ9 81 0) + 1) →
    (gR ((gI σ12 83 ((x1 * 6) + x2)) + 1)) ∧ ∀ σ15, σ15 = sI σ12 83 ((x1 * 6) + x2) ((gI σ12 83 ((x1 * 6) + x2)) + 1) →
    Q σ15)) : eX5_noteCell l G x1 x2 σ Q := by
  refine ga_entry rfl (Nat.le_of_ble_eq_true rfl) ?_
  show gAt l G mX5_noteCell (gQv G Q) 0 [(0, .ref (G.2.1 81)), (1, vI x1), (2, vI x2)] [] σ
  refine ga_iload_n 1 dX5_noteCell_0 rfl rfl ?_
  refine ga_bipush dX5_noteCell_1 (by decide) ?_
  refine ga_imul dX5_noteCell_3 ?_
  refine ga_iload_n 2 dX5_noteCell_4 rfl rfl ?_
  refine ga_iadd dX5_noteCell_5 ?_
  refine ga_istore_n (ls' := [(3, vI ((x1 * 6) + x2)), (0, .ref (G.2.1 81)), (1, vI x1), (2, vI x2)]) dX5_noteCell_6 rfl (by decide) rfl ?_
  refine ga_aload_n 1 dX5_noteCell_7 rfl rfl ?_
  refine ga_getR (kI := 2) (r := 83) dX5_noteCell_8 fX5_15 rfl rfl (by decide) rfl ?_
  refine ga_iload_n 0 dX5_noteCell_11 rfl rfl ?_
  obtain ⟨i1, h⟩ := h
  refine ga_iald (nI := 36) dX5_noteCell_12 rfl rfl i1 (fun r2 => ?_)
  obtain ⟨ht, hf⟩ := h
  refine ga_if_ne (tgt := 41) dX5_noteCell_13 (by decide) r2 (fun q3 => ?_) (fun q3 => ?_)
  · replace q3 : ¬ (gI σ 83 ((x1 * 6) + x2)) = 0 := q3
    have h := ht q3
    refine ga_aload_n 1 dX5_noteCell_41 rfl rfl ?_
    refine ga_getR (kI := 2) (r := 83) dX5_noteCell_42 fX5_15 rfl rfl (by decide) rfl ?_
    refine ga_iload_n 0 dX5_noteCell_45 rfl rfl ?_
    refine ga_dup2 dX5_noteCell_46 rfl rfl ?_
    refine ga_iald (nI := 36) dX5_noteCell_47 rfl rfl i1 (fun r4 => ?_)
    refine ga_iconst dX5_noteCell_48 ?_
    refine ga_iadd dX5_noteCell_49 ?_
    obtain ⟨r6, h⟩ := h
    obtain ⟨σ5, eσ5⟩ : ∃ z, z = sI σ 83 ((x1 * 6) + x2) ((gI σ 83 ((x1 * 6) + x2)) + 1) := ⟨_, rfl⟩
    replace h := h σ5 eσ5
    refine ga_iast (nI := 36) dX5_noteCell_50 rfl rfl i1 r6 eσ5 ?_
    exact ga_vret dX5_noteCell_51 rfl h
  · replace q3 : (gI σ 83 ((x1 * 6) + x2)) = 0 := (Decidable.not_not.mp q3)
    have h := hf q3
    refine ga_aload_n 1 dX5_noteCell_16 rfl rfl ?_
    refine ga_getR (kI := 1) (r := 82) dX5_noteCell_17 fX5_9 rfl rfl (by decide) rfl ?_
    refine ga_aload_n 1 dX5_noteCell_20 rfl rfl ?_
    refine ga_getI (kI := 0) dX5_noteCell_21 fX5_18 rfl rfl rfl (fun r7 => ?_)
    refine ga_bipush dX5_noteCell_24 (by decide) ?_
    refine ga_iload_n 2 dX5_noteCell_26 rfl rfl ?_
    refine ga_imul dX5_noteCell_27 ?_
    refine ga_iload_n 3 dX5_noteCell_28 rfl rfl ?_
    refine ga_iadd dX5_noteCell_29 ?_
    obtain ⟨i8, h⟩ := h
    obtain ⟨r10, h⟩ := h
    obtain ⟨σ9, eσ9⟩ : ∃ z, z = sI σ 82 (gI σ 81 0) ((10 * x1) + x2) := ⟨_, rfl⟩
    replace h := h σ9 eσ9
    refine ga_iast (nI := 36) dX5_noteCell_30 rfl rfl i8 r10 eσ9 ?_
    refine ga_aload_n 1 dX5_noteCell_31 rfl rfl ?_
    refine ga_dup dX5_noteCell_32 rfl ?_
    refine ga_getI (kI := 0) dX5_noteCell_33 fX5_18 rfl rfl rfl (fun r11 => ?_)
    refine ga_iconst dX5_noteCell_36 ?_
    refine ga_iadd dX5_noteCell_37 ?_
    obtain ⟨r13, h⟩ := h
    obtain ⟨σ12, eσ12⟩ : ∃ z, z = sI σ9 81 0 ((gI σ9 81 0) + 1) := ⟨_, rfl⟩
    replace h := h σ12 eσ12
    refine ga_putI (kI := 0) dX5_noteCell_38 fX5_18 pX5_0 rfl rfl rfl r13 eσ12 ?_
    refine ga_aload_n 1 dX5_noteCell_41 rfl rfl ?_
    refine ga_getR (kI := 2) (r := 83) dX5_noteCell_42 fX5_15 rfl rfl (by decide) rfl ?_
    refine ga_iload_n 0 dX5_noteCell_45 rfl rfl ?_
    refine ga_dup2 dX5_noteCell_46 rfl rfl ?_
    refine ga_iald (nI := 36) dX5_noteCell_47 rfl rfl i1 (fun r14 => ?_)
    refine ga_iconst dX5_noteCell_48 ?_
    refine ga_iadd dX5_noteCell_49 ?_
    obtain ⟨r16, h⟩ := h
    obtain ⟨σ15, eσ15⟩ : ∃ z, z = sI σ12 83 ((x1 * 6) + x2) ((gI σ12 83 ((x1 * 6) + x2)) + 1) := ⟨_, rfl⟩
    replace h := h σ15 eσ15
    refine ga_iast (nI := 36) dX5_noteCell_50 rfl rfl i1 r16 eσ15 ?_
    exact ga_vret dX5_noteCell_51 rfl h
abbrev eX5_gatherFlows (l : Launch) (G : gG)  (σ : gS) (Q : gS → Prop) : Prop := gEv l G mX5_gatherFlows [.ref (G.2.1 81), .ref (G.2.1 32)] σ Q
abbrev kX5_gatherFlows_7 (l : Launch) (G : gG)  (x2 : Int) (σ : gS) (Q : gS → Prop) : Prop := gAt l G mX5_gatherFlows (gQv G Q) 7 [(0, .ref (G.2.1 81)), (1, .ref (G.2.1 32)), (2, vI x2)] [] σ
abbrev kX5_gatherFlows_28 (l : Launch) (G : gG)  (x2 : Int) (σ : gS) (Q : gS → Prop) : Prop := gAt l G mX5_gatherFlows (gQv G Q) 28 [(0, .ref (G.2.1 81)), (1, .ref (G.2.1 32)), (2, vI x2)] [] σ
abbrev kX5_gatherFlows_41 (l : Launch) (G : gG)  (x2 : Int) (x3 : Int) (σ : gS) (Q : gS → Prop) : Prop := gAt l G mX5_gatherFlows (gQv G Q) 41 [(0, .ref (G.2.1 81)), (1, .ref (G.2.1 32)), (2, vI x2), (3, vI x3)] [] σ
set_option maxRecDepth 100000 in
set_option maxHeartbeats 4000000 in
theorem vX5_gatherFlows {l : Launch} {G : gG}  (σ : gS) (Q : gS → Prop) (h : ∀ σ1, σ1 = sI σ 81 0 0 →
  kX5_gatherFlows_7 l G  0 σ1 Q) : eX5_gatherFlows l G  σ Q := by
  refine ga_entry rfl (Nat.le_of_ble_eq_true rfl) ?_
  show gAt l G mX5_gatherFlows (gQv G Q) 0 [(0, .ref (G.2.1 81)), (1, .ref (G.2.1 32))] [] σ
  refine ga_aload_n 0 dX5_gatherFlows_0 rfl rfl ?_
  refine ga_iconst dX5_gatherFlows_1 ?_
  obtain ⟨σ1, eσ1⟩ : ∃ z, z = sI σ 81 0 0 := ⟨_, rfl⟩
  replace h := h σ1 eσ1
  refine ga_putI (kI := 0) dX5_gatherFlows_2 fX5_18 pX5_0 rfl rfl rfl (by decide) eσ1 ?_
  refine ga_iconst dX5_gatherFlows_5 ?_
  refine ga_istore_n (ls' := [(2, vI 0), (0, .ref (G.2.1 81)), (1, .ref (G.2.1 32))]) dX5_gatherFlows_6 rfl (by decide) rfl ?_
  exact ga_sub [1, 2, 0] rfl h
set_option maxRecDepth 100000 in
set_option maxHeartbeats 4000000 in
theorem vX5_gatherFlows_7 {l : Launch} {G : gG}  (x2 : Int) (rx2 : gR x2) (σ : gS) (Q : gS → Prop) (h : (36 ≤ x2 → kX5_gatherFlows_28 l G  0 σ Q) ∧
  (x2 < 36 → (0 ≤ x2 ∧ x2 < 36) ∧ ∀ σ4, σ4 = sI σ 83 x2 0 →
    kX5_gatherFlows_7 l G  (x2 + 1) σ4 Q)) : kX5_gatherFlows_7 l G  x2 σ Q := by
  refine ga_iload_n 2 dX5_gatherFlows_7 rfl rfl ?_
  refine ga_bipush dX5_gatherFlows_8 (by decide) ?_
  obtain ⟨ht, hf⟩ := h
  refine ga_icmp_ge (tgt := 26) dX5_gatherFlows_10 (by decide) rx2 (by decide) (fun q2 => ?_) (fun q2 => ?_)
  · replace q2 : 36 ≤ x2 := q2
    have h := ht q2
    refine ga_iconst dX5_gatherFlows_26 ?_
    refine ga_istore_n (ls' := [(2, vI 0), (0, .ref (G.2.1 81)), (1, .ref (G.2.1 32))]) dX5_gatherFlows_27 rfl (by decide) rfl ?_
    exact ga_sub [1, 2, 0] rfl h
  · replace q2 : x2 < 36 := (Int.not_le.mp q2)
    have h := hf q2
    refine ga_aload_n 0 dX5_gatherFlows_13 rfl rfl ?_
    refine ga_getR (kI := 2) (r := 83) dX5_gatherFlows_14 fX5_15 rfl rfl (by decide) rfl ?_
    refine ga_iload_n 2 dX5_gatherFlows_17 rfl rfl ?_
    refine ga_iconst dX5_gatherFlows_18 ?_
    obtain ⟨i3, h⟩ := h
    obtain ⟨σ4, eσ4⟩ : ∃ z, z = sI σ 83 x2 0 := ⟨_, rfl⟩
    replace h := h σ4 eσ4
    refine ga_iast (nI := 36) dX5_gatherFlows_19 rfl rfl i3 (by decide) eσ4 ?_
    refine ga_iinc (ls' := [(2, vI (x2 + 1)), (0, .ref (G.2.1 81)), (1, .ref (G.2.1 32))]) 2 dX5_gatherFlows_20 rfl (by decide) rfl ?_
    refine ga_goto (tgt := 7) dX5_gatherFlows_23 (by decide) ?_
    exact ga_sub [1, 2, 0] rfl h
set_option maxRecDepth 100000 in
set_option maxHeartbeats 4000000 in
theorem vX5_gatherFlows_28 {l : Launch} {G : gG}  (x2 : Int) (rx2 : gR x2) (σ : gS) (Q : gS → Prop) (h : ((gI σ 41 0) ≤ x2 → Q σ) ∧
  (x2 < (gI σ 41 0) → kX5_gatherFlows_41 l G  x2 0 σ Q)) : kX5_gatherFlows_28 l G  x2 σ Q := by
  refine ga_iload_n 2 dX5_gatherFlows_28 rfl rfl ?_
  refine ga_aload_n 1 dX5_gatherFlows_29 rfl rfl ?_
  refine ga_getR (kI := 1) (r := 41) dX5_gatherFlows_30 fX5_22 rfl rfl (by decide) rfl ?_
  refine ga_getI (kI := 0) dX5_gatherFlows_33 fX5_28 rfl rfl rfl (fun r5 => ?_)
  obtain ⟨ht, hf⟩ := h
  refine ga_icmp_ge (tgt := 89) dX5_gatherFlows_36 (by decide) rx2 r5 (fun q6 => ?_) (fun q6 => ?_)
  · replace q6 : (gI σ 41 0) ≤ x2 := q6
    have h := ht q6
    exact ga_vret dX5_gatherFlows_89 rfl h
  · replace q6 : x2 < (gI σ 41 0) := (Int.not_le.mp q6)
    have h := hf q6
    refine ga_iconst dX5_gatherFlows_39 ?_
    refine ga_istore_n (ls' := [(3, vI 0), (0, .ref (G.2.1 81)), (1, .ref (G.2.1 32)), (2, vI x2)]) dX5_gatherFlows_40 rfl (by decide) rfl ?_
    exact ga_sub [1, 2, 3, 0] rfl h
set_option maxRecDepth 100000 in
set_option maxHeartbeats 4000000 in
theorem vX5_gatherFlows_41 {l : Launch} {G : gG}  (x2 : Int) (x3 : Int) (rx2 : gR x2) (rx3 : gR x3) (σ : gS) (Q : gS → Prop) (h : ((gI σ 32 3) ≤ x3 → kX5_gatherFlows_28 l G  (x2 + 1) σ Q) ∧
  (x3 < (gI σ 32 3) → (0 ≤ x2 ∧ x2 < 360) ∧ eX6_inputOf l G (gI σ 42 x2) x3 σ (fun v13 σ11 => gR v13 →
    (v13 = (-1) → kX5_gatherFlows_41 l G  x2 (x3 + 1) σ11 Q) ∧
    (¬ v13 = (-1) → eX5_noteCell l G v13 x3 σ11 (fun σ15 =>
      kX5_gatherFlows_41 l G  x2 (x3 + 1) σ15 Q))))) : kX5_gatherFlows_41 l G  x2 x3 σ Q := by
  refine ga_iload_n 3 dX5_gatherFlows_41 rfl rfl ?_
  refine ga_aload_n 1 dX5_gatherFlows_42 rfl rfl ?_
  refine ga_getI (kI := 3) dX5_gatherFlows_43 fX5_33 rfl rfl rfl (fun r7 => ?_)
  obtain ⟨ht, hf⟩ := h
  refine ga_icmp_ge (tgt := 83) dX5_gatherFlows_46 (by decide) rx3 r7 (fun q8 => ?_) (fun q8 => ?_)
  · replace q8 : (gI σ 32 3) ≤ x3 := q8
    have h := ht q8
    refine ga_iinc (ls' := [(2, vI (x2 + 1)), (0, .ref (G.2.1 81)), (1, .ref (G.2.1 32)), (3, vI x3)]) 2 dX5_gatherFlows_83 rfl (by decide) rfl ?_
    refine ga_goto (tgt := 28) dX5_gatherFlows_86 (by decide) ?_
    exact ga_sub [1, 2, 0] rfl h
  · replace q8 : x3 < (gI σ 32 3) := (Int.not_le.mp q8)
    have h := hf q8
    refine ga_aload_n 1 dX5_gatherFlows_49 rfl rfl ?_
    refine ga_getR (kI := 1) (r := 41) dX5_gatherFlows_50 fX5_22 rfl rfl (by decide) rfl ?_
    refine ga_getR (kI := 1) (r := 42) dX5_gatherFlows_53 fX5_36 rfl rfl (by decide) rfl ?_
    refine ga_iload_n 2 dX5_gatherFlows_56 rfl rfl ?_
    obtain ⟨i9, h⟩ := h
    refine ga_iald (nI := 360) dX5_gatherFlows_57 rfl rfl i9 (fun r10 => ?_)
    refine ga_iload_n 3 dX5_gatherFlows_58 rfl rfl ?_
    refine ga_callSi (z := mX6_inputOf) (As := [vI (gI σ 42 x2), vI x3]) (rest := []) dX5_gatherFlows_59 wX5_39 qX5_gatherFlows_X6_inputOf rfl rfl (Nat.le_of_ble_eq_true rfl) (gEi_mono h (fun v13 σ11 h r12 => ?_))
    replace h := h r12
    refine ga_istore (ls' := [(4, vI v13), (0, .ref (G.2.1 81)), (1, .ref (G.2.1 32)), (2, vI x2), (3, vI x3)]) dX5_gatherFlows_62 (by decide) rfl ?_
    refine ga_iload 0 dX5_gatherFlows_64 rfl ?_
    refine ga_iconst dX5_gatherFlows_66 ?_
    obtain ⟨ht, hf⟩ := h
    refine ga_icmp_eq (tgt := 77) dX5_gatherFlows_67 (by decide) r12 (by decide) (fun q14 => ?_) (fun q14 => ?_)
    · replace q14 : v13 = (-1) := q14
      have h := ht q14
      refine ga_iinc (ls' := [(3, vI (x3 + 1)), (4, vI v13), (0, .ref (G.2.1 81)), (1, .ref (G.2.1 32)), (2, vI x2)]) 4 dX5_gatherFlows_77 rfl (by decide) rfl ?_
      refine ga_goto (tgt := 41) dX5_gatherFlows_80 (by decide) ?_
      exact ga_sub [2, 3, 4, 0] rfl h
    · replace q14 : ¬ v13 = (-1) := q14
      have h := hf q14
      refine ga_aload_n 1 dX5_gatherFlows_70 rfl rfl ?_
      refine ga_iload 0 dX5_gatherFlows_71 rfl ?_
      refine ga_iload_n 4 dX5_gatherFlows_73 rfl rfl ?_
      refine ga_callVv (z := mX5_noteCell) (As := [vI v13, vI x3]) (rest := []) dX5_gatherFlows_74 wX5_43 qX5_gatherFlows_X5_noteCell rfl ⟨_, rfl, rfl⟩ rfl rfl (Nat.le_of_ble_eq_true rfl) (gEv_mono h (fun σ15 h => ?_))
      refine ga_iinc (ls' := [(3, vI (x3 + 1)), (4, vI v13), (0, .ref (G.2.1 81)), (1, .ref (G.2.1 32)), (2, vI x2)]) 4 dX5_gatherFlows_77 rfl (by decide) rfl ?_
      refine ga_goto (tgt := 41) dX5_gatherFlows_80 (by decide) ?_
      exact ga_sub [2, 3, 4, 0] rfl h
abbrev eX5_queueOf (l : Launch) (G : gG) (x0 : Int) (σ : gS) (Q : Int → gS → Prop) : Prop := gEi l G mX5_queueOf [vI x0] σ Q
set_option maxRecDepth 100000 in
set_option maxHeartbeats 4000000 in
theorem vX5_queueOf {l : Launch} {G : gG} (x0 : Int) (rx0 : gR x0) (σ : gS) (Q : Int → gS → Prop) (h : (gR (((gdiv x0 10) * 6) + (grem x0 10))) ∧ Q (((gdiv x0 10) * 6) + (grem x0 10)) σ) : eX5_queueOf l G x0 σ Q := by
  refine ga_entry rfl (Nat.le_of_ble_eq_true rfl) ?_
  show gAt l G mX5_queueOf (gQi G Q) 0 [(0, vI x0)] [] σ
  refine ga_iload_n 0 dX5_queueOf_0 rfl rfl ?_
  refine ga_bipush dX5_queueOf_1 (by decide) ?_
  refine ga_idiv dX5_queueOf_3 (by decide) (by decide) (fun r1 => ?_)
  refine ga_bipush dX5_queueOf_4 (by decide) ?_
  refine ga_imul dX5_queueOf_6 ?_
  refine ga_iload_n 0 dX5_queueOf_7 rfl rfl ?_
  refine ga_bipush dX5_queueOf_8 (by decide) ?_
  refine ga_irem dX5_queueOf_10 (by decide) (by decide) (fun r2 => ?_)
  refine ga_iadd dX5_queueOf_11 ?_
  obtain ⟨r3, h⟩ := h
  exact ga_iret dX5_queueOf_12 rfl r3 h
abbrev eX5_tellFlow (l : Launch) (G : gG) (x2 : Int) (x3 : Int) (σ : gS) (Q : Int → gS → Prop) : Prop := gEi l G mX5_tellFlow [.ref (G.2.1 81), .ref (G.2.1 32), vI x2, vI x3] σ Q
set_option maxRecDepth 100000 in
set_option maxHeartbeats 4000000 in
theorem vX5_tellFlow {l : Launch} {G : gG} (x2 : Int) (x3 : Int) (rx2 : gR x2) (rx3 : gR x3) (σ : gS) (Q : Int → gS → Prop) (h : (¬ x2 = (-1) → (x2 < 0 → Q (-1) σ) ∧
    (0 ≤ x2 → (x2 < (gI σ 81 0) → (x3 = 0 → (0 ≤ x2 ∧ x2 < 36) ∧ Q (gI σ 82 x2) σ) ∧
        (x3 = 1 → (0 ≤ x2 ∧ x2 < 36) ∧ eX5_queueOf l G (gI σ 82 x2) σ (fun v11 σ9 => gR v11 →
          (0 ≤ v11 ∧ v11 < 36) ∧ Q (gI σ9 83 v11) σ9)) ∧
        (x3 = 2 → (0 ≤ x2 ∧ x2 < 36) ∧ eX5_queueOf l G (gI σ 82 x2) σ (fun v18 σ16 => gR v18 →
          (0 ≤ v18 ∧ v18 < 36) ∧ Q (gI σ16 53 v18) σ16)) ∧
        ((x3 < 0 ∨ 2 < x3) → Q (-1) σ)) ∧
      ((gI σ 81 0) ≤ x2 → Q (-1) σ))) ∧
  (x2 = (-1) → (∀ v30 : Int, v30 = (if x3 = 0 then (gI σ 81 0) else (-1)) →
    Q v30 σ))) : eX5_tellFlow l G x2 x3 σ Q := by
  refine ga_entry rfl (Nat.le_of_ble_eq_true rfl) ?_
  show gAt l G mX5_tellFlow (gQi G Q) 0 [(0, .ref (G.2.1 81)), (1, .ref (G.2.1 32)), (2, vI x2), (3, vI x3)] [] σ
  refine ga_iload_n 2 dX5_tellFlow_0 rfl rfl ?_
  refine ga_iconst dX5_tellFlow_1 ?_
  obtain ⟨ht, hf⟩ := h
  refine ga_icmp_ne (tgt := 18) dX5_tellFlow_2 (by decide) rx2 (by decide) (fun q1 => ?_) (fun q1 => ?_)
  · replace q1 : ¬ x2 = (-1) := q1
    have h := ht q1
    refine ga_iload_n 2 dX5_tellFlow_18 rfl rfl ?_
    obtain ⟨ht, hf⟩ := h
    refine ga_if_lt (tgt := 30) dX5_tellFlow_19 (by decide) rx2 (fun q2 => ?_) (fun q2 => ?_)
    · replace q2 : x2 < 0 := q2
      have h := ht q2
      refine ga_iconst dX5_tellFlow_30 ?_
      exact ga_iret dX5_tellFlow_31 rfl (by decide) h
    · replace q2 : 0 ≤ x2 := (Int.not_lt.mp q2)
      have h := hf q2
      refine ga_iload_n 2 dX5_tellFlow_22 rfl rfl ?_
      refine ga_aload_n 0 dX5_tellFlow_23 rfl rfl ?_
      refine ga_getI (kI := 0) dX5_tellFlow_24 fX5_18 rfl rfl rfl (fun r3 => ?_)
      obtain ⟨ht, hf⟩ := h
      refine ga_icmp_lt (tgt := 32) dX5_tellFlow_27 (by decide) rx2 r3 (fun q4 => ?_) (fun q4 => ?_)
      · replace q4 : x2 < (gI σ 81 0) := q4
        have h := ht q4
        refine ga_iload_n 3 dX5_tellFlow_32 rfl rfl ?_
        obtain ⟨hc21, hc22, hc23, hd⟩ := h
        by_cases q24 : x3 = 0
        · refine ga_tableIn (tgt := 60) (v := 0) dX5_tellFlow_33 q24 (by decide) rfl (by decide) ?_
          have h := hc21 q24
          refine ga_aload_n 0 dX5_tellFlow_60 rfl rfl ?_
          refine ga_getR (kI := 1) (r := 82) dX5_tellFlow_61 fX5_9 rfl rfl (by decide) rfl ?_
          refine ga_iload_n 2 dX5_tellFlow_64 rfl rfl ?_
          obtain ⟨i5, h⟩ := h
          refine ga_iald (nI := 36) dX5_tellFlow_65 rfl rfl i5 (fun r6 => ?_)
          exact ga_iret dX5_tellFlow_66 rfl r6 h
        by_cases q25 : x3 = 1
        · refine ga_tableIn (tgt := 67) (v := 1) dX5_tellFlow_33 q25 (by decide) rfl (by decide) ?_
          have h := hc22 q25
          refine ga_aload_n 0 dX5_tellFlow_67 rfl rfl ?_
          refine ga_getR (kI := 2) (r := 83) dX5_tellFlow_68 fX5_15 rfl rfl (by decide) rfl ?_
          refine ga_aload_n 0 dX5_tellFlow_71 rfl rfl ?_
          refine ga_getR (kI := 1) (r := 82) dX5_tellFlow_72 fX5_9 rfl rfl (by decide) rfl ?_
          refine ga_iload_n 2 dX5_tellFlow_75 rfl rfl ?_
          obtain ⟨i7, h⟩ := h
          refine ga_iald (nI := 36) dX5_tellFlow_76 rfl rfl i7 (fun r8 => ?_)
          refine ga_callSi (z := mX5_queueOf) (As := [vI (gI σ 82 x2)]) (rest := [.ref (G.2.1 83)]) dX5_tellFlow_77 wX5_47 qX5_tellFlow_X5_queueOf rfl rfl (Nat.le_of_ble_eq_true rfl) (gEi_mono h (fun v11 σ9 h r10 => ?_))
          replace h := h r10
          obtain ⟨i12, h⟩ := h
          refine ga_iald (nI := 36) dX5_tellFlow_80 rfl rfl i12 (fun r13 => ?_)
          exact ga_iret dX5_tellFlow_81 rfl r13 h
        by_cases q26 : x3 = 2
        · refine ga_tableIn (tgt := 82) (v := 2) dX5_tellFlow_33 q26 (by decide) rfl (by decide) ?_
          have h := hc23 q26
          refine ga_aload_n 1 dX5_tellFlow_82 rfl rfl ?_
          refine ga_getR (kI := 13) (r := 53) dX5_tellFlow_83 fX5_51 rfl rfl (by decide) rfl ?_
          refine ga_aload_n 0 dX5_tellFlow_86 rfl rfl ?_
          refine ga_getR (kI := 1) (r := 82) dX5_tellFlow_87 fX5_9 rfl rfl (by decide) rfl ?_
          refine ga_iload_n 2 dX5_tellFlow_90 rfl rfl ?_
          obtain ⟨i14, h⟩ := h
          refine ga_iald (nI := 36) dX5_tellFlow_91 rfl rfl i14 (fun r15 => ?_)
          refine ga_callSi (z := mX5_queueOf) (As := [vI (gI σ 82 x2)]) (rest := [.ref (G.2.1 53)]) dX5_tellFlow_92 wX5_47 qX5_tellFlow_X5_queueOf rfl rfl (Nat.le_of_ble_eq_true rfl) (gEi_mono h (fun v18 σ16 h r17 => ?_))
          replace h := h r17
          obtain ⟨i19, h⟩ := h
          refine ga_iald (nI := 36) dX5_tellFlow_95 rfl rfl i19 (fun r20 => ?_)
          exact ga_iret dX5_tellFlow_96 rfl r20 h
        have hdc : (x3 < 0 ∨ 2 < x3) := by omega
        have h := hd hdc
        refine ga_tableOut (tgt := 97) dX5_tellFlow_33 rx3 hdc (by decide) ?_
        refine ga_iconst dX5_tellFlow_97 ?_
        exact ga_iret dX5_tellFlow_98 rfl (by decide) h
      · replace q4 : (gI σ 81 0) ≤ x2 := (Int.not_lt.mp q4)
        have h := hf q4
        refine ga_iconst dX5_tellFlow_30 ?_
        exact ga_iret dX5_tellFlow_31 rfl (by decide) h
  · replace q1 : x2 = (-1) := (Decidable.not_not.mp q1)
    have h := hf q1
    refine ga_iload_n 3 dX5_tellFlow_5 rfl rfl ?_
    have kJ27 : ∀ v30 : Int, gR v30 → v30 = (if x3 = 0 then (gI σ 81 0) else (-1)) → gAt l G mX5_tellFlow (gQi G Q) 17 [(0, .ref (G.2.1 81)), (1, .ref (G.2.1 32)), (2, vI x2), (3, vI x3)] [vI v30] σ := by
      intro v30 rv30 ev30
      replace h := h v30 ev30
      exact ga_iret dX5_tellFlow_17 rfl rv30 h
    replace h : (¬ x3 = 0 → True) ∧
    (x3 = 0 → True) := by repeat (first | exact True.intro | apply And.intro | intro _)
    obtain ⟨ht, hf⟩ := h
    refine ga_if_ne (tgt := 16) dX5_tellFlow_6 (by decide) rx3 (fun q28 => ?_) (fun q28 => ?_)
    · replace q28 : ¬ x3 = 0 := q28
      have h := ht q28
      refine ga_iconst dX5_tellFlow_16 ?_
      exact kJ27 (-1) (by decide) (by rw [if_neg q28])
    · replace q28 : x3 = 0 := (Decidable.not_not.mp q28)
      have h := hf q28
      refine ga_aload_n 0 dX5_tellFlow_9 rfl rfl ?_
      refine ga_getI (kI := 0) dX5_tellFlow_10 fX5_18 rfl rfl rfl (fun r29 => ?_)
      refine ga_goto (tgt := 17) dX5_tellFlow_13 (by decide) ?_
      exact kJ27 (gI σ 81 0) r29 (by rw [if_pos q28])
abbrev eX5_worst (l : Launch) (G : gG)  (σ : gS) (Q : Int → gS → Prop) : Prop := gEi l G mX5_worst [.ref (G.2.1 33)] σ Q
abbrev kX5_worst_4 (l : Launch) (G : gG)  (x1 : Int) (x2 : Int) (σ : gS) (Q : Int → gS → Prop) : Prop := gAt l G mX5_worst (gQi G Q) 4 [(0, .ref (G.2.1 33)), (1, vI x1), (2, vI x2)] [] σ
set_option maxRecDepth 100000 in
set_option maxHeartbeats 4000000 in
theorem vX5_worst {l : Launch} {G : gG}  (σ : gS) (Q : Int → gS → Prop) (h : kX5_worst_4 l G  (-1) 0 σ Q) : eX5_worst l G  σ Q := by
  refine ga_entry rfl (Nat.le_of_ble_eq_true rfl) ?_
  show gAt l G mX5_worst (gQi G Q) 0 [(0, .ref (G.2.1 33))] [] σ
  refine ga_iconst dX5_worst_0 ?_
  refine ga_istore_n (ls' := [(1, vI (-1)), (0, .ref (G.2.1 33))]) dX5_worst_1 rfl (by decide) rfl ?_
  refine ga_iconst dX5_worst_2 ?_
  refine ga_istore_n (ls' := [(2, vI 0), (1, vI (-1)), (0, .ref (G.2.1 33))]) dX5_worst_3 rfl (by decide) rfl ?_
  exact ga_sub [2, 1, 0] rfl h
set_option maxRecDepth 100000 in
set_option maxHeartbeats 4000000 in
theorem vX5_worst_4 {l : Launch} {G : gG}  (x1 : Int) (x2 : Int) (rx1 : gR x1) (rx2 : gR x2) (σ : gS) (Q : Int → gS → Prop) (h : ((gI σ 33 0) ≤ x2 → Q x1 σ) ∧
  (x2 < (gI σ 33 0) → (0 ≤ x2 ∧ x2 < 360) ∧ ((gI σ 38 x2) = (-1) → kX5_worst_4 l G  x1 (x2 + 1) σ Q) ∧
    (¬ (gI σ 38 x2) = (-1) → (x1 = (-1) → kX5_worst_4 l G  x2 (x2 + 1) σ Q) ∧
      (¬ x1 = (-1) → eX0_waitOf l G x2 σ (fun v9 σ7 => gR v9 →
        eX0_waitOf l G x1 σ7 (fun v12 σ10 => gR v12 →
        (v9 ≤ v12 → kX5_worst_4 l G  x1 (x2 + 1) σ10 Q) ∧
        (v12 < v9 → kX5_worst_4 l G  x2 (x2 + 1) σ10 Q))))))) : kX5_worst_4 l G  x1 x2 σ Q := by
  refine ga_iload_n 2 dX5_worst_4 rfl rfl ?_
  refine ga_aload_n 0 dX5_worst_5 rfl rfl ?_
  refine ga_getI (kI := 0) dX5_worst_6 fX5_95 rfl rfl rfl (fun r1 => ?_)
  obtain ⟨ht, hf⟩ := h
  refine ga_icmp_ge (tgt := 48) dX5_worst_9 (by decide) rx2 r1 (fun q2 => ?_) (fun q2 => ?_)
  · replace q2 : (gI σ 33 0) ≤ x2 := q2
    have h := ht q2
    refine ga_iload_n 1 dX5_worst_48 rfl rfl ?_
    exact ga_iret dX5_worst_49 rfl rx1 h
  · replace q2 : x2 < (gI σ 33 0) := (Int.not_le.mp q2)
    have h := hf q2
    refine ga_aload_n 0 dX5_worst_12 rfl rfl ?_
    refine ga_getR (kI := 5) (r := 38) dX5_worst_13 fX5_100 rfl rfl (by decide) rfl ?_
    refine ga_iload_n 2 dX5_worst_16 rfl rfl ?_
    obtain ⟨i3, h⟩ := h
    refine ga_iald (nI := 360) dX5_worst_17 rfl rfl i3 (fun r4 => ?_)
    refine ga_iconst dX5_worst_18 ?_
    obtain ⟨ht, hf⟩ := h
    refine ga_icmp_eq (tgt := 42) dX5_worst_19 (by decide) r4 (by decide) (fun q5 => ?_) (fun q5 => ?_)
    · replace q5 : (gI σ 38 x2) = (-1) := q5
      have h := ht q5
      refine ga_iinc (ls' := [(2, vI (x2 + 1)), (0, .ref (G.2.1 33)), (1, vI x1)]) 2 dX5_worst_42 rfl (by decide) rfl ?_
      refine ga_goto (tgt := 4) dX5_worst_45 (by decide) ?_
      exact ga_sub [1, 2, 0] rfl h
    · replace q5 : ¬ (gI σ 38 x2) = (-1) := q5
      have h := hf q5
      refine ga_iload_n 1 dX5_worst_22 rfl rfl ?_
      refine ga_iconst dX5_worst_23 ?_
      obtain ⟨ht, hf⟩ := h
      refine ga_icmp_eq (tgt := 40) dX5_worst_24 (by decide) rx1 (by decide) (fun q6 => ?_) (fun q6 => ?_)
      · replace q6 : x1 = (-1) := q6
        have h := ht q6
        refine ga_iload_n 2 dX5_worst_40 rfl rfl ?_
        refine ga_istore_n (ls' := [(1, vI x2), (0, .ref (G.2.1 33)), (2, vI x2)]) dX5_worst_41 rfl (by decide) rfl ?_
        refine ga_iinc (ls' := [(2, vI (x2 + 1)), (1, vI x2), (0, .ref (G.2.1 33))]) 2 dX5_worst_42 rfl (by decide) rfl ?_
        refine ga_goto (tgt := 4) dX5_worst_45 (by decide) ?_
        exact ga_sub [2, 1, 0] rfl h
      · replace q6 : ¬ x1 = (-1) := q6
        have h := hf q6
        refine ga_aload_n 0 dX5_worst_27 rfl rfl ?_
        refine ga_iload_n 2 dX5_worst_28 rfl rfl ?_
        refine ga_callVi (z := mX0_waitOf) (As := [vI x2]) (rest := []) dX5_worst_29 wX5_103 qX5_worst_X0_waitOf rfl ⟨_, rfl, rfl⟩ rfl rfl (Nat.le_of_ble_eq_true rfl) (gEi_mono h (fun v9 σ7 h r8 => ?_))
        replace h := h r8
        refine ga_aload_n 0 dX5_worst_32 rfl rfl ?_
        refine ga_iload_n 1 dX5_worst_33 rfl rfl ?_
        refine ga_callVi (z := mX0_waitOf) (As := [vI x1]) (rest := [vI v9]) dX5_worst_34 wX5_103 qX5_worst_X0_waitOf rfl ⟨_, rfl, rfl⟩ rfl rfl (Nat.le_of_ble_eq_true rfl) (gEi_mono h (fun v12 σ10 h r11 => ?_))
        replace h := h r11
        obtain ⟨ht, hf⟩ := h
        refine ga_icmp_le (tgt := 42) dX5_worst_37 (by decide) r8 r11 (fun q13 => ?_) (fun q13 => ?_)
        · replace q13 : v9 ≤ v12 := q13
          have h := ht q13
          refine ga_iinc (ls' := [(2, vI (x2 + 1)), (0, .ref (G.2.1 33)), (1, vI x1)]) 2 dX5_worst_42 rfl (by decide) rfl ?_
          refine ga_goto (tgt := 4) dX5_worst_45 (by decide) ?_
          exact ga_sub [1, 2, 0] rfl h
        · replace q13 : v12 < v9 := (Int.not_le.mp q13)
          have h := hf q13
          refine ga_iload_n 2 dX5_worst_40 rfl rfl ?_
          refine ga_istore_n (ls' := [(1, vI x2), (0, .ref (G.2.1 33)), (2, vI x2)]) dX5_worst_41 rfl (by decide) rfl ?_
          refine ga_iinc (ls' := [(2, vI (x2 + 1)), (1, vI x2), (0, .ref (G.2.1 33))]) 2 dX5_worst_42 rfl (by decide) rfl ?_
          refine ga_goto (tgt := 4) dX5_worst_45 (by decide) ?_
          exact ga_sub [2, 1, 0] rfl h
