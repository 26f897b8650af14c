abbrev eX8_takeBurst (l : Launch) (G : gG) (x1 : Int) (x2 : Int) (σ : gS) (Q : gS → Prop) : Prop := gEv l G mX8_takeBurst [.ref (G.2.1 32), vI x1, vI x2] σ Q
abbrev kX8_takeBurst_8 (l : Launch) (G : gG)  (x1 : Int) (x2 : Int) (x3 : Int) (x4 : Int) (x5 : Int) (σ : gS) (Q : gS → Prop) : Prop := gAt l G mX8_takeBurst (gQv G Q) 8 [(0, .ref (G.2.1 32)), (1, vI x1), (2, vI x2), (3, vI x3), (4, vI x4), (5, vI x5)] [] σ
abbrev kX8_takeBurst_61 (l : Launch) (G : gG)  (x1 : Int) (x2 : Int) (x3 : Int) (x4 : Int) (x5 : Int) (σ : gS) (Q : gS → Prop) : Prop := gAt l G mX8_takeBurst (gQv G Q) 61 [(0, .ref (G.2.1 32)), (1, vI x1), (2, vI x2), (3, vI x3), (4, vI x4), (5, vI x5)] [] σ
set_option maxRecDepth 100000 in
set_option maxHeartbeats 4000000 in
theorem vX8_takeBurst {l : Launch} {G : gG} (x1 : Int) (x2 : Int) (rx1 : gR x1) (rx2 : gR x2) (σ : gS) (Q : gS → Prop) (h : kX8_takeBurst_8 l G  x1 x2 0 1 0 σ Q) : eX8_takeBurst l G x1 x2 σ Q := by
  refine ga_entry rfl (Nat.le_of_ble_eq_true rfl) ?_
  show gAt l G mX8_takeBurst (gQv G Q) 0 [(0, .ref (G.2.1 32)), (1, vI x1), (2, vI x2)] [] σ
  refine ga_iconst dX8_takeBurst_0 ?_
  refine ga_istore_n (ls' := [(3, vI 0), (0, .ref (G.2.1 32)), (1, vI x1), (2, vI x2)]) dX8_takeBurst_1 rfl (by decide) rfl ?_
  refine ga_iconst dX8_takeBurst_2 ?_
  refine ga_istore (ls' := [(4, vI 1), (3, vI 0), (0, .ref (G.2.1 32)), (1, vI x1), (2, vI x2)]) dX8_takeBurst_3 (by decide) rfl ?_
  refine ga_iconst dX8_takeBurst_5 ?_
  refine ga_istore (ls' := [(5, vI 0), (4, vI 1), (3, vI 0), (0, .ref (G.2.1 32)), (1, vI x1), (2, vI x2)]) dX8_takeBurst_6 (by decide) rfl ?_
  exact ga_sub [3, 4, 5, 2, 1, 0] rfl h
set_option maxRecDepth 100000 in
set_option maxHeartbeats 4000000 in
theorem vX8_takeBurst_8 {l : Launch} {G : gG}  (x1 : Int) (x2 : Int) (x3 : Int) (x4 : Int) (x5 : Int) (rx1 : gR x1) (rx2 : gR x2) (rx3 : gR x3) (rx4 : gR x4) (rx5 : gR x5) (σ : gS) (Q : gS → Prop) (h : ((gI σ 32 3) ≤ x5 → kX8_takeBurst_61 l G  x1 x2 x3 x4 ((gI σ 32 3) - 1) σ Q) ∧
  (x5 < (gI σ 32 3) → (x4 = 0 → kX8_takeBurst_61 l G  x1 x2 x3 x4 ((gI σ 32 3) - 1) σ Q) ∧
    (¬ x4 = 0 → eX11_holds l G x2 x5 σ (fun v8 σ6 => (v8 = 0 ∨ v8 = 1) →
      (v8 = 0 → kX8_takeBurst_8 l G  x1 x2 x3 x4 (x5 + 1) σ6 Q) ∧
      (¬ v8 = 0 → eX8_takeCell l G x1 x5 σ6 (fun v14 σ12 => (v14 = 0 ∨ v14 = 1) →
        kX8_takeBurst_8 l G  x1 x2 (gor x3 (gshl 1 x5)) v14 (x5 + 1) σ12 Q)))))) : kX8_takeBurst_8 l G  x1 x2 x3 x4 x5 σ Q := by
  refine ga_iload 5 dX8_takeBurst_8 rfl ?_
  refine ga_aload_n 0 dX8_takeBurst_10 rfl rfl ?_
  refine ga_getI (kI := 3) dX8_takeBurst_11 fX8_32 rfl rfl rfl (fun r1 => ?_)
  obtain ⟨ht, hf⟩ := h
  refine ga_icmp_ge (tgt := 53) dX8_takeBurst_14 (by decide) rx5 r1 (fun q2 => ?_) (fun q2 => ?_)
  · replace q2 : (gI σ 32 3) ≤ x5 := q2
    have h := ht q2
    refine ga_aload_n 0 dX8_takeBurst_53 rfl rfl ?_
    refine ga_getI (kI := 3) dX8_takeBurst_54 fX8_32 rfl rfl rfl (fun r3 => ?_)
    refine ga_iconst dX8_takeBurst_57 ?_
    refine ga_isub dX8_takeBurst_58 ?_
    refine ga_istore (ls' := [(5, vI ((gI σ 32 3) - 1)), (0, .ref (G.2.1 32)), (1, vI x1), (2, vI x2), (3, vI x3), (4, vI x4)]) dX8_takeBurst_59 (by decide) rfl ?_
    exact ga_sub [1, 2, 3, 4, 5, 0] rfl h
  · replace q2 : x5 < (gI σ 32 3) := (Int.not_le.mp q2)
    have h := hf q2
    refine ga_iload 4 dX8_takeBurst_17 rfl ?_
    obtain ⟨ht, hf⟩ := h
    refine ga_if_eq (tgt := 53) dX8_takeBurst_19 (by decide) rx4 (fun q4 => ?_) (fun q4 => ?_)
    · replace q4 : x4 = 0 := q4
      have h := ht q4
      refine ga_aload_n 0 dX8_takeBurst_53 rfl rfl ?_
      refine ga_getI (kI := 3) dX8_takeBurst_54 fX8_32 rfl rfl rfl (fun r5 => ?_)
      refine ga_iconst dX8_takeBurst_57 ?_
      refine ga_isub dX8_takeBurst_58 ?_
      refine ga_istore (ls' := [(5, vI ((gI σ 32 3) - 1)), (0, .ref (G.2.1 32)), (1, vI x1), (2, vI x2), (3, vI x3), (4, vI x4)]) dX8_takeBurst_59 (by decide) rfl ?_
      exact ga_sub [1, 2, 3, 4, 5, 0] rfl h
    · replace q4 : ¬ x4 = 0 := q4
      have h := hf q4
      refine ga_iload_n 2 dX8_takeBurst_22 rfl rfl ?_
      refine ga_iload 5 dX8_takeBurst_23 rfl ?_
      refine ga_callNz (z := mX11_holds) (As := [vI x2, vI x5]) (rest := []) dX8_takeBurst_25 wX8_121 qX8_takeBurst_X11_holds rfl rfl (Nat.le_of_ble_eq_true rfl) (gEz_mono h (fun v8 σ6 h r7 => ?_))
      replace h := h r7
      obtain ⟨ht, hf⟩ := h
      refine ga_if_eq (tgt := 47) dX8_takeBurst_28 (by decide) (gR_01 r7) (fun q9 => ?_) (fun q9 => ?_)
      · replace q9 : v8 = 0 := q9
        have h := ht q9
        refine ga_iinc (ls' := [(5, vI (x5 + 1)), (0, .ref (G.2.1 32)), (1, vI x1), (2, vI x2), (3, vI x3), (4, vI x4)]) 5 dX8_takeBurst_47 rfl (by decide) rfl ?_
        refine ga_goto (tgt := 8) dX8_takeBurst_50 (by decide) ?_
        exact ga_sub [1, 2, 3, 4, 5, 0] rfl h
      · replace q9 : ¬ v8 = 0 := q9
        have h := hf q9
        refine ga_iload_n 3 dX8_takeBurst_31 rfl rfl ?_
        refine ga_iconst dX8_takeBurst_32 ?_
        refine ga_iload 5 dX8_takeBurst_33 rfl ?_
        refine ga_ishl dX8_takeBurst_35 (fun r10 => ?_)
        refine ga_ior dX8_takeBurst_36 (fun r11 => ?_)
        refine ga_istore_n (ls' := [(3, vI (gor x3 (gshl 1 x5))), (0, .ref (G.2.1 32)), (1, vI x1), (2, vI x2), (4, vI x4), (5, vI x5)]) dX8_takeBurst_37 rfl (by decide) rfl ?_
        refine ga_aload_n 1 dX8_takeBurst_38 rfl rfl ?_
        refine ga_iload_n 2 dX8_takeBurst_39 rfl rfl ?_
        refine ga_iload 5 dX8_takeBurst_40 rfl ?_
        refine ga_callVz (z := mX8_takeCell) (As := [vI x1, vI x5]) (rest := []) dX8_takeBurst_42 wX8_125 qX8_takeBurst_X8_takeCell rfl ⟨_, rfl, rfl⟩ rfl rfl (Nat.le_of_ble_eq_true rfl) (gEz_mono h (fun v14 σ12 h r13 => ?_))
        replace h := h r13
        refine ga_istore (ls' := [(4, vI v14), (3, vI (gor x3 (gshl 1 x5))), (0, .ref (G.2.1 32)), (1, vI x1), (2, vI x2), (5, vI x5)]) dX8_takeBurst_45 (by decide) rfl ?_
        refine ga_iinc (ls' := [(5, vI (x5 + 1)), (4, vI v14), (3, vI (gor x3 (gshl 1 x5))), (0, .ref (G.2.1 32)), (1, vI x1), (2, vI x2)]) 5 dX8_takeBurst_47 rfl (by decide) rfl ?_
        refine ga_goto (tgt := 8) dX8_takeBurst_50 (by decide) ?_
        exact ga_sub [3, 4, 5, 2, 1, 0] rfl h
set_option maxRecDepth 100000 in
set_option maxHeartbeats 4000000 in
theorem vX8_takeBurst_61 {l : Launch} {G : gG}  (x1 : Int) (x2 : Int) (x3 : Int) (x4 : Int) (x5 : Int) (rx1 : gR x1) (rx2 : gR x2) (rx3 : gR x3) (rx4 : gR x4) (rx5 : gR x5) (σ : gS) (Q : gS → Prop) (h : (x5 < 0 → Q σ) ∧
  (0 ≤ x5 → eX11_holds l G x3 x5 σ (fun v18 σ16 => (v18 = 0 ∨ v18 = 1) →
    (v18 = 0 → kX8_takeBurst_61 l G  x1 x2 x3 x4 (x5 + (-1)) σ16 Q) ∧
    (¬ v18 = 0 → (gR ((gI σ16 32 10) + 1)) ∧ ∀ σ21, σ21 = sI σ16 32 10 ((gI σ16 32 10) + 1) →
      (0 ≤ x5 ∧ x5 < 6) ∧ ∀ σ25, σ25 = sI σ21 51 x5 (gI σ21 32 10) →
      kX8_takeBurst_61 l G  x1 x2 x3 x4 (x5 + (-1)) σ25 Q)))) : kX8_takeBurst_61 l G  x1 x2 x3 x4 x5 σ Q := by
  refine ga_iload 5 dX8_takeBurst_61 rfl ?_
  obtain ⟨ht, hf⟩ := h
  refine ga_if_lt (tgt := 102) dX8_takeBurst_63 (by decide) rx5 (fun q15 => ?_) (fun q15 => ?_)
  · replace q15 : x5 < 0 := q15
    have h := ht q15
    exact ga_vret dX8_takeBurst_102 rfl h
  · replace q15 : 0 ≤ x5 := (Int.not_lt.mp q15)
    have h := hf q15
    refine ga_iload_n 3 dX8_takeBurst_66 rfl rfl ?_
    refine ga_iload 5 dX8_takeBurst_67 rfl ?_
    refine ga_callNz (z := mX11_holds) (As := [vI x3, vI x5]) (rest := []) dX8_takeBurst_69 wX8_121 qX8_takeBurst_X11_holds rfl rfl (Nat.le_of_ble_eq_true rfl) (gEz_mono h (fun v18 σ16 h r17 => ?_))
    replace h := h r17
    obtain ⟨ht, hf⟩ := h
    refine ga_if_eq (tgt := 96) dX8_takeBurst_72 (by decide) (gR_01 r17) (fun q19 => ?_) (fun q19 => ?_)
    · replace q19 : v18 = 0 := q19
      have h := ht q19
      refine ga_iinc (ls' := [(5, vI (x5 + (-1))), (0, .ref (G.2.1 32)), (1, vI x1), (2, vI x2), (3, vI x3), (4, vI x4)]) 5 dX8_takeBurst_96 rfl (by decide) rfl ?_
      refine ga_goto (tgt := 61) dX8_takeBurst_99 (by decide) ?_
      exact ga_sub [1, 2, 3, 4, 5, 0] rfl h
    · replace q19 : ¬ v18 = 0 := q19
      have h := hf q19
      refine ga_aload_n 0 dX8_takeBurst_75 rfl rfl ?_
      refine ga_dup dX8_takeBurst_76 rfl ?_
      refine ga_getI (kI := 10) dX8_takeBurst_77 fX8_101 rfl rfl rfl (fun r20 => ?_)
      refine ga_iconst dX8_takeBurst_80 ?_
      refine ga_iadd dX8_takeBurst_81 ?_
      obtain ⟨r22, h⟩ := h
      obtain ⟨σ21, eσ21⟩ : ∃ z, z = sI σ16 32 10 ((gI σ16 32 10) + 1) := ⟨_, rfl⟩
      replace h := h σ21 eσ21
      refine ga_putI (kI := 10) dX8_takeBurst_82 fX8_101 pX8_10 rfl rfl rfl r22 eσ21 ?_
      refine ga_aload_n 0 dX8_takeBurst_85 rfl rfl ?_
      refine ga_getR (kI := 11) (r := 51) dX8_takeBurst_86 fX8_36 rfl rfl (by decide) rfl ?_
      refine ga_iload 5 dX8_takeBurst_89 rfl ?_
      refine ga_aload_n 0 dX8_takeBurst_91 rfl rfl ?_
      refine ga_getI (kI := 10) dX8_takeBurst_92 fX8_101 rfl rfl rfl (fun r23 => ?_)
      obtain ⟨i24, h⟩ := h
      obtain ⟨σ25, eσ25⟩ : ∃ z, z = sI σ21 51 x5 (gI σ21 32 10) := ⟨_, rfl⟩
      replace h := h σ25 eσ25
      refine ga_iast (nI := 6) dX8_takeBurst_95 rfl rfl i24 r23 eσ25 ?_
      refine ga_iinc (ls' := [(5, vI (x5 + (-1))), (0, .ref (G.2.1 32)), (1, vI x1), (2, vI x2), (3, vI x3), (4, vI x4)]) 5 dX8_takeBurst_96 rfl (by decide) rfl ?_
      refine ga_goto (tgt := 61) dX8_takeBurst_99 (by decide) ?_
      exact ga_sub [1, 2, 3, 4, 5, 0] rfl h
abbrev eX8_bring (l : Launch) (G : gG) (x1 : Int) (x2 : Int) (x3 : Int) (σ : gS) (Q : Int → gS → Prop) : Prop := gEz l G mX8_bring [.ref (G.2.1 32), vI x1, vI x2, vI x3] σ Q
set_option maxRecDepth 100000 in
set_option maxHeartbeats 4000000 in
theorem vX8_bring {l : Launch} {G : gG} (x1 : Int) (x2 : Int) (x3 : Int) (rx1 : gR x1) (rx2 : gR x2) (rx3 : gR x3) (σ : gS) (Q : Int → gS → Prop) (h : (∀ v4 : Int, v4 = (if x1 = 2 then (gshl 1 x3) else x3) →
  (x2 < 0 → Q 0 σ) ∧
    (0 ≤ x2 → ((gI σ 32 3) ≤ x2 → Q 0 σ) ∧
      (x2 < (gI σ 32 3) → (¬ (gshr v4 (gI σ 32 3)) = 0 → Q 0 σ) ∧
        ((gshr v4 (gI σ 32 3)) = 0 → eX11_holds l G (gI σ 32 6) x2 σ (fun v14 σ12 => (v14 = 0 ∨ v14 = 1) →
          (v14 = 0 → ∀ σ19, σ19 = sI σ12 32 6 (gor (gI σ12 32 6) (gshl 1 x2)) →
            (¬ x1 = 2 → (¬ x1 = 3 → eX8_takeBurst l G x2 x3 σ19 (fun σ22 =>
                Q 1 σ22)) ∧
              (x1 = 3 → eX8_takeFan l G x2 x3 σ19 (fun σ24 =>
                Q 1 σ24))) ∧
            (x1 = 2 → eX8_takeCell l G x2 x3 σ19 (fun v28 σ26 => (v28 = 0 ∨ v28 = 1) →
              Q 1 σ26))) ∧
          (¬ v14 = 0 → Q 0 σ12))))))) : eX8_bring l G x1 x2 x3 σ Q := by
  refine ga_entry rfl (Nat.le_of_ble_eq_true rfl) ?_
  show gAt l G mX8_bring (gQz G Q) 0 [(0, .ref (G.2.1 32)), (1, vI x1), (2, vI x2), (3, vI x3)] [] σ
  refine ga_iload_n 1 dX8_bring_0 rfl rfl ?_
  refine ga_iconst dX8_bring_1 ?_
  have kJ1 : ∀ v4 : Int, gR v4 → v4 = (if x1 = 2 then (gshl 1 x3) else x3) → gAt l G mX8_bring (gQz G Q) 12 [(0, .ref (G.2.1 32)), (1, vI x1), (2, vI x2), (3, vI x3)] [vI v4] σ := by
    intro v4 rv4 ev4
    replace h := h v4 ev4
    refine ga_istore (ls' := [(4, vI v4), (0, .ref (G.2.1 32)), (1, vI x1), (2, vI x2), (3, vI x3)]) dX8_bring_12 (by decide) rfl ?_
    refine ga_iload_n 3 dX8_bring_14 rfl rfl ?_
    obtain ⟨ht, hf⟩ := h
    refine ga_if_lt (tgt := 47) dX8_bring_15 (by decide) rx2 (fun q5 => ?_) (fun q5 => ?_)
    · replace q5 : x2 < 0 := q5
      have h := ht q5
      refine ga_iconst dX8_bring_47 ?_
      exact ga_bret dX8_bring_48 rfl (Or.inl rfl) h
    · replace q5 : 0 ≤ x2 := (Int.not_lt.mp q5)
      have h := hf q5
      refine ga_iload_n 3 dX8_bring_18 rfl rfl ?_
      refine ga_aload_n 1 dX8_bring_19 rfl rfl ?_
      refine ga_getI (kI := 3) dX8_bring_20 fX8_32 rfl rfl rfl (fun r6 => ?_)
      obtain ⟨ht, hf⟩ := h
      refine ga_icmp_ge (tgt := 47) dX8_bring_23 (by decide) rx2 r6 (fun q7 => ?_) (fun q7 => ?_)
      · replace q7 : (gI σ 32 3) ≤ x2 := q7
        have h := ht q7
        refine ga_iconst dX8_bring_47 ?_
        exact ga_bret dX8_bring_48 rfl (Or.inl rfl) h
      · replace q7 : x2 < (gI σ 32 3) := (Int.not_le.mp q7)
        have h := hf q7
        refine ga_iload 0 dX8_bring_26 rfl ?_
        refine ga_aload_n 1 dX8_bring_28 rfl rfl ?_
        refine ga_getI (kI := 3) dX8_bring_29 fX8_32 rfl rfl rfl (fun r8 => ?_)
        refine ga_ishr dX8_bring_32 (fun r9 => ?_)
        obtain ⟨ht, hf⟩ := h
        refine ga_if_ne (tgt := 47) dX8_bring_33 (by decide) r9 (fun q10 => ?_) (fun q10 => ?_)
        · replace q10 : ¬ (gshr v4 (gI σ 32 3)) = 0 := q10
          have h := ht q10
          refine ga_iconst dX8_bring_47 ?_
          exact ga_bret dX8_bring_48 rfl (Or.inl rfl) h
        · replace q10 : (gshr v4 (gI σ 32 3)) = 0 := (Decidable.not_not.mp q10)
          have h := hf q10
          refine ga_aload_n 1 dX8_bring_36 rfl rfl ?_
          refine ga_getI (kI := 6) dX8_bring_37 fX8_89 rfl rfl rfl (fun r11 => ?_)
          refine ga_iload_n 3 dX8_bring_40 rfl rfl ?_
          refine ga_callNz (z := mX11_holds) (As := [vI (gI σ 32 6), vI x2]) (rest := []) dX8_bring_41 wX8_121 qX8_bring_X11_holds rfl rfl (Nat.le_of_ble_eq_true rfl) (gEz_mono h (fun v14 σ12 h r13 => ?_))
          replace h := h r13
          obtain ⟨ht, hf⟩ := h
          refine ga_if_eq (tgt := 49) dX8_bring_44 (by decide) (gR_01 r13) (fun q15 => ?_) (fun q15 => ?_)
          · replace q15 : v14 = 0 := q15
            have h := ht q15
            refine ga_aload_n 1 dX8_bring_49 rfl rfl ?_
            refine ga_dup dX8_bring_50 rfl ?_
            refine ga_getI (kI := 6) dX8_bring_51 fX8_89 rfl rfl rfl (fun r16 => ?_)
            refine ga_iconst dX8_bring_54 ?_
            refine ga_iload_n 3 dX8_bring_55 rfl rfl ?_
            refine ga_ishl dX8_bring_56 (fun r17 => ?_)
            refine ga_ior dX8_bring_57 (fun r18 => ?_)
            obtain ⟨σ19, eσ19⟩ : ∃ z, z = sI σ12 32 6 (gor (gI σ12 32 6) (gshl 1 x2)) := ⟨_, rfl⟩
            replace h := h σ19 eσ19
            refine ga_putI (kI := 6) dX8_bring_58 fX8_89 pX8_6 rfl rfl rfl r18 eσ19 ?_
            refine ga_iload_n 2 dX8_bring_61 rfl rfl ?_
            refine ga_iconst dX8_bring_62 ?_
            obtain ⟨ht, hf⟩ := h
            refine ga_icmp_ne (tgt := 76) dX8_bring_63 (by decide) rx1 (by decide) (fun q20 => ?_) (fun q20 => ?_)
            · replace q20 : ¬ x1 = 2 := q20
              have h := ht q20
              refine ga_iload_n 2 dX8_bring_76 rfl rfl ?_
              refine ga_iconst dX8_bring_77 ?_
              obtain ⟨ht, hf⟩ := h
              refine ga_icmp_ne (tgt := 90) dX8_bring_78 (by decide) rx1 (by decide) (fun q21 => ?_) (fun q21 => ?_)
              · replace q21 : ¬ x1 = 3 := q21
                have h := ht q21
                refine ga_aload_n 1 dX8_bring_90 rfl rfl ?_
                refine ga_iload_n 3 dX8_bring_91 rfl rfl ?_
                refine ga_iload_n 4 dX8_bring_92 rfl rfl ?_
                refine ga_callVv (z := mX8_takeBurst) (As := [vI x2, vI x3]) (rest := []) dX8_bring_93 wX8_131 qX8_bring_X8_takeBurst rfl ⟨_, rfl, rfl⟩ rfl rfl (Nat.le_of_ble_eq_true rfl) (gEv_mono h (fun σ22 h => ?_))
                refine ga_iconst dX8_bring_96 ?_
                exact ga_bret dX8_bring_97 rfl (Or.inr rfl) h
              · replace q21 : x1 = 3 := (Decidable.not_not.mp q21)
                have h := hf q21
                refine ga_aload_n 1 dX8_bring_81 rfl rfl ?_
                refine ga_iload_n 3 dX8_bring_82 rfl rfl ?_
                refine ga_iload_n 4 dX8_bring_83 rfl rfl ?_
                refine ga_callVv (z := mX8_takeFan) (As := [vI x2, vI x3]) (rest := []) dX8_bring_84 wX8_128 qX8_bring_X8_takeFan rfl ⟨_, rfl, rfl⟩ rfl rfl (Nat.le_of_ble_eq_true rfl) (gEv_mono h (fun σ24 h => ?_))
                refine ga_goto (tgt := 96) dX8_bring_87 (by decide) ?_
                refine ga_iconst dX8_bring_96 ?_
                exact ga_bret dX8_bring_97 rfl (Or.inr rfl) h
            · replace q20 : x1 = 2 := (Decidable.not_not.mp q20)
              have h := hf q20
              refine ga_aload_n 1 dX8_bring_66 rfl rfl ?_
              refine ga_iload_n 3 dX8_bring_67 rfl rfl ?_
              refine ga_iload_n 4 dX8_bring_68 rfl rfl ?_
              refine ga_callVz (z := mX8_takeCell) (As := [vI x2, vI x3]) (rest := []) dX8_bring_69 wX8_125 qX8_bring_X8_takeCell rfl ⟨_, rfl, rfl⟩ rfl rfl (Nat.le_of_ble_eq_true rfl) (gEz_mono h (fun v28 σ26 h r27 => ?_))
              replace h := h r27
              refine ga_pop dX8_bring_72 rfl ?_
              refine ga_goto (tgt := 96) dX8_bring_73 (by decide) ?_
              refine ga_iconst dX8_bring_96 ?_
              exact ga_bret dX8_bring_97 rfl (Or.inr rfl) h
          · replace q15 : ¬ v14 = 0 := q15
            have h := hf q15
            refine ga_iconst dX8_bring_47 ?_
            exact ga_bret dX8_bring_48 rfl (Or.inl rfl) h
  replace h : (¬ x1 = 2 → True) ∧
  (x1 = 2 → True) := by repeat (first | exact True.intro | apply And.intro | intro _)
  obtain ⟨ht, hf⟩ := h
  refine ga_icmp_ne (tgt := 11) dX8_bring_2 (by decide) rx1 (by decide) (fun q2 => ?_) (fun q2 => ?_)
  · replace q2 : ¬ x1 = 2 := q2
    have h := ht q2
    refine ga_iload_n 3 dX8_bring_11 rfl rfl ?_
    exact kJ1 x3 rx3 (by rw [if_neg q2])
  · replace q2 : x1 = 2 := (Decidable.not_not.mp q2)
    have h := hf q2
    refine ga_iconst dX8_bring_5 ?_
    refine ga_iload_n 3 dX8_bring_6 rfl rfl ?_
    refine ga_ishl dX8_bring_7 (fun r3 => ?_)
    refine ga_goto (tgt := 12) dX8_bring_8 (by decide) ?_
    exact kJ1 (gshl 1 x3) r3 (by rw [if_pos q2])
abbrev eX8_follow (l : Launch) (G : gG) (x2 : Int) (x3 : Int) (σ : gS) (Q : Int → gS → Prop) : Prop := gEi l G mX8_follow [.ref (G.2.1 32), .ref (G.2.1 1), vI x2, vI x3] σ Q
abbrev kX8_follow_15 (l : Launch) (G : gG)  (x2 : Int) (x3 : Int) (x4 : Int) (x5 : Int) (σ : gS) (Q : Int → gS → Prop) : Prop := gAt l G mX8_follow (gQi G Q) 15 [(0, .ref (G.2.1 32)), (1, .ref (G.2.1 1)), (2, vI x2), (3, vI x3), (4, vI x4), (5, vI x5)] [] σ
abbrev kX8_follow_67 (l : Launch) (G : gG)  (x2 : Int) (x3 : Int) (x4 : Int) (x5 : Int) (x6 : Int) (x7 : Int) (x8 : Int) (x9 : Int) (x10 : Int) (σ : gS) (Q : Int → gS → Prop) : Prop := gAt l G mX8_follow (gQi G Q) 67 [(0, .ref (G.2.1 32)), (1, .ref (G.2.1 1)), (2, vI x2), (3, vI x3), (4, vI x4), (5, vI x5), (6, vI x6), (7, vI x7), (8, vI x8), (9, vI x9), (10, vI x10)] [] σ
set_option maxRecDepth 100000 in
set_option maxHeartbeats 4000000 in
theorem vX8_follow {l : Launch} {G : gG} (x2 : Int) (x3 : Int) (rx2 : gR x2) (rx3 : gR x3) (σ : gS) (Q : Int → gS → Prop) (h : eX10_lineCount l G 1 x2 σ (fun v3 σ1 => gR v3 →
  kX8_follow_15 l G  x2 x3 (min x3 v3) 0 σ1 Q)) : eX8_follow l G x2 x3 σ Q := by
  refine ga_entry rfl (Nat.le_of_ble_eq_true rfl) ?_
  show gAt l G mX8_follow (gQi G Q) 0 [(0, .ref (G.2.1 32)), (1, .ref (G.2.1 1)), (2, vI x2), (3, vI x3)] [] σ
  refine ga_iload_n 3 dX8_follow_0 rfl rfl ?_
  refine ga_aload_n 1 dX8_follow_1 rfl rfl ?_
  refine ga_iconst dX8_follow_2 ?_
  refine ga_iload_n 2 dX8_follow_3 rfl rfl ?_
  refine ga_callVi (z := mX10_lineCount) (As := [vI 1, vI x2]) (rest := [vI x3]) dX8_follow_4 wX8_104 qX8_follow_X10_lineCount rfl ⟨_, rfl, rfl⟩ rfl rfl (Nat.le_of_ble_eq_true rfl) (gEi_mono h (fun v3 σ1 h r2 => ?_))
  replace h := h r2
  refine ga_min dX8_follow_7 wX8_75 (by decide) (Nat.le_of_ble_eq_true rfl) rx3 r2 ?_
  refine ga_istore (ls' := [(4, vI (min x3 v3)), (0, .ref (G.2.1 32)), (1, .ref (G.2.1 1)), (2, vI x2), (3, vI x3)]) dX8_follow_10 (by decide) rfl ?_
  refine ga_iconst dX8_follow_12 ?_
  refine ga_istore (ls' := [(5, vI 0), (4, vI (min x3 v3)), (0, .ref (G.2.1 32)), (1, .ref (G.2.1 1)), (2, vI x2), (3, vI x3)]) dX8_follow_13 (by decide) rfl ?_
  exact ga_sub [2, 3, 4, 5, 1, 0] rfl h
set_option maxRecDepth 100000 in
set_option maxHeartbeats 4000000 in
theorem vX8_follow_15 {l : Launch} {G : gG}  (x2 : Int) (x3 : Int) (x4 : Int) (x5 : Int) (rx2 : gR x2) (rx3 : gR x3) (rx4 : gR x4) (rx5 : gR x5) (σ : gS) (Q : Int → gS → Prop) (h : (x4 ≤ x5 → Q x4 σ) ∧
  (x5 < x4 → eX10_line l G 1 x2 x5 0 σ (fun v7 σ5 => gR v7 →
    eX10_line l G 1 x2 x5 1 σ5 (fun v10 σ8 => gR v10 →
    eX10_line l G 1 x2 x5 2 σ8 (fun v13 σ11 => gR v13 →
    eX8_slotsOf l G v7 v10 σ11 (fun v16 σ14 => gR v16 →
    kX8_follow_67 l G  x2 x3 x4 x5 v7 v10 v13 v16 0 σ14 Q)))))) : kX8_follow_15 l G  x2 x3 x4 x5 σ Q := by
  refine ga_iload 5 dX8_follow_15 rfl ?_
  refine ga_iload 4 dX8_follow_17 rfl ?_
  obtain ⟨ht, hf⟩ := h
  refine ga_icmp_ge (tgt := 111) dX8_follow_19 (by decide) rx5 rx4 (fun q4 => ?_) (fun q4 => ?_)
  · replace q4 : x4 ≤ x5 := q4
    have h := ht q4
    refine ga_iload 4 dX8_follow_111 rfl ?_
    exact ga_iret dX8_follow_113 rfl rx4 h
  · replace q4 : x5 < x4 := (Int.not_le.mp q4)
    have h := hf q4
    refine ga_aload_n 1 dX8_follow_22 rfl rfl ?_
    refine ga_iconst dX8_follow_23 ?_
    refine ga_iload_n 2 dX8_follow_24 rfl rfl ?_
    refine ga_iload 5 dX8_follow_25 rfl ?_
    refine ga_iconst dX8_follow_27 ?_
    refine ga_callVi (z := mX10_line) (As := [vI 1, vI x2, vI x5, vI 0]) (rest := []) dX8_follow_28 wX8_107 qX8_follow_X10_line rfl ⟨_, rfl, rfl⟩ rfl rfl (Nat.le_of_ble_eq_true rfl) (gEi_mono h (fun v7 σ5 h r6 => ?_))
    replace h := h r6
    refine ga_istore (ls' := [(6, vI v7), (0, .ref (G.2.1 32)), (1, .ref (G.2.1 1)), (2, vI x2), (3, vI x3), (4, vI x4), (5, vI x5)]) dX8_follow_31 (by decide) rfl ?_
    refine ga_aload_n 2 dX8_follow_33 rfl rfl ?_
    refine ga_iconst dX8_follow_34 ?_
    refine ga_iload_n 3 dX8_follow_35 rfl rfl ?_
    refine ga_iload 6 dX8_follow_36 rfl ?_
    refine ga_iconst dX8_follow_38 ?_
    refine ga_callVi (z := mX10_line) (As := [vI 1, vI x2, vI x5, vI 1]) (rest := []) dX8_follow_39 wX8_107 qX8_follow_X10_line rfl ⟨_, rfl, rfl⟩ rfl rfl (Nat.le_of_ble_eq_true rfl) (gEi_mono h (fun v10 σ8 h r9 => ?_))
    replace h := h r9
    refine ga_istore (ls' := [(7, vI v10), (6, vI v7), (0, .ref (G.2.1 32)), (1, .ref (G.2.1 1)), (2, vI x2), (3, vI x3), (4, vI x4), (5, vI x5)]) dX8_follow_42 (by decide) rfl ?_
    refine ga_aload_n 3 dX8_follow_44 rfl rfl ?_
    refine ga_iconst dX8_follow_45 ?_
    refine ga_iload_n 4 dX8_follow_46 rfl rfl ?_
    refine ga_iload 7 dX8_follow_47 rfl ?_
    refine ga_iconst dX8_follow_49 ?_
    refine ga_callVi (z := mX10_line) (As := [vI 1, vI x2, vI x5, vI 2]) (rest := []) dX8_follow_50 wX8_107 qX8_follow_X10_line rfl ⟨_, rfl, rfl⟩ rfl rfl (Nat.le_of_ble_eq_true rfl) (gEi_mono h (fun v13 σ11 h r12 => ?_))
    replace h := h r12
    refine ga_istore (ls' := [(8, vI v13), (7, vI v10), (6, vI v7), (0, .ref (G.2.1 32)), (1, .ref (G.2.1 1)), (2, vI x2), (3, vI x3), (4, vI x4), (5, vI x5)]) dX8_follow_53 (by decide) rfl ?_
    refine ga_iload 2 dX8_follow_55 rfl ?_
    refine ga_iload 1 dX8_follow_57 rfl ?_
    refine ga_callSi (z := mX8_slotsOf) (As := [vI v7, vI v10]) (rest := []) dX8_follow_59 wX8_111 qX8_follow_X8_slotsOf rfl rfl (Nat.le_of_ble_eq_true rfl) (gEi_mono h (fun v16 σ14 h r15 => ?_))
    replace h := h r15
    refine ga_istore (ls' := [(9, vI v16), (8, vI v13), (7, vI v10), (6, vI v7), (0, .ref (G.2.1 32)), (1, .ref (G.2.1 1)), (2, vI x2), (3, vI x3), (4, vI x4), (5, vI x5)]) dX8_follow_62 (by decide) rfl ?_
    refine ga_iconst dX8_follow_64 ?_
    refine ga_istore (ls' := [(10, vI 0), (9, vI v16), (8, vI v13), (7, vI v10), (6, vI v7), (0, .ref (G.2.1 32)), (1, .ref (G.2.1 1)), (2, vI x2), (3, vI x3), (4, vI x4), (5, vI x5)]) dX8_follow_65 (by decide) rfl ?_
    exact ga_sub [5, 6, 7, 8, 9, 10, 4, 3, 2, 1, 0] rfl h
set_option maxRecDepth 100000 in
set_option maxHeartbeats 4000000 in
theorem vX8_follow_67 {l : Launch} {G : gG}  (x2 : Int) (x3 : Int) (x4 : Int) (x5 : Int) (x6 : Int) (x7 : Int) (x8 : Int) (x9 : Int) (x10 : Int) (rx2 : gR x2) (rx3 : gR x3) (rx4 : gR x4) (rx5 : gR x5) (rx6 : gR x6) (rx7 : gR x7) (rx8 : gR x8) (rx9 : gR x9) (rx10 : gR x10) (σ : gS) (Q : Int → gS → Prop) (h : (x9 ≤ x10 → (¬ x9 = 0 → kX8_follow_15 l G  x2 x3 x4 (x5 + 1) σ Q) ∧
    (x9 = 0 → eX8_bring l G x6 x7 x8 σ (fun v21 σ19 => (v21 = 0 ∨ v21 = 1) →
      (¬ v21 = 0 → kX8_follow_15 l G  x2 x3 x4 (x5 + 1) σ19 Q) ∧
      (v21 = 0 → Q x5 σ19)))) ∧
  (x10 < x9 → eX8_passSlot l G  σ (fun σ23 =>
    kX8_follow_67 l G  x2 x3 x4 x5 x6 x7 x8 x9 (x10 + 1) σ23 Q))) : kX8_follow_67 l G  x2 x3 x4 x5 x6 x7 x8 x9 x10 σ Q := by
  refine ga_iload 10 dX8_follow_67 rfl ?_
  refine ga_iload 9 dX8_follow_69 rfl ?_
  obtain ⟨ht, hf⟩ := h
  refine ga_icmp_ge (tgt := 84) dX8_follow_71 (by decide) rx10 rx9 (fun q17 => ?_) (fun q17 => ?_)
  · replace q17 : x9 ≤ x10 := q17
    have h := ht q17
    refine ga_iload 9 dX8_follow_84 rfl ?_
    obtain ⟨ht, hf⟩ := h
    refine ga_if_ne (tgt := 105) dX8_follow_86 (by decide) rx9 (fun q18 => ?_) (fun q18 => ?_)
    · replace q18 : ¬ x9 = 0 := q18
      have h := ht q18
      refine ga_iinc (ls' := [(5, vI (x5 + 1)), (0, .ref (G.2.1 32)), (1, .ref (G.2.1 1)), (2, vI x2), (3, vI x3), (4, vI x4), (6, vI x6), (7, vI x7), (8, vI x8), (9, vI x9), (10, vI x10)]) 5 dX8_follow_105 rfl (by decide) rfl ?_
      refine ga_goto (tgt := 15) dX8_follow_108 (by decide) ?_
      exact ga_sub [1, 2, 3, 4, 5, 0] rfl h
    · replace q18 : x9 = 0 := (Decidable.not_not.mp q18)
      have h := hf q18
      refine ga_aload_n 0 dX8_follow_89 rfl rfl ?_
      refine ga_iload 6 dX8_follow_90 rfl ?_
      refine ga_iload 7 dX8_follow_92 rfl ?_
      refine ga_iload 8 dX8_follow_94 rfl ?_
      refine ga_callVz (z := mX8_bring) (As := [vI x6, vI x7, vI x8]) (rest := []) dX8_follow_96 wX8_117 qX8_follow_X8_bring rfl ⟨_, rfl, rfl⟩ rfl rfl (Nat.le_of_ble_eq_true rfl) (gEz_mono h (fun v21 σ19 h r20 => ?_))
      replace h := h r20
      obtain ⟨ht, hf⟩ := h
      refine ga_if_ne (tgt := 105) dX8_follow_99 (by decide) (gR_01 r20) (fun q22 => ?_) (fun q22 => ?_)
      · replace q22 : ¬ v21 = 0 := q22
        have h := ht q22
        refine ga_iinc (ls' := [(5, vI (x5 + 1)), (0, .ref (G.2.1 32)), (1, .ref (G.2.1 1)), (2, vI x2), (3, vI x3), (4, vI x4), (6, vI x6), (7, vI x7), (8, vI x8), (9, vI x9), (10, vI x10)]) 5 dX8_follow_105 rfl (by decide) rfl ?_
        refine ga_goto (tgt := 15) dX8_follow_108 (by decide) ?_
        exact ga_sub [1, 2, 3, 4, 5, 0] rfl h
      · replace q22 : v21 = 0 := (Decidable.not_not.mp q22)
        have h := hf q22
        refine ga_iload 5 dX8_follow_102 rfl ?_
        exact ga_iret dX8_follow_104 rfl rx5 h
  · replace q17 : x10 < x9 := (Int.not_le.mp q17)
    have h := hf q17
    refine ga_aload_n 0 dX8_follow_74 rfl rfl ?_
    refine ga_callVv (z := mX8_passSlot) (As := []) (rest := []) dX8_follow_75 wX8_114 qX8_follow_X8_passSlot rfl ⟨_, rfl, rfl⟩ rfl rfl (Nat.le_of_ble_eq_true rfl) (gEv_mono h (fun σ23 h => ?_))
    refine ga_iinc (ls' := [(10, vI (x10 + 1)), (0, .ref (G.2.1 32)), (1, .ref (G.2.1 1)), (2, vI x2), (3, vI x3), (4, vI x4), (5, vI x5), (6, vI x6), (7, vI x7), (8, vI x8), (9, vI x9)]) 10 dX8_follow_78 rfl (by decide) rfl ?_
    refine ga_goto (tgt := 67) dX8_follow_81 (by decide) ?_
    exact ga_sub [1, 2, 3, 4, 5, 6, 7, 8, 9, 10, 0] rfl h
abbrev eX8_drawBelow (l : Launch) (G : gG) (x1 : Int) (σ : gS) (Q : Int → gS → Prop) : Prop := gEi l G mX8_drawBelow [.ref (G.2.1 32), vI x1] σ Q
set_option maxRecDepth 100000 in
set_option maxHeartbeats 4000000 in
theorem vX8_drawBelow {l : Launch} {G : gG} (x1 : Int) (rx1 : gR x1) (σ : gS) (Q : Int → gS → Prop) (h : (gR (((gI σ 32 18) * 1103515245) + 12345)) ∧ ∀ σ2, σ2 = sI σ 32 18 (((gI σ 32 18) * 1103515245) + 12345) →
  ((x1 ≤ 0 → True) ∧
  (0 < x1 → (x1 ≠ 0) ∧ True)) ∧
  (∀ v10 : Int, v10 = (if x1 ≤ 0 then 0 else (grem (gushr (gI σ2 32 18) 16) x1)) →
  Q v10 σ2)) : eX8_drawBelow l G x1 σ Q := by
  refine ga_entry rfl (Nat.le_of_ble_eq_true rfl) ?_
  show gAt l G mX8_drawBelow (gQi G Q) 0 [(0, .ref (G.2.1 32)), (1, vI x1)] [] σ
  refine ga_aload_n 0 dX8_drawBelow_0 rfl rfl ?_
  refine ga_aload_n 0 dX8_drawBelow_1 rfl rfl ?_
  refine ga_getI (kI := 18) dX8_drawBelow_2 fX8_203 rfl rfl rfl (fun r1 => ?_)
  refine ga_ldc (n := 1103515245) dX8_drawBelow_5 wX8_209 (by decide) ?_
  refine ga_imul dX8_drawBelow_7 ?_
  refine ga_sipush dX8_drawBelow_8 (by decide) ?_
  refine ga_iadd dX8_drawBelow_11 ?_
  obtain ⟨r3, h⟩ := h
  obtain ⟨σ2, eσ2⟩ : ∃ z, z = sI σ 32 18 (((gI σ 32 18) * 1103515245) + 12345) := ⟨_, rfl⟩
  replace h := h σ2 eσ2
  refine ga_putI (kI := 18) dX8_drawBelow_12 fX8_203 pX8_18 rfl rfl rfl r3 eσ2 ?_
  refine ga_iload_n 1 dX8_drawBelow_15 rfl rfl ?_
  obtain ⟨hob, h⟩ := h
  have kJ4 : ∀ v10 : Int, gR v10 → v10 = (if x1 ≤ 0 then 0 else (grem (gushr (gI σ2 32 18) 16) x1)) → gAt l G mX8_drawBelow (gQi G Q) 32 [(0, .ref (G.2.1 32)), (1, vI x1)] [vI v10] σ2 := by
    intro v10 rv10 ev10
    replace h := h v10 ev10
    exact ga_iret dX8_drawBelow_32 rfl rv10 h
  replace h := hob
  obtain ⟨ht, hf⟩ := h
  refine ga_if_le (tgt := 31) dX8_drawBelow_16 (by decide) rx1 (fun q5 => ?_) (fun q5 => ?_)
  · replace q5 : x1 ≤ 0 := q5
    have h := ht q5
    refine ga_iconst dX8_drawBelow_31 ?_
    exact kJ4 0 (by decide) (by rw [if_pos q5])
  · replace q5 : 0 < x1 := (Int.not_le.mp q5)
    have h := hf q5
    refine ga_aload_n 0 dX8_drawBelow_19 rfl rfl ?_
    refine ga_getI (kI := 18) dX8_drawBelow_20 fX8_203 rfl rfl rfl (fun r6 => ?_)
    refine ga_bipush dX8_drawBelow_23 (by decide) ?_
    refine ga_iushr dX8_drawBelow_25 (fun r7 => ?_)
    refine ga_iload_n 1 dX8_drawBelow_26 rfl rfl ?_
    obtain ⟨o8, h⟩ := h
    refine ga_irem dX8_drawBelow_27 rx1 o8 (fun r9 => ?_)
    refine ga_goto (tgt := 32) dX8_drawBelow_28 (by decide) ?_
    exact kJ4 (grem (gushr (gI σ2 32 18) 16) x1) r9 (by rw [if_neg (Int.not_le.mpr q5)])
abbrev eX8_draw (l : Launch) (G : gG) (x1 : Int) (x2 : Int) (σ : gS) (Q : gS → Prop) : Prop := gEv l G mX8_draw [.ref (G.2.1 32), vI x1, vI x2] σ Q
abbrev kX8_draw_7 (l : Launch) (G : gG)  (x1 : Int) (x2 : Int) (x3 : Int) (σ : gS) (Q : gS → Prop) : Prop := gAt l G mX8_draw (gQv G Q) 7 [(0, .ref (G.2.1 32)), (1, vI x1), (2, vI x2), (3, vI x3)] [] σ
set_option maxRecDepth 100000 in
set_option maxHeartbeats 4000000 in
theorem vX8_draw {l : Launch} {G : gG} (x1 : Int) (x2 : Int) (rx1 : gR x1) (rx2 : gR x2) (σ : gS) (Q : gS → Prop) (h : ∀ σ1, σ1 = sI σ 32 18 x1 →
  kX8_draw_7 l G  x1 x2 0 σ1 Q) : eX8_draw l G x1 x2 σ Q := by
  refine ga_entry rfl (Nat.le_of_ble_eq_true rfl) ?_
  show gAt l G mX8_draw (gQv G Q) 0 [(0, .ref (G.2.1 32)), (1, vI x1), (2, vI x2)] [] σ
  refine ga_aload_n 0 dX8_draw_0 rfl rfl ?_
  refine ga_iload_n 1 dX8_draw_1 rfl rfl ?_
  obtain ⟨σ1, eσ1⟩ : ∃ z, z = sI σ 32 18 x1 := ⟨_, rfl⟩
  replace h := h σ1 eσ1
  refine ga_putI (kI := 18) dX8_draw_2 fX8_203 pX8_18 rfl rfl rfl rx1 eσ1 ?_
  refine ga_iconst dX8_draw_5 ?_
  refine ga_istore_n (ls' := [(3, vI 0), (0, .ref (G.2.1 32)), (1, vI x1), (2, vI x2)]) dX8_draw_6 rfl (by decide) rfl ?_
  exact ga_sub [1, 2, 3, 0] rfl h
set_option maxRecDepth 100000 in
set_option maxHeartbeats 4000000 in
theorem vX8_draw_7 {l : Launch} {G : gG}  (x1 : Int) (x2 : Int) (x3 : Int) (rx1 : gR x1) (rx2 : gR x2) (rx3 : gR x3) (σ : gS) (Q : gS → Prop) (h : (x2 ≤ x3 → Q σ) ∧
  (x3 < x2 → eX8_drawBelow l G 8 σ (fun v5 σ3 => gR v5 →
    (v5 < 6 → eX8_drawBelow l G (gI σ3 32 3) σ3 (fun v10 σ8 => gR v10 →
      (4 ≤ v5 → (∀ v14 : Int, v14 = (if v5 = 4 then 3 else 4) →
        eX8_drawBelow l G ((gshl 1 (gI σ8 32 3)) - 1) σ8 (fun v19 σ17 => gR v19 →
          eX8_bring l G v14 v10 (1 + v19) σ17 (fun v22 σ20 => (v22 = 0 ∨ v22 = 1) →
          kX8_draw_7 l G  x1 x2 (x3 + 1) σ20 Q)))) ∧
      (v5 < 4 → eX8_drawBelow l G (gI σ8 32 3) σ8 (fun v26 σ24 => gR v26 →
        eX8_bring l G 2 v10 v26 σ24 (fun v29 σ27 => (v29 = 0 ∨ v29 = 1) →
        kX8_draw_7 l G  x1 x2 (x3 + 1) σ27 Q))))) ∧
    (6 ≤ v5 → eX8_passSlot l G  σ3 (fun σ30 =>
      kX8_draw_7 l G  x1 x2 (x3 + 1) σ30 Q))))) : kX8_draw_7 l G  x1 x2 x3 σ Q := by
  refine ga_iload_n 3 dX8_draw_7 rfl rfl ?_
  refine ga_iload_n 2 dX8_draw_8 rfl rfl ?_
  obtain ⟨ht, hf⟩ := h
  refine ga_icmp_ge (tgt := 107) dX8_draw_9 (by decide) rx3 rx2 (fun q2 => ?_) (fun q2 => ?_)
  · replace q2 : x2 ≤ x3 := q2
    have h := ht q2
    exact ga_vret dX8_draw_107 rfl h
  · replace q2 : x3 < x2 := (Int.not_le.mp q2)
    have h := hf q2
    refine ga_aload_n 0 dX8_draw_12 rfl rfl ?_
    refine ga_bipush dX8_draw_13 (by decide) ?_
    refine ga_callVi (z := mX8_drawBelow) (As := [vI 8]) (rest := []) dX8_draw_15 wX8_206 qX8_draw_X8_drawBelow rfl ⟨_, rfl, rfl⟩ rfl rfl (Nat.le_of_ble_eq_true rfl) (gEi_mono h (fun v5 σ3 h r4 => ?_))
    replace h := h r4
    refine ga_istore (ls' := [(4, vI v5), (0, .ref (G.2.1 32)), (1, vI x1), (2, vI x2), (3, vI x3)]) dX8_draw_18 (by decide) rfl ?_
    refine ga_iload 0 dX8_draw_20 rfl ?_
    refine ga_bipush dX8_draw_22 (by decide) ?_
    obtain ⟨ht, hf⟩ := h
    refine ga_icmp_lt (tgt := 34) dX8_draw_24 (by decide) r4 (by decide) (fun q6 => ?_) (fun q6 => ?_)
    · replace q6 : v5 < 6 := q6
      have h := ht q6
      refine ga_aload_n 1 dX8_draw_34 rfl rfl ?_
      refine ga_aload_n 1 dX8_draw_35 rfl rfl ?_
      refine ga_getI (kI := 3) dX8_draw_36 fX8_32 rfl rfl rfl (fun r7 => ?_)
      refine ga_callVi (z := mX8_drawBelow) (As := [vI (gI σ3 32 3)]) (rest := []) dX8_draw_39 wX8_206 qX8_draw_X8_drawBelow rfl ⟨_, rfl, rfl⟩ rfl rfl (Nat.le_of_ble_eq_true rfl) (gEi_mono h (fun v10 σ8 h r9 => ?_))
      replace h := h r9
      refine ga_istore (ls' := [(5, vI v10), (4, vI v5), (0, .ref (G.2.1 32)), (1, vI x1), (2, vI x2), (3, vI x3)]) dX8_draw_42 (by decide) rfl ?_
      refine ga_iload 1 dX8_draw_44 rfl ?_
      refine ga_iconst dX8_draw_46 ?_
      obtain ⟨ht, hf⟩ := h
      refine ga_icmp_ge (tgt := 69) dX8_draw_47 (by decide) r4 (by decide) (fun q11 => ?_) (fun q11 => ?_)
      · replace q11 : 4 ≤ v5 := q11
        have h := ht q11
        refine ga_aload_n 2 dX8_draw_69 rfl rfl ?_
        refine ga_iload 1 dX8_draw_70 rfl ?_
        refine ga_iconst dX8_draw_72 ?_
        have kJ12 : ∀ v14 : Int, gR v14 → v14 = (if v5 = 4 then 3 else 4) → gAt l G mX8_draw (gQv G Q) 81 [(5, vI v10), (4, vI v5), (0, .ref (G.2.1 32)), (1, vI x1), (2, vI x2), (3, vI x3)] [vI v14, .ref (G.2.1 32)] σ8 := by
          intro v14 rv14 ev14
          replace h := h v14 ev14
          refine ga_iload 0 dX8_draw_81 rfl ?_
          refine ga_iconst dX8_draw_83 ?_
          refine ga_aload_n 2 dX8_draw_84 rfl rfl ?_
          refine ga_iconst dX8_draw_85 ?_
          refine ga_aload_n 2 dX8_draw_86 rfl rfl ?_
          refine ga_getI (kI := 3) dX8_draw_87 fX8_32 rfl rfl rfl (fun r15 => ?_)
          refine ga_ishl dX8_draw_90 (fun r16 => ?_)
          refine ga_iconst dX8_draw_91 ?_
          refine ga_isub dX8_draw_92 ?_
          refine ga_callVi (z := mX8_drawBelow) (As := [vI ((gshl 1 (gI σ8 32 3)) - 1)]) (rest := [vI 1, vI v10, vI v14, .ref (G.2.1 32)]) dX8_draw_93 wX8_206 qX8_draw_X8_drawBelow rfl ⟨_, rfl, rfl⟩ rfl rfl (Nat.le_of_ble_eq_true rfl) (gEi_mono h (fun v19 σ17 h r18 => ?_))
          replace h := h r18
          refine ga_iadd dX8_draw_96 ?_
          refine ga_callVz (z := mX8_bring) (As := [vI v14, vI v10, vI (1 + v19)]) (rest := []) dX8_draw_97 wX8_117 qX8_draw_X8_bring rfl ⟨_, rfl, rfl⟩ rfl rfl (Nat.le_of_ble_eq_true rfl) (gEz_mono h (fun v22 σ20 h r21 => ?_))
          replace h := h r21
          refine ga_pop dX8_draw_100 rfl ?_
          refine ga_iinc (ls' := [(3, vI (x3 + 1)), (5, vI v10), (4, vI v5), (0, .ref (G.2.1 32)), (1, vI x1), (2, vI x2)]) 5 dX8_draw_101 rfl (by decide) rfl ?_
          refine ga_goto (tgt := 7) dX8_draw_104 (by decide) ?_
          exact ga_sub [3, 4, 5, 0] rfl h
        replace h : (¬ v5 = 4 → True) ∧
        (v5 = 4 → True) := by repeat (first | exact True.intro | apply And.intro | intro _)
        obtain ⟨ht, hf⟩ := h
        refine ga_icmp_ne (tgt := 80) dX8_draw_73 (by decide) r4 (by decide) (fun q13 => ?_) (fun q13 => ?_)
        · replace q13 : ¬ v5 = 4 := q13
          have h := ht q13
          refine ga_iconst dX8_draw_80 ?_
          exact kJ12 4 (by decide) (by rw [if_neg q13])
        · replace q13 : v5 = 4 := (Decidable.not_not.mp q13)
          have h := hf q13
          refine ga_iconst dX8_draw_76 ?_
          refine ga_goto (tgt := 81) dX8_draw_77 (by decide) ?_
          exact kJ12 3 (by decide) (by rw [if_pos q13])
      · replace q11 : v5 < 4 := (Int.not_le.mp q11)
        have h := hf q11
        refine ga_aload_n 2 dX8_draw_50 rfl rfl ?_
        refine ga_iconst dX8_draw_51 ?_
        refine ga_iload 0 dX8_draw_52 rfl ?_
        refine ga_aload_n 2 dX8_draw_54 rfl rfl ?_
        refine ga_aload_n 2 dX8_draw_55 rfl rfl ?_
        refine ga_getI (kI := 3) dX8_draw_56 fX8_32 rfl rfl rfl (fun r23 => ?_)
        refine ga_callVi (z := mX8_drawBelow) (As := [vI (gI σ8 32 3)]) (rest := [vI v10, vI 2, .ref (G.2.1 32)]) dX8_draw_59 wX8_206 qX8_draw_X8_drawBelow rfl ⟨_, rfl, rfl⟩ rfl rfl (Nat.le_of_ble_eq_true rfl) (gEi_mono h (fun v26 σ24 h r25 => ?_))
        replace h := h r25
        refine ga_callVz (z := mX8_bring) (As := [vI 2, vI v10, vI v26]) (rest := []) dX8_draw_62 wX8_117 qX8_draw_X8_bring rfl ⟨_, rfl, rfl⟩ rfl rfl (Nat.le_of_ble_eq_true rfl) (gEz_mono h (fun v29 σ27 h r28 => ?_))
        replace h := h r28
        refine ga_pop dX8_draw_65 rfl ?_
        refine ga_goto (tgt := 101) dX8_draw_66 (by decide) ?_
        refine ga_iinc (ls' := [(3, vI (x3 + 1)), (5, vI v10), (4, vI v5), (0, .ref (G.2.1 32)), (1, vI x1), (2, vI x2)]) 5 dX8_draw_101 rfl (by decide) rfl ?_
        refine ga_goto (tgt := 7) dX8_draw_104 (by decide) ?_
        exact ga_sub [3, 4, 5, 0] rfl h
    · replace q6 : 6 ≤ v5 := (Int.not_lt.mp q6)
      have h := hf q6
      refine ga_aload_n 1 dX8_draw_27 rfl rfl ?_
      refine ga_callVv (z := mX8_passSlot) (As := []) (rest := []) dX8_draw_28 wX8_114 qX8_draw_X8_passSlot rfl ⟨_, rfl, rfl⟩ rfl rfl (Nat.le_of_ble_eq_true rfl) (gEv_mono h (fun σ30 h => ?_))
      refine ga_goto (tgt := 101) dX8_draw_31 (by decide) ?_
      refine ga_iinc (ls' := [(3, vI (x3 + 1)), (4, vI v5), (0, .ref (G.2.1 32)), (1, vI x1), (2, vI x2)]) 4 dX8_draw_101 rfl (by decide) rfl ?_
      refine ga_goto (tgt := 7) dX8_draw_104 (by decide) ?_
      exact ga_sub [2, 3, 4, 0] rfl h
abbrev eX8_tellSum (l : Launch) (G : gG) (x1 : Int) (σ : gS) (Q : Int → gS → Prop) : Prop := gEi l G mX8_tellSum [.ref (G.2.1 32), vI x1] σ Q
set_option maxRecDepth 100000 in
set_option maxHeartbeats 4000000 in
theorem vX8_tellSum {l : Launch} {G : gG} (x1 : Int) (rx1 : gR x1) (σ : gS) (Q : Int → gS → Prop) (h : (x1 = 0 → Q (gI σ 41 0) σ) ∧
  (x1 = 1 → Q (gI σ 33 0) σ) ∧
  (x1 = 2 → Q (gI σ 32 7) σ) ∧
  (x1 = 3 → Q (gI σ 32 8) σ) ∧
  (x1 = 4 → Q (gI σ 32 9) σ) ∧
  (x1 = 5 → Q (gI σ 32 10) σ) ∧
  ((x1 < 0 ∨ 5 < x1) → Q (-2) σ)) : eX8_tellSum l G x1 σ Q := by
  refine ga_entry rfl (Nat.le_of_ble_eq_true rfl) ?_
  show gAt l G mX8_tellSum (gQi G Q) 0 [(0, .ref (G.2.1 32)), (1, vI x1)] [] σ
  refine ga_iload_n 1 dX8_tellSum_0 rfl rfl ?_
  obtain ⟨hc7, hc8, hc9, hc10, hc11, hc12, hd⟩ := h
  by_cases q13 : x1 = 0
  · refine ga_tableIn (tgt := 40) (v := 0) dX8_tellSum_1 q13 (by decide) rfl (by decide) ?_
    have h := hc7 q13
    refine ga_aload_n 0 dX8_tellSum_40 rfl rfl ?_
    refine ga_getR (kI := 1) (r := 41) dX8_tellSum_41 fX8_21 rfl rfl (by decide) rfl ?_
    refine ga_getI (kI := 0) dX8_tellSum_44 fX8_86 rfl rfl rfl (fun r1 => ?_)
    exact ga_iret dX8_tellSum_47 rfl r1 h
  by_cases q14 : x1 = 1
  · refine ga_tableIn (tgt := 48) (v := 1) dX8_tellSum_1 q14 (by decide) rfl (by decide) ?_
    have h := hc8 q14
    refine ga_aload_n 0 dX8_tellSum_48 rfl rfl ?_
    refine ga_getR (kI := 0) (r := 33) dX8_tellSum_49 fX8_12 rfl rfl (by decide) rfl ?_
    refine ga_getI (kI := 0) dX8_tellSum_52 fX8_83 rfl rfl rfl (fun r2 => ?_)
    exact ga_iret dX8_tellSum_55 rfl r2 h
  by_cases q15 : x1 = 2
  · refine ga_tableIn (tgt := 56) (v := 2) dX8_tellSum_1 q15 (by decide) rfl (by decide) ?_
    have h := hc9 q15
    refine ga_aload_n 0 dX8_tellSum_56 rfl rfl ?_
    refine ga_getI (kI := 7) dX8_tellSum_57 fX8_92 rfl rfl rfl (fun r3 => ?_)
    exact ga_iret dX8_tellSum_60 rfl r3 h
  by_cases q16 : x1 = 3
  · refine ga_tableIn (tgt := 61) (v := 3) dX8_tellSum_1 q16 (by decide) rfl (by decide) ?_
    have h := hc10 q16
    refine ga_aload_n 0 dX8_tellSum_61 rfl rfl ?_
    refine ga_getI (kI := 8) dX8_tellSum_62 fX8_95 rfl rfl rfl (fun r4 => ?_)
    exact ga_iret dX8_tellSum_65 rfl r4 h
  by_cases q17 : x1 = 4
  · refine ga_tableIn (tgt := 66) (v := 4) dX8_tellSum_1 q17 (by decide) rfl (by decide) ?_
    have h := hc11 q17
    refine ga_aload_n 0 dX8_tellSum_66 rfl rfl ?_
    refine ga_getI (kI := 9) dX8_tellSum_67 fX8_98 rfl rfl rfl (fun r5 => ?_)
    exact ga_iret dX8_tellSum_70 rfl r5 h
  by_cases q18 : x1 = 5
  · refine ga_tableIn (tgt := 71) (v := 5) dX8_tellSum_1 q18 (by decide) rfl (by decide) ?_
    have h := hc12 q18
    refine ga_aload_n 0 dX8_tellSum_71 rfl rfl ?_
    refine ga_getI (kI := 10) dX8_tellSum_72 fX8_101 rfl rfl rfl (fun r6 => ?_)
    exact ga_iret dX8_tellSum_75 rfl r6 h
  have hdc : (x1 < 0 ∨ 5 < x1) := by omega
  have h := hd hdc
  refine ga_tableOut (tgt := 76) dX8_tellSum_1 rx1 hdc (by decide) ?_
  refine ga_bipush dX8_tellSum_76 (by decide) ?_
  exact ga_iret dX8_tellSum_78 rfl (by decide) h
abbrev eX8_tell (l : Launch) (G : gG) (x1 : Int) (σ : gS) (Q : Int → gS → Prop) : Prop := gEi l G mX8_tell [.ref (G.2.1 32), vI x1] σ Q
set_option maxRecDepth 100000 in
set_option maxHeartbeats 4000000 in
theorem vX8_tell {l : Launch} {G : gG} (x1 : Int) (rx1 : gR x1) (σ : gS) (Q : Int → gS → Prop) (h : (10 ≤ x1 → ((grem x1 10) < (gI σ 32 3) → (x1 < 100 → ((gdiv x1 10) = 1 → (0 ≤ (grem x1 10) ∧ (grem x1 10) < 6) ∧ Q (gI σ 47 (grem x1 10)) σ) ∧
        ((gdiv x1 10) = 2 → (0 ≤ (grem x1 10) ∧ (grem x1 10) < 6) ∧ Q (gI σ 46 (grem x1 10)) σ) ∧
        ((gdiv x1 10) = 3 → (0 ≤ (grem x1 10) ∧ (grem x1 10) < 6) ∧ Q (gI σ 55 (grem x1 10)) σ) ∧
        ((gdiv x1 10) = 4 → (0 ≤ (grem x1 10) ∧ (grem x1 10) < 6) ∧ Q (gI σ 57 (grem x1 10)) σ) ∧
        ((gdiv x1 10) = 5 → (0 ≤ (grem x1 10) ∧ (grem x1 10) < 6) ∧ Q (gI σ 51 (grem x1 10)) σ) ∧
        ((gdiv x1 10) = 6 → (0 ≤ (grem x1 10) ∧ (grem x1 10) < 6) ∧ Q (gI σ 49 (grem x1 10)) σ) ∧
        ((gdiv x1 10) = 7 → (0 ≤ (grem x1 10) ∧ (grem x1 10) < 6) ∧ Q (gI σ 52 (grem x1 10)) σ) ∧
        (((gdiv x1 10) < 1 ∨ 7 < (gdiv x1 10)) → Q (-2) σ)) ∧
      (100 ≤ x1 → ((gR ((gdiv x1 10) - 10)) ∧ (((gdiv x1 10) - 10) < (gI σ 32 3) → (0 ≤ ((((gdiv x1 10) - 10) * 6) + (grem x1 10)) ∧ ((((gdiv x1 10) - 10) * 6) + (grem x1 10)) < 36) ∧ True) ∧
        ((gI σ 32 3) ≤ ((gdiv x1 10) - 10) → True)) ∧
        (∀ v42 : Int, v42 = (if ((gdiv x1 10) - 10) < (gI σ 32 3) then (gI σ 53 ((((gdiv x1 10) - 10) * 6) + (grem x1 10))) else (-2)) →
        Q v42 σ))) ∧
    ((gI σ 32 3) ≤ (grem x1 10) → Q (-2) σ)) ∧
  (x1 < 10 → eX8_tellSum l G x1 σ (fun v45 σ43 => gR v45 →
    Q v45 σ43))) : eX8_tell l G x1 σ Q := by
  refine ga_entry rfl (Nat.le_of_ble_eq_true rfl) ?_
  show gAt l G mX8_tell (gQi G Q) 0 [(0, .ref (G.2.1 32)), (1, vI x1)] [] σ
  refine ga_iload_n 1 dX8_tell_0 rfl rfl ?_
  refine ga_bipush dX8_tell_1 (by decide) ?_
  obtain ⟨ht, hf⟩ := h
  refine ga_icmp_ge (tgt := 12) dX8_tell_3 (by decide) rx1 (by decide) (fun q1 => ?_) (fun q1 => ?_)
  · replace q1 : 10 ≤ x1 := q1
    have h := ht q1
    refine ga_iload_n 1 dX8_tell_12 rfl rfl ?_
    refine ga_bipush dX8_tell_13 (by decide) ?_
    refine ga_irem dX8_tell_15 (by decide) (by decide) (fun r2 => ?_)
    refine ga_istore_n (ls' := [(2, vI (grem x1 10)), (0, .ref (G.2.1 32)), (1, vI x1)]) dX8_tell_16 rfl (by decide) rfl ?_
    refine ga_iload_n 0 dX8_tell_17 rfl rfl ?_
    refine ga_aload_n 1 dX8_tell_18 rfl rfl ?_
    refine ga_getI (kI := 3) dX8_tell_19 fX8_32 rfl rfl rfl (fun r3 => ?_)
    obtain ⟨ht, hf⟩ := h
    refine ga_icmp_lt (tgt := 28) dX8_tell_22 (by decide) r2 r3 (fun q4 => ?_) (fun q4 => ?_)
    · replace q4 : (grem x1 10) < (gI σ 32 3) := q4
      have h := ht q4
      refine ga_iload_n 2 dX8_tell_28 rfl rfl ?_
      refine ga_bipush dX8_tell_29 (by decide) ?_
      obtain ⟨ht, hf⟩ := h
      refine ga_icmp_lt (tgt := 67) dX8_tell_31 (by decide) rx1 (by decide) (fun q5 => ?_) (fun q5 => ?_)
      · replace q5 : x1 < 100 := q5
        have h := ht q5
        refine ga_iload_n 2 dX8_tell_67 rfl rfl ?_
        refine ga_bipush dX8_tell_68 (by decide) ?_
        refine ga_idiv dX8_tell_70 (by decide) (by decide) (fun r6 => ?_)
        obtain ⟨hc21, hc22, hc23, hc24, hc25, hc26, hc27, hd⟩ := h
        by_cases q28 : (gdiv x1 10) = 1
        · refine ga_tableIn (tgt := 112) (v := 1) dX8_tell_71 q28 (by decide) rfl (by decide) ?_
          have h := hc21 q28
          refine ga_aload_n 1 dX8_tell_112 rfl rfl ?_
          refine ga_getR (kI := 2) (r := 45) dX8_tell_113 fX8_28 rfl rfl (by decide) rfl ?_
          refine ga_getR (kI := 2) (r := 47) dX8_tell_116 fX8_213 rfl rfl (by decide) rfl ?_
          refine ga_iload_n 0 dX8_tell_119 rfl rfl ?_
          obtain ⟨i7, h⟩ := h
          refine ga_iald (nI := 6) dX8_tell_120 rfl rfl i7 (fun r8 => ?_)
          exact ga_iret dX8_tell_121 rfl r8 h
        by_cases q29 : (gdiv x1 10) = 2
        · refine ga_tableIn (tgt := 122) (v := 2) dX8_tell_71 q29 (by decide) rfl (by decide) ?_
          have h := hc22 q29
          refine ga_aload_n 1 dX8_tell_122 rfl rfl ?_
          refine ga_getR (kI := 2) (r := 45) dX8_tell_123 fX8_28 rfl rfl (by decide) rfl ?_
          refine ga_getR (kI := 1) (r := 46) dX8_tell_126 fX8_216 rfl rfl (by decide) rfl ?_
          refine ga_iload_n 0 dX8_tell_129 rfl rfl ?_
          obtain ⟨i9, h⟩ := h
          refine ga_iald (nI := 6) dX8_tell_130 rfl rfl i9 (fun r10 => ?_)
          exact ga_iret dX8_tell_131 rfl r10 h
        by_cases q30 : (gdiv x1 10) = 3
        · refine ga_tableIn (tgt := 132) (v := 3) dX8_tell_71 q30 (by decide) rfl (by decide) ?_
          have h := hc23 q30
          refine ga_aload_n 1 dX8_tell_132 rfl rfl ?_
          refine ga_getR (kI := 15) (r := 55) dX8_tell_133 fX8_49 rfl rfl (by decide) rfl ?_
          refine ga_iload_n 0 dX8_tell_136 rfl rfl ?_
          obtain ⟨i11, h⟩ := h
          refine ga_iald (nI := 6) dX8_tell_137 rfl rfl i11 (fun r12 => ?_)
          exact ga_iret dX8_tell_138 rfl r12 h
        by_cases q31 : (gdiv x1 10) = 4
        · refine ga_tableIn (tgt := 139) (v := 4) dX8_tell_71 q31 (by decide) rfl (by decide) ?_
          have h := hc24 q31
          refine ga_aload_n 1 dX8_tell_139 rfl rfl ?_
          refine ga_getR (kI := 17) (r := 57) dX8_tell_140 fX8_55 rfl rfl (by decide) rfl ?_
          refine ga_iload_n 0 dX8_tell_143 rfl rfl ?_
          obtain ⟨i13, h⟩ := h
          refine ga_iald (nI := 6) dX8_tell_144 rfl rfl i13 (fun r14 => ?_)
          exact ga_iret dX8_tell_145 rfl r14 h
        by_cases q32 : (gdiv x1 10) = 5
        · refine ga_tableIn (tgt := 146) (v := 5) dX8_tell_71 q32 (by decide) rfl (by decide) ?_
          have h := hc25 q32
          refine ga_aload_n 1 dX8_tell_146 rfl rfl ?_
          refine ga_getR (kI := 11) (r := 51) dX8_tell_147 fX8_36 rfl rfl (by decide) rfl ?_
          refine ga_iload_n 0 dX8_tell_150 rfl rfl ?_
          obtain ⟨i15, h⟩ := h
          refine ga_iald (nI := 6) dX8_tell_151 rfl rfl i15 (fun r16 => ?_)
          exact ga_iret dX8_tell_152 rfl r16 h
        by_cases q33 : (gdiv x1 10) = 6
        · refine ga_tableIn (tgt := 153) (v := 6) dX8_tell_71 q33 (by decide) rfl (by decide) ?_
          have h := hc26 q33
          refine ga_aload_n 1 dX8_tell_153 rfl rfl ?_
          refine ga_getR (kI := 2) (r := 45) dX8_tell_154 fX8_28 rfl rfl (by decide) rfl ?_
          refine ga_getR (kI := 4) (r := 49) dX8_tell_157 fX8_155 rfl rfl (by decide) rfl ?_
          refine ga_iload_n 0 dX8_tell_160 rfl rfl ?_
          obtain ⟨i17, h⟩ := h
          refine ga_iald (nI := 6) dX8_tell_161 rfl rfl i17 (fun r18 => ?_)
          exact ga_iret dX8_tell_162 rfl r18 h
        by_cases q34 : (gdiv x1 10) = 7
        · refine ga_tableIn (tgt := 163) (v := 7) dX8_tell_71 q34 (by decide) rfl (by decide) ?_
          have h := hc27 q34
          refine ga_aload_n 1 dX8_tell_163 rfl rfl ?_
          refine ga_getR (kI := 12) (r := 52) dX8_tell_164 fX8_40 rfl rfl (by decide) rfl ?_
          refine ga_iload_n 0 dX8_tell_167 rfl rfl ?_
          obtain ⟨i19, h⟩ := h
          refine ga_iald (nI := 6) dX8_tell_168 rfl rfl i19 (fun r20 => ?_)
          exact ga_iret dX8_tell_169 rfl r20 h
        have hdc : ((gdiv x1 10) < 1 ∨ 7 < (gdiv x1 10)) := by omega
        have h := hd hdc
        refine ga_tableOut (tgt := 170) dX8_tell_71 r6 hdc (by decide) ?_
        refine ga_bipush dX8_tell_170 (by decide) ?_
        exact ga_iret dX8_tell_172 rfl (by decide) h
      · replace q5 : 100 ≤ x1 := (Int.not_lt.mp q5)
        have h := hf q5
        refine ga_iload_n 2 dX8_tell_34 rfl rfl ?_
        refine ga_bipush dX8_tell_35 (by decide) ?_
        refine ga_idiv dX8_tell_37 (by decide) (by decide) (fun r35 => ?_)
        refine ga_bipush dX8_tell_38 (by decide) ?_
        refine ga_isub dX8_tell_40 ?_
        refine ga_istore_n (ls' := [(3, vI ((gdiv x1 10) - 10)), (2, vI (grem x1 10)), (0, .ref (G.2.1 32)), (1, vI x1)]) dX8_tell_41 rfl (by decide) rfl ?_
        refine ga_iload_n 0 dX8_tell_42 rfl rfl ?_
        refine ga_aload_n 2 dX8_tell_43 rfl rfl ?_
        refine ga_getI (kI := 3) dX8_tell_44 fX8_32 rfl rfl rfl (fun r36 => ?_)
        obtain ⟨hob, h⟩ := h
        have kJ37 : ∀ v42 : Int, gR v42 → v42 = (if ((gdiv x1 10) - 10) < (gI σ 32 3) then (gI σ 53 ((((gdiv x1 10) - 10) * 6) + (grem x1 10))) else (-2)) → gAt l G mX8_tell (gQi G Q) 66 [(3, vI ((gdiv x1 10) - 10)), (2, vI (grem x1 10)), (0, .ref (G.2.1 32)), (1, vI x1)] [vI v42] σ := by
          intro v42 rv42 ev42
          replace h := h v42 ev42
          exact ga_iret dX8_tell_66 rfl rv42 h
        replace h := hob
        obtain ⟨r38, h⟩ := h
        obtain ⟨ht, hf⟩ := h
        refine ga_icmp_lt (tgt := 55) dX8_tell_47 (by decide) r38 r36 (fun q39 => ?_) (fun q39 => ?_)
        · replace q39 : ((gdiv x1 10) - 10) < (gI σ 32 3) := q39
          have h := ht q39
          refine ga_aload_n 2 dX8_tell_55 rfl rfl ?_
          refine ga_getR (kI := 13) (r := 53) dX8_tell_56 fX8_43 rfl rfl (by decide) rfl ?_
          refine ga_iload_n 0 dX8_tell_59 rfl rfl ?_
          refine ga_bipush dX8_tell_60 (by decide) ?_
          refine ga_imul dX8_tell_62 ?_
          refine ga_iload_n 1 dX8_tell_63 rfl rfl ?_
          refine ga_iadd dX8_tell_64 ?_
          obtain ⟨i40, h⟩ := h
          refine ga_iald (nI := 36) dX8_tell_65 rfl rfl i40 (fun r41 => ?_)
          exact kJ37 (gI σ 53 ((((gdiv x1 10) - 10) * 6) + (grem x1 10))) r41 (by rw [if_pos q39])
        · replace q39 : (gI σ 32 3) ≤ ((gdiv x1 10) - 10) := (Int.not_lt.mp q39)
          have h := hf q39
          refine ga_bipush dX8_tell_50 (by decide) ?_
          refine ga_goto (tgt := 66) dX8_tell_52 (by decide) ?_
          exact kJ37 (-2) (by decide) (by rw [if_neg (Int.not_lt.mpr q39)])
    · replace q4 : (gI σ 32 3) ≤ (grem x1 10) := (Int.not_lt.mp q4)
      have h := hf q4
      refine ga_bipush dX8_tell_25 (by decide) ?_
      exact ga_iret dX8_tell_27 rfl (by decide) h
  · replace q1 : x1 < 10 := (Int.not_le.mp q1)
    have h := hf q1
    refine ga_aload_n 0 dX8_tell_6 rfl rfl ?_
    refine ga_iload_n 1 dX8_tell_7 rfl rfl ?_
    refine ga_callVi (z := mX8_tellSum) (As := [vI x1]) (rest := []) dX8_tell_8 wX8_210 qX8_tell_X8_tellSum rfl ⟨_, rfl, rfl⟩ rfl rfl (Nat.le_of_ble_eq_true rfl) (gEi_mono h (fun v45 σ43 h r44 => ?_))
    replace h := h r44
    exact ga_iret dX8_tell_11 rfl r44 h
abbrev eX9_comesBefore (l : Launch) (G : gG) (x1 : Int) (x2 : Int) (σ : gS) (Q : Int → gS → Prop) : Prop := gEz l G mX9_comesBefore [.ref (G.2.1 69), vI x1, vI x2] σ Q
set_option maxRecDepth 100000 in
set_option maxHeartbeats 4000000 in
theorem vX9_comesBefore {l : Launch} {G : gG} (x1 : Int) (x2 : Int) (rx1 : gR x1) (rx2 : gR x2) (σ : gS) (Q : Int → gS → Prop) (h : (0 ≤ x1 ∧ x1 < 40) ∧ (0 ≤ x2 ∧ x2 < 40) ∧ (∀ v13 : Int, v13 = (if (gI σ 72 x1) = (gI σ 72 x2) then (if (gI σ 70 x2) ≤ (gI σ 70 x1) then 0 else 1) else (if (gI σ 72 x2) ≤ (gI σ 72 x1) then 0 else 1)) →
  Q v13 σ)) : eX9_comesBefore l G x1 x2 σ Q := by
  refine ga_entry rfl (Nat.le_of_ble_eq_true rfl) ?_
  show gAt l G mX9_comesBefore (gQz G Q) 0 [(0, .ref (G.2.1 69)), (1, vI x1), (2, vI x2)] [] σ
  refine ga_aload_n 0 dX9_comesBefore_0 rfl rfl ?_
  refine ga_getR (kI := 3) (r := 72) dX9_comesBefore_1 fX9_18 rfl rfl (by decide) rfl ?_
  refine ga_iload_n 1 dX9_comesBefore_4 rfl rfl ?_
  obtain ⟨i1, h⟩ := h
  refine ga_iald (nI := 40) dX9_comesBefore_5 rfl rfl i1 (fun r2 => ?_)
  refine ga_aload_n 0 dX9_comesBefore_6 rfl rfl ?_
  refine ga_getR (kI := 3) (r := 72) dX9_comesBefore_7 fX9_18 rfl rfl (by decide) rfl ?_
  refine ga_iload_n 2 dX9_comesBefore_10 rfl rfl ?_
  obtain ⟨i3, h⟩ := h
  refine ga_iald (nI := 40) dX9_comesBefore_11 rfl rfl i3 (fun r4 => ?_)
  have kJ5 : ∀ v13 : Int, gR v13 → (v13 = 0 ∨ v13 = 1) → v13 = (if (gI σ 72 x1) = (gI σ 72 x2) then (if (gI σ 70 x2) ≤ (gI σ 70 x1) then 0 else 1) else (if (gI σ 72 x2) ≤ (gI σ 72 x1) then 0 else 1)) → gAt l G mX9_comesBefore (gQz G Q) 58 [(0, .ref (G.2.1 69)), (1, vI x1), (2, vI x2)] [vI v13] σ := by
    intro v13 rv13 bv13 ev13
    replace h := h v13 ev13
    exact ga_bret dX9_comesBefore_58 rfl bv13 h
  replace h : ((gI σ 72 x1) = (gI σ 72 x2) → ((gI σ 70 x2) ≤ (gI σ 70 x1) → True) ∧
    ((gI σ 70 x1) < (gI σ 70 x2) → True)) ∧
  (¬ (gI σ 72 x1) = (gI σ 72 x2) → ((gI σ 72 x2) ≤ (gI σ 72 x1) → True) ∧
    ((gI σ 72 x1) < (gI σ 72 x2) → True)) := by repeat (first | exact True.intro | apply And.intro | intro _)
  obtain ⟨ht, hf⟩ := h
  refine ga_icmp_eq (tgt := 38) dX9_comesBefore_12 (by decide) r2 r4 (fun q6 => ?_) (fun q6 => ?_)
  · replace q6 : (gI σ 72 x1) = (gI σ 72 x2) := q6
    have h := ht q6
    refine ga_aload_n 0 dX9_comesBefore_38 rfl rfl ?_
    refine ga_getR (kI := 1) (r := 70) dX9_comesBefore_39 fX9_9 rfl rfl (by decide) rfl ?_
    refine ga_iload_n 1 dX9_comesBefore_42 rfl rfl ?_
    refine ga_iald (nI := 40) dX9_comesBefore_43 rfl rfl i1 (fun r7 => ?_)
    refine ga_aload_n 0 dX9_comesBefore_44 rfl rfl ?_
    refine ga_getR (kI := 1) (r := 70) dX9_comesBefore_45 fX9_9 rfl rfl (by decide) rfl ?_
    refine ga_iload_n 2 dX9_comesBefore_48 rfl rfl ?_
    refine ga_iald (nI := 40) dX9_comesBefore_49 rfl rfl i3 (fun r8 => ?_)
    obtain ⟨ht, hf⟩ := h
    refine ga_icmp_ge (tgt := 57) dX9_comesBefore_50 (by decide) r7 r8 (fun q9 => ?_) (fun q9 => ?_)
    · replace q9 : (gI σ 70 x2) ≤ (gI σ 70 x1) := q9
      have h := ht q9
      refine ga_iconst dX9_comesBefore_57 ?_
      exact kJ5 0 (by decide) (Or.inl rfl) (by rw [if_pos q6, if_pos q9])
    · replace q9 : (gI σ 70 x1) < (gI σ 70 x2) := (Int.not_le.mp q9)
      have h := hf q9
      refine ga_iconst dX9_comesBefore_53 ?_
      refine ga_goto (tgt := 58) dX9_comesBefore_54 (by decide) ?_
      exact kJ5 1 (by decide) (Or.inr rfl) (by rw [if_pos q6, if_neg (Int.not_le.mpr q9)])
  · replace q6 : ¬ (gI σ 72 x1) = (gI σ 72 x2) := q6
    have h := hf q6
    refine ga_aload_n 0 dX9_comesBefore_15 rfl rfl ?_
    refine ga_getR (kI := 3) (r := 72) dX9_comesBefore_16 fX9_18 rfl rfl (by decide) rfl ?_
    refine ga_iload_n 1 dX9_comesBefore_19 rfl rfl ?_
    refine ga_iald (nI := 40) dX9_comesBefore_20 rfl rfl i1 (fun r10 => ?_)
    refine ga_aload_n 0 dX9_comesBefore_21 rfl rfl ?_
    refine ga_getR (kI := 3) (r := 72) dX9_comesBefore_22 fX9_18 rfl rfl (by decide) rfl ?_
    refine ga_iload_n 2 dX9_comesBefore_25 rfl rfl ?_
    refine ga_iald (nI := 40) dX9_comesBefore_26 rfl rfl i3 (fun r11 => ?_)
    obtain ⟨ht, hf⟩ := h
    refine ga_icmp_ge (tgt := 34) dX9_comesBefore_27 (by decide) r10 r11 (fun q12 => ?_) (fun q12 => ?_)
    · replace q12 : (gI σ 72 x2) ≤ (gI σ 72 x1) := q12
      have h := ht q12
      refine ga_iconst dX9_comesBefore_34 ?_
      refine ga_goto (tgt := 58) dX9_comesBefore_35 (by decide) ?_
      exact kJ5 0 (by decide) (Or.inl rfl) (by rw [if_neg q6, if_pos q12])
    · replace q12 : (gI σ 72 x1) < (gI σ 72 x2) := (Int.not_le.mp q12)
      have h := hf q12
      refine ga_iconst dX9_comesBefore_30 ?_
      refine ga_goto (tgt := 58) dX9_comesBefore_31 (by decide) ?_
      exact kJ5 1 (by decide) (Or.inr rfl) (by rw [if_neg q6, if_neg (Int.not_le.mpr q12)])
abbrev eX9_setNextIdeal (l : Launch) (G : gG)  (σ : gS) (Q : gS → Prop) : Prop := gEv l G mX9_setNextIdeal [.ref (G.2.1 69)] σ Q
abbrev kX9_setNextIdeal_4 (l : Launch) (G : gG)  (x1 : Int) (x2 : Int) (σ : gS) (Q : gS → Prop) : Prop := gAt l G mX9_setNextIdeal (gQv G Q) 4 [(0, .ref (G.2.1 69)), (1, vI x1), (2, vI x2)] [] σ
abbrev kX9_setNextIdeal_59 (l : Launch) (G : gG)  (x1 : Int) (x2 : Int) (x3 : Int) (σ : gS) (Q : gS → Prop) : Prop := gAt l G mX9_setNextIdeal (gQv G Q) 59 [(0, .ref (G.2.1 69)), (1, vI x1), (2, vI x2), (3, vI x3)] [] σ
set_option maxRecDepth 100000 in
set_option maxHeartbeats 4000000 in
theorem vX9_setNextIdeal {l : Launch} {G : gG}  (σ : gS) (Q : gS → Prop) (h : kX9_setNextIdeal_4 l G  (-1) 0 σ Q) : eX9_setNextIdeal l G  σ Q := by
  refine ga_entry rfl (Nat.le_of_ble_eq_true rfl) ?_
  show gAt l G mX9_setNextIdeal (gQv G Q) 0 [(0, .ref (G.2.1 69))] [] σ
  refine ga_iconst dX9_setNextIdeal_0 ?_
  refine ga_istore_n (ls' := [(1, vI (-1)), (0, .ref (G.2.1 69))]) dX9_setNextIdeal_1 rfl (by decide) rfl ?_
  refine ga_iconst dX9_setNextIdeal_2 ?_
  refine ga_istore_n (ls' := [(2, vI 0), (1, vI (-1)), (0, .ref (G.2.1 69))]) dX9_setNextIdeal_3 rfl (by decide) rfl ?_
  exact ga_sub [2, 1, 0] rfl h
set_option maxRecDepth 100000 in
set_option maxHeartbeats 4000000 in
theorem vX9_setNextIdeal_4 {l : Launch} {G : gG}  (x1 : Int) (x2 : Int) (rx1 : gR x1) (rx2 : gR x2) (σ : gS) (Q : gS → Prop) (h : ((gI σ 69 0) ≤ x2 → (¬ x1 = (-1) → (0 ≤ x1 ∧ x1 < 40) ∧ kX9_setNextIdeal_59 l G  x1 (gI σ 72 x1) 0 σ Q) ∧
    (x1 = (-1) → Q σ)) ∧
  (x2 < (gI σ 69 0) → (0 ≤ x2 ∧ x2 < 40) ∧ (¬ (gI σ 73 x2) = (-1) → kX9_setNextIdeal_4 l G  x1 (x2 + 1) σ Q) ∧
    ((gI σ 73 x2) = (-1) → (x1 = (-1) → kX9_setNextIdeal_4 l G  x2 (x2 + 1) σ Q) ∧
      (¬ x1 = (-1) → eX9_comesBefore l G x2 x1 σ (fun v12 σ10 => (v12 = 0 ∨ v12 = 1) →
        (v12 = 0 → kX9_setNextIdeal_4 l G  x1 (x2 + 1) σ10 Q) ∧
        (¬ v12 = 0 → kX9_setNextIdeal_4 l G  x2 (x2 + 1) σ10 Q)))))) : kX9_setNextIdeal_4 l G  x1 x2 σ Q := by
  refine ga_iload_n 2 dX9_setNextIdeal_4 rfl rfl ?_
  refine ga_aload_n 0 dX9_setNextIdeal_5 rfl rfl ?_
  refine ga_getI (kI := 0) dX9_setNextIdeal_6 fX9_46 rfl rfl rfl (fun r1 => ?_)
  obtain ⟨ht, hf⟩ := h
  refine ga_icmp_ge (tgt := 44) dX9_setNextIdeal_9 (by decide) rx2 r1 (fun q2 => ?_) (fun q2 => ?_)
  · replace q2 : (gI σ 69 0) ≤ x2 := q2
    have h := ht q2
    refine ga_iload_n 1 dX9_setNextIdeal_44 rfl rfl ?_
    refine ga_iconst dX9_setNextIdeal_45 ?_
    obtain ⟨ht, hf⟩ := h
    refine ga_icmp_ne (tgt := 50) dX9_setNextIdeal_46 (by decide) rx1 (by decide) (fun q3 => ?_) (fun q3 => ?_)
    · replace q3 : ¬ x1 = (-1) := q3
      have h := ht q3
      refine ga_aload_n 0 dX9_setNextIdeal_50 rfl rfl ?_
      refine ga_getR (kI := 3) (r := 72) dX9_setNextIdeal_51 fX9_18 rfl rfl (by decide) rfl ?_
      refine ga_iload_n 1 dX9_setNextIdeal_54 rfl rfl ?_
      obtain ⟨i4, h⟩ := h
      refine ga_iald (nI := 40) dX9_setNextIdeal_55 rfl rfl i4 (fun r5 => ?_)
      refine ga_istore_n (ls' := [(2, vI (gI σ 72 x1)), (0, .ref (G.2.1 69)), (1, vI x1)]) dX9_setNextIdeal_56 rfl (by decide) rfl ?_
      refine ga_iconst dX9_setNextIdeal_57 ?_
      refine ga_istore_n (ls' := [(3, vI 0), (2, vI (gI σ 72 x1)), (0, .ref (G.2.1 69)), (1, vI x1)]) dX9_setNextIdeal_58 rfl (by decide) rfl ?_
      exact ga_sub [2, 3, 1, 0] rfl h
    · replace q3 : x1 = (-1) := (Decidable.not_not.mp q3)
      have h := hf q3
      exact ga_vret dX9_setNextIdeal_49 rfl h
  · replace q2 : x2 < (gI σ 69 0) := (Int.not_le.mp q2)
    have h := hf q2
    refine ga_aload_n 0 dX9_setNextIdeal_12 rfl rfl ?_
    refine ga_getR (kI := 4) (r := 73) dX9_setNextIdeal_13 fX9_21 rfl rfl (by decide) rfl ?_
    refine ga_iload_n 2 dX9_setNextIdeal_16 rfl rfl ?_
    obtain ⟨i6, h⟩ := h
    refine ga_iald (nI := 40) dX9_setNextIdeal_17 rfl rfl i6 (fun r7 => ?_)
    refine ga_iconst dX9_setNextIdeal_18 ?_
    obtain ⟨ht, hf⟩ := h
    refine ga_icmp_ne (tgt := 38) dX9_setNextIdeal_19 (by decide) r7 (by decide) (fun q8 => ?_) (fun q8 => ?_)
    · replace q8 : ¬ (gI σ 73 x2) = (-1) := q8
      have h := ht q8
      refine ga_iinc (ls' := [(2, vI (x2 + 1)), (0, .ref (G.2.1 69)), (1, vI x1)]) 2 dX9_setNextIdeal_38 rfl (by decide) rfl ?_
      refine ga_goto (tgt := 4) dX9_setNextIdeal_41 (by decide) ?_
      exact ga_sub [1, 2, 0] rfl h
    · replace q8 : (gI σ 73 x2) = (-1) := (Decidable.not_not.mp q8)
      have h := hf q8
      refine ga_iload_n 1 dX9_setNextIdeal_22 rfl rfl ?_
      refine ga_iconst dX9_setNextIdeal_23 ?_
      obtain ⟨ht, hf⟩ := h
      refine ga_icmp_eq (tgt := 36) dX9_setNextIdeal_24 (by decide) rx1 (by decide) (fun q9 => ?_) (fun q9 => ?_)
      · replace q9 : x1 = (-1) := q9
        have h := ht q9
        refine ga_iload_n 2 dX9_setNextIdeal_36 rfl rfl ?_
        refine ga_istore_n (ls' := [(1, vI x2), (0, .ref (G.2.1 69)), (2, vI x2)]) dX9_setNextIdeal_37 rfl (by decide) rfl ?_
        refine ga_iinc (ls' := [(2, vI (x2 + 1)), (1, vI x2), (0, .ref (G.2.1 69))]) 2 dX9_setNextIdeal_38 rfl (by decide) rfl ?_
        refine ga_goto (tgt := 4) dX9_setNextIdeal_41 (by decide) ?_
        exact ga_sub [2, 1, 0] rfl h
      · replace q9 : ¬ x1 = (-1) := q9
        have h := hf q9
        refine ga_aload_n 0 dX9_setNextIdeal_27 rfl rfl ?_
        refine ga_iload_n 2 dX9_setNextIdeal_28 rfl rfl ?_
        refine ga_iload_n 1 dX9_setNextIdeal_29 rfl rfl ?_
        refine ga_callVz (z := mX9_comesBefore) (As := [vI x2, vI x1]) (rest := []) dX9_setNextIdeal_30 wX9_65 qX9_setNextIdeal_X9_comesBefore rfl ⟨_, rfl, rfl⟩ rfl rfl (Nat.le_of_ble_eq_true rfl) (gEz_mono h (fun v12 σ10 h r11 => ?_))
        replace h := h r11
        obtain ⟨ht, hf⟩ := h
        refine ga_if_eq (tgt := 38) dX9_setNextIdeal_33 (by decide) (gR_01 r11) (fun q13 => ?_) (fun q13 => ?_)
        · replace q13 : v12 = 0 := q13
          have h := ht q13
          refine ga_iinc (ls' := [(2, vI (x2 + 1)), (0, .ref (G.2.1 69)), (1, vI x1)]) 2 dX9_setNextIdeal_38 rfl (by decide) rfl ?_
          refine ga_goto (tgt := 4) dX9_setNextIdeal_41 (by decide) ?_
          exact ga_sub [1, 2, 0] rfl h
        · replace q13 : ¬ v12 = 0 := q13
          have h := hf q13
          refine ga_iload_n 2 dX9_setNextIdeal_36 rfl rfl ?_
          refine ga_istore_n (ls' := [(1, vI x2), (0, .ref (G.2.1 69)), (2, vI x2)]) dX9_setNextIdeal_37 rfl (by decide) rfl ?_
          refine ga_iinc (ls' := [(2, vI (x2 + 1)), (1, vI x2), (0, .ref (G.2.1 69))]) 2 dX9_setNextIdeal_38 rfl (by decide) rfl ?_
          refine ga_goto (tgt := 4) dX9_setNextIdeal_41 (by decide) ?_
          exact ga_sub [2, 1, 0] rfl h
set_option maxRecDepth 100000 in
set_option maxHeartbeats 4000000 in
theorem vX9_setNextIdeal_59 {l : Launch} {G : gG}  (x1 : Int) (x2 : Int) (x3 : Int) (rx1 : gR x1) (rx2 : gR x2) (rx3 : gR x3) (σ : gS) (Q : gS → Prop) (h : ((gI σ 69 0) ≤ x3 → (0 ≤ x1 ∧ x1 < 40) ∧ ∀ σ17, σ17 = sI σ 73 x1 x2 →
    Q σ17) ∧
  (x3 < (gI σ 69 0) → (0 ≤ x3 ∧ x3 < 40) ∧ ((gI σ 73 x3) = (-1) → kX9_setNextIdeal_59 l G  x1 x2 (x3 + 1) σ Q) ∧
    (¬ (gI σ 73 x3) = (-1) → (0 ≤ x1 ∧ x1 < 40) ∧ (¬ (gI σ 71 x3) = (gI σ 71 x1) → kX9_setNextIdeal_59 l G  x1 x2 (x3 + 1) σ Q) ∧
      ((gI σ 71 x3) = (gI σ 71 x1) → (gR ((gI σ 73 x3) + 1)) ∧ kX9_setNextIdeal_59 l G  x1 (max x2 ((gI σ 73 x3) + 1)) (x3 + 1) σ Q)))) : kX9_setNextIdeal_59 l G  x1 x2 x3 σ Q := by
  refine ga_iload_n 3 dX9_setNextIdeal_59 rfl rfl ?_
  refine ga_aload_n 0 dX9_setNextIdeal_60 rfl rfl ?_
  refine ga_getI (kI := 0) dX9_setNextIdeal_61 fX9_46 rfl rfl rfl (fun r14 => ?_)
  obtain ⟨ht, hf⟩ := h
  refine ga_icmp_ge (tgt := 111) dX9_setNextIdeal_64 (by decide) rx3 r14 (fun q15 => ?_) (fun q15 => ?_)
  · replace q15 : (gI σ 69 0) ≤ x3 := q15
    have h := ht q15
    refine ga_aload_n 0 dX9_setNextIdeal_111 rfl rfl ?_
    refine ga_getR (kI := 4) (r := 73) dX9_setNextIdeal_112 fX9_21 rfl rfl (by decide) rfl ?_
    refine ga_iload_n 1 dX9_setNextIdeal_115 rfl rfl ?_
    refine ga_iload_n 2 dX9_setNextIdeal_116 rfl rfl ?_
    obtain ⟨i16, h⟩ := h
    obtain ⟨σ17, eσ17⟩ : ∃ z, z = sI σ 73 x1 x2 := ⟨_, rfl⟩
    replace h := h σ17 eσ17
    refine ga_iast (nI := 40) dX9_setNextIdeal_117 rfl rfl i16 rx2 eσ17 ?_
    exact ga_vret dX9_setNextIdeal_118 rfl h
  · replace q15 : x3 < (gI σ 69 0) := (Int.not_le.mp q15)
    have h := hf q15
    refine ga_aload_n 0 dX9_setNextIdeal_67 rfl rfl ?_
    refine ga_getR (kI := 4) (r := 73) dX9_setNextIdeal_68 fX9_21 rfl rfl (by decide) rfl ?_
    refine ga_iload_n 3 dX9_setNextIdeal_71 rfl rfl ?_
    obtain ⟨i18, h⟩ := h
    refine ga_iald (nI := 40) dX9_setNextIdeal_72 rfl rfl i18 (fun r19 => ?_)
    refine ga_iconst dX9_setNextIdeal_73 ?_
    obtain ⟨ht, hf⟩ := h
    refine ga_icmp_eq (tgt := 105) dX9_setNextIdeal_74 (by decide) r19 (by decide) (fun q20 => ?_) (fun q20 => ?_)
    · replace q20 : (gI σ 73 x3) = (-1) := q20
      have h := ht q20
      refine ga_iinc (ls' := [(3, vI (x3 + 1)), (0, .ref (G.2.1 69)), (1, vI x1), (2, vI x2)]) 3 dX9_setNextIdeal_105 rfl (by decide) rfl ?_
      refine ga_goto (tgt := 59) dX9_setNextIdeal_108 (by decide) ?_
      exact ga_sub [1, 2, 3, 0] rfl h
    · replace q20 : ¬ (gI σ 73 x3) = (-1) := q20
      have h := hf q20
      refine ga_aload_n 0 dX9_setNextIdeal_77 rfl rfl ?_
      refine ga_getR (kI := 2) (r := 71) dX9_setNextIdeal_78 fX9_15 rfl rfl (by decide) rfl ?_
      refine ga_iload_n 3 dX9_setNextIdeal_81 rfl rfl ?_
      refine ga_iald (nI := 40) dX9_setNextIdeal_82 rfl rfl i18 (fun r21 => ?_)
      refine ga_aload_n 0 dX9_setNextIdeal_83 rfl rfl ?_
      refine ga_getR (kI := 2) (r := 71) dX9_setNextIdeal_84 fX9_15 rfl rfl (by decide) rfl ?_
      refine ga_iload_n 1 dX9_setNextIdeal_87 rfl rfl ?_
      obtain ⟨i22, h⟩ := h
      refine ga_iald (nI := 40) dX9_setNextIdeal_88 rfl rfl i22 (fun r23 => ?_)
      obtain ⟨ht, hf⟩ := h
      refine ga_icmp_ne (tgt := 105) dX9_setNextIdeal_89 (by decide) r21 r23 (fun q24 => ?_) (fun q24 => ?_)
      · replace q24 : ¬ (gI σ 71 x3) = (gI σ 71 x1) := q24
        have h := ht q24
        refine ga_iinc (ls' := [(3, vI (x3 + 1)), (0, .ref (G.2.1 69)), (1, vI x1), (2, vI x2)]) 3 dX9_setNextIdeal_105 rfl (by decide) rfl ?_
        refine ga_goto (tgt := 59) dX9_setNextIdeal_108 (by decide) ?_
        exact ga_sub [1, 2, 3, 0] rfl h
      · replace q24 : (gI σ 71 x3) = (gI σ 71 x1) := (Decidable.not_not.mp q24)
        have h := hf q24
        refine ga_iload_n 2 dX9_setNextIdeal_92 rfl rfl ?_
        refine ga_aload_n 0 dX9_setNextIdeal_93 rfl rfl ?_
        refine ga_getR (kI := 4) (r := 73) dX9_setNextIdeal_94 fX9_21 rfl rfl (by decide) rfl ?_
        refine ga_iload_n 3 dX9_setNextIdeal_97 rfl rfl ?_
        refine ga_iald (nI := 40) dX9_setNextIdeal_98 rfl rfl i18 (fun r25 => ?_)
        refine ga_iconst dX9_setNextIdeal_99 ?_
        refine ga_iadd dX9_setNextIdeal_100 ?_
        obtain ⟨r26, h⟩ := h
        refine ga_max dX9_setNextIdeal_101 wX9_69 (by decide) (Nat.le_of_ble_eq_true rfl) rx2 r26 ?_
        refine ga_istore_n (ls' := [(2, vI (max x2 ((gI σ 73 x3) + 1))), (0, .ref (G.2.1 69)), (1, vI x1), (3, vI x3)]) dX9_setNextIdeal_104 rfl (by decide) rfl ?_
        refine ga_iinc (ls' := [(3, vI (x3 + 1)), (2, vI (max x2 ((gI σ 73 x3) + 1))), (0, .ref (G.2.1 69)), (1, vI x1)]) 3 dX9_setNextIdeal_105 rfl (by decide) rfl ?_
        refine ga_goto (tgt := 59) dX9_setNextIdeal_108 (by decide) ?_
        exact ga_sub [2, 3, 1, 0] rfl h
abbrev eX9_take (l : Launch) (G : gG) (x2 : Int) (x3 : Int) (σ : gS) (Q : gS → Prop) : Prop := gEv l G mX9_take [.ref (G.2.1 69), .ref (G.2.1 1), vI x2, vI x3] σ Q
abbrev kX9_take_11 (l : Launch) (G : gG)  (x2 : Int) (x3 : Int) (x4 : Int) (x5 : Int) (σ : gS) (Q : gS → Prop) : Prop := gAt l G mX9_take (gQv G Q) 11 [(0, .ref (G.2.1 69)), (1, .ref (G.2.1 1)), (2, vI x2), (3, vI x3), (4, vI x4), (5, vI x5)] [] σ
abbrev kX9_take_119 (l : Launch) (G : gG)  (x2 : Int) (x3 : Int) (x4 : Int) (x5 : Int) (σ : gS) (Q : gS → Prop) : Prop := gAt l G mX9_take (gQv G Q) 119 [(0, .ref (G.2.1 69)), (1, .ref (G.2.1 1)), (2, vI x2), (3, vI x3), (4, vI x4), (5, vI x5)] [] σ
abbrev kX9_take_145 (l : Launch) (G : gG)  (x2 : Int) (x3 : Int) (x4 : Int) (x5 : Int) (σ : gS) (Q : gS → Prop) : Prop := gAt l G mX9_take (gQv G Q) 145 [(0, .ref (G.2.1 69)), (1, .ref (G.2.1 1)), (2, vI x2), (3, vI x3), (4, vI x4), (5, vI x5)] [] σ
set_option maxRecDepth 100000 in
set_option maxHeartbeats 4000000 in
theorem vX9_take {l : Launch} {G : gG} (x2 : Int) (x3 : Int) (rx2 : gR x2) (rx3 : gR x3) (σ : gS) (Q : gS → Prop) (h : ∀ σ1, σ1 = sI σ 69 0 0 →
  kX9_take_11 l G  x2 x3 0 0 σ1 Q) : eX9_take l G x2 x3 σ Q := by
  refine ga_entry rfl (Nat.le_of_ble_eq_true rfl) ?_
  show gAt l G mX9_take (gQv G Q) 0 [(0, .ref (G.2.1 69)), (1, .ref (G.2.1 1)), (2, vI x2), (3, vI x3)] [] σ
  refine ga_aload_n 0 dX9_take_0 rfl rfl ?_
  refine ga_iconst dX9_take_1 ?_
  obtain ⟨σ1, eσ1⟩ : ∃ z, z = sI σ 69 0 0 := ⟨_, rfl⟩
  replace h := h σ1 eσ1
  refine ga_putI (kI := 0) dX9_take_2 fX9_46 pX9_0 rfl rfl rfl (by decide) eσ1 ?_
  refine ga_iconst dX9_take_5 ?_
  refine ga_istore (ls' := [(4, vI 0), (0, .ref (G.2.1 69)), (1, .ref (G.2.1 1)), (2, vI x2), (3, vI x3)]) dX9_take_6 (by decide) rfl ?_
  refine ga_iconst dX9_take_8 ?_
  refine ga_istore (ls' := [(5, vI 0), (4, vI 0), (0, .ref (G.2.1 69)), (1, .ref (G.2.1 1)), (2, vI x2), (3, vI x3)]) dX9_take_9 (by decide) rfl ?_
  exact ga_sub [2, 3, 4, 5, 1, 0] rfl h
set_option maxRecDepth 100000 in
set_option maxHeartbeats 4000000 in
theorem vX9_take_11 {l : Launch} {G : gG}  (x2 : Int) (x3 : Int) (x4 : Int) (x5 : Int) (rx2 : gR x2) (rx3 : gR x3) (rx4 : gR x4) (rx5 : gR x5) (σ : gS) (Q : gS → Prop) (h : (x3 ≤ x5 → kX9_take_119 l G  x2 x3 x4 0 σ Q) ∧
  (x5 < x3 → eX10_line l G 1 x2 x5 0 σ (fun v5 σ3 => gR v5 →
    eX10_line l G 1 x2 x5 1 σ3 (fun v8 σ6 => gR v8 →
    eX8_slotsOf l G v5 v8 σ6 (fun v11 σ9 => gR v11 →
    (¬ v5 = 2 → kX9_take_11 l G  x2 x3 (x4 + v11) (x5 + 1) σ9 Q) ∧
    (v5 = 2 → eX10_line l G 1 x2 x5 1 σ9 (fun v16 σ14 => gR v16 →
      (0 ≤ (gI σ9 69 0) ∧ (gI σ9 69 0) < 40) ∧ ∀ σ18, σ18 = sI σ14 70 (gI σ9 69 0) v16 →
      eX10_line l G 1 x2 x5 2 σ18 (fun v22 σ20 => gR v22 →
      (0 ≤ (gI σ18 69 0) ∧ (gI σ18 69 0) < 40) ∧ ∀ σ24, σ24 = sI σ20 71 (gI σ18 69 0) v22 →
      (0 ≤ (gI σ24 69 0) ∧ (gI σ24 69 0) < 40) ∧ (gR (x4 + v11)) ∧ ∀ σ27, σ27 = sI σ24 72 (gI σ24 69 0) (x4 + v11) →
      (gR ((gI σ27 69 0) + 1)) ∧ ∀ σ30, σ30 = sI σ27 69 0 ((gI σ27 69 0) + 1) →
      kX9_take_11 l G  x2 x3 (x4 + v11) (x5 + 1) σ30 Q)))))))) : kX9_take_11 l G  x2 x3 x4 x5 σ Q := by
  refine ga_iload 5 dX9_take_11 rfl ?_
  refine ga_iload_n 3 dX9_take_13 rfl rfl ?_
  obtain ⟨ht, hf⟩ := h
  refine ga_icmp_ge (tgt := 116) dX9_take_14 (by decide) rx5 rx3 (fun q2 => ?_) (fun q2 => ?_)
  · replace q2 : x3 ≤ x5 := q2
    have h := ht q2
    refine ga_iconst dX9_take_116 ?_
    refine ga_istore (ls' := [(5, vI 0), (0, .ref (G.2.1 69)), (1, .ref (G.2.1 1)), (2, vI x2), (3, vI x3), (4, vI x4)]) dX9_take_117 (by decide) rfl ?_
    exact ga_sub [1, 2, 3, 4, 5, 0] rfl h
  · replace q2 : x5 < x3 := (Int.not_le.mp q2)
    have h := hf q2
    refine ga_aload_n 1 dX9_take_17 rfl rfl ?_
    refine ga_iconst dX9_take_18 ?_
    refine ga_iload_n 2 dX9_take_19 rfl rfl ?_
    refine ga_iload 5 dX9_take_20 rfl ?_
    refine ga_iconst dX9_take_22 ?_
    refine ga_callVi (z := mX10_line) (As := [vI 1, vI x2, vI x5, vI 0]) (rest := []) dX9_take_23 wX9_50 qX9_take_X10_line rfl ⟨_, rfl, rfl⟩ rfl rfl (Nat.le_of_ble_eq_true rfl) (gEi_mono h (fun v5 σ3 h r4 => ?_))
    replace h := h r4
    refine ga_istore (ls' := [(6, vI v5), (0, .ref (G.2.1 69)), (1, .ref (G.2.1 1)), (2, vI x2), (3, vI x3), (4, vI x4), (5, vI x5)]) dX9_take_26 (by decide) rfl ?_
    refine ga_iload 5 dX9_take_28 rfl ?_
    refine ga_iload 0 dX9_take_30 rfl ?_
    refine ga_aload_n 2 dX9_take_32 rfl rfl ?_
    refine ga_iconst dX9_take_33 ?_
    refine ga_iload_n 3 dX9_take_34 rfl rfl ?_
    refine ga_iload 6 dX9_take_35 rfl ?_
    refine ga_iconst dX9_take_37 ?_
    refine ga_callVi (z := mX10_line) (As := [vI 1, vI x2, vI x5, vI 1]) (rest := [vI v5, vI x4]) dX9_take_38 wX9_50 qX9_take_X10_line rfl ⟨_, rfl, rfl⟩ rfl rfl (Nat.le_of_ble_eq_true rfl) (gEi_mono h (fun v8 σ6 h r7 => ?_))
    replace h := h r7
    refine ga_callSi (z := mX8_slotsOf) (As := [vI v5, vI v8]) (rest := [vI x4]) dX9_take_41 wX9_56 qX9_take_X8_slotsOf rfl rfl (Nat.le_of_ble_eq_true rfl) (gEi_mono h (fun v11 σ9 h r10 => ?_))
    replace h := h r10
    refine ga_iadd dX9_take_44 ?_
    refine ga_istore (ls' := [(4, vI (x4 + v11)), (6, vI v5), (0, .ref (G.2.1 69)), (1, .ref (G.2.1 1)), (2, vI x2), (3, vI x3), (5, vI x5)]) dX9_take_45 (by decide) rfl ?_
    refine ga_iload 1 dX9_take_47 rfl ?_
    refine ga_iconst dX9_take_49 ?_
    obtain ⟨ht, hf⟩ := h
    refine ga_icmp_ne (tgt := 110) dX9_take_50 (by decide) r4 (by decide) (fun q12 => ?_) (fun q12 => ?_)
    · replace q12 : ¬ v5 = 2 := q12
      have h := ht q12
      refine ga_iinc (ls' := [(5, vI (x5 + 1)), (4, vI (x4 + v11)), (6, vI v5), (0, .ref (G.2.1 69)), (1, .ref (G.2.1 1)), (2, vI x2), (3, vI x3)]) 6 dX9_take_110 rfl (by decide) rfl ?_
      refine ga_goto (tgt := 11) dX9_take_113 (by decide) ?_
      exact ga_sub [3, 4, 5, 6, 1, 0] rfl h
    · replace q12 : v5 = 2 := (Decidable.not_not.mp q12)
      have h := hf q12
      refine ga_aload_n 2 dX9_take_53 rfl rfl ?_
      refine ga_getR (kI := 1) (r := 70) dX9_take_54 fX9_9 rfl rfl (by decide) rfl ?_
      refine ga_aload_n 2 dX9_take_57 rfl rfl ?_
      refine ga_getI (kI := 0) dX9_take_58 fX9_46 rfl rfl rfl (fun r13 => ?_)
      refine ga_aload_n 3 dX9_take_61 rfl rfl ?_
      refine ga_iconst dX9_take_62 ?_
      refine ga_iload_n 4 dX9_take_63 rfl rfl ?_
      refine ga_iload 6 dX9_take_64 rfl ?_
      refine ga_iconst dX9_take_66 ?_
      refine ga_callVi (z := mX10_line) (As := [vI 1, vI x2, vI x5, vI 1]) (rest := [vI (gI σ9 69 0), .ref (G.2.1 70)]) dX9_take_67 wX9_50 qX9_take_X10_line rfl ⟨_, rfl, rfl⟩ rfl rfl (Nat.le_of_ble_eq_true rfl) (gEi_mono h (fun v16 σ14 h r15 => ?_))
      replace h := h r15
      obtain ⟨i17, h⟩ := h
      obtain ⟨σ18, eσ18⟩ : ∃ z, z = sI σ14 70 (gI σ9 69 0) v16 := ⟨_, rfl⟩
      replace h := h σ18 eσ18
      refine ga_iast (nI := 40) dX9_take_70 rfl rfl i17 r15 eσ18 ?_
      refine ga_aload_n 2 dX9_take_71 rfl rfl ?_
      refine ga_getR (kI := 2) (r := 71) dX9_take_72 fX9_15 rfl rfl (by decide) rfl ?_
      refine ga_aload_n 2 dX9_take_75 rfl rfl ?_
      refine ga_getI (kI := 0) dX9_take_76 fX9_46 rfl rfl rfl (fun r19 => ?_)
      refine ga_aload_n 3 dX9_take_79 rfl rfl ?_
      refine ga_iconst dX9_take_80 ?_
      refine ga_iload_n 4 dX9_take_81 rfl rfl ?_
      refine ga_iload 6 dX9_take_82 rfl ?_
      refine ga_iconst dX9_take_84 ?_
      refine ga_callVi (z := mX10_line) (As := [vI 1, vI x2, vI x5, vI 2]) (rest := [vI (gI σ18 69 0), .ref (G.2.1 71)]) dX9_take_85 wX9_50 qX9_take_X10_line rfl ⟨_, rfl, rfl⟩ rfl rfl (Nat.le_of_ble_eq_true rfl) (gEi_mono h (fun v22 σ20 h r21 => ?_))
      replace h := h r21
      obtain ⟨i23, h⟩ := h
      obtain ⟨σ24, eσ24⟩ : ∃ z, z = sI σ20 71 (gI σ18 69 0) v22 := ⟨_, rfl⟩
      replace h := h σ24 eσ24
      refine ga_iast (nI := 40) dX9_take_88 rfl rfl i23 r21 eσ24 ?_
      refine ga_aload_n 2 dX9_take_89 rfl rfl ?_
      refine ga_getR (kI := 3) (r := 72) dX9_take_90 fX9_18 rfl rfl (by decide) rfl ?_
      refine ga_aload_n 2 dX9_take_93 rfl rfl ?_
      refine ga_getI (kI := 0) dX9_take_94 fX9_46 rfl rfl rfl (fun r25 => ?_)
      refine ga_iload 0 dX9_take_97 rfl ?_
      obtain ⟨i26, h⟩ := h
      obtain ⟨r28, h⟩ := h
      obtain ⟨σ27, eσ27⟩ : ∃ z, z = sI σ24 72 (gI σ24 69 0) (x4 + v11) := ⟨_, rfl⟩
      replace h := h σ27 eσ27
      refine ga_iast (nI := 40) dX9_take_99 rfl rfl i26 r28 eσ27 ?_
      refine ga_aload_n 2 dX9_take_100 rfl rfl ?_
      refine ga_dup dX9_take_101 rfl ?_
      refine ga_getI (kI := 0) dX9_take_102 fX9_46 rfl rfl rfl (fun r29 => ?_)
      refine ga_iconst dX9_take_105 ?_
      refine ga_iadd dX9_take_106 ?_
      obtain ⟨r31, h⟩ := h
      obtain ⟨σ30, eσ30⟩ : ∃ z, z = sI σ27 69 0 ((gI σ27 69 0) + 1) := ⟨_, rfl⟩
      replace h := h σ30 eσ30
      refine ga_putI (kI := 0) dX9_take_107 fX9_46 pX9_0 rfl rfl rfl r31 eσ30 ?_
      refine ga_iinc (ls' := [(5, vI (x5 + 1)), (4, vI (x4 + v11)), (6, vI v5), (0, .ref (G.2.1 69)), (1, .ref (G.2.1 1)), (2, vI x2), (3, vI x3)]) 6 dX9_take_110 rfl (by decide) rfl ?_
      refine ga_goto (tgt := 11) dX9_take_113 (by decide) ?_
      exact ga_sub [3, 4, 5, 6, 1, 0] rfl h
set_option maxRecDepth 100000 in
set_option maxHeartbeats 4000000 in
theorem vX9_take_119 {l : Launch} {G : gG}  (x2 : Int) (x3 : Int) (x4 : Int) (x5 : Int) (rx2 : gR x2) (rx3 : gR x3) (rx4 : gR x4) (rx5 : gR x5) (σ : gS) (Q : gS → Prop) (h : ((gI σ 69 0) ≤ x5 → kX9_take_145 l G  x2 x3 x4 0 σ Q) ∧
  (x5 < (gI σ 69 0) → (0 ≤ x5 ∧ x5 < 40) ∧ ∀ σ35, σ35 = sI σ 73 x5 (-1) →
    kX9_take_119 l G  x2 x3 x4 (x5 + 1) σ35 Q)) : kX9_take_119 l G  x2 x3 x4 x5 σ Q := by
  refine ga_iload 5 dX9_take_119 rfl ?_
  refine ga_aload_n 0 dX9_take_121 rfl rfl ?_
  refine ga_getI (kI := 0) dX9_take_122 fX9_46 rfl rfl rfl (fun r32 => ?_)
  obtain ⟨ht, hf⟩ := h
  refine ga_icmp_ge (tgt := 142) dX9_take_125 (by decide) rx5 r32 (fun q33 => ?_) (fun q33 => ?_)
  · replace q33 : (gI σ 69 0) ≤ x5 := q33
    have h := ht q33
    refine ga_iconst dX9_take_142 ?_
    refine ga_istore (ls' := [(5, vI 0), (0, .ref (G.2.1 69)), (1, .ref (G.2.1 1)), (2, vI x2), (3, vI x3), (4, vI x4)]) dX9_take_143 (by decide) rfl ?_
    exact ga_sub [1, 2, 3, 4, 5, 0] rfl h
  · replace q33 : x5 < (gI σ 69 0) := (Int.not_le.mp q33)
    have h := hf q33
    refine ga_aload_n 0 dX9_take_128 rfl rfl ?_
    refine ga_getR (kI := 4) (r := 73) dX9_take_129 fX9_21 rfl rfl (by decide) rfl ?_
    refine ga_iload 5 dX9_take_132 rfl ?_
    refine ga_iconst dX9_take_134 ?_
    obtain ⟨i34, h⟩ := h
    obtain ⟨σ35, eσ35⟩ : ∃ z, z = sI σ 73 x5 (-1) := ⟨_, rfl⟩
    replace h := h σ35 eσ35
    refine ga_iast (nI := 40) dX9_take_135 rfl rfl i34 (by decide) eσ35 ?_
    refine ga_iinc (ls' := [(5, vI (x5 + 1)), (0, .ref (G.2.1 69)), (1, .ref (G.2.1 1)), (2, vI x2), (3, vI x3), (4, vI x4)]) 5 dX9_take_136 rfl (by decide) rfl ?_
    refine ga_goto (tgt := 119) dX9_take_139 (by decide) ?_
    exact ga_sub [1, 2, 3, 4, 5, 0] rfl h
set_option maxRecDepth 100000 in
set_option maxHeartbeats 4000000 in
theorem vX9_take_145 {l : Launch} {G : gG}  (x2 : Int) (x3 : Int) (x4 : Int) (x5 : Int) (rx2 : gR x2) (rx3 : gR x3) (rx4 : gR x4) (rx5 : gR x5) (σ : gS) (Q : gS → Prop) (h : ((gI σ 69 0) ≤ x5 → Q σ) ∧
  (x5 < (gI σ 69 0) → eX9_setNextIdeal l G  σ (fun σ38 =>
    kX9_take_145 l G  x2 x3 x4 (x5 + 1) σ38 Q))) : kX9_take_145 l G  x2 x3 x4 x5 σ Q := by
  refine ga_iload 5 dX9_take_145 rfl ?_
  refine ga_aload_n 0 dX9_take_147 rfl rfl ?_
  refine ga_getI (kI := 0) dX9_take_148 fX9_46 rfl rfl rfl (fun r36 => ?_)
  obtain ⟨ht, hf⟩ := h
  refine ga_icmp_ge (tgt := 164) dX9_take_151 (by decide) rx5 r36 (fun q37 => ?_) (fun q37 => ?_)
  · replace q37 : (gI σ 69 0) ≤ x5 := q37
    have h := ht q37
    exact ga_vret dX9_take_164 rfl h
  · replace q37 : x5 < (gI σ 69 0) := (Int.not_le.mp q37)
    have h := hf q37
    refine ga_aload_n 0 dX9_take_154 rfl rfl ?_
    refine ga_callVv (z := mX9_setNextIdeal) (As := []) (rest := []) dX9_take_155 wX9_62 qX9_take_X9_setNextIdeal rfl ⟨_, rfl, rfl⟩ rfl rfl (Nat.le_of_ble_eq_true rfl) (gEv_mono h (fun σ38 h => ?_))
    refine ga_iinc (ls' := [(5, vI (x5 + 1)), (0, .ref (G.2.1 69)), (1, .ref (G.2.1 1)), (2, vI x2), (3, vI x3), (4, vI x4)]) 5 dX9_take_158 rfl (by decide) rfl ?_
    refine ga_goto (tgt := 145) dX9_take_161 (by decide) ?_
    exact ga_sub [1, 2, 3, 4, 5, 0] rfl h
abbrev eX9_putInRow (l : Launch) (G : gG) (x1 : Int) (σ : gS) (Q : gS → Prop) : Prop := gEv l G mX9_putInRow [.ref (G.2.1 69), vI x1] σ Q
abbrev kX9_putInRow_4 (l : Launch) (G : gG)  (x1 : Int) (x2 : Int) (x3 : Int) (σ : gS) (Q : gS → Prop) : Prop := gAt l G mX9_putInRow (gQv G Q) 4 [(0, .ref (G.2.1 69)), (1, vI x1), (2, vI x2), (3, vI x3)] [] σ
abbrev kX9_putInRow_97 (l : Launch) (G : gG)  (x1 : Int) (x2 : Int) (x3 : Int) (x4 : Int) (x5 : Int) (x6 : Int) (σ : gS) (Q : gS → Prop) : Prop := gAt l G mX9_putInRow (gQv G Q) 97 [(0, .ref (G.2.1 69)), (1, vI x1), (2, vI x2), (3, vI x3), (4, vI x4), (5, vI x5), (6, vI x6)] [] σ
set_option maxRecDepth 100000 in
set_option maxHeartbeats 4000000 in
theorem vX9_putInRow {l : Launch} {G : gG} (x1 : Int) (rx1 : gR x1) (σ : gS) (Q : gS → Prop) (h : kX9_putInRow_4 l G  x1 0 0 σ Q) : eX9_putInRow l G x1 σ Q := by
  refine ga_entry rfl (Nat.le_of_ble_eq_true rfl) ?_
  show gAt l G mX9_putInRow (gQv G Q) 0 [(0, .ref (G.2.1 69)), (1, vI x1)] [] σ
  refine ga_iconst dX9_putInRow_0 ?_
  refine ga_istore_n (ls' := [(2, vI 0), (0, .ref (G.2.1 69)), (1, vI x1)]) dX9_putInRow_1 rfl (by decide) rfl ?_
  refine ga_iconst dX9_putInRow_2 ?_
  refine ga_istore_n (ls' := [(3, vI 0), (2, vI 0), (0, .ref (G.2.1 69)), (1, vI x1)]) dX9_putInRow_3 rfl (by decide) rfl ?_
  exact ga_sub [2, 3, 1, 0] rfl h
set_option maxRecDepth 100000 in
set_option maxHeartbeats 4000000 in
theorem vX9_putInRow_4 {l : Launch} {G : gG}  (x1 : Int) (x2 : Int) (x3 : Int) (rx1 : gR x1) (rx2 : gR x2) (rx3 : gR x3) (σ : gS) (Q : gS → Prop) (h : ((gI σ 69 0) ≤ x3 → (0 ≤ x1 ∧ x1 < 40) ∧ (0 ≤ (gI σ 70 x1) ∧ (gI σ 70 x1) < 6) ∧ kX9_putInRow_97 l G  x1 x2 (gI σ 70 x1) ((gI σ 70 x1) * 40) (min x2 (gI σ 77 (gI σ 70 x1))) (((gI σ 70 x1) * 40) + (gI σ 77 (gI σ 70 x1))) σ Q) ∧
  (x3 < (gI σ 69 0) → (0 ≤ x3 ∧ x3 < 40) ∧ (¬ (gI σ 75 x3) = 2 → kX9_putInRow_4 l G  x1 x2 (x3 + 1) σ Q) ∧
    ((gI σ 75 x3) = 2 → (0 ≤ x1 ∧ x1 < 40) ∧ (¬ (gI σ 71 x3) = (gI σ 71 x1) → kX9_putInRow_4 l G  x1 x2 (x3 + 1) σ Q) ∧
      ((gI σ 71 x3) = (gI σ 71 x1) → ((gI σ 73 x1) ≤ (gI σ 73 x3) → kX9_putInRow_4 l G  x1 x2 (x3 + 1) σ Q) ∧
        ((gI σ 73 x3) < (gI σ 73 x1) → kX9_putInRow_4 l G  x1 (x2 + 1) (x3 + 1) σ Q))))) : kX9_putInRow_4 l G  x1 x2 x3 σ Q := by
  refine ga_iload_n 3 dX9_putInRow_4 rfl rfl ?_
  refine ga_aload_n 0 dX9_putInRow_5 rfl rfl ?_
  refine ga_getI (kI := 0) dX9_putInRow_6 fX9_46 rfl rfl rfl (fun r1 => ?_)
  obtain ⟨ht, hf⟩ := h
  refine ga_icmp_ge (tgt := 61) dX9_putInRow_9 (by decide) rx3 r1 (fun q2 => ?_) (fun q2 => ?_)
  · replace q2 : (gI σ 69 0) ≤ x3 := q2
    have h := ht q2
    refine ga_aload_n 0 dX9_putInRow_61 rfl rfl ?_
    refine ga_getR (kI := 1) (r := 70) dX9_putInRow_62 fX9_9 rfl rfl (by decide) rfl ?_
    refine ga_iload_n 1 dX9_putInRow_65 rfl rfl ?_
    obtain ⟨i3, h⟩ := h
    refine ga_iald (nI := 40) dX9_putInRow_66 rfl rfl i3 (fun r4 => ?_)
    refine ga_istore_n (ls' := [(3, vI (gI σ 70 x1)), (0, .ref (G.2.1 69)), (1, vI x1), (2, vI x2)]) dX9_putInRow_67 rfl (by decide) rfl ?_
    refine ga_iload_n 0 dX9_putInRow_68 rfl rfl ?_
    refine ga_bipush dX9_putInRow_69 (by decide) ?_
    refine ga_imul dX9_putInRow_71 ?_
    refine ga_istore (ls' := [(4, vI ((gI σ 70 x1) * 40)), (3, vI (gI σ 70 x1)), (0, .ref (G.2.1 69)), (1, vI x1), (2, vI x2)]) dX9_putInRow_72 (by decide) rfl ?_
    refine ga_iload_n 4 dX9_putInRow_74 rfl rfl ?_
    refine ga_aload_n 2 dX9_putInRow_75 rfl rfl ?_
    refine ga_getR (kI := 8) (r := 77) dX9_putInRow_76 fX9_33 rfl rfl (by decide) rfl ?_
    refine ga_iload_n 1 dX9_putInRow_79 rfl rfl ?_
    obtain ⟨i5, h⟩ := h
    refine ga_iald (nI := 6) dX9_putInRow_80 rfl rfl i5 (fun r6 => ?_)
    refine ga_min dX9_putInRow_81 wX9_91 (by decide) (Nat.le_of_ble_eq_true rfl) rx2 r6 ?_
    refine ga_istore (ls' := [(5, vI (min x2 (gI σ 77 (gI σ 70 x1)))), (4, vI ((gI σ 70 x1) * 40)), (3, vI (gI σ 70 x1)), (0, .ref (G.2.1 69)), (1, vI x1), (2, vI x2)]) dX9_putInRow_84 (by decide) rfl ?_
    refine ga_iload 1 dX9_putInRow_86 rfl ?_
    refine ga_aload_n 3 dX9_putInRow_88 rfl rfl ?_
    refine ga_getR (kI := 8) (r := 77) dX9_putInRow_89 fX9_33 rfl rfl (by decide) rfl ?_
    refine ga_iload_n 2 dX9_putInRow_92 rfl rfl ?_
    refine ga_iald (nI := 6) dX9_putInRow_93 rfl rfl i5 (fun r7 => ?_)
    refine ga_iadd dX9_putInRow_94 ?_
    refine ga_istore (ls' := [(6, vI (((gI σ 70 x1) * 40) + (gI σ 77 (gI σ 70 x1)))), (5, vI (min x2 (gI σ 77 (gI σ 70 x1)))), (4, vI ((gI σ 70 x1) * 40)), (3, vI (gI σ 70 x1)), (0, .ref (G.2.1 69)), (1, vI x1), (2, vI x2)]) dX9_putInRow_95 (by decide) rfl ?_
    exact ga_sub [4, 5, 6, 3, 2, 1, 0] rfl h
  · replace q2 : x3 < (gI σ 69 0) := (Int.not_le.mp q2)
    have h := hf q2
    refine ga_aload_n 0 dX9_putInRow_12 rfl rfl ?_
    refine ga_getR (kI := 6) (r := 75) dX9_putInRow_13 fX9_27 rfl rfl (by decide) rfl ?_
    refine ga_iload_n 3 dX9_putInRow_16 rfl rfl ?_
    obtain ⟨i8, h⟩ := h
    refine ga_iald (nI := 40) dX9_putInRow_17 rfl rfl i8 (fun r9 => ?_)
    refine ga_iconst dX9_putInRow_18 ?_
    obtain ⟨ht, hf⟩ := h
    refine ga_icmp_ne (tgt := 55) dX9_putInRow_19 (by decide) r9 (by decide) (fun q10 => ?_) (fun q10 => ?_)
    · replace q10 : ¬ (gI σ 75 x3) = 2 := q10
      have h := ht q10
      refine ga_iinc (ls' := [(3, vI (x3 + 1)), (0, .ref (G.2.1 69)), (1, vI x1), (2, vI x2)]) 3 dX9_putInRow_55 rfl (by decide) rfl ?_
      refine ga_goto (tgt := 4) dX9_putInRow_58 (by decide) ?_
      exact ga_sub [1, 2, 3, 0] rfl h
    · replace q10 : (gI σ 75 x3) = 2 := (Decidable.not_not.mp q10)
      have h := hf q10
      refine ga_aload_n 0 dX9_putInRow_22 rfl rfl ?_
      refine ga_getR (kI := 2) (r := 71) dX9_putInRow_23 fX9_15 rfl rfl (by decide) rfl ?_
      refine ga_iload_n 3 dX9_putInRow_26 rfl rfl ?_
      refine ga_iald (nI := 40) dX9_putInRow_27 rfl rfl i8 (fun r11 => ?_)
      refine ga_aload_n 0 dX9_putInRow_28 rfl rfl ?_
      refine ga_getR (kI := 2) (r := 71) dX9_putInRow_29 fX9_15 rfl rfl (by decide) rfl ?_
      refine ga_iload_n 1 dX9_putInRow_32 rfl rfl ?_
      obtain ⟨i12, h⟩ := h
      refine ga_iald (nI := 40) dX9_putInRow_33 rfl rfl i12 (fun r13 => ?_)
      obtain ⟨ht, hf⟩ := h
      refine ga_icmp_ne (tgt := 55) dX9_putInRow_34 (by decide) r11 r13 (fun q14 => ?_) (fun q14 => ?_)
      · replace q14 : ¬ (gI σ 71 x3) = (gI σ 71 x1) := q14
        have h := ht q14
        refine ga_iinc (ls' := [(3, vI (x3 + 1)), (0, .ref (G.2.1 69)), (1, vI x1), (2, vI x2)]) 3 dX9_putInRow_55 rfl (by decide) rfl ?_
        refine ga_goto (tgt := 4) dX9_putInRow_58 (by decide) ?_
        exact ga_sub [1, 2, 3, 0] rfl h
      · replace q14 : (gI σ 71 x3) = (gI σ 71 x1) := (Decidable.not_not.mp q14)
        have h := hf q14
        refine ga_aload_n 0 dX9_putInRow_37 rfl rfl ?_
        refine ga_getR (kI := 4) (r := 73) dX9_putInRow_38 fX9_21 rfl rfl (by decide) rfl ?_
        refine ga_iload_n 3 dX9_putInRow_41 rfl rfl ?_
        refine ga_iald (nI := 40) dX9_putInRow_42 rfl rfl i8 (fun r15 => ?_)
        refine ga_aload_n 0 dX9_putInRow_43 rfl rfl ?_
        refine ga_getR (kI := 4) (r := 73) dX9_putInRow_44 fX9_21 rfl rfl (by decide) rfl ?_
        refine ga_iload_n 1 dX9_putInRow_47 rfl rfl ?_
        refine ga_iald (nI := 40) dX9_putInRow_48 rfl rfl i12 (fun r16 => ?_)
        obtain ⟨ht, hf⟩ := h
        refine ga_icmp_ge (tgt := 55) dX9_putInRow_49 (by decide) r15 r16 (fun q17 => ?_) (fun q17 => ?_)
        · replace q17 : (gI σ 73 x1) ≤ (gI σ 73 x3) := q17
          have h := ht q17
          refine ga_iinc (ls' := [(3, vI (x3 + 1)), (0, .ref (G.2.1 69)), (1, vI x1), (2, vI x2)]) 3 dX9_putInRow_55 rfl (by decide) rfl ?_
          refine ga_goto (tgt := 4) dX9_putInRow_58 (by decide) ?_
          exact ga_sub [1, 2, 3, 0] rfl h
        · replace q17 : (gI σ 73 x3) < (gI σ 73 x1) := (Int.not_le.mp q17)
          have h := hf q17
          refine ga_iinc (ls' := [(2, vI (x2 + 1)), (0, .ref (G.2.1 69)), (1, vI x1), (3, vI x3)]) 2 dX9_putInRow_52 rfl (by decide) rfl ?_
          refine ga_iinc (ls' := [(3, vI (x3 + 1)), (2, vI (x2 + 1)), (0, .ref (G.2.1 69)), (1, vI x1)]) 3 dX9_putInRow_55 rfl (by decide) rfl ?_
          refine ga_goto (tgt := 4) dX9_putInRow_58 (by decide) ?_
          exact ga_sub [2, 3, 1, 0] rfl h
set_option maxRecDepth 100000 in
set_option maxHeartbeats 4000000 in
theorem vX9_putInRow_97 {l : Launch} {G : gG}  (x1 : Int) (x2 : Int) (x3 : Int) (x4 : Int) (x5 : Int) (x6 : Int) (rx1 : gR x1) (rx2 : gR x2) (rx3 : gR x3) (rx4 : gR x4) (rx5 : gR x5) (rx6 : gR x6) (σ : gS) (Q : gS → Prop) (h : (gR (x4 + x5)) ∧ (x6 ≤ (x4 + x5) → (0 ≤ (x4 + x5) ∧ (x4 + x5) < 240) ∧ ∀ σ21, σ21 = sI σ 76 (x4 + x5) x1 →
    (0 ≤ x3 ∧ x3 < 6) ∧ (gR ((gI σ21 77 x3) + 1)) ∧ ∀ σ24, σ24 = sI σ21 77 x3 ((gI σ21 77 x3) + 1) →
    Q σ24) ∧
  ((x4 + x5) < x6 → (0 ≤ (x6 - 1) ∧ (x6 - 1) < 240) ∧ (0 ≤ x6 ∧ x6 < 240) ∧ ∀ σ29, σ29 = sI σ 76 x6 (gI σ 76 (x6 - 1)) →
    kX9_putInRow_97 l G  x1 x2 x3 x4 x5 (x6 + (-1)) σ29 Q)) : kX9_putInRow_97 l G  x1 x2 x3 x4 x5 x6 σ Q := by
  refine ga_iload 6 dX9_putInRow_97 rfl ?_
  refine ga_iload 4 dX9_putInRow_99 rfl ?_
  refine ga_iload 5 dX9_putInRow_101 rfl ?_
  refine ga_iadd dX9_putInRow_103 ?_
  obtain ⟨r18, h⟩ := h
  obtain ⟨ht, hf⟩ := h
  refine ga_icmp_le (tgt := 129) dX9_putInRow_104 (by decide) rx6 r18 (fun q19 => ?_) (fun q19 => ?_)
  · replace q19 : x6 ≤ (x4 + x5) := q19
    have h := ht q19
    refine ga_aload_n 0 dX9_putInRow_129 rfl rfl ?_
    refine ga_getR (kI := 7) (r := 76) dX9_putInRow_130 fX9_30 rfl rfl (by decide) rfl ?_
    refine ga_iload 4 dX9_putInRow_133 rfl ?_
    refine ga_iload 5 dX9_putInRow_135 rfl ?_
    refine ga_iadd dX9_putInRow_137 ?_
    refine ga_iload_n 1 dX9_putInRow_138 rfl rfl ?_
    obtain ⟨i20, h⟩ := h
    obtain ⟨σ21, eσ21⟩ : ∃ z, z = sI σ 76 (x4 + x5) x1 := ⟨_, rfl⟩
    replace h := h σ21 eσ21
    refine ga_iast (nI := 240) dX9_putInRow_139 rfl rfl i20 rx1 eσ21 ?_
    refine ga_aload_n 0 dX9_putInRow_140 rfl rfl ?_
    refine ga_getR (kI := 8) (r := 77) dX9_putInRow_141 fX9_33 rfl rfl (by decide) rfl ?_
    refine ga_iload_n 3 dX9_putInRow_144 rfl rfl ?_
    refine ga_dup2 dX9_putInRow_145 rfl rfl ?_
    obtain ⟨i22, h⟩ := h
    refine ga_iald (nI := 6) dX9_putInRow_146 rfl rfl i22 (fun r23 => ?_)
    refine ga_iconst dX9_putInRow_147 ?_
    refine ga_iadd dX9_putInRow_148 ?_
    obtain ⟨r25, h⟩ := h
    obtain ⟨σ24, eσ24⟩ : ∃ z, z = sI σ21 77 x3 ((gI σ21 77 x3) + 1) := ⟨_, rfl⟩
    replace h := h σ24 eσ24
    refine ga_iast (nI := 6) dX9_putInRow_149 rfl rfl i22 r25 eσ24 ?_
    exact ga_vret dX9_putInRow_150 rfl h
  · replace q19 : (x4 + x5) < x6 := (Int.not_le.mp q19)
    have h := hf q19
    refine ga_aload_n 0 dX9_putInRow_107 rfl rfl ?_
    refine ga_getR (kI := 7) (r := 76) dX9_putInRow_108 fX9_30 rfl rfl (by decide) rfl ?_
    refine ga_iload 6 dX9_putInRow_111 rfl ?_
    refine ga_aload_n 0 dX9_putInRow_113 rfl rfl ?_
    refine ga_getR (kI := 7) (r := 76) dX9_putInRow_114 fX9_30 rfl rfl (by decide) rfl ?_
    refine ga_iload 6 dX9_putInRow_117 rfl ?_
    refine ga_iconst dX9_putInRow_119 ?_
    refine ga_isub dX9_putInRow_120 ?_
    obtain ⟨i26, h⟩ := h
    refine ga_iald (nI := 240) dX9_putInRow_121 rfl rfl i26 (fun r27 => ?_)
    obtain ⟨i28, h⟩ := h
    obtain ⟨σ29, eσ29⟩ : ∃ z, z = sI σ 76 x6 (gI σ 76 (x6 - 1)) := ⟨_, rfl⟩
    replace h := h σ29 eσ29
    refine ga_iast (nI := 240) dX9_putInRow_122 rfl rfl i28 r27 eσ29 ?_
    refine ga_iinc (ls' := [(6, vI (x6 + (-1))), (0, .ref (G.2.1 69)), (1, vI x1), (2, vI x2), (3, vI x3), (4, vI x4), (5, vI x5)]) 6 dX9_putInRow_123 rfl (by decide) rfl ?_
    refine ga_goto (tgt := 97) dX9_putInRow_126 (by decide) ?_
    exact ga_sub [1, 2, 3, 4, 5, 6, 0] rfl h
abbrev eX9_comeAll (l : Launch) (G : gG) (x1 : Int) (σ : gS) (Q : gS → Prop) : Prop := gEv l G mX9_comeAll [.ref (G.2.1 69), vI x1] σ Q
abbrev kX9_comeAll_2 (l : Launch) (G : gG)  (x1 : Int) (x2 : Int) (σ : gS) (Q : gS → Prop) : Prop := gAt l G mX9_comeAll (gQv G Q) 2 [(0, .ref (G.2.1 69)), (1, vI x1), (2, vI x2)] [] σ
set_option maxRecDepth 100000 in
set_option maxHeartbeats 4000000 in
theorem vX9_comeAll {l : Launch} {G : gG} (x1 : Int) (rx1 : gR x1) (σ : gS) (Q : gS → Prop) (h : kX9_comeAll_2 l G  x1 0 σ Q) : eX9_comeAll l G x1 σ Q := by
  refine ga_entry rfl (Nat.le_of_ble_eq_true rfl) ?_
  show gAt l G mX9_comeAll (gQv G Q) 0 [(0, .ref (G.2.1 69)), (1, vI x1)] [] σ
  refine ga_iconst dX9_comeAll_0 ?_
  refine ga_istore_n (ls' := [(2, vI 0), (0, .ref (G.2.1 69)), (1, vI x1)]) dX9_comeAll_1 rfl (by decide) rfl ?_
  exact ga_sub [1, 2, 0] rfl h
set_option maxRecDepth 100000 in
set_option maxHeartbeats 4000000 in
theorem vX9_comeAll_2 {l : Launch} {G : gG}  (x1 : Int) (x2 : Int) (rx1 : gR x1) (rx2 : gR x2) (σ : gS) (Q : gS → Prop) (h : ((gI σ 69 0) ≤ x2 → Q σ) ∧
  (x2 < (gI σ 69 0) → (0 ≤ x2 ∧ x2 < 40) ∧ (¬ (gI σ 72 x2) = x1 → kX9_comeAll_2 l G  x1 (x2 + 1) σ Q) ∧
    ((gI σ 72 x2) = x1 → eX9_putInRow l G x2 σ (fun σ6 =>
      ∀ σ8, σ8 = sI σ6 75 x2 1 →
      kX9_comeAll_2 l G  x1 (x2 + 1) σ8 Q)))) : kX9_comeAll_2 l G  x1 x2 σ Q := by
  refine ga_iload_n 2 dX9_comeAll_2 rfl rfl ?_
  refine ga_aload_n 0 dX9_comeAll_3 rfl rfl ?_
  refine ga_getI (kI := 0) dX9_comeAll_4 fX9_46 rfl rfl rfl (fun r1 => ?_)
  obtain ⟨ht, hf⟩ := h
  refine ga_icmp_ge (tgt := 38) dX9_comeAll_7 (by decide) rx2 r1 (fun q2 => ?_) (fun q2 => ?_)
  · replace q2 : (gI σ 69 0) ≤ x2 := q2
    have h := ht q2
    exact ga_vret dX9_comeAll_38 rfl h
  · replace q2 : x2 < (gI σ 69 0) := (Int.not_le.mp q2)
    have h := hf q2
    refine ga_aload_n 0 dX9_comeAll_10 rfl rfl ?_
    refine ga_getR (kI := 3) (r := 72) dX9_comeAll_11 fX9_18 rfl rfl (by decide) rfl ?_
    refine ga_iload_n 2 dX9_comeAll_14 rfl rfl ?_
    obtain ⟨i3, h⟩ := h
    refine ga_iald (nI := 40) dX9_comeAll_15 rfl rfl i3 (fun r4 => ?_)
    refine ga_iload_n 1 dX9_comeAll_16 rfl rfl ?_
    obtain ⟨ht, hf⟩ := h
    refine ga_icmp_ne (tgt := 32) dX9_comeAll_17 (by decide) r4 rx1 (fun q5 => ?_) (fun q5 => ?_)
    · replace q5 : ¬ (gI σ 72 x2) = x1 := q5
      have h := ht q5
      refine ga_iinc (ls' := [(2, vI (x2 + 1)), (0, .ref (G.2.1 69)), (1, vI x1)]) 2 dX9_comeAll_32 rfl (by decide) rfl ?_
      refine ga_goto (tgt := 2) dX9_comeAll_35 (by decide) ?_
      exact ga_sub [1, 2, 0] rfl h
    · replace q5 : (gI σ 72 x2) = x1 := (Decidable.not_not.mp q5)
      have h := hf q5
      refine ga_aload_n 0 dX9_comeAll_20 rfl rfl ?_
      refine ga_iload_n 2 dX9_comeAll_21 rfl rfl ?_
      refine ga_callVv (z := mX9_putInRow) (As := [vI x2]) (rest := []) dX9_comeAll_22 wX9_88 qX9_comeAll_X9_putInRow rfl ⟨_, rfl, rfl⟩ rfl rfl (Nat.le_of_ble_eq_true rfl) (gEv_mono h (fun σ6 h => ?_))
      refine ga_aload_n 0 dX9_comeAll_25 rfl rfl ?_
      refine ga_getR (kI := 6) (r := 75) dX9_comeAll_26 fX9_27 rfl rfl (by decide) rfl ?_
      refine ga_iload_n 2 dX9_comeAll_29 rfl rfl ?_
      refine ga_iconst dX9_comeAll_30 ?_
      obtain ⟨σ8, eσ8⟩ : ∃ z, z = sI σ6 75 x2 1 := ⟨_, rfl⟩
      replace h := h σ8 eσ8
      refine ga_iast (nI := 40) dX9_comeAll_31 rfl rfl i3 (by decide) eσ8 ?_
      refine ga_iinc (ls' := [(2, vI (x2 + 1)), (0, .ref (G.2.1 69)), (1, vI x1)]) 2 dX9_comeAll_32 rfl (by decide) rfl ?_
      refine ga_goto (tgt := 2) dX9_comeAll_35 (by decide) ?_
      exact ga_sub [1, 2, 0] rfl h
abbrev eX9_leastIdeal (l : Launch) (G : gG) (x1 : Int) (x2 : Int) (x3 : Int) (σ : gS) (Q : Int → gS → Prop) : Prop := gEi l G mX9_leastIdeal [.ref (G.2.1 69), vI x1, vI x2, vI x3] σ Q
abbrev kX9_leastIdeal_6 (l : Launch) (G : gG)  (x1 : Int) (x2 : Int) (x3 : Int) (x4 : Int) (x5 : Int) (σ : gS) (Q : Int → gS → Prop) : Prop := gAt l G mX9_leastIdeal (gQi G Q) 6 [(0, .ref (G.2.1 69)), (1, vI x1), (2, vI x2), (3, vI x3), (4, vI x4), (5, vI x5)] [] σ
set_option maxRecDepth 100000 in
set_option maxHeartbeats 4000000 in
theorem vX9_leastIdeal {l : Launch} {G : gG} (x1 : Int) (x2 : Int) (x3 : Int) (rx1 : gR x1) (rx2 : gR x2) (rx3 : gR x3) (σ : gS) (Q : Int → gS → Prop) (h : kX9_leastIdeal_6 l G  x1 x2 x3 (-1) 0 σ Q) : eX9_leastIdeal l G x1 x2 x3 σ Q := by
  refine ga_entry rfl (Nat.le_of_ble_eq_true rfl) ?_
  show gAt l G mX9_leastIdeal (gQi G Q) 0 [(0, .ref (G.2.1 69)), (1, vI x1), (2, vI x2), (3, vI x3)] [] σ
  refine ga_iconst dX9_leastIdeal_0 ?_
  refine ga_istore (ls' := [(4, vI (-1)), (0, .ref (G.2.1 69)), (1, vI x1), (2, vI x2), (3, vI x3)]) dX9_leastIdeal_1 (by decide) rfl ?_
  refine ga_iconst dX9_leastIdeal_3 ?_
  refine ga_istore (ls' := [(5, vI 0), (4, vI (-1)), (0, .ref (G.2.1 69)), (1, vI x1), (2, vI x2), (3, vI x3)]) dX9_leastIdeal_4 (by decide) rfl ?_
  exact ga_sub [2, 3, 4, 5, 1, 0] rfl h
set_option maxRecDepth 100000 in
set_option maxHeartbeats 4000000 in
theorem vX9_leastIdeal_6 {l : Launch} {G : gG}  (x1 : Int) (x2 : Int) (x3 : Int) (x4 : Int) (x5 : Int) (rx1 : gR x1) (rx2 : gR x2) (rx3 : gR x3) (rx4 : gR x4) (rx5 : gR x5) (σ : gS) (Q : Int → gS → Prop) (h : ((gI σ 69 0) ≤ x5 → Q x4 σ) ∧
  (x5 < (gI σ 69 0) → (0 ≤ x5 ∧ x5 < 40) ∧ (¬ (gI σ 75 x5) = x2 → kX9_leastIdeal_6 l G  x1 x2 x3 x4 (x5 + 1) σ Q) ∧
    ((gI σ 75 x5) = x2 → (¬ (gI σ 71 x5) = x1 → kX9_leastIdeal_6 l G  x1 x2 x3 x4 (x5 + 1) σ Q) ∧
      ((gI σ 71 x5) = x1 → ((gI σ 73 x5) ≤ x3 → kX9_leastIdeal_6 l G  x1 x2 x3 x4 (x5 + 1) σ Q) ∧
        (x3 < (gI σ 73 x5) → (x4 = (-1) → kX9_leastIdeal_6 l G  x1 x2 x3 x5 (x5 + 1) σ Q) ∧
          (¬ x4 = (-1) → (0 ≤ x4 ∧ x4 < 40) ∧ ((gI σ 73 x4) ≤ (gI σ 73 x5) → kX9_leastIdeal_6 l G  x1 x2 x3 x4 (x5 + 1) σ Q) ∧
            ((gI σ 73 x5) < (gI σ 73 x4) → kX9_leastIdeal_6 l G  x1 x2 x3 x5 (x5 + 1) σ Q))))))) : kX9_leastIdeal_6 l G  x1 x2 x3 x4 x5 σ Q := by
  refine ga_iload 5 dX9_leastIdeal_6 rfl ?_
  refine ga_aload_n 0 dX9_leastIdeal_8 rfl rfl ?_
  refine ga_getI (kI := 0) dX9_leastIdeal_9 fX9_46 rfl rfl rfl (fun r1 => ?_)
  obtain ⟨ht, hf⟩ := h
  refine ga_icmp_ge (tgt := 81) dX9_leastIdeal_12 (by decide) rx5 r1 (fun q2 => ?_) (fun q2 => ?_)
  · replace q2 : (gI σ 69 0) ≤ x5 := q2
    have h := ht q2
    refine ga_iload 4 dX9_leastIdeal_81 rfl ?_
    exact ga_iret dX9_leastIdeal_83 rfl rx4 h
  · replace q2 : x5 < (gI σ 69 0) := (Int.not_le.mp q2)
    have h := hf q2
    refine ga_aload_n 0 dX9_leastIdeal_15 rfl rfl ?_
    refine ga_getR (kI := 6) (r := 75) dX9_leastIdeal_16 fX9_27 rfl rfl (by decide) rfl ?_
    refine ga_iload 5 dX9_leastIdeal_19 rfl ?_
    obtain ⟨i3, h⟩ := h
    refine ga_iald (nI := 40) dX9_leastIdeal_21 rfl rfl i3 (fun r4 => ?_)
    refine ga_iload_n 2 dX9_leastIdeal_22 rfl rfl ?_
    obtain ⟨ht, hf⟩ := h
    refine ga_icmp_ne (tgt := 75) dX9_leastIdeal_23 (by decide) r4 rx2 (fun q5 => ?_) (fun q5 => ?_)
    · replace q5 : ¬ (gI σ 75 x5) = x2 := q5
      have h := ht q5
      refine ga_iinc (ls' := [(5, vI (x5 + 1)), (0, .ref (G.2.1 69)), (1, vI x1), (2, vI x2), (3, vI x3), (4, vI x4)]) 5 dX9_leastIdeal_75 rfl (by decide) rfl ?_
      refine ga_goto (tgt := 6) dX9_leastIdeal_78 (by decide) ?_
      exact ga_sub [1, 2, 3, 4, 5, 0] rfl h
    · replace q5 : (gI σ 75 x5) = x2 := (Decidable.not_not.mp q5)
      have h := hf q5
      refine ga_aload_n 0 dX9_leastIdeal_26 rfl rfl ?_
      refine ga_getR (kI := 2) (r := 71) dX9_leastIdeal_27 fX9_15 rfl rfl (by decide) rfl ?_
      refine ga_iload 5 dX9_leastIdeal_30 rfl ?_
      refine ga_iald (nI := 40) dX9_leastIdeal_32 rfl rfl i3 (fun r6 => ?_)
      refine ga_iload_n 1 dX9_leastIdeal_33 rfl rfl ?_
      obtain ⟨ht, hf⟩ := h
      refine ga_icmp_ne (tgt := 75) dX9_leastIdeal_34 (by decide) r6 rx1 (fun q7 => ?_) (fun q7 => ?_)
      · replace q7 : ¬ (gI σ 71 x5) = x1 := q7
        have h := ht q7
        refine ga_iinc (ls' := [(5, vI (x5 + 1)), (0, .ref (G.2.1 69)), (1, vI x1), (2, vI x2), (3, vI x3), (4, vI x4)]) 5 dX9_leastIdeal_75 rfl (by decide) rfl ?_
        refine ga_goto (tgt := 6) dX9_leastIdeal_78 (by decide) ?_
        exact ga_sub [1, 2, 3, 4, 5, 0] rfl h
      · replace q7 : (gI σ 71 x5) = x1 := (Decidable.not_not.mp q7)
        have h := hf q7
        refine ga_aload_n 0 dX9_leastIdeal_37 rfl rfl ?_
        refine ga_getR (kI := 4) (r := 73) dX9_leastIdeal_38 fX9_21 rfl rfl (by decide) rfl ?_
        refine ga_iload 5 dX9_leastIdeal_41 rfl ?_
        refine ga_iald (nI := 40) dX9_leastIdeal_43 rfl rfl i3 (fun r8 => ?_)
        refine ga_iload_n 3 dX9_leastIdeal_44 rfl rfl ?_
        obtain ⟨ht, hf⟩ := h
        refine ga_icmp_le (tgt := 75) dX9_leastIdeal_45 (by decide) r8 rx3 (fun q9 => ?_) (fun q9 => ?_)
        · replace q9 : (gI σ 73 x5) ≤ x3 := q9
          have h := ht q9
          refine ga_iinc (ls' := [(5, vI (x5 + 1)), (0, .ref (G.2.1 69)), (1, vI x1), (2, vI x2), (3, vI x3), (4, vI x4)]) 5 dX9_leastIdeal_75 rfl (by decide) rfl ?_
          refine ga_goto (tgt := 6) dX9_leastIdeal_78 (by decide) ?_
          exact ga_sub [1, 2, 3, 4, 5, 0] rfl h
        · replace q9 : x3 < (gI σ 73 x5) := (Int.not_le.mp q9)
          have h := hf q9
          refine ga_iload 4 dX9_leastIdeal_48 rfl ?_
          refine ga_iconst dX9_leastIdeal_50 ?_
          obtain ⟨ht, hf⟩ := h
          refine ga_icmp_eq (tgt := 71) dX9_leastIdeal_51 (by decide) rx4 (by decide) (fun q10 => ?_) (fun q10 => ?_)
          · replace q10 : x4 = (-1) := q10
            have h := ht q10
            refine ga_iload 5 dX9_leastIdeal_71 rfl ?_
            refine ga_istore (ls' := [(4, vI x5), (0, .ref (G.2.1 69)), (1, vI x1), (2, vI x2), (3, vI x3), (5, vI x5)]) dX9_leastIdeal_73 (by decide) rfl ?_
            refine ga_iinc (ls' := [(5, vI (x5 + 1)), (4, vI x5), (0, .ref (G.2.1 69)), (1, vI x1), (2, vI x2), (3, vI x3)]) 5 dX9_leastIdeal_75 rfl (by decide) rfl ?_
            refine ga_goto (tgt := 6) dX9_leastIdeal_78 (by decide) ?_
            exact ga_sub [2, 3, 4, 5, 1, 0] rfl h
          · replace q10 : ¬ x4 = (-1) := q10
            have h := hf q10
            refine ga_aload_n 0 dX9_leastIdeal_54 rfl rfl ?_
            refine ga_getR (kI := 4) (r := 73) dX9_leastIdeal_55 fX9_21 rfl rfl (by decide) rfl ?_
            refine ga_iload 5 dX9_leastIdeal_58 rfl ?_
            refine ga_iald (nI := 40) dX9_leastIdeal_60 rfl rfl i3 (fun r11 => ?_)
            refine ga_aload_n 0 dX9_leastIdeal_61 rfl rfl ?_
            refine ga_getR (kI := 4) (r := 73) dX9_leastIdeal_62 fX9_21 rfl rfl (by decide) rfl ?_
            refine ga_iload 4 dX9_leastIdeal_65 rfl ?_
            obtain ⟨i12, h⟩ := h
            refine ga_iald (nI := 40) dX9_leastIdeal_67 rfl rfl i12 (fun r13 => ?_)
            obtain ⟨ht, hf⟩ := h
            refine ga_icmp_ge (tgt := 75) dX9_leastIdeal_68 (by decide) r11 r13 (fun q14 => ?_) (fun q14 => ?_)
            · replace q14 : (gI σ 73 x4) ≤ (gI σ 73 x5) := q14
              have h := ht q14
              refine ga_iinc (ls' := [(5, vI (x5 + 1)), (0, .ref (G.2.1 69)), (1, vI x1), (2, vI x2), (3, vI x3), (4, vI x4)]) 5 dX9_leastIdeal_75 rfl (by decide) rfl ?_
              refine ga_goto (tgt := 6) dX9_leastIdeal_78 (by decide) ?_
              exact ga_sub [1, 2, 3, 4, 5, 0] rfl h
            · replace q14 : (gI σ 73 x5) < (gI σ 73 x4) := (Int.not_le.mp q14)
              have h := hf q14
              refine ga_iload 5 dX9_leastIdeal_71 rfl ?_
              refine ga_istore (ls' := [(4, vI x5), (0, .ref (G.2.1 69)), (1, vI x1), (2, vI x2), (3, vI x3), (5, vI x5)]) dX9_leastIdeal_73 (by decide) rfl ?_
              refine ga_iinc (ls' := [(5, vI (x5 + 1)), (4, vI x5), (0, .ref (G.2.1 69)), (1, vI x1), (2, vI x2), (3, vI x3)]) 5 dX9_leastIdeal_75 rfl (by decide) rfl ?_
              refine ga_goto (tgt := 6) dX9_leastIdeal_78 (by decide) ?_
              exact ga_sub [2, 3, 4, 5, 1, 0] rfl h
abbrev eX9_isAhead (l : Launch) (G : gG) (x1 : Int) (x2 : Int) (x3 : Int) (σ : gS) (Q : Int → gS → Prop) : Prop := gEz l G mX9_isAhead [.ref (G.2.1 69), vI x1, vI x2, vI x3] σ Q
abbrev kX9_isAhead_10 (l : Launch) (G : gG)  (x1 : Int) (x2 : Int) (x3 : Int) (x4 : Int) (x5 : Int) (σ : gS) (Q : Int → gS → Prop) : Prop := gAt l G mX9_isAhead (gQz G Q) 10 [(0, .ref (G.2.1 69)), (1, vI x1), (2, vI x2), (3, vI x3), (4, vI x4), (5, vI x5)] [] σ
set_option maxRecDepth 100000 in
set_option maxHeartbeats 4000000 in
theorem vX9_isAhead {l : Launch} {G : gG} (x1 : Int) (x2 : Int) (x3 : Int) (rx1 : gR x1) (rx2 : gR x2) (rx3 : gR x3) (σ : gS) (Q : Int → gS → Prop) (h : kX9_isAhead_10 l G  x1 x2 x3 (x1 * 40) (x1 * 40) σ Q) : eX9_isAhead l G x1 x2 x3 σ Q := by
  refine ga_entry rfl (Nat.le_of_ble_eq_true rfl) ?_
  show gAt l G mX9_isAhead (gQz G Q) 0 [(0, .ref (G.2.1 69)), (1, vI x1), (2, vI x2), (3, vI x3)] [] σ
  refine ga_iload_n 1 dX9_isAhead_0 rfl rfl ?_
  refine ga_bipush dX9_isAhead_1 (by decide) ?_
  refine ga_imul dX9_isAhead_3 ?_
  refine ga_istore (ls' := [(4, vI (x1 * 40)), (0, .ref (G.2.1 69)), (1, vI x1), (2, vI x2), (3, vI x3)]) dX9_isAhead_4 (by decide) rfl ?_
  refine ga_iload 0 dX9_isAhead_6 rfl ?_
  refine ga_istore (ls' := [(5, vI (x1 * 40)), (4, vI (x1 * 40)), (0, .ref (G.2.1 69)), (1, vI x1), (2, vI x2), (3, vI x3)]) dX9_isAhead_8 (by decide) rfl ?_
  exact ga_sub [2, 3, 4, 5, 1, 0] rfl h
set_option maxRecDepth 100000 in
set_option maxHeartbeats 4000000 in
theorem vX9_isAhead_10 {l : Launch} {G : gG}  (x1 : Int) (x2 : Int) (x3 : Int) (x4 : Int) (x5 : Int) (rx1 : gR x1) (rx2 : gR x2) (rx3 : gR x3) (rx4 : gR x4) (rx5 : gR x5) (σ : gS) (Q : Int → gS → Prop) (h : (0 ≤ x1 ∧ x1 < 6) ∧ (gR (x4 + (gI σ 77 x1))) ∧ ((x4 + (gI σ 77 x1)) ≤ x5 → Q 0 σ) ∧
  (x5 < (x4 + (gI σ 77 x1)) → (0 ≤ x5 ∧ x5 < 240) ∧ ((gI σ 76 x5) = x2 → (∀ v11 : Int, v11 = (if (gI σ 76 x5) = x2 then 1 else 0) →
      Q v11 σ)) ∧
    (¬ (gI σ 76 x5) = x2 → (¬ (gI σ 76 x5) = x3 → kX9_isAhead_10 l G  x1 x2 x3 x4 (x5 + 1) σ Q) ∧
      ((gI σ 76 x5) = x3 → (∀ v17 : Int, v17 = (if (gI σ 76 x5) = x2 then 1 else 0) →
        Q v17 σ))))) : kX9_isAhead_10 l G  x1 x2 x3 x4 x5 σ Q := by
  refine ga_iload 5 dX9_isAhead_10 rfl ?_
  refine ga_iload 4 dX9_isAhead_12 rfl ?_
  refine ga_aload_n 0 dX9_isAhead_14 rfl rfl ?_
  refine ga_getR (kI := 8) (r := 77) dX9_isAhead_15 fX9_33 rfl rfl (by decide) rfl ?_
  refine ga_iload_n 1 dX9_isAhead_18 rfl rfl ?_
  obtain ⟨i1, h⟩ := h
  refine ga_iald (nI := 6) dX9_isAhead_19 rfl rfl i1 (fun r2 => ?_)
  refine ga_iadd dX9_isAhead_20 ?_
  obtain ⟨r3, h⟩ := h
  obtain ⟨ht, hf⟩ := h
  refine ga_icmp_ge (tgt := 69) dX9_isAhead_21 (by decide) rx5 r3 (fun q4 => ?_) (fun q4 => ?_)
  · replace q4 : (x4 + (gI σ 77 x1)) ≤ x5 := q4
    have h := ht q4
    refine ga_iconst dX9_isAhead_69 ?_
    exact ga_bret dX9_isAhead_70 rfl (Or.inl rfl) h
  · replace q4 : x5 < (x4 + (gI σ 77 x1)) := (Int.not_le.mp q4)
    have h := hf q4
    refine ga_aload_n 0 dX9_isAhead_24 rfl rfl ?_
    refine ga_getR (kI := 7) (r := 76) dX9_isAhead_25 fX9_30 rfl rfl (by decide) rfl ?_
    refine ga_iload 5 dX9_isAhead_28 rfl ?_
    obtain ⟨i5, h⟩ := h
    refine ga_iald (nI := 240) dX9_isAhead_30 rfl rfl i5 (fun r6 => ?_)
    refine ga_iload_n 2 dX9_isAhead_31 rfl rfl ?_
    obtain ⟨ht, hf⟩ := h
    refine ga_icmp_eq (tgt := 46) dX9_isAhead_32 (by decide) r6 rx2 (fun q7 => ?_) (fun q7 => ?_)
    · replace q7 : (gI σ 76 x5) = x2 := q7
      have h := ht q7
      refine ga_aload_n 0 dX9_isAhead_46 rfl rfl ?_
      refine ga_getR (kI := 7) (r := 76) dX9_isAhead_47 fX9_30 rfl rfl (by decide) rfl ?_
      refine ga_iload 5 dX9_isAhead_50 rfl ?_
      refine ga_iald (nI := 240) dX9_isAhead_52 rfl rfl i5 (fun r8 => ?_)
      refine ga_iload_n 2 dX9_isAhead_53 rfl rfl ?_
      have kJ9 : ∀ v11 : Int, gR v11 → (v11 = 0 ∨ v11 = 1) → v11 = (if (gI σ 76 x5) = x2 then 1 else 0) → gAt l G mX9_isAhead (gQz G Q) 62 [(0, .ref (G.2.1 69)), (1, vI x1), (2, vI x2), (3, vI x3), (4, vI x4), (5, vI x5)] [vI v11] σ := by
        intro v11 rv11 bv11 ev11
        replace h := h v11 ev11
        exact ga_bret dX9_isAhead_62 rfl bv11 h
      replace h : (¬ (gI σ 76 x5) = x2 → True) ∧
      ((gI σ 76 x5) = x2 → True) := by repeat (first | exact True.intro | apply And.intro | intro _)
      obtain ⟨ht, hf⟩ := h
      refine ga_icmp_ne (tgt := 61) dX9_isAhead_54 (by decide) r8 rx2 (fun q10 => ?_) (fun q10 => ?_)
      · replace q10 : ¬ (gI σ 76 x5) = x2 := q10
        have h := ht q10
        refine ga_iconst dX9_isAhead_61 ?_
        exact kJ9 0 (by decide) (Or.inl rfl) (by rw [if_neg q10])
      · replace q10 : (gI σ 76 x5) = x2 := (Decidable.not_not.mp q10)
        have h := hf q10
        refine ga_iconst dX9_isAhead_57 ?_
        refine ga_goto (tgt := 62) dX9_isAhead_58 (by decide) ?_
        exact kJ9 1 (by decide) (Or.inr rfl) (by rw [if_pos q10])
    · replace q7 : ¬ (gI σ 76 x5) = x2 := q7
      have h := hf q7
      refine ga_aload_n 0 dX9_isAhead_35 rfl rfl ?_
      refine ga_getR (kI := 7) (r := 76) dX9_isAhead_36 fX9_30 rfl rfl (by decide) rfl ?_
      refine ga_iload 5 dX9_isAhead_39 rfl ?_
      refine ga_iald (nI := 240) dX9_isAhead_41 rfl rfl i5 (fun r12 => ?_)
      refine ga_iload_n 3 dX9_isAhead_42 rfl rfl ?_
      obtain ⟨ht, hf⟩ := h
      refine ga_icmp_ne (tgt := 63) dX9_isAhead_43 (by decide) r12 rx3 (fun q13 => ?_) (fun q13 => ?_)
      · replace q13 : ¬ (gI σ 76 x5) = x3 := q13
        have h := ht q13
        refine ga_iinc (ls' := [(5, vI (x5 + 1)), (0, .ref (G.2.1 69)), (1, vI x1), (2, vI x2), (3, vI x3), (4, vI x4)]) 5 dX9_isAhead_63 rfl (by decide) rfl ?_
        refine ga_goto (tgt := 10) dX9_isAhead_66 (by decide) ?_
        exact ga_sub [1, 2, 3, 4, 5, 0] rfl h
      · replace q13 : (gI σ 76 x5) = x3 := (Decidable.not_not.mp q13)
        have h := hf q13
        refine ga_aload_n 0 dX9_isAhead_46 rfl rfl ?_
        refine ga_getR (kI := 7) (r := 76) dX9_isAhead_47 fX9_30 rfl rfl (by decide) rfl ?_
        refine ga_iload 5 dX9_isAhead_50 rfl ?_
        refine ga_iald (nI := 240) dX9_isAhead_52 rfl rfl i5 (fun r14 => ?_)
        refine ga_iload_n 2 dX9_isAhead_53 rfl rfl ?_
        have kJ15 : ∀ v17 : Int, gR v17 → (v17 = 0 ∨ v17 = 1) → v17 = (if (gI σ 76 x5) = x2 then 1 else 0) → gAt l G mX9_isAhead (gQz G Q) 62 [(0, .ref (G.2.1 69)), (1, vI x1), (2, vI x2), (3, vI x3), (4, vI x4), (5, vI x5)] [vI v17] σ := by
          intro v17 rv17 bv17 ev17
          replace h := h v17 ev17
          exact ga_bret dX9_isAhead_62 rfl bv17 h
        replace h : (¬ (gI σ 76 x5) = x2 → True) ∧
        ((gI σ 76 x5) = x2 → True) := by repeat (first | exact True.intro | apply And.intro | intro _)
        obtain ⟨ht, hf⟩ := h
        refine ga_icmp_ne (tgt := 61) dX9_isAhead_54 (by decide) r14 rx2 (fun q16 => ?_) (fun q16 => ?_)
        · replace q16 : ¬ (gI σ 76 x5) = x2 := q16
          have h := ht q16
          refine ga_iconst dX9_isAhead_61 ?_
          exact kJ15 0 (by decide) (Or.inl rfl) (by rw [if_neg q16])
        · replace q16 : (gI σ 76 x5) = x2 := (Decidable.not_not.mp q16)
          have h := hf q16
          refine ga_iconst dX9_isAhead_57 ?_
          refine ga_goto (tgt := 62) dX9_isAhead_58 (by decide) ?_
          exact kJ15 1 (by decide) (Or.inr rfl) (by rw [if_pos q16])
abbrev eX9_askNext (l : Launch) (G : gG) (x1 : Int) (σ : gS) (Q : Int → gS → Prop) : Prop := gEz l G mX9_askNext [.ref (G.2.1 69), vI x1] σ Q
set_option maxRecDepth 100000 in
set_option maxHeartbeats 4000000 in
theorem vX9_askNext {l : Launch} {G : gG} (x1 : Int) (rx1 : gR x1) (σ : gS) (Q : Int → gS → Prop) (h : (0 ≤ x1 ∧ x1 < 6) ∧ eX9_leastIdeal l G x1 1 (gI σ 80 x1) σ (fun v5 σ3 => gR v5 →
  (¬ v5 = (-1) → (0 ≤ v5 ∧ v5 < 40) ∧ ∀ σ9, σ9 = sI σ3 80 x1 (gI σ3 73 v5) →
    (0 ≤ (gI σ9 70 v5) ∧ (gI σ9 70 v5) < 6) ∧ ((gI σ9 78 (gI σ9 70 v5)) = (-1) → ((gI σ9 78 (gI σ9 70 v5)) = (-1) → ∀ σ16, σ16 = sI σ9 78 (gI σ9 70 v5) v5 →
        ∀ σ17, σ17 = sI σ16 79 x1 1 →
        Q 1 σ17) ∧
      (¬ (gI σ9 78 (gI σ9 70 v5)) = (-1) → (0 ≤ (gI σ9 78 (gI σ9 70 v5)) ∧ (gI σ9 78 (gI σ9 70 v5)) < 40) ∧ (0 ≤ (gI σ9 71 (gI σ9 78 (gI σ9 70 v5))) ∧ (gI σ9 71 (gI σ9 78 (gI σ9 70 v5))) < 6) ∧ ∀ σ22, σ22 = sI σ9 79 (gI σ9 71 (gI σ9 78 (gI σ9 70 v5))) 0 →
        ∀ σ23, σ23 = sI σ22 78 (gI σ9 70 v5) v5 →
        ∀ σ24, σ24 = sI σ23 79 x1 1 →
        Q 1 σ24)) ∧
    (¬ (gI σ9 78 (gI σ9 70 v5)) = (-1) → eX9_isAhead l G (gI σ9 70 v5) v5 (gI σ9 78 (gI σ9 70 v5)) σ9 (fun v28 σ26 => (v28 = 0 ∨ v28 = 1) →
      (v28 = 0 → Q 1 σ26) ∧
      (¬ v28 = 0 → ((gI σ26 78 (gI σ9 70 v5)) = (-1) → ∀ σ32, σ32 = sI σ26 78 (gI σ9 70 v5) v5 →
          ∀ σ33, σ33 = sI σ32 79 x1 1 →
          Q 1 σ33) ∧
        (¬ (gI σ26 78 (gI σ9 70 v5)) = (-1) → (0 ≤ (gI σ26 78 (gI σ9 70 v5)) ∧ (gI σ26 78 (gI σ9 70 v5)) < 40) ∧ (0 ≤ (gI σ26 71 (gI σ26 78 (gI σ9 70 v5))) ∧ (gI σ26 71 (gI σ26 78 (gI σ9 70 v5))) < 6) ∧ ∀ σ38, σ38 = sI σ26 79 (gI σ26 71 (gI σ26 78 (gI σ9 70 v5))) 0 →
          ∀ σ39, σ39 = sI σ38 78 (gI σ9 70 v5) v5 →
          ∀ σ40, σ40 = sI σ39 79 x1 1 →
          Q 1 σ40))))) ∧
  (v5 = (-1) → Q 0 σ3))) : eX9_askNext l G x1 σ Q := by
  refine ga_entry rfl (Nat.le_of_ble_eq_true rfl) ?_
  show gAt l G mX9_askNext (gQz G Q) 0 [(0, .ref (G.2.1 69)), (1, vI x1)] [] σ
  refine ga_aload_n 0 dX9_askNext_0 rfl rfl ?_
  refine ga_iload_n 1 dX9_askNext_1 rfl rfl ?_
  refine ga_iconst dX9_askNext_2 ?_
  refine ga_aload_n 0 dX9_askNext_3 rfl rfl ?_
  refine ga_getR (kI := 11) (r := 80) dX9_askNext_4 fX9_43 rfl rfl (by decide) rfl ?_
  refine ga_iload_n 1 dX9_askNext_7 rfl rfl ?_
  obtain ⟨i1, h⟩ := h
  refine ga_iald (nI := 6) dX9_askNext_8 rfl rfl i1 (fun r2 => ?_)
  refine ga_callVi (z := mX9_leastIdeal) (As := [vI x1, vI 1, vI (gI σ 80 x1)]) (rest := []) dX9_askNext_9 wX9_102 qX9_askNext_X9_leastIdeal rfl ⟨_, rfl, rfl⟩ rfl rfl (Nat.le_of_ble_eq_true rfl) (gEi_mono h (fun v5 σ3 h r4 => ?_))
  replace h := h r4
  refine ga_istore_n (ls' := [(2, vI v5), (0, .ref (G.2.1 69)), (1, vI x1)]) dX9_askNext_12 rfl (by decide) rfl ?_
  refine ga_iload_n 0 dX9_askNext_13 rfl rfl ?_
  refine ga_iconst dX9_askNext_14 ?_
  obtain ⟨ht, hf⟩ := h
  refine ga_icmp_ne (tgt := 20) dX9_askNext_15 (by decide) r4 (by decide) (fun q6 => ?_) (fun q6 => ?_)
  · replace q6 : ¬ v5 = (-1) := q6
    have h := ht q6
    refine ga_aload_n 1 dX9_askNext_20 rfl rfl ?_
    refine ga_getR (kI := 11) (r := 80) dX9_askNext_21 fX9_43 rfl rfl (by decide) rfl ?_
    refine ga_iload_n 2 dX9_askNext_24 rfl rfl ?_
    refine ga_aload_n 1 dX9_askNext_25 rfl rfl ?_
    refine ga_getR (kI := 4) (r := 73) dX9_askNext_26 fX9_21 rfl rfl (by decide) rfl ?_
    refine ga_iload_n 0 dX9_askNext_29 rfl rfl ?_
    obtain ⟨i7, h⟩ := h
    refine ga_iald (nI := 40) dX9_askNext_30 rfl rfl i7 (fun r8 => ?_)
    obtain ⟨σ9, eσ9⟩ : ∃ z, z = sI σ3 80 x1 (gI σ3 73 v5) := ⟨_, rfl⟩
    replace h := h σ9 eσ9
    refine ga_iast (nI := 6) dX9_askNext_31 rfl rfl i1 r8 eσ9 ?_
    refine ga_aload_n 1 dX9_askNext_32 rfl rfl ?_
    refine ga_getR (kI := 1) (r := 70) dX9_askNext_33 fX9_9 rfl rfl (by decide) rfl ?_
    refine ga_iload_n 0 dX9_askNext_36 rfl rfl ?_
    refine ga_iald (nI := 40) dX9_askNext_37 rfl rfl i7 (fun r10 => ?_)
    refine ga_istore_n (ls' := [(3, vI (gI σ9 70 v5)), (2, vI v5), (0, .ref (G.2.1 69)), (1, vI x1)]) dX9_askNext_38 rfl (by decide) rfl ?_
    refine ga_aload_n 2 dX9_askNext_39 rfl rfl ?_
    refine ga_getR (kI := 9) (r := 78) dX9_askNext_40 fX9_36 rfl rfl (by decide) rfl ?_
    refine ga_iload_n 0 dX9_askNext_43 rfl rfl ?_
    obtain ⟨i11, h⟩ := h
    refine ga_iald (nI := 6) dX9_askNext_44 rfl rfl i11 (fun r12 => ?_)
    refine ga_iconst dX9_askNext_45 ?_
    obtain ⟨ht, hf⟩ := h
    refine ga_icmp_eq (tgt := 64) dX9_askNext_46 (by decide) r12 (by decide) (fun q13 => ?_) (fun q13 => ?_)
    · replace q13 : (gI σ9 78 (gI σ9 70 v5)) = (-1) := q13
      have h := ht q13
      refine ga_aload_n 2 dX9_askNext_64 rfl rfl ?_
      refine ga_getR (kI := 9) (r := 78) dX9_askNext_65 fX9_36 rfl rfl (by decide) rfl ?_
      refine ga_iload_n 0 dX9_askNext_68 rfl rfl ?_
      refine ga_iald (nI := 6) dX9_askNext_69 rfl rfl i11 (fun r14 => ?_)
      refine ga_iconst dX9_askNext_70 ?_
      obtain ⟨ht, hf⟩ := h
      refine ga_icmp_eq (tgt := 91) dX9_askNext_71 (by decide) r14 (by decide) (fun q15 => ?_) (fun q15 => ?_)
      · replace q15 : (gI σ9 78 (gI σ9 70 v5)) = (-1) := q15
        have h := ht q15
        refine ga_aload_n 2 dX9_askNext_91 rfl rfl ?_
        refine ga_getR (kI := 9) (r := 78) dX9_askNext_92 fX9_36 rfl rfl (by decide) rfl ?_
        refine ga_iload_n 0 dX9_askNext_95 rfl rfl ?_
        refine ga_iload_n 1 dX9_askNext_96 rfl rfl ?_
        obtain ⟨σ16, eσ16⟩ : ∃ z, z = sI σ9 78 (gI σ9 70 v5) v5 := ⟨_, rfl⟩
        replace h := h σ16 eσ16
        refine ga_iast (nI := 6) dX9_askNext_97 rfl rfl i11 r4 eσ16 ?_
        refine ga_aload_n 2 dX9_askNext_98 rfl rfl ?_
        refine ga_getR (kI := 10) (r := 79) dX9_askNext_99 fX9_39 rfl rfl (by decide) rfl ?_
        refine ga_iload_n 3 dX9_askNext_102 rfl rfl ?_
        refine ga_iconst dX9_askNext_103 ?_
        obtain ⟨σ17, eσ17⟩ : ∃ z, z = sI σ16 79 x1 1 := ⟨_, rfl⟩
        replace h := h σ17 eσ17
        refine ga_zast (nI := 6) dX9_askNext_104 rfl rfl i1 (Or.inr rfl) eσ17 ?_
        refine ga_iconst dX9_askNext_105 ?_
        exact ga_bret dX9_askNext_106 rfl (Or.inr rfl) h
      · replace q15 : ¬ (gI σ9 78 (gI σ9 70 v5)) = (-1) := q15
        have h := hf q15
        refine ga_aload_n 2 dX9_askNext_74 rfl rfl ?_
        refine ga_getR (kI := 10) (r := 79) dX9_askNext_75 fX9_39 rfl rfl (by decide) rfl ?_
        refine ga_aload_n 2 dX9_askNext_78 rfl rfl ?_
        refine ga_getR (kI := 2) (r := 71) dX9_askNext_79 fX9_15 rfl rfl (by decide) rfl ?_
        refine ga_aload_n 2 dX9_askNext_82 rfl rfl ?_
        refine ga_getR (kI := 9) (r := 78) dX9_askNext_83 fX9_36 rfl rfl (by decide) rfl ?_
        refine ga_iload_n 0 dX9_askNext_86 rfl rfl ?_
        refine ga_iald (nI := 6) dX9_askNext_87 rfl rfl i11 (fun r18 => ?_)
        obtain ⟨i19, h⟩ := h
        refine ga_iald (nI := 40) dX9_askNext_88 rfl rfl i19 (fun r20 => ?_)
        refine ga_iconst dX9_askNext_89 ?_
        obtain ⟨i21, h⟩ := h
        obtain ⟨σ22, eσ22⟩ : ∃ z, z = sI σ9 79 (gI σ9 71 (gI σ9 78 (gI σ9 70 v5))) 0 := ⟨_, rfl⟩
        replace h := h σ22 eσ22
        refine ga_zast (nI := 6) dX9_askNext_90 rfl rfl i21 (Or.inl rfl) eσ22 ?_
        refine ga_aload_n 2 dX9_askNext_91 rfl rfl ?_
        refine ga_getR (kI := 9) (r := 78) dX9_askNext_92 fX9_36 rfl rfl (by decide) rfl ?_
        refine ga_iload_n 0 dX9_askNext_95 rfl rfl ?_
        refine ga_iload_n 1 dX9_askNext_96 rfl rfl ?_
        obtain ⟨σ23, eσ23⟩ : ∃ z, z = sI σ22 78 (gI σ9 70 v5) v5 := ⟨_, rfl⟩
        replace h := h σ23 eσ23
        refine ga_iast (nI := 6) dX9_askNext_97 rfl rfl i11 r4 eσ23 ?_
        refine ga_aload_n 2 dX9_askNext_98 rfl rfl ?_
        refine ga_getR (kI := 10) (r := 79) dX9_askNext_99 fX9_39 rfl rfl (by decide) rfl ?_
        refine ga_iload_n 3 dX9_askNext_102 rfl rfl ?_
        refine ga_iconst dX9_askNext_103 ?_
        obtain ⟨σ24, eσ24⟩ : ∃ z, z = sI σ23 79 x1 1 := ⟨_, rfl⟩
        replace h := h σ24 eσ24
        refine ga_zast (nI := 6) dX9_askNext_104 rfl rfl i1 (Or.inr rfl) eσ24 ?_
        refine ga_iconst dX9_askNext_105 ?_
        exact ga_bret dX9_askNext_106 rfl (Or.inr rfl) h
    · replace q13 : ¬ (gI σ9 78 (gI σ9 70 v5)) = (-1) := q13
      have h := hf q13
      refine ga_aload_n 2 dX9_askNext_49 rfl rfl ?_
      refine ga_iload_n 0 dX9_askNext_50 rfl rfl ?_
      refine ga_iload_n 1 dX9_askNext_51 rfl rfl ?_
      refine ga_aload_n 2 dX9_askNext_52 rfl rfl ?_
      refine ga_getR (kI := 9) (r := 78) dX9_askNext_53 fX9_36 rfl rfl (by decide) rfl ?_
      refine ga_iload_n 0 dX9_askNext_56 rfl rfl ?_
      refine ga_iald (nI := 6) dX9_askNext_57 rfl rfl i11 (fun r25 => ?_)
      refine ga_callVz (z := mX9_isAhead) (As := [vI (gI σ9 70 v5), vI v5, vI (gI σ9 78 (gI σ9 70 v5))]) (rest := []) dX9_askNext_58 wX9_106 qX9_askNext_X9_isAhead rfl ⟨_, rfl, rfl⟩ rfl rfl (Nat.le_of_ble_eq_true rfl) (gEz_mono h (fun v28 σ26 h r27 => ?_))
      replace h := h r27
      obtain ⟨ht, hf⟩ := h
      refine ga_if_eq (tgt := 105) dX9_askNext_61 (by decide) (gR_01 r27) (fun q29 => ?_) (fun q29 => ?_)
      · replace q29 : v28 = 0 := q29
        have h := ht q29
        refine ga_iconst dX9_askNext_105 ?_
        exact ga_bret dX9_askNext_106 rfl (Or.inr rfl) h
      · replace q29 : ¬ v28 = 0 := q29
        have h := hf q29
        refine ga_aload_n 2 dX9_askNext_64 rfl rfl ?_
        refine ga_getR (kI := 9) (r := 78) dX9_askNext_65 fX9_36 rfl rfl (by decide) rfl ?_
        refine ga_iload_n 0 dX9_askNext_68 rfl rfl ?_
        refine ga_iald (nI := 6) dX9_askNext_69 rfl rfl i11 (fun r30 => ?_)
        refine ga_iconst dX9_askNext_70 ?_
        obtain ⟨ht, hf⟩ := h
        refine ga_icmp_eq (tgt := 91) dX9_askNext_71 (by decide) r30 (by decide) (fun q31 => ?_) (fun q31 => ?_)
        · replace q31 : (gI σ26 78 (gI σ9 70 v5)) = (-1) := q31
          have h := ht q31
          refine ga_aload_n 2 dX9_askNext_91 rfl rfl ?_
          refine ga_getR (kI := 9) (r := 78) dX9_askNext_92 fX9_36 rfl rfl (by decide) rfl ?_
          refine ga_iload_n 0 dX9_askNext_95 rfl rfl ?_
          refine ga_iload_n 1 dX9_askNext_96 rfl rfl ?_
          obtain ⟨σ32, eσ32⟩ : ∃ z, z = sI σ26 78 (gI σ9 70 v5) v5 := ⟨_, rfl⟩
          replace h := h σ32 eσ32
          refine ga_iast (nI := 6) dX9_askNext_97 rfl rfl i11 r4 eσ32 ?_
          refine ga_aload_n 2 dX9_askNext_98 rfl rfl ?_
          refine ga_getR (kI := 10) (r := 79) dX9_askNext_99 fX9_39 rfl rfl (by decide) rfl ?_
          refine ga_iload_n 3 dX9_askNext_102 rfl rfl ?_
          refine ga_iconst dX9_askNext_103 ?_
          obtain ⟨σ33, eσ33⟩ : ∃ z, z = sI σ32 79 x1 1 := ⟨_, rfl⟩
          replace h := h σ33 eσ33
          refine ga_zast (nI := 6) dX9_askNext_104 rfl rfl i1 (Or.inr rfl) eσ33 ?_
          refine ga_iconst dX9_askNext_105 ?_
          exact ga_bret dX9_askNext_106 rfl (Or.inr rfl) h
        · replace q31 : ¬ (gI σ26 78 (gI σ9 70 v5)) = (-1) := q31
          have h := hf q31
          refine ga_aload_n 2 dX9_askNext_74 rfl rfl ?_
          refine ga_getR (kI := 10) (r := 79) dX9_askNext_75 fX9_39 rfl rfl (by decide) rfl ?_
          refine ga_aload_n 2 dX9_askNext_78 rfl rfl ?_
          refine ga_getR (kI := 2) (r := 71) dX9_askNext_79 fX9_15 rfl rfl (by decide) rfl ?_
          refine ga_aload_n 2 dX9_askNext_82 rfl rfl ?_
          refine ga_getR (kI := 9) (r := 78) dX9_askNext_83 fX9_36 rfl rfl (by decide) rfl ?_
          refine ga_iload_n 0 dX9_askNext_86 rfl rfl ?_
          refine ga_iald (nI := 6) dX9_askNext_87 rfl rfl i11 (fun r34 => ?_)
          obtain ⟨i35, h⟩ := h
          refine ga_iald (nI := 40) dX9_askNext_88 rfl rfl i35 (fun r36 => ?_)
          refine ga_iconst dX9_askNext_89 ?_
          obtain ⟨i37, h⟩ := h
          obtain ⟨σ38, eσ38⟩ : ∃ z, z = sI σ26 79 (gI σ26 71 (gI σ26 78 (gI σ9 70 v5))) 0 := ⟨_, rfl⟩
          replace h := h σ38 eσ38
          refine ga_zast (nI := 6) dX9_askNext_90 rfl rfl i37 (Or.inl rfl) eσ38 ?_
          refine ga_aload_n 2 dX9_askNext_91 rfl rfl ?_
          refine ga_getR (kI := 9) (r := 78) dX9_askNext_92 fX9_36 rfl rfl (by decide) rfl ?_
          refine ga_iload_n 0 dX9_askNext_95 rfl rfl ?_
          refine ga_iload_n 1 dX9_askNext_96 rfl rfl ?_
          obtain ⟨σ39, eσ39⟩ : ∃ z, z = sI σ38 78 (gI σ9 70 v5) v5 := ⟨_, rfl⟩
          replace h := h σ39 eσ39
          refine ga_iast (nI := 6) dX9_askNext_97 rfl rfl i11 r4 eσ39 ?_
          refine ga_aload_n 2 dX9_askNext_98 rfl rfl ?_
          refine ga_getR (kI := 10) (r := 79) dX9_askNext_99 fX9_39 rfl rfl (by decide) rfl ?_
          refine ga_iload_n 3 dX9_askNext_102 rfl rfl ?_
          refine ga_iconst dX9_askNext_103 ?_
          obtain ⟨σ40, eσ40⟩ : ∃ z, z = sI σ39 79 x1 1 := ⟨_, rfl⟩
          replace h := h σ40 eσ40
          refine ga_zast (nI := 6) dX9_askNext_104 rfl rfl i1 (Or.inr rfl) eσ40 ?_
          refine ga_iconst dX9_askNext_105 ?_
          exact ga_bret dX9_askNext_106 rfl (Or.inr rfl) h
  · replace q6 : v5 = (-1) := (Decidable.not_not.mp q6)
    have h := hf q6
    refine ga_iconst dX9_askNext_18 ?_
    exact ga_bret dX9_askNext_19 rfl (Or.inl rfl) h
abbrev eX9_takeFromRow (l : Launch) (G : gG) (x1 : Int) (x2 : Int) (σ : gS) (Q : gS → Prop) : Prop := gEv l G mX9_takeFromRow [.ref (G.2.1 69), vI x1, vI x2] σ Q
abbrev kX9_takeFromRow_11 (l : Launch) (G : gG)  (x1 : Int) (x2 : Int) (x3 : Int) (x4 : Int) (x5 : Int) (σ : gS) (Q : gS → Prop) : Prop := gAt l G mX9_takeFromRow (gQv G Q) 11 [(0, .ref (G.2.1 69)), (1, vI x1), (2, vI x2), (3, vI x3), (4, vI x4), (5, vI x5)] [] σ
set_option maxRecDepth 100000 in
set_option maxHeartbeats 4000000 in
theorem vX9_takeFromRow {l : Launch} {G : gG} (x1 : Int) (x2 : Int) (rx1 : gR x1) (rx2 : gR x2) (σ : gS) (Q : gS → Prop) (h : kX9_takeFromRow_11 l G  x1 x2 (x1 * 40) (x1 * 40) (x1 * 40) σ Q) : eX9_takeFromRow l G x1 x2 σ Q := by
  refine ga_entry rfl (Nat.le_of_ble_eq_true rfl) ?_
  show gAt l G mX9_takeFromRow (gQv G Q) 0 [(0, .ref (G.2.1 69)), (1, vI x1), (2, vI x2)] [] σ
  refine ga_iload_n 1 dX9_takeFromRow_0 rfl rfl ?_
  refine ga_bipush dX9_takeFromRow_1 (by decide) ?_
  refine ga_imul dX9_takeFromRow_3 ?_
  refine ga_istore_n (ls' := [(3, vI (x1 * 40)), (0, .ref (G.2.1 69)), (1, vI x1), (2, vI x2)]) dX9_takeFromRow_4 rfl (by decide) rfl ?_
  refine ga_iload_n 0 dX9_takeFromRow_5 rfl rfl ?_
  refine ga_istore (ls' := [(4, vI (x1 * 40)), (3, vI (x1 * 40)), (0, .ref (G.2.1 69)), (1, vI x1), (2, vI x2)]) dX9_takeFromRow_6 (by decide) rfl ?_
  refine ga_iload_n 1 dX9_takeFromRow_8 rfl rfl ?_
  refine ga_istore (ls' := [(5, vI (x1 * 40)), (4, vI (x1 * 40)), (3, vI (x1 * 40)), (0, .ref (G.2.1 69)), (1, vI x1), (2, vI x2)]) dX9_takeFromRow_9 (by decide) rfl ?_
  exact ga_sub [3, 4, 5, 2, 1, 0] rfl h
set_option maxRecDepth 100000 in
set_option maxHeartbeats 4000000 in
theorem vX9_takeFromRow_11 {l : Launch} {G : gG}  (x1 : Int) (x2 : Int) (x3 : Int) (x4 : Int) (x5 : Int) (rx1 : gR x1) (rx2 : gR x2) (rx3 : gR x3) (rx4 : gR x4) (rx5 : gR x5) (σ : gS) (Q : gS → Prop) (h : (0 ≤ x1 ∧ x1 < 6) ∧ (gR (x3 + (gI σ 77 x1))) ∧ ((x3 + (gI σ 77 x1)) ≤ x5 → (gR (x4 - x3)) ∧ ∀ σ5, σ5 = sI σ 77 x1 (x4 - x3) →
    Q σ5) ∧
  (x5 < (x3 + (gI σ 77 x1)) → (0 ≤ x5 ∧ x5 < 240) ∧ ((gI σ 76 x5) = x2 → kX9_takeFromRow_11 l G  x1 x2 x3 x4 (x5 + 1) σ Q) ∧
    (¬ (gI σ 76 x5) = x2 → (0 ≤ x4 ∧ x4 < 240) ∧ ∀ σ12, σ12 = sI σ 76 x4 (gI σ 76 x5) →
      kX9_takeFromRow_11 l G  x1 x2 x3 (x4 + 1) (x5 + 1) σ12 Q))) : kX9_takeFromRow_11 l G  x1 x2 x3 x4 x5 σ Q := by
  refine ga_iload 5 dX9_takeFromRow_11 rfl ?_
  refine ga_iload_n 3 dX9_takeFromRow_13 rfl rfl ?_
  refine ga_aload_n 0 dX9_takeFromRow_14 rfl rfl ?_
  refine ga_getR (kI := 8) (r := 77) dX9_takeFromRow_15 fX9_33 rfl rfl (by decide) rfl ?_
  refine ga_iload_n 1 dX9_takeFromRow_18 rfl rfl ?_
  obtain ⟨i1, h⟩ := h
  refine ga_iald (nI := 6) dX9_takeFromRow_19 rfl rfl i1 (fun r2 => ?_)
  refine ga_iadd dX9_takeFromRow_20 ?_
  obtain ⟨r3, h⟩ := h
  obtain ⟨ht, hf⟩ := h
  refine ga_icmp_ge (tgt := 58) dX9_takeFromRow_21 (by decide) rx5 r3 (fun q4 => ?_) (fun q4 => ?_)
  · replace q4 : (x3 + (gI σ 77 x1)) ≤ x5 := q4
    have h := ht q4
    refine ga_aload_n 0 dX9_takeFromRow_58 rfl rfl ?_
    refine ga_getR (kI := 8) (r := 77) dX9_takeFromRow_59 fX9_33 rfl rfl (by decide) rfl ?_
    refine ga_iload_n 1 dX9_takeFromRow_62 rfl rfl ?_
    refine ga_iload 4 dX9_takeFromRow_63 rfl ?_
    refine ga_iload_n 3 dX9_takeFromRow_65 rfl rfl ?_
    refine ga_isub dX9_takeFromRow_66 ?_
    obtain ⟨r6, h⟩ := h
    obtain ⟨σ5, eσ5⟩ : ∃ z, z = sI σ 77 x1 (x4 - x3) := ⟨_, rfl⟩
    replace h := h σ5 eσ5
    refine ga_iast (nI := 6) dX9_takeFromRow_67 rfl rfl i1 r6 eσ5 ?_
    exact ga_vret dX9_takeFromRow_68 rfl h
  · replace q4 : x5 < (x3 + (gI σ 77 x1)) := (Int.not_le.mp q4)
    have h := hf q4
    refine ga_aload_n 0 dX9_takeFromRow_24 rfl rfl ?_
    refine ga_getR (kI := 7) (r := 76) dX9_takeFromRow_25 fX9_30 rfl rfl (by decide) rfl ?_
    refine ga_iload 5 dX9_takeFromRow_28 rfl ?_
    obtain ⟨i7, h⟩ := h
    refine ga_iald (nI := 240) dX9_takeFromRow_30 rfl rfl i7 (fun r8 => ?_)
    refine ga_iload_n 2 dX9_takeFromRow_31 rfl rfl ?_
    obtain ⟨ht, hf⟩ := h
    refine ga_icmp_eq (tgt := 52) dX9_takeFromRow_32 (by decide) r8 rx2 (fun q9 => ?_) (fun q9 => ?_)
    · replace q9 : (gI σ 76 x5) = x2 := q9
      have h := ht q9
      refine ga_iinc (ls' := [(5, vI (x5 + 1)), (0, .ref (G.2.1 69)), (1, vI x1), (2, vI x2), (3, vI x3), (4, vI x4)]) 5 dX9_takeFromRow_52 rfl (by decide) rfl ?_
      refine ga_goto (tgt := 11) dX9_takeFromRow_55 (by decide) ?_
      exact ga_sub [1, 2, 3, 4, 5, 0] rfl h
    · replace q9 : ¬ (gI σ 76 x5) = x2 := q9
      have h := hf q9
      refine ga_aload_n 0 dX9_takeFromRow_35 rfl rfl ?_
      refine ga_getR (kI := 7) (r := 76) dX9_takeFromRow_36 fX9_30 rfl rfl (by decide) rfl ?_
      refine ga_iload 4 dX9_takeFromRow_39 rfl ?_
      refine ga_aload_n 0 dX9_takeFromRow_41 rfl rfl ?_
      refine ga_getR (kI := 7) (r := 76) dX9_takeFromRow_42 fX9_30 rfl rfl (by decide) rfl ?_
      refine ga_iload 5 dX9_takeFromRow_45 rfl ?_
      refine ga_iald (nI := 240) dX9_takeFromRow_47 rfl rfl i7 (fun r10 => ?_)
      obtain ⟨i11, h⟩ := h
      obtain ⟨σ12, eσ12⟩ : ∃ z, z = sI σ 76 x4 (gI σ 76 x5) := ⟨_, rfl⟩
      replace h := h σ12 eσ12
      refine ga_iast (nI := 240) dX9_takeFromRow_48 rfl rfl i11 r10 eσ12 ?_
      refine ga_iinc (ls' := [(4, vI (x4 + 1)), (0, .ref (G.2.1 69)), (1, vI x1), (2, vI x2), (3, vI x3), (5, vI x5)]) 4 dX9_takeFromRow_49 rfl (by decide) rfl ?_
      refine ga_iinc (ls' := [(5, vI (x5 + 1)), (4, vI (x4 + 1)), (0, .ref (G.2.1 69)), (1, vI x1), (2, vI x2), (3, vI x3)]) 5 dX9_takeFromRow_52 rfl (by decide) rfl ?_
      refine ga_goto (tgt := 11) dX9_takeFromRow_55 (by decide) ?_
      exact ga_sub [2, 3, 4, 5, 1, 0] rfl h
abbrev eX9_matchStable (l : Launch) (G : gG)  (σ : gS) (Q : gS → Prop) : Prop := gEv l G mX9_matchStable [.ref (G.2.1 69)] σ Q
abbrev kX9_matchStable_2 (l : Launch) (G : gG)  (x1 : Int) (σ : gS) (Q : gS → Prop) : Prop := gAt l G mX9_matchStable (gQv G Q) 2 [(0, .ref (G.2.1 69)), (1, vI x1)] [] σ
abbrev kX9_matchStable_39 (l : Launch) (G : gG)  (x1 : Int) (x2 : Int) (σ : gS) (Q : gS → Prop) : Prop := gAt l G mX9_matchStable (gQv G Q) 39 [(0, .ref (G.2.1 69)), (1, vI x1), (2, vI x2)] [] σ
abbrev kX9_matchStable_55 (l : Launch) (G : gG)  (x1 : Int) (x2 : Int) (x3 : Int) (σ : gS) (Q : gS → Prop) : Prop := gAt l G mX9_matchStable (gQv G Q) 55 [(0, .ref (G.2.1 69)), (1, vI x1), (2, vI x2), (3, vI x3)] [] σ
abbrev kX9_matchStable_94 (l : Launch) (G : gG)  (x1 : Int) (x2 : Int) (σ : gS) (Q : gS → Prop) : Prop := gAt l G mX9_matchStable (gQv G Q) 94 [(0, .ref (G.2.1 69)), (1, vI x1), (2, vI x2)] [] σ
set_option maxRecDepth 100000 in
set_option maxHeartbeats 4000000 in
theorem vX9_matchStable {l : Launch} {G : gG}  (σ : gS) (Q : gS → Prop) (h : kX9_matchStable_2 l G  0 σ Q) : eX9_matchStable l G  σ Q := by
  refine ga_entry rfl (Nat.le_of_ble_eq_true rfl) ?_
  show gAt l G mX9_matchStable (gQv G Q) 0 [(0, .ref (G.2.1 69))] [] σ
  refine ga_iconst dX9_matchStable_0 ?_
  refine ga_istore_n (ls' := [(1, vI 0), (0, .ref (G.2.1 69))]) dX9_matchStable_1 rfl (by decide) rfl ?_
  exact ga_sub [1, 0] rfl h
set_option maxRecDepth 100000 in
set_option maxHeartbeats 4000000 in
theorem vX9_matchStable_2 {l : Launch} {G : gG}  (x1 : Int) (rx1 : gR x1) (σ : gS) (Q : gS → Prop) (h : (6 ≤ x1 → kX9_matchStable_39 l G  1 0 σ Q) ∧
  (x1 < 6 → (0 ≤ x1 ∧ x1 < 6) ∧ ∀ σ3, σ3 = sI σ 78 x1 (-1) →
    ∀ σ4, σ4 = sI σ3 79 x1 0 →
    ∀ σ5, σ5 = sI σ4 80 x1 (-1) →
    kX9_matchStable_2 l G  (x1 + 1) σ5 Q)) : kX9_matchStable_2 l G  x1 σ Q := by
  refine ga_iload_n 1 dX9_matchStable_2 rfl rfl ?_
  refine ga_bipush dX9_matchStable_3 (by decide) ?_
  obtain ⟨ht, hf⟩ := h
  refine ga_icmp_ge (tgt := 35) dX9_matchStable_5 (by decide) rx1 (by decide) (fun q1 => ?_) (fun q1 => ?_)
  · replace q1 : 6 ≤ x1 := q1
    have h := ht q1
    refine ga_iconst dX9_matchStable_35 ?_
    refine ga_istore_n (ls' := [(1, vI 1), (0, .ref (G.2.1 69))]) dX9_matchStable_36 rfl (by decide) rfl ?_
    refine ga_iconst dX9_matchStable_37 ?_
    refine ga_istore_n (ls' := [(2, vI 0), (1, vI 1), (0, .ref (G.2.1 69))]) dX9_matchStable_38 rfl (by decide) rfl ?_
    exact ga_sub [2, 1, 0] rfl h
  · replace q1 : x1 < 6 := (Int.not_le.mp q1)
    have h := hf q1
    refine ga_aload_n 0 dX9_matchStable_8 rfl rfl ?_
    refine ga_getR (kI := 9) (r := 78) dX9_matchStable_9 fX9_36 rfl rfl (by decide) rfl ?_
    refine ga_iload_n 1 dX9_matchStable_12 rfl rfl ?_
    refine ga_iconst dX9_matchStable_13 ?_
    obtain ⟨i2, h⟩ := h
    obtain ⟨σ3, eσ3⟩ : ∃ z, z = sI σ 78 x1 (-1) := ⟨_, rfl⟩
    replace h := h σ3 eσ3
    refine ga_iast (nI := 6) dX9_matchStable_14 rfl rfl i2 (by decide) eσ3 ?_
    refine ga_aload_n 0 dX9_matchStable_15 rfl rfl ?_
    refine ga_getR (kI := 10) (r := 79) dX9_matchStable_16 fX9_39 rfl rfl (by decide) rfl ?_
    refine ga_iload_n 1 dX9_matchStable_19 rfl rfl ?_
    refine ga_iconst dX9_matchStable_20 ?_
    obtain ⟨σ4, eσ4⟩ : ∃ z, z = sI σ3 79 x1 0 := ⟨_, rfl⟩
    replace h := h σ4 eσ4
    refine ga_zast (nI := 6) dX9_matchStable_21 rfl rfl i2 (Or.inl rfl) eσ4 ?_
    refine ga_aload_n 0 dX9_matchStable_22 rfl rfl ?_
    refine ga_getR (kI := 11) (r := 80) dX9_matchStable_23 fX9_43 rfl rfl (by decide) rfl ?_
    refine ga_iload_n 1 dX9_matchStable_26 rfl rfl ?_
    refine ga_iconst dX9_matchStable_27 ?_
    obtain ⟨σ5, eσ5⟩ : ∃ z, z = sI σ4 80 x1 (-1) := ⟨_, rfl⟩
    replace h := h σ5 eσ5
    refine ga_iast (nI := 6) dX9_matchStable_28 rfl rfl i2 (by decide) eσ5 ?_
    refine ga_iinc (ls' := [(1, vI (x1 + 1)), (0, .ref (G.2.1 69))]) 1 dX9_matchStable_29 rfl (by decide) rfl ?_
    refine ga_goto (tgt := 2) dX9_matchStable_32 (by decide) ?_
    exact ga_sub [1, 0] rfl h
set_option maxRecDepth 100000 in
set_option maxHeartbeats 4000000 in
theorem vX9_matchStable_39 {l : Launch} {G : gG}  (x1 : Int) (x2 : Int) (rx1 : gR x1) (rx2 : gR x2) (σ : gS) (Q : gS → Prop) (h : ((gI σ 69 0) < x2 → kX9_matchStable_94 l G  x1 0 σ Q) ∧
  (x2 ≤ (gI σ 69 0) → (x1 = 0 → kX9_matchStable_94 l G  x1 0 σ Q) ∧
    (¬ x1 = 0 → kX9_matchStable_55 l G  0 x2 0 σ Q))) : kX9_matchStable_39 l G  x1 x2 σ Q := by
  refine ga_iload_n 2 dX9_matchStable_39 rfl rfl ?_
  refine ga_aload_n 0 dX9_matchStable_40 rfl rfl ?_
  refine ga_getI (kI := 0) dX9_matchStable_41 fX9_46 rfl rfl rfl (fun r6 => ?_)
  obtain ⟨ht, hf⟩ := h
  refine ga_icmp_gt (tgt := 92) dX9_matchStable_44 (by decide) rx2 r6 (fun q7 => ?_) (fun q7 => ?_)
  · replace q7 : (gI σ 69 0) < x2 := q7
    have h := ht q7
    refine ga_iconst dX9_matchStable_92 ?_
    refine ga_istore_n (ls' := [(2, vI 0), (0, .ref (G.2.1 69)), (1, vI x1)]) dX9_matchStable_93 rfl (by decide) rfl ?_
    exact ga_sub [1, 2, 0] rfl h
  · replace q7 : x2 ≤ (gI σ 69 0) := (Int.not_lt.mp q7)
    have h := hf q7
    refine ga_iload_n 1 dX9_matchStable_47 rfl rfl ?_
    obtain ⟨ht, hf⟩ := h
    refine ga_if_eq (tgt := 92) dX9_matchStable_48 (by decide) rx1 (fun q8 => ?_) (fun q8 => ?_)
    · replace q8 : x1 = 0 := q8
      have h := ht q8
      refine ga_iconst dX9_matchStable_92 ?_
      refine ga_istore_n (ls' := [(2, vI 0), (0, .ref (G.2.1 69)), (1, vI x1)]) dX9_matchStable_93 rfl (by decide) rfl ?_
      exact ga_sub [1, 2, 0] rfl h
    · replace q8 : ¬ x1 = 0 := q8
      have h := hf q8
      refine ga_iconst dX9_matchStable_51 ?_
      refine ga_istore_n (ls' := [(1, vI 0), (0, .ref (G.2.1 69)), (2, vI x2)]) dX9_matchStable_52 rfl (by decide) rfl ?_
      refine ga_iconst dX9_matchStable_53 ?_
      refine ga_istore_n (ls' := [(3, vI 0), (1, vI 0), (0, .ref (G.2.1 69)), (2, vI x2)]) dX9_matchStable_54 rfl (by decide) rfl ?_
      exact ga_sub [2, 1, 3, 0] rfl h
set_option maxRecDepth 100000 in
set_option maxHeartbeats 4000000 in
theorem vX9_matchStable_55 {l : Launch} {G : gG}  (x1 : Int) (x2 : Int) (x3 : Int) (rx1 : gR x1) (rx2 : gR x2) (rx3 : gR x3) (σ : gS) (Q : gS → Prop) (h : (6 ≤ x3 → kX9_matchStable_39 l G  x1 (x2 + 1) σ Q) ∧
  (x3 < 6 → (0 ≤ x3 ∧ x3 < 6) ∧ (¬ (gI σ 79 x3) = 0 → kX9_matchStable_55 l G  x1 x2 (x3 + 1) σ Q) ∧
    ((gI σ 79 x3) = 0 → eX9_askNext l G x3 σ (fun v15 σ13 => (v15 = 0 ∨ v15 = 1) →
      (v15 = 0 → kX9_matchStable_55 l G  x1 x2 (x3 + 1) σ13 Q) ∧
      (¬ v15 = 0 → kX9_matchStable_55 l G  1 x2 (x3 + 1) σ13 Q))))) : kX9_matchStable_55 l G  x1 x2 x3 σ Q := by
  refine ga_iload_n 3 dX9_matchStable_55 rfl rfl ?_
  refine ga_bipush dX9_matchStable_56 (by decide) ?_
  obtain ⟨ht, hf⟩ := h
  refine ga_icmp_ge (tgt := 86) dX9_matchStable_58 (by decide) rx3 (by decide) (fun q9 => ?_) (fun q9 => ?_)
  · replace q9 : 6 ≤ x3 := q9
    have h := ht q9
    refine ga_iinc (ls' := [(2, vI (x2 + 1)), (0, .ref (G.2.1 69)), (1, vI x1), (3, vI x3)]) 2 dX9_matchStable_86 rfl (by decide) rfl ?_
    refine ga_goto (tgt := 39) dX9_matchStable_89 (by decide) ?_
    exact ga_sub [1, 2, 0] rfl h
  · replace q9 : x3 < 6 := (Int.not_le.mp q9)
    have h := hf q9
    refine ga_aload_n 0 dX9_matchStable_61 rfl rfl ?_
    refine ga_getR (kI := 10) (r := 79) dX9_matchStable_62 fX9_39 rfl rfl (by decide) rfl ?_
    refine ga_iload_n 3 dX9_matchStable_65 rfl rfl ?_
    obtain ⟨i10, h⟩ := h
    refine ga_zald (nI := 6) dX9_matchStable_66 rfl rfl i10 (fun r11 => ?_)
    obtain ⟨ht, hf⟩ := h
    refine ga_if_ne (tgt := 80) dX9_matchStable_67 (by decide) r11 (fun q12 => ?_) (fun q12 => ?_)
    · replace q12 : ¬ (gI σ 79 x3) = 0 := q12
      have h := ht q12
      refine ga_iinc (ls' := [(3, vI (x3 + 1)), (0, .ref (G.2.1 69)), (1, vI x1), (2, vI x2)]) 3 dX9_matchStable_80 rfl (by decide) rfl ?_
      refine ga_goto (tgt := 55) dX9_matchStable_83 (by decide) ?_
      exact ga_sub [1, 2, 3, 0] rfl h
    · replace q12 : (gI σ 79 x3) = 0 := (Decidable.not_not.mp q12)
      have h := hf q12
      refine ga_aload_n 0 dX9_matchStable_70 rfl rfl ?_
      refine ga_iload_n 3 dX9_matchStable_71 rfl rfl ?_
      refine ga_callVz (z := mX9_askNext) (As := [vI x3]) (rest := []) dX9_matchStable_72 wX9_94 qX9_matchStable_X9_askNext rfl ⟨_, rfl, rfl⟩ rfl rfl (Nat.le_of_ble_eq_true rfl) (gEz_mono h (fun v15 σ13 h r14 => ?_))
      replace h := h r14
      obtain ⟨ht, hf⟩ := h
      refine ga_if_eq (tgt := 80) dX9_matchStable_75 (by decide) (gR_01 r14) (fun q16 => ?_) (fun q16 => ?_)
      · replace q16 : v15 = 0 := q16
        have h := ht q16
        refine ga_iinc (ls' := [(3, vI (x3 + 1)), (0, .ref (G.2.1 69)), (1, vI x1), (2, vI x2)]) 3 dX9_matchStable_80 rfl (by decide) rfl ?_
        refine ga_goto (tgt := 55) dX9_matchStable_83 (by decide) ?_
        exact ga_sub [1, 2, 3, 0] rfl h
      · replace q16 : ¬ v15 = 0 := q16
        have h := hf q16
        refine ga_iconst dX9_matchStable_78 ?_
        refine ga_istore_n (ls' := [(1, vI 1), (0, .ref (G.2.1 69)), (2, vI x2), (3, vI x3)]) dX9_matchStable_79 rfl (by decide) rfl ?_
        refine ga_iinc (ls' := [(3, vI (x3 + 1)), (1, vI 1), (0, .ref (G.2.1 69)), (2, vI x2)]) 3 dX9_matchStable_80 rfl (by decide) rfl ?_
        refine ga_goto (tgt := 55) dX9_matchStable_83 (by decide) ?_
        exact ga_sub [2, 1, 3, 0] rfl h
set_option maxRecDepth 100000 in
set_option maxHeartbeats 4000000 in
theorem vX9_matchStable_94 {l : Launch} {G : gG}  (x1 : Int) (x2 : Int) (rx1 : gR x1) (rx2 : gR x2) (σ : gS) (Q : gS → Prop) (h : (6 ≤ x2 → Q σ) ∧
  (x2 < 6 → (0 ≤ x2 ∧ x2 < 6) ∧ ((gI σ 78 x2) = (-1) → kX9_matchStable_94 l G  x1 (x2 + 1) σ Q) ∧
    (¬ (gI σ 78 x2) = (-1) → eX9_takeFromRow l G x2 (gI σ 78 x2) σ (fun σ22 =>
      (0 ≤ (gI σ22 78 x2) ∧ (gI σ22 78 x2) < 40) ∧ ∀ σ26, σ26 = sI σ22 75 (gI σ22 78 x2) 2 →
      kX9_matchStable_94 l G  x1 (x2 + 1) σ26 Q)))) : kX9_matchStable_94 l G  x1 x2 σ Q := by
  refine ga_iload_n 2 dX9_matchStable_94 rfl rfl ?_
  refine ga_bipush dX9_matchStable_95 (by decide) ?_
  obtain ⟨ht, hf⟩ := h
  refine ga_icmp_ge (tgt := 139) dX9_matchStable_97 (by decide) rx2 (by decide) (fun q17 => ?_) (fun q17 => ?_)
  · replace q17 : 6 ≤ x2 := q17
    have h := ht q17
    exact ga_vret dX9_matchStable_139 rfl h
  · replace q17 : x2 < 6 := (Int.not_le.mp q17)
    have h := hf q17
    refine ga_aload_n 0 dX9_matchStable_100 rfl rfl ?_
    refine ga_getR (kI := 9) (r := 78) dX9_matchStable_101 fX9_36 rfl rfl (by decide) rfl ?_
    refine ga_iload_n 2 dX9_matchStable_104 rfl rfl ?_
    obtain ⟨i18, h⟩ := h
    refine ga_iald (nI := 6) dX9_matchStable_105 rfl rfl i18 (fun r19 => ?_)
    refine ga_iconst dX9_matchStable_106 ?_
    obtain ⟨ht, hf⟩ := h
    refine ga_icmp_eq (tgt := 133) dX9_matchStable_107 (by decide) r19 (by decide) (fun q20 => ?_) (fun q20 => ?_)
    · replace q20 : (gI σ 78 x2) = (-1) := q20
      have h := ht q20
      refine ga_iinc (ls' := [(2, vI (x2 + 1)), (0, .ref (G.2.1 69)), (1, vI x1)]) 2 dX9_matchStable_133 rfl (by decide) rfl ?_
      refine ga_goto (tgt := 94) dX9_matchStable_136 (by decide) ?_
      exact ga_sub [1, 2, 0] rfl h
    · replace q20 : ¬ (gI σ 78 x2) = (-1) := q20
      have h := hf q20
      refine ga_aload_n 0 dX9_matchStable_110 rfl rfl ?_
      refine ga_iload_n 2 dX9_matchStable_111 rfl rfl ?_
      refine ga_aload_n 0 dX9_matchStable_112 rfl rfl ?_
      refine ga_getR (kI := 9) (r := 78) dX9_matchStable_113 fX9_36 rfl rfl (by decide) rfl ?_
      refine ga_iload_n 2 dX9_matchStable_116 rfl rfl ?_
      refine ga_iald (nI := 6) dX9_matchStable_117 rfl rfl i18 (fun r21 => ?_)
      refine ga_callVv (z := mX9_takeFromRow) (As := [vI x2, vI (gI σ 78 x2)]) (rest := []) dX9_matchStable_118 wX9_98 qX9_matchStable_X9_takeFromRow rfl ⟨_, rfl, rfl⟩ rfl rfl (Nat.le_of_ble_eq_true rfl) (gEv_mono h (fun σ22 h => ?_))
      refine ga_aload_n 0 dX9_matchStable_121 rfl rfl ?_
      refine ga_getR (kI := 6) (r := 75) dX9_matchStable_122 fX9_27 rfl rfl (by decide) rfl ?_
      refine ga_aload_n 0 dX9_matchStable_125 rfl rfl ?_
      refine ga_getR (kI := 9) (r := 78) dX9_matchStable_126 fX9_36 rfl rfl (by decide) rfl ?_
      refine ga_iload_n 2 dX9_matchStable_129 rfl rfl ?_
      refine ga_iald (nI := 6) dX9_matchStable_130 rfl rfl i18 (fun r24 => ?_)
      refine ga_iconst dX9_matchStable_131 ?_
      obtain ⟨i25, h⟩ := h
      obtain ⟨σ26, eσ26⟩ : ∃ z, z = sI σ22 75 (gI σ22 78 x2) 2 := ⟨_, rfl⟩
      replace h := h σ26 eσ26
      refine ga_iast (nI := 40) dX9_matchStable_132 rfl rfl i25 (by decide) eσ26 ?_
      refine ga_iinc (ls' := [(2, vI (x2 + 1)), (0, .ref (G.2.1 69)), (1, vI x1)]) 2 dX9_matchStable_133 rfl (by decide) rfl ?_
      refine ga_goto (tgt := 94) dX9_matchStable_136 (by decide) ?_
      exact ga_sub [1, 2, 0] rfl h
abbrev eX9_sendAll (l : Launch) (G : gG) (x1 : Int) (σ : gS) (Q : Int → gS → Prop) : Prop := gEi l G mX9_sendAll [.ref (G.2.1 69), vI x1] σ Q
abbrev kX9_sendAll_4 (l : Launch) (G : gG)  (x1 : Int) (x2 : Int) (x3 : Int) (σ : gS) (Q : Int → gS → Prop) : Prop := gAt l G mX9_sendAll (gQi G Q) 4 [(0, .ref (G.2.1 69)), (1, vI x1), (2, vI x2), (3, vI x3)] [] σ
set_option maxRecDepth 100000 in
set_option maxHeartbeats 4000000 in
theorem vX9_sendAll {l : Launch} {G : gG} (x1 : Int) (rx1 : gR x1) (σ : gS) (Q : Int → gS → Prop) (h : kX9_sendAll_4 l G  x1 0 0 σ Q) : eX9_sendAll l G x1 σ Q := by
  refine ga_entry rfl (Nat.le_of_ble_eq_true rfl) ?_
  show gAt l G mX9_sendAll (gQi G Q) 0 [(0, .ref (G.2.1 69)), (1, vI x1)] [] σ
  refine ga_iconst dX9_sendAll_0 ?_
  refine ga_istore_n (ls' := [(2, vI 0), (0, .ref (G.2.1 69)), (1, vI x1)]) dX9_sendAll_1 rfl (by decide) rfl ?_
  refine ga_iconst dX9_sendAll_2 ?_
  refine ga_istore_n (ls' := [(3, vI 0), (2, vI 0), (0, .ref (G.2.1 69)), (1, vI x1)]) dX9_sendAll_3 rfl (by decide) rfl ?_
  exact ga_sub [2, 3, 1, 0] rfl h
set_option maxRecDepth 100000 in
set_option maxHeartbeats 4000000 in
theorem vX9_sendAll_4 {l : Launch} {G : gG}  (x1 : Int) (x2 : Int) (x3 : Int) (rx1 : gR x1) (rx2 : gR x2) (rx3 : gR x3) (σ : gS) (Q : Int → gS → Prop) (h : (6 ≤ x3 → Q x2 σ) ∧
  (x3 < 6 → eX9_leastIdeal l G x3 2 (-1) σ (fun v4 σ2 => gR v4 →
    (v4 = (-1) → kX9_sendAll_4 l G  x1 x2 (x3 + 1) σ2 Q) ∧
    (¬ v4 = (-1) → (0 ≤ v4 ∧ v4 < 40) ∧ ∀ σ7, σ7 = sI σ2 75 v4 3 →
      ∀ σ8, σ8 = sI σ7 74 v4 x1 →
      kX9_sendAll_4 l G  x1 (x2 + 1) (x3 + 1) σ8 Q)))) : kX9_sendAll_4 l G  x1 x2 x3 σ Q := by
  refine ga_iload_n 3 dX9_sendAll_4 rfl rfl ?_
  refine ga_bipush dX9_sendAll_5 (by decide) ?_
  obtain ⟨ht, hf⟩ := h
  refine ga_icmp_ge (tgt := 50) dX9_sendAll_7 (by decide) rx3 (by decide) (fun q1 => ?_) (fun q1 => ?_)
  · replace q1 : 6 ≤ x3 := q1
    have h := ht q1
    refine ga_iload_n 2 dX9_sendAll_50 rfl rfl ?_
    exact ga_iret dX9_sendAll_51 rfl rx2 h
  · replace q1 : x3 < 6 := (Int.not_le.mp q1)
    have h := hf q1
    refine ga_aload_n 0 dX9_sendAll_10 rfl rfl ?_
    refine ga_iload_n 3 dX9_sendAll_11 rfl rfl ?_
    refine ga_iconst dX9_sendAll_12 ?_
    refine ga_iconst dX9_sendAll_13 ?_
    refine ga_callVi (z := mX9_leastIdeal) (As := [vI x3, vI 2, vI (-1)]) (rest := []) dX9_sendAll_14 wX9_102 qX9_sendAll_X9_leastIdeal rfl ⟨_, rfl, rfl⟩ rfl rfl (Nat.le_of_ble_eq_true rfl) (gEi_mono h (fun v4 σ2 h r3 => ?_))
    replace h := h r3
    refine ga_istore (ls' := [(4, vI v4), (0, .ref (G.2.1 69)), (1, vI x1), (2, vI x2), (3, vI x3)]) dX9_sendAll_17 (by decide) rfl ?_
    refine ga_iload 0 dX9_sendAll_19 rfl ?_
    refine ga_iconst dX9_sendAll_21 ?_
    obtain ⟨ht, hf⟩ := h
    refine ga_icmp_eq (tgt := 44) dX9_sendAll_22 (by decide) r3 (by decide) (fun q5 => ?_) (fun q5 => ?_)
    · replace q5 : v4 = (-1) := q5
      have h := ht q5
      refine ga_iinc (ls' := [(3, vI (x3 + 1)), (4, vI v4), (0, .ref (G.2.1 69)), (1, vI x1), (2, vI x2)]) 4 dX9_sendAll_44 rfl (by decide) rfl ?_
      refine ga_goto (tgt := 4) dX9_sendAll_47 (by decide) ?_
      exact ga_sub [2, 3, 4, 0] rfl h
    · replace q5 : ¬ v4 = (-1) := q5
      have h := hf q5
      refine ga_aload_n 1 dX9_sendAll_25 rfl rfl ?_
      refine ga_getR (kI := 6) (r := 75) dX9_sendAll_26 fX9_27 rfl rfl (by decide) rfl ?_
      refine ga_iload 0 dX9_sendAll_29 rfl ?_
      refine ga_iconst dX9_sendAll_31 ?_
      obtain ⟨i6, h⟩ := h
      obtain ⟨σ7, eσ7⟩ : ∃ z, z = sI σ2 75 v4 3 := ⟨_, rfl⟩
      replace h := h σ7 eσ7
      refine ga_iast (nI := 40) dX9_sendAll_32 rfl rfl i6 (by decide) eσ7 ?_
      refine ga_aload_n 1 dX9_sendAll_33 rfl rfl ?_
      refine ga_getR (kI := 5) (r := 74) dX9_sendAll_34 fX9_24 rfl rfl (by decide) rfl ?_
      refine ga_iload 0 dX9_sendAll_37 rfl ?_
      refine ga_iload_n 2 dX9_sendAll_39 rfl rfl ?_
      obtain ⟨σ8, eσ8⟩ : ∃ z, z = sI σ7 74 v4 x1 := ⟨_, rfl⟩
      replace h := h σ8 eσ8
      refine ga_iast (nI := 40) dX9_sendAll_40 rfl rfl i6 rx1 eσ8 ?_
      refine ga_iinc (ls' := [(2, vI (x2 + 1)), (4, vI v4), (0, .ref (G.2.1 69)), (1, vI x1), (3, vI x3)]) 3 dX9_sendAll_41 rfl (by decide) rfl ?_
      refine ga_iinc (ls' := [(3, vI (x3 + 1)), (2, vI (x2 + 1)), (4, vI v4), (0, .ref (G.2.1 69)), (1, vI x1)]) 4 dX9_sendAll_44 rfl (by decide) rfl ?_
      refine ga_goto (tgt := 4) dX9_sendAll_47 (by decide) ?_
      exact ga_sub [3, 4, 1, 0] rfl h
abbrev eX9_passAll (l : Launch) (G : gG) (x1 : Int) (σ : gS) (Q : gS → Prop) : Prop := gEv l G mX9_passAll [.ref (G.2.1 69), vI x1] σ Q
abbrev kX9_passAll_2 (l : Launch) (G : gG)  (x1 : Int) (x2 : Int) (σ : gS) (Q : gS → Prop) : Prop := gAt l G mX9_passAll (gQv G Q) 2 [(0, .ref (G.2.1 69)), (1, vI x1), (2, vI x2)] [] σ
abbrev kX9_passAll_23 (l : Launch) (G : gG)  (x1 : Int) (x2 : Int) (σ : gS) (Q : gS → Prop) : Prop := gAt l G mX9_passAll (gQv G Q) 23 [(0, .ref (G.2.1 69)), (1, vI x1), (2, vI x2)] [] σ
abbrev kX9_passAll_55 (l : Launch) (G : gG)  (x1 : Int) (x2 : Int) (x3 : Int) (σ : gS) (Q : gS → Prop) : Prop := gAt l G mX9_passAll (gQv G Q) 55 [(0, .ref (G.2.1 69)), (1, vI x1), (2, vI x2), (3, vI x3)] [] σ
set_option maxRecDepth 100000 in
set_option maxHeartbeats 4000000 in
theorem vX9_passAll {l : Launch} {G : gG} (x1 : Int) (rx1 : gR x1) (σ : gS) (Q : gS → Prop) (h : kX9_passAll_2 l G  x1 0 σ Q) : eX9_passAll l G x1 σ Q := by
  refine ga_entry rfl (Nat.le_of_ble_eq_true rfl) ?_
  show gAt l G mX9_passAll (gQv G Q) 0 [(0, .ref (G.2.1 69)), (1, vI x1)] [] σ
  refine ga_iconst dX9_passAll_0 ?_
  refine ga_istore_n (ls' := [(2, vI 0), (0, .ref (G.2.1 69)), (1, vI x1)]) dX9_passAll_1 rfl (by decide) rfl ?_
  exact ga_sub [1, 2, 0] rfl h
set_option maxRecDepth 100000 in
set_option maxHeartbeats 4000000 in
theorem vX9_passAll_2 {l : Launch} {G : gG}  (x1 : Int) (x2 : Int) (rx1 : gR x1) (rx2 : gR x2) (σ : gS) (Q : gS → Prop) (h : (6 ≤ x2 → kX9_passAll_23 l G  x1 0 σ Q) ∧
  (x2 < 6 → (0 ≤ x2 ∧ x2 < 6) ∧ ∀ σ3, σ3 = sI σ 77 x2 0 →
    kX9_passAll_2 l G  x1 (x2 + 1) σ3 Q)) : kX9_passAll_2 l G  x1 x2 σ Q := by
  refine ga_iload_n 2 dX9_passAll_2 rfl rfl ?_
  refine ga_bipush dX9_passAll_3 (by decide) ?_
  obtain ⟨ht, hf⟩ := h
  refine ga_icmp_ge (tgt := 21) dX9_passAll_5 (by decide) rx2 (by decide) (fun q1 => ?_) (fun q1 => ?_)
  · replace q1 : 6 ≤ x2 := q1
    have h := ht q1
    refine ga_iconst dX9_passAll_21 ?_
    refine ga_istore_n (ls' := [(2, vI 0), (0, .ref (G.2.1 69)), (1, vI x1)]) dX9_passAll_22 rfl (by decide) rfl ?_
    exact ga_sub [1, 2, 0] rfl h
  · replace q1 : x2 < 6 := (Int.not_le.mp q1)
    have h := hf q1
    refine ga_aload_n 0 dX9_passAll_8 rfl rfl ?_
    refine ga_getR (kI := 8) (r := 77) dX9_passAll_9 fX9_33 rfl rfl (by decide) rfl ?_
    refine ga_iload_n 2 dX9_passAll_12 rfl rfl ?_
    refine ga_iconst dX9_passAll_13 ?_
    obtain ⟨i2, h⟩ := h
    obtain ⟨σ3, eσ3⟩ : ∃ z, z = sI σ 77 x2 0 := ⟨_, rfl⟩
    replace h := h σ3 eσ3
    refine ga_iast (nI := 6) dX9_passAll_14 rfl rfl i2 (by decide) eσ3 ?_
    refine ga_iinc (ls' := [(2, vI (x2 + 1)), (0, .ref (G.2.1 69)), (1, vI x1)]) 2 dX9_passAll_15 rfl (by decide) rfl ?_
    refine ga_goto (tgt := 2) dX9_passAll_18 (by decide) ?_
    exact ga_sub [1, 2, 0] rfl h
set_option maxRecDepth 100000 in
set_option maxHeartbeats 4000000 in
theorem vX9_passAll_23 {l : Launch} {G : gG}  (x1 : Int) (x2 : Int) (rx1 : gR x1) (rx2 : gR x2) (σ : gS) (Q : gS → Prop) (h : ((gI σ 69 0) ≤ x2 → kX9_passAll_55 l G  x1 0 0 σ Q) ∧
  (x2 < (gI σ 69 0) → (0 ≤ x2 ∧ x2 < 40) ∧ ∀ σ7, σ7 = sI σ 75 x2 0 →
    ∀ σ8, σ8 = sI σ7 74 x2 (-1) →
    kX9_passAll_23 l G  x1 (x2 + 1) σ8 Q)) : kX9_passAll_23 l G  x1 x2 σ Q := by
  refine ga_iload_n 2 dX9_passAll_23 rfl rfl ?_
  refine ga_aload_n 0 dX9_passAll_24 rfl rfl ?_
  refine ga_getI (kI := 0) dX9_passAll_25 fX9_46 rfl rfl rfl (fun r4 => ?_)
  obtain ⟨ht, hf⟩ := h
  refine ga_icmp_ge (tgt := 51) dX9_passAll_28 (by decide) rx2 r4 (fun q5 => ?_) (fun q5 => ?_)
  · replace q5 : (gI σ 69 0) ≤ x2 := q5
    have h := ht q5
    refine ga_iconst dX9_passAll_51 ?_
    refine ga_istore_n (ls' := [(2, vI 0), (0, .ref (G.2.1 69)), (1, vI x1)]) dX9_passAll_52 rfl (by decide) rfl ?_
    refine ga_iconst dX9_passAll_53 ?_
    refine ga_istore_n (ls' := [(3, vI 0), (2, vI 0), (0, .ref (G.2.1 69)), (1, vI x1)]) dX9_passAll_54 rfl (by decide) rfl ?_
    exact ga_sub [2, 3, 1, 0] rfl h
  · replace q5 : x2 < (gI σ 69 0) := (Int.not_le.mp q5)
    have h := hf q5
    refine ga_aload_n 0 dX9_passAll_31 rfl rfl ?_
    refine ga_getR (kI := 6) (r := 75) dX9_passAll_32 fX9_27 rfl rfl (by decide) rfl ?_
    refine ga_iload_n 2 dX9_passAll_35 rfl rfl ?_
    refine ga_iconst dX9_passAll_36 ?_
    obtain ⟨i6, h⟩ := h
    obtain ⟨σ7, eσ7⟩ : ∃ z, z = sI σ 75 x2 0 := ⟨_, rfl⟩
    replace h := h σ7 eσ7
    refine ga_iast (nI := 40) dX9_passAll_37 rfl rfl i6 (by decide) eσ7 ?_
    refine ga_aload_n 0 dX9_passAll_38 rfl rfl ?_
    refine ga_getR (kI := 5) (r := 74) dX9_passAll_39 fX9_24 rfl rfl (by decide) rfl ?_
    refine ga_iload_n 2 dX9_passAll_42 rfl rfl ?_
    refine ga_iconst dX9_passAll_43 ?_
    obtain ⟨σ8, eσ8⟩ : ∃ z, z = sI σ7 74 x2 (-1) := ⟨_, rfl⟩
    replace h := h σ8 eσ8
    refine ga_iast (nI := 40) dX9_passAll_44 rfl rfl i6 (by decide) eσ8 ?_
    refine ga_iinc (ls' := [(2, vI (x2 + 1)), (0, .ref (G.2.1 69)), (1, vI x1)]) 2 dX9_passAll_45 rfl (by decide) rfl ?_
    refine ga_goto (tgt := 23) dX9_passAll_48 (by decide) ?_
    exact ga_sub [1, 2, 0] rfl h
set_option maxRecDepth 100000 in
set_option maxHeartbeats 4000000 in
theorem vX9_passAll_55 {l : Launch} {G : gG}  (x1 : Int) (x2 : Int) (x3 : Int) (rx1 : gR x1) (rx2 : gR x2) (rx3 : gR x3) (σ : gS) (Q : gS → Prop) (h : (440 ≤ x3 → Q σ) ∧
  (x3 < 440 → ((gI σ 69 0) ≤ x2 → Q σ) ∧
    (x2 < (gI σ 69 0) → eX9_comeAll l G x3 σ (fun σ12 =>
      eX9_matchStable l G  σ12 (fun σ14 =>
      eX9_sendAll l G x3 σ14 (fun v18 σ16 => gR v18 →
      (¬ x1 = 2 → kX9_passAll_55 l G  x1 (x2 + v18) (x3 + 1) σ16 Q) ∧
      (x1 = 2 → eX9_matchStable l G  σ16 (fun σ20 =>
        kX9_passAll_55 l G  x1 (x2 + v18) (x3 + 1) σ20 Q)))))))) : kX9_passAll_55 l G  x1 x2 x3 σ Q := by
  refine ga_iload_n 3 dX9_passAll_55 rfl rfl ?_
  refine ga_sipush dX9_passAll_56 (by decide) ?_
  obtain ⟨ht, hf⟩ := h
  refine ga_icmp_ge (tgt := 102) dX9_passAll_59 (by decide) rx3 (by decide) (fun q9 => ?_) (fun q9 => ?_)
  · replace q9 : 440 ≤ x3 := q9
    have h := ht q9
    exact ga_vret dX9_passAll_102 rfl h
  · replace q9 : x3 < 440 := (Int.not_le.mp q9)
    have h := hf q9
    refine ga_iload_n 2 dX9_passAll_62 rfl rfl ?_
    refine ga_aload_n 0 dX9_passAll_63 rfl rfl ?_
    refine ga_getI (kI := 0) dX9_passAll_64 fX9_46 rfl rfl rfl (fun r10 => ?_)
    obtain ⟨ht, hf⟩ := h
    refine ga_icmp_ge (tgt := 102) dX9_passAll_67 (by decide) rx2 r10 (fun q11 => ?_) (fun q11 => ?_)
    · replace q11 : (gI σ 69 0) ≤ x2 := q11
      have h := ht q11
      exact ga_vret dX9_passAll_102 rfl h
    · replace q11 : x2 < (gI σ 69 0) := (Int.not_le.mp q11)
      have h := hf q11
      refine ga_aload_n 0 dX9_passAll_70 rfl rfl ?_
      refine ga_iload_n 3 dX9_passAll_71 rfl rfl ?_
      refine ga_callVv (z := mX9_comeAll) (As := [vI x3]) (rest := []) dX9_passAll_72 wX9_78 qX9_passAll_X9_comeAll rfl ⟨_, rfl, rfl⟩ rfl rfl (Nat.le_of_ble_eq_true rfl) (gEv_mono h (fun σ12 h => ?_))
      refine ga_aload_n 0 dX9_passAll_75 rfl rfl ?_
      refine ga_callVv (z := mX9_matchStable) (As := []) (rest := []) dX9_passAll_76 wX9_81 qX9_passAll_X9_matchStable rfl ⟨_, rfl, rfl⟩ rfl rfl (Nat.le_of_ble_eq_true rfl) (gEv_mono h (fun σ14 h => ?_))
      refine ga_iload_n 2 dX9_passAll_79 rfl rfl ?_
      refine ga_aload_n 0 dX9_passAll_80 rfl rfl ?_
      refine ga_iload_n 3 dX9_passAll_81 rfl rfl ?_
      refine ga_callVi (z := mX9_sendAll) (As := [vI x3]) (rest := [vI x2]) dX9_passAll_82 wX9_84 qX9_passAll_X9_sendAll rfl ⟨_, rfl, rfl⟩ rfl rfl (Nat.le_of_ble_eq_true rfl) (gEi_mono h (fun v18 σ16 h r17 => ?_))
      replace h := h r17
      refine ga_iadd dX9_passAll_85 ?_
      refine ga_istore_n (ls' := [(2, vI (x2 + v18)), (0, .ref (G.2.1 69)), (1, vI x1), (3, vI x3)]) dX9_passAll_86 rfl (by decide) rfl ?_
      refine ga_iload_n 2 dX9_passAll_87 rfl rfl ?_
      refine ga_iconst dX9_passAll_88 ?_
      obtain ⟨ht, hf⟩ := h
      refine ga_icmp_ne (tgt := 96) dX9_passAll_89 (by decide) rx1 (by decide) (fun q19 => ?_) (fun q19 => ?_)
      · replace q19 : ¬ x1 = 2 := q19
        have h := ht q19
        refine ga_iinc (ls' := [(3, vI (x3 + 1)), (2, vI (x2 + v18)), (0, .ref (G.2.1 69)), (1, vI x1)]) 3 dX9_passAll_96 rfl (by decide) rfl ?_
        refine ga_goto (tgt := 55) dX9_passAll_99 (by decide) ?_
        exact ga_sub [2, 3, 1, 0] rfl h
      · replace q19 : x1 = 2 := (Decidable.not_not.mp q19)
        have h := hf q19
        refine ga_aload_n 1 dX9_passAll_92 rfl rfl ?_
        refine ga_callVv (z := mX9_matchStable) (As := []) (rest := []) dX9_passAll_93 wX9_81 qX9_passAll_X9_matchStable rfl ⟨_, rfl, rfl⟩ rfl rfl (Nat.le_of_ble_eq_true rfl) (gEv_mono h (fun σ20 h => ?_))
        refine ga_iinc (ls' := [(3, vI (x3 + 1)), (2, vI (x2 + v18)), (0, .ref (G.2.1 69)), (1, vI x1)]) 3 dX9_passAll_96 rfl (by decide) rfl ?_
        refine ga_goto (tgt := 55) dX9_passAll_99 (by decide) ?_
        exact ga_sub [2, 3, 1, 0] rfl h
abbrev eX9_tell (l : Launch) (G : gG) (x1 : Int) (x2 : Int) (σ : gS) (Q : Int → gS → Prop) : Prop := gEi l G mX9_tell [.ref (G.2.1 69), vI x1, vI x2] σ Q
abbrev kX9_tell_45 (l : Launch) (G : gG)  (x1 : Int) (x2 : Int) (x3 : Int) (x4 : Int) (σ : gS) (Q : Int → gS → Prop) : Prop := gAt l G mX9_tell (gQi G Q) 45 [(0, .ref (G.2.1 69)), (1, vI x1), (2, vI x2), (3, vI x3), (4, vI x4)] [] σ
set_option maxRecDepth 100000 in
set_option maxHeartbeats 4000000 in
theorem vX9_tell {l : Launch} {G : gG} (x1 : Int) (x2 : Int) (rx1 : gR x1) (rx2 : gR x2) (σ : gS) (Q : Int → gS → Prop) (h : (¬ x2 = 0 → eX9_passAll l G x2 σ (fun σ2 =>
    (x1 = (-1) → kX9_tell_45 l G  x1 x2 0 0 σ2 Q) ∧
    (¬ x1 = (-1) → (0 ≤ x1 ∧ x1 < 40) ∧ Q (gI σ2 74 x1) σ2))) ∧
  (x2 = 0 → ((¬ x1 = (-1) → (0 ≤ x1 ∧ x1 < 40) ∧ True) ∧
    (x1 = (-1) → True)) ∧
    (∀ v12 : Int, v12 = (if x1 = (-1) then (gI σ 69 0) else (gI σ 73 x1)) →
    Q v12 σ))) : eX9_tell l G x1 x2 σ Q := by
  refine ga_entry rfl (Nat.le_of_ble_eq_true rfl) ?_
  show gAt l G mX9_tell (gQi G Q) 0 [(0, .ref (G.2.1 69)), (1, vI x1), (2, vI x2)] [] σ
  refine ga_iload_n 2 dX9_tell_0 rfl rfl ?_
  obtain ⟨ht, hf⟩ := h
  refine ga_if_ne (tgt := 23) dX9_tell_1 (by decide) rx2 (fun q1 => ?_) (fun q1 => ?_)
  · replace q1 : ¬ x2 = 0 := q1
    have h := ht q1
    refine ga_aload_n 0 dX9_tell_23 rfl rfl ?_
    refine ga_iload_n 2 dX9_tell_24 rfl rfl ?_
    refine ga_callVv (z := mX9_passAll) (As := [vI x2]) (rest := []) dX9_tell_25 wX9_74 qX9_tell_X9_passAll rfl ⟨_, rfl, rfl⟩ rfl rfl (Nat.le_of_ble_eq_true rfl) (gEv_mono h (fun σ2 h => ?_))
    refine ga_iload_n 1 dX9_tell_28 rfl rfl ?_
    refine ga_iconst dX9_tell_29 ?_
    obtain ⟨ht, hf⟩ := h
    refine ga_icmp_eq (tgt := 40) dX9_tell_30 (by decide) rx1 (by decide) (fun q4 => ?_) (fun q4 => ?_)
    · replace q4 : x1 = (-1) := q4
      have h := ht q4
      refine ga_iconst dX9_tell_40 ?_
      refine ga_istore_n (ls' := [(3, vI 0), (0, .ref (G.2.1 69)), (1, vI x1), (2, vI x2)]) dX9_tell_41 rfl (by decide) rfl ?_
      refine ga_iconst dX9_tell_42 ?_
      refine ga_istore (ls' := [(4, vI 0), (3, vI 0), (0, .ref (G.2.1 69)), (1, vI x1), (2, vI x2)]) dX9_tell_43 (by decide) rfl ?_
      exact ga_sub [2, 3, 4, 1, 0] rfl h
    · replace q4 : ¬ x1 = (-1) := q4
      have h := hf q4
      refine ga_aload_n 0 dX9_tell_33 rfl rfl ?_
      refine ga_getR (kI := 5) (r := 74) dX9_tell_34 fX9_24 rfl rfl (by decide) rfl ?_
      refine ga_iload_n 1 dX9_tell_37 rfl rfl ?_
      obtain ⟨i5, h⟩ := h
      refine ga_iald (nI := 40) dX9_tell_38 rfl rfl i5 (fun r6 => ?_)
      exact ga_iret dX9_tell_39 rfl r6 h
  · replace q1 : x2 = 0 := (Decidable.not_not.mp q1)
    have h := hf q1
    refine ga_iload_n 1 dX9_tell_4 rfl rfl ?_
    refine ga_iconst dX9_tell_5 ?_
    obtain ⟨hob, h⟩ := h
    have kJ7 : ∀ v12 : Int, gR v12 → v12 = (if x1 = (-1) then (gI σ 69 0) else (gI σ 73 x1)) → gAt l G mX9_tell (gQi G Q) 22 [(0, .ref (G.2.1 69)), (1, vI x1), (2, vI x2)] [vI v12] σ := by
      intro v12 rv12 ev12
      replace h := h v12 ev12
      exact ga_iret dX9_tell_22 rfl rv12 h
    replace h := hob
    obtain ⟨ht, hf⟩ := h
    refine ga_icmp_ne (tgt := 16) dX9_tell_6 (by decide) rx1 (by decide) (fun q8 => ?_) (fun q8 => ?_)
    · replace q8 : ¬ x1 = (-1) := q8
      have h := ht q8
      refine ga_aload_n 0 dX9_tell_16 rfl rfl ?_
      refine ga_getR (kI := 4) (r := 73) dX9_tell_17 fX9_21 rfl rfl (by decide) rfl ?_
      refine ga_iload_n 1 dX9_tell_20 rfl rfl ?_
      obtain ⟨i9, h⟩ := h
      refine ga_iald (nI := 40) dX9_tell_21 rfl rfl i9 (fun r10 => ?_)
      exact kJ7 (gI σ 73 x1) r10 (by rw [if_neg q8])
    · replace q8 : x1 = (-1) := (Decidable.not_not.mp q8)
      have h := hf q8
      refine ga_aload_n 0 dX9_tell_9 rfl rfl ?_
      refine ga_getI (kI := 0) dX9_tell_10 fX9_46 rfl rfl rfl (fun r11 => ?_)
      refine ga_goto (tgt := 22) dX9_tell_13 (by decide) ?_
      exact kJ7 (gI σ 69 0) r11 (by rw [if_pos q8])
set_option maxRecDepth 100000 in
set_option maxHeartbeats 4000000 in
theorem vX9_tell_45 {l : Launch} {G : gG}  (x1 : Int) (x2 : Int) (x3 : Int) (x4 : Int) (rx1 : gR x1) (rx2 : gR x2) (rx3 : gR x3) (rx4 : gR x4) (σ : gS) (Q : Int → gS → Prop) (h : ((gI σ 69 0) ≤ x4 → Q x3 σ) ∧
  (x4 < (gI σ 69 0) → (0 ≤ x4 ∧ x4 < 40) ∧ ((gI σ 74 x4) ≤ (gI σ 73 x4) → kX9_tell_45 l G  x1 x2 x3 (x4 + 1) σ Q) ∧
    ((gI σ 73 x4) < (gI σ 74 x4) → kX9_tell_45 l G  x1 x2 (x3 + 1) (x4 + 1) σ Q))) : kX9_tell_45 l G  x1 x2 x3 x4 σ Q := by
  refine ga_iload 4 dX9_tell_45 rfl ?_
  refine ga_aload_n 0 dX9_tell_47 rfl rfl ?_
  refine ga_getI (kI := 0) dX9_tell_48 fX9_46 rfl rfl rfl (fun r13 => ?_)
  obtain ⟨ht, hf⟩ := h
  refine ga_icmp_ge (tgt := 80) dX9_tell_51 (by decide) rx4 r13 (fun q14 => ?_) (fun q14 => ?_)
  · replace q14 : (gI σ 69 0) ≤ x4 := q14
    have h := ht q14
    refine ga_iload_n 3 dX9_tell_80 rfl rfl ?_
    exact ga_iret dX9_tell_81 rfl rx3 h
  · replace q14 : x4 < (gI σ 69 0) := (Int.not_le.mp q14)
    have h := hf q14
    refine ga_aload_n 0 dX9_tell_54 rfl rfl ?_
    refine ga_getR (kI := 5) (r := 74) dX9_tell_55 fX9_24 rfl rfl (by decide) rfl ?_
    refine ga_iload 4 dX9_tell_58 rfl ?_
    obtain ⟨i15, h⟩ := h
    refine ga_iald (nI := 40) dX9_tell_60 rfl rfl i15 (fun r16 => ?_)
    refine ga_aload_n 0 dX9_tell_61 rfl rfl ?_
    refine ga_getR (kI := 4) (r := 73) dX9_tell_62 fX9_21 rfl rfl (by decide) rfl ?_
    refine ga_iload 4 dX9_tell_65 rfl ?_
    refine ga_iald (nI := 40) dX9_tell_67 rfl rfl i15 (fun r17 => ?_)
    obtain ⟨ht, hf⟩ := h
    refine ga_icmp_le (tgt := 74) dX9_tell_68 (by decide) r16 r17 (fun q18 => ?_) (fun q18 => ?_)
    · replace q18 : (gI σ 74 x4) ≤ (gI σ 73 x4) := q18
      have h := ht q18
      refine ga_iinc (ls' := [(4, vI (x4 + 1)), (0, .ref (G.2.1 69)), (1, vI x1), (2, vI x2), (3, vI x3)]) 4 dX9_tell_74 rfl (by decide) rfl ?_
      refine ga_goto (tgt := 45) dX9_tell_77 (by decide) ?_
      exact ga_sub [1, 2, 3, 4, 0] rfl h
    · replace q18 : (gI σ 73 x4) < (gI σ 74 x4) := (Int.not_le.mp q18)
      have h := hf q18
      refine ga_iinc (ls' := [(3, vI (x3 + 1)), (0, .ref (G.2.1 69)), (1, vI x1), (2, vI x2), (4, vI x4)]) 3 dX9_tell_71 rfl (by decide) rfl ?_
      refine ga_iinc (ls' := [(4, vI (x4 + 1)), (3, vI (x3 + 1)), (0, .ref (G.2.1 69)), (1, vI x1), (2, vI x2)]) 4 dX9_tell_74 rfl (by decide) rfl ?_
      refine ga_goto (tgt := 45) dX9_tell_77 (by decide) ?_
      exact ga_sub [2, 3, 4, 1, 0] rfl h
abbrev eX10_put (l : Launch) (G : gG) (x1 : Int) (σ : gS) (Q : gS → Prop) : Prop := gEv l G mX10_put [.ref (G.2.1 1), vI x1] σ Q
abbrev kX10_put_3 (l : Launch) (G : gG)  (x1 : Int) (x2 : Int) (σ : gS) (Q : gS → Prop) : Prop := gAt l G mX10_put (gQv G Q) 3 [(0, .ref (G.2.1 1)), (1, vI x1), (2, vI x2)] [] σ
set_option maxRecDepth 100000 in
set_option maxHeartbeats 4000000 in
theorem vX10_put {l : Launch} {G : gG} (x1 : Int) (rx1 : gR x1) (σ : gS) (Q : gS → Prop) (h : kX10_put_3 l G  x1 24 σ Q) : eX10_put l G x1 σ Q := by
  refine ga_entry rfl (Nat.le_of_ble_eq_true rfl) ?_
  show gAt l G mX10_put (gQv G Q) 0 [(0, .ref (G.2.1 1)), (1, vI x1)] [] σ
  refine ga_bipush dX10_put_0 (by decide) ?_
  refine ga_istore_n (ls' := [(2, vI 24), (0, .ref (G.2.1 1)), (1, vI x1)]) dX10_put_2 rfl (by decide) rfl ?_
  exact ga_sub [1, 2, 0] rfl h
set_option maxRecDepth 100000 in
set_option maxHeartbeats 4000000 in
theorem vX10_put_3 {l : Launch} {G : gG}  (x1 : Int) (x2 : Int) (rx1 : gR x1) (rx2 : gR x2) (σ : gS) (Q : gS → Prop) (h : (x2 < 0 → Q σ) ∧
  (0 ≤ x2 → (600 ≤ (gI σ 1 1) → kX10_put_3 l G  x1 (x2 + (-8)) σ Q) ∧
    ((gI σ 1 1) < 600 → (0 ≤ (gI σ 1 1) ∧ (gI σ 1 1) < 600) ∧ ∀ σ8, σ8 = sI σ 2 (gI σ 1 1) (gi2b (gshr x1 x2)) →
      (gR ((gI σ8 1 1) + 1)) ∧ ∀ σ10, σ10 = sI σ8 1 1 ((gI σ8 1 1) + 1) →
      kX10_put_3 l G  x1 (x2 + (-8)) σ10 Q))) : kX10_put_3 l G  x1 x2 σ Q := by
  refine ga_iload_n 2 dX10_put_3 rfl rfl ?_
  obtain ⟨ht, hf⟩ := h
  refine ga_if_lt (tgt := 46) dX10_put_4 (by decide) rx2 (fun q1 => ?_) (fun q1 => ?_)
  · replace q1 : x2 < 0 := q1
    have h := ht q1
    exact ga_vret dX10_put_46 rfl h
  · replace q1 : 0 ≤ x2 := (Int.not_lt.mp q1)
    have h := hf q1
    refine ga_aload_n 0 dX10_put_7 rfl rfl ?_
    refine ga_getI (kI := 1) dX10_put_8 fX10_15 rfl rfl rfl (fun r2 => ?_)
    refine ga_sipush dX10_put_11 (by decide) ?_
    obtain ⟨ht, hf⟩ := h
    refine ga_icmp_ge (tgt := 40) dX10_put_14 (by decide) r2 (by decide) (fun q3 => ?_) (fun q3 => ?_)
    · replace q3 : 600 ≤ (gI σ 1 1) := q3
      have h := ht q3
      refine ga_iinc (ls' := [(2, vI (x2 + (-8))), (0, .ref (G.2.1 1)), (1, vI x1)]) 2 dX10_put_40 rfl (by decide) rfl ?_
      refine ga_goto (tgt := 3) dX10_put_43 (by decide) ?_
      exact ga_sub [1, 2, 0] rfl h
    · replace q3 : (gI σ 1 1) < 600 := (Int.not_le.mp q3)
      have h := hf q3
      refine ga_aload_n 0 dX10_put_17 rfl rfl ?_
      refine ga_getR (kI := 0) (r := 2) dX10_put_18 fX10_9 rfl rfl (by decide) rfl ?_
      refine ga_aload_n 0 dX10_put_21 rfl rfl ?_
      refine ga_getI (kI := 1) dX10_put_22 fX10_15 rfl rfl rfl (fun r4 => ?_)
      refine ga_iload_n 1 dX10_put_25 rfl rfl ?_
      refine ga_iload_n 2 dX10_put_26 rfl rfl ?_
      refine ga_ishr dX10_put_27 (fun r5 => ?_)
      refine ga_i2b dX10_put_28 (fun r6 => ?_)
      obtain ⟨i7, h⟩ := h
      obtain ⟨σ8, eσ8⟩ : ∃ z, z = sI σ 2 (gI σ 1 1) (gi2b (gshr x1 x2)) := ⟨_, rfl⟩
      replace h := h σ8 eσ8
      refine ga_bast (nI := 600) dX10_put_29 rfl rfl i7 (gi2b_r (gshr x1 x2)) eσ8 ?_
      refine ga_aload_n 0 dX10_put_30 rfl rfl ?_
      refine ga_dup dX10_put_31 rfl ?_
      refine ga_getI (kI := 1) dX10_put_32 fX10_15 rfl rfl rfl (fun r9 => ?_)
      refine ga_iconst dX10_put_35 ?_
      refine ga_iadd dX10_put_36 ?_
      obtain ⟨r11, h⟩ := h
      obtain ⟨σ10, eσ10⟩ : ∃ z, z = sI σ8 1 1 ((gI σ8 1 1) + 1) := ⟨_, rfl⟩
      replace h := h σ10 eσ10
      refine ga_putI (kI := 1) dX10_put_37 fX10_15 pX10_1 rfl rfl rfl r11 eσ10 ?_
      refine ga_iinc (ls' := [(2, vI (x2 + (-8))), (0, .ref (G.2.1 1)), (1, vI x1)]) 2 dX10_put_40 rfl (by decide) rfl ?_
      refine ga_goto (tgt := 3) dX10_put_43 (by decide) ?_
      exact ga_sub [1, 2, 0] rfl h
abbrev eX10_has (l : Launch) (G : gG) (x1 : Int) (x2 : Int) (σ : gS) (Q : Int → gS → Prop) : Prop := gEz l G mX10_has [.ref (G.2.1 1), vI x1, vI x2] σ Q
set_option maxRecDepth 100000 in
set_option maxHeartbeats 4000000 in
theorem vX10_has {l : Launch} {G : gG} (x1 : Int) (x2 : Int) (rx1 : gR x1) (rx2 : gR x2) (σ : gS) (Q : Int → gS → Prop) (h : ((x1 < 0 → True) ∧
  (0 ≤ x1 → (3 ≤ x1 → True) ∧
    (x1 < 3 → (x2 < 0 → True) ∧
      (0 ≤ x2 → (0 ≤ x1 ∧ x1 < 3) ∧ ((gI σ 3 x1) ≤ x2 → True) ∧
        (x2 < (gI σ 3 x1) → True))))) ∧
  (∀ v8 : Int, v8 = (if x1 < 0 then 0 else (if 3 ≤ x1 then 0 else (if x2 < 0 then 0 else (if (gI σ 3 x1) ≤ x2 then 0 else 1)))) →
  Q v8 σ)) : eX10_has l G x1 x2 σ Q := by
  refine ga_entry rfl (Nat.le_of_ble_eq_true rfl) ?_
  show gAt l G mX10_has (gQz G Q) 0 [(0, .ref (G.2.1 1)), (1, vI x1), (2, vI x2)] [] σ
  refine ga_iload_n 1 dX10_has_0 rfl rfl ?_
  obtain ⟨hob, h⟩ := h
  have kJ1 : ∀ v8 : Int, gR v8 → (v8 = 0 ∨ v8 = 1) → v8 = (if x1 < 0 then 0 else (if 3 ≤ x1 then 0 else (if x2 < 0 then 0 else (if (gI σ 3 x1) ≤ x2 then 0 else 1)))) → gAt l G mX10_has (gQz G Q) 28 [(0, .ref (G.2.1 1)), (1, vI x1), (2, vI x2)] [vI v8] σ := by
    intro v8 rv8 bv8 ev8
    replace h := h v8 ev8
    exact ga_bret dX10_has_28 rfl bv8 h
  replace h := hob
  obtain ⟨ht, hf⟩ := h
  refine ga_if_lt (tgt := 27) dX10_has_1 (by decide) rx1 (fun q2 => ?_) (fun q2 => ?_)
  · replace q2 : x1 < 0 := q2
    have h := ht q2
    refine ga_iconst dX10_has_27 ?_
    exact kJ1 0 (by decide) (Or.inl rfl) (by rw [if_pos q2])
  · replace q2 : 0 ≤ x1 := (Int.not_lt.mp q2)
    have h := hf q2
    refine ga_iload_n 1 dX10_has_4 rfl rfl ?_
    refine ga_iconst dX10_has_5 ?_
    obtain ⟨ht, hf⟩ := h
    refine ga_icmp_ge (tgt := 27) dX10_has_6 (by decide) rx1 (by decide) (fun q3 => ?_) (fun q3 => ?_)
    · replace q3 : 3 ≤ x1 := q3
      have h := ht q3
      refine ga_iconst dX10_has_27 ?_
      exact kJ1 0 (by decide) (Or.inl rfl) (by rw [if_neg (Int.not_lt.mpr q2), if_pos q3])
    · replace q3 : x1 < 3 := (Int.not_le.mp q3)
      have h := hf q3
      refine ga_iload_n 2 dX10_has_9 rfl rfl ?_
      obtain ⟨ht, hf⟩ := h
      refine ga_if_lt (tgt := 27) dX10_has_10 (by decide) rx2 (fun q4 => ?_) (fun q4 => ?_)
      · replace q4 : x2 < 0 := q4
        have h := ht q4
        refine ga_iconst dX10_has_27 ?_
        exact kJ1 0 (by decide) (Or.inl rfl) (by rw [if_neg (Int.not_lt.mpr q2), if_neg (Int.not_le.mpr q3), if_pos q4])
      · replace q4 : 0 ≤ x2 := (Int.not_lt.mp q4)
        have h := hf q4
        refine ga_iload_n 2 dX10_has_13 rfl rfl ?_
        refine ga_aload_n 0 dX10_has_14 rfl rfl ?_
        refine ga_getR (kI := 4) (r := 3) dX10_has_15 fX10_25 rfl rfl (by decide) rfl ?_
        refine ga_iload_n 1 dX10_has_18 rfl rfl ?_
        obtain ⟨i5, h⟩ := h
        refine ga_iald (nI := 3) dX10_has_19 rfl rfl i5 (fun r6 => ?_)
        obtain ⟨ht, hf⟩ := h
        refine ga_icmp_ge (tgt := 27) dX10_has_20 (by decide) rx2 r6 (fun q7 => ?_) (fun q7 => ?_)
        · replace q7 : (gI σ 3 x1) ≤ x2 := q7
          have h := ht q7
          refine ga_iconst dX10_has_27 ?_
          exact kJ1 0 (by decide) (Or.inl rfl) (by rw [if_neg (Int.not_lt.mpr q2), if_neg (Int.not_le.mpr q3), if_neg (Int.not_lt.mpr q4), if_pos q7])
        · replace q7 : x2 < (gI σ 3 x1) := (Int.not_le.mp q7)
          have h := hf q7
          refine ga_iconst dX10_has_23 ?_
          refine ga_goto (tgt := 28) dX10_has_24 (by decide) ?_
          exact kJ1 1 (by decide) (Or.inr rfl) (by rw [if_neg (Int.not_lt.mpr q2), if_neg (Int.not_le.mpr q3), if_neg (Int.not_lt.mpr q4), if_neg (Int.not_le.mpr q7)])
abbrev eX10_hasRoom (l : Launch) (G : gG) (x1 : Int) (x2 : Int) (σ : gS) (Q : Int → gS → Prop) : Prop := gEz l G mX10_hasRoom [.ref (G.2.1 1), vI x1, vI x2] σ Q
set_option maxRecDepth 100000 in
set_option maxHeartbeats 4000000 in
theorem vX10_hasRoom {l : Launch} {G : gG} (x1 : Int) (x2 : Int) (rx1 : gR x1) (rx2 : gR x2) (σ : gS) (Q : Int → gS → Prop) (h : (x2 = (-1) → ((x1 < 0 → True) ∧
    (0 ≤ x1 → (3 ≤ x1 → True) ∧
      (x1 < 3 → (0 ≤ x1 ∧ x1 < 3) ∧ (2 ≤ (gI σ 3 x1) → True) ∧
        ((gI σ 3 x1) < 2 → True)))) ∧
    (∀ v8 : Int, v8 = (if x1 < 0 then 0 else (if 3 ≤ x1 then 0 else (if 2 ≤ (gI σ 3 x1) then 0 else 1))) →
    Q v8 σ)) ∧
  (¬ x2 = (-1) → eX10_has l G x1 x2 σ (fun v11 σ9 => (v11 = 0 ∨ v11 = 1) →
    Q v11 σ9))) : eX10_hasRoom l G x1 x2 σ Q := by
  refine ga_entry rfl (Nat.le_of_ble_eq_true rfl) ?_
  show gAt l G mX10_hasRoom (gQz G Q) 0 [(0, .ref (G.2.1 1)), (1, vI x1), (2, vI x2)] [] σ
  refine ga_iload_n 2 dX10_hasRoom_0 rfl rfl ?_
  refine ga_iconst dX10_hasRoom_1 ?_
  obtain ⟨ht, hf⟩ := h
  refine ga_icmp_eq (tgt := 12) dX10_hasRoom_2 (by decide) rx2 (by decide) (fun q1 => ?_) (fun q1 => ?_)
  · replace q1 : x2 = (-1) := q1
    have h := ht q1
    refine ga_iload_n 1 dX10_hasRoom_12 rfl rfl ?_
    obtain ⟨hob, h⟩ := h
    have kJ2 : ∀ v8 : Int, gR v8 → (v8 = 0 ∨ v8 = 1) → v8 = (if x1 < 0 then 0 else (if 3 ≤ x1 then 0 else (if 2 ≤ (gI σ 3 x1) then 0 else 1))) → gAt l G mX10_hasRoom (gQz G Q) 36 [(0, .ref (G.2.1 1)), (1, vI x1), (2, vI x2)] [vI v8] σ := by
      intro v8 rv8 bv8 ev8
      replace h := h v8 ev8
      exact ga_bret dX10_hasRoom_36 rfl bv8 h
    replace h := hob
    obtain ⟨ht, hf⟩ := h
    refine ga_if_lt (tgt := 35) dX10_hasRoom_13 (by decide) rx1 (fun q3 => ?_) (fun q3 => ?_)
    · replace q3 : x1 < 0 := q3
      have h := ht q3
      refine ga_iconst dX10_hasRoom_35 ?_
      exact kJ2 0 (by decide) (Or.inl rfl) (by rw [if_pos q3])
    · replace q3 : 0 ≤ x1 := (Int.not_lt.mp q3)
      have h := hf q3
      refine ga_iload_n 1 dX10_hasRoom_16 rfl rfl ?_
      refine ga_iconst dX10_hasRoom_17 ?_
      obtain ⟨ht, hf⟩ := h
      refine ga_icmp_ge (tgt := 35) dX10_hasRoom_18 (by decide) rx1 (by decide) (fun q4 => ?_) (fun q4 => ?_)
      · replace q4 : 3 ≤ x1 := q4
        have h := ht q4
        refine ga_iconst dX10_hasRoom_35 ?_
        exact kJ2 0 (by decide) (Or.inl rfl) (by rw [if_neg (Int.not_lt.mpr q3), if_pos q4])
      · replace q4 : x1 < 3 := (Int.not_le.mp q4)
        have h := hf q4
        refine ga_aload_n 0 dX10_hasRoom_21 rfl rfl ?_
        refine ga_getR (kI := 4) (r := 3) dX10_hasRoom_22 fX10_25 rfl rfl (by decide) rfl ?_
        refine ga_iload_n 1 dX10_hasRoom_25 rfl rfl ?_
        obtain ⟨i5, h⟩ := h
        refine ga_iald (nI := 3) dX10_hasRoom_26 rfl rfl i5 (fun r6 => ?_)
        refine ga_iconst dX10_hasRoom_27 ?_
        obtain ⟨ht, hf⟩ := h
        refine ga_icmp_ge (tgt := 35) dX10_hasRoom_28 (by decide) r6 (by decide) (fun q7 => ?_) (fun q7 => ?_)
        · replace q7 : 2 ≤ (gI σ 3 x1) := q7
          have h := ht q7
          refine ga_iconst dX10_hasRoom_35 ?_
          exact kJ2 0 (by decide) (Or.inl rfl) (by rw [if_neg (Int.not_lt.mpr q3), if_neg (Int.not_le.mpr q4), if_pos q7])
        · replace q7 : (gI σ 3 x1) < 2 := (Int.not_le.mp q7)
          have h := hf q7
          refine ga_iconst dX10_hasRoom_31 ?_
          refine ga_goto (tgt := 36) dX10_hasRoom_32 (by decide) ?_
          exact kJ2 1 (by decide) (Or.inr rfl) (by rw [if_neg (Int.not_lt.mpr q3), if_neg (Int.not_le.mpr q4), if_neg (Int.not_le.mpr q7)])
  · replace q1 : ¬ x2 = (-1) := q1
    have h := hf q1
    refine ga_aload_n 0 dX10_hasRoom_5 rfl rfl ?_
    refine ga_iload_n 1 dX10_hasRoom_6 rfl rfl ?_
    refine ga_iload_n 2 dX10_hasRoom_7 rfl rfl ?_
    refine ga_callVz (z := mX10_has) (As := [vI x1, vI x2]) (rest := []) dX10_hasRoom_8 wX10_38 qX10_hasRoom_X10_has rfl ⟨_, rfl, rfl⟩ rfl rfl (Nat.le_of_ble_eq_true rfl) (gEz_mono h (fun v11 σ9 h r10 => ?_))
    replace h := h r10
    exact ga_bret dX10_hasRoom_11 rfl r10 h
abbrev eX10_keep (l : Launch) (G : gG) (x1 : Int) (x2 : Int) (σ : gS) (Q : Int → gS → Prop) : Prop := gEi l G mX10_keep [.ref (G.2.1 1), vI x1, vI x2, .ref (G.2.1 27)] σ Q
set_option maxRecDepth 100000 in
set_option maxHeartbeats 4000000 in
theorem vX10_keep {l : Launch} {G : gG} (x1 : Int) (x2 : Int) (rx1 : gR x1) (rx2 : gR x2) (σ : gS) (Q : Int → gS → Prop) (h : (¬ x2 = (-1) → (¬ x1 = 0 → eX10_placeOf l G x1 x2 σ (fun v5 σ3 => gR v5 →
      ((0 : Int) ≤ 0 ∧ (0 : Int) ≤ (v5 * 160) ∧ (0 : Int) ≤ 160 ∧ (0 : Int) + 160 ≤ 160 ∧ ((v5 * 160) : Int) + 160 ≤ 640) ∧ ∀ σ7, σ7 = cpI σ3 29 0 5 (v5 * 160) 160 →
      (0 ≤ v5 ∧ v5 < 4) ∧ ∀ σ10, σ10 = sI σ7 6 v5 (gI σ7 27 2) →
      Q x2 σ10)) ∧
    (x1 = 0 → ((0 : Int) ≤ 0 ∧ (0 : Int) ≤ (x2 * 4) ∧ (0 : Int) ≤ 4 ∧ (0 : Int) + 4 ≤ 4 ∧ ((x2 * 4) : Int) + 4 ≤ 8) ∧ ∀ σ12, σ12 = cpI σ 28 0 4 (x2 * 4) 4 →
      Q x2 σ12)) ∧
  (x2 = (-1) → (0 ≤ x1 ∧ x1 < 3) ∧ (gR ((gI σ 3 x1) + 1)) ∧ ∀ σ16, σ16 = sI σ 3 x1 ((gI σ 3 x1) + 1) →
    (¬ x1 = 0 → eX10_placeOf l G x1 (gI σ 3 x1) σ16 (fun v21 σ19 => gR v21 →
      ((0 : Int) ≤ 0 ∧ (0 : Int) ≤ (v21 * 160) ∧ (0 : Int) ≤ 160 ∧ (0 : Int) + 160 ≤ 160 ∧ ((v21 * 160) : Int) + 160 ≤ 640) ∧ ∀ σ23, σ23 = cpI σ19 29 0 5 (v21 * 160) 160 →
      (0 ≤ v21 ∧ v21 < 4) ∧ ∀ σ26, σ26 = sI σ23 6 v21 (gI σ23 27 2) →
      Q (gI σ 3 x1) σ26)) ∧
    (x1 = 0 → ((0 : Int) ≤ 0 ∧ (0 : Int) ≤ ((gI σ 3 x1) * 4) ∧ (0 : Int) ≤ 4 ∧ (0 : Int) + 4 ≤ 4 ∧ (((gI σ 3 x1) * 4) : Int) + 4 ≤ 8) ∧ ∀ σ28, σ28 = cpI σ16 28 0 4 ((gI σ 3 x1) * 4) 4 →
      Q (gI σ 3 x1) σ28))) : eX10_keep l G x1 x2 σ Q := by
  refine ga_entry rfl (Nat.le_of_ble_eq_true rfl) ?_
  show gAt l G mX10_keep (gQi G Q) 0 [(0, .ref (G.2.1 1)), (1, vI x1), (2, vI x2), (3, .ref (G.2.1 27))] [] σ
  refine ga_iload_n 2 dX10_keep_0 rfl rfl ?_
  refine ga_istore (ls' := [(4, vI x2), (0, .ref (G.2.1 1)), (1, vI x1), (2, vI x2), (3, .ref (G.2.1 27))]) dX10_keep_1 (by decide) rfl ?_
  refine ga_iload_n 3 dX10_keep_3 rfl rfl ?_
  refine ga_iconst dX10_keep_4 ?_
  obtain ⟨ht, hf⟩ := h
  refine ga_icmp_ne (tgt := 26) dX10_keep_5 (by decide) rx2 (by decide) (fun q1 => ?_) (fun q1 => ?_)
  · replace q1 : ¬ x2 = (-1) := q1
    have h := ht q1
    refine ga_iload_n 2 dX10_keep_26 rfl rfl ?_
    obtain ⟨ht, hf⟩ := h
    refine ga_if_ne (tgt := 50) dX10_keep_27 (by decide) rx1 (fun q2 => ?_) (fun q2 => ?_)
    · replace q2 : ¬ x1 = 0 := q2
      have h := ht q2
      refine ga_iload_n 2 dX10_keep_50 rfl rfl ?_
      refine ga_iload 0 dX10_keep_51 rfl ?_
      refine ga_callSi (z := mX10_placeOf) (As := [vI x1, vI x2]) (rest := []) dX10_keep_53 wX10_42 qX10_keep_X10_placeOf rfl rfl (Nat.le_of_ble_eq_true rfl) (gEi_mono h (fun v5 σ3 h r4 => ?_))
      replace h := h r4
      refine ga_istore (ls' := [(5, vI v5), (4, vI x2), (0, .ref (G.2.1 1)), (1, vI x1), (2, vI x2), (3, .ref (G.2.1 27))]) dX10_keep_56 (by decide) rfl ?_
      refine ga_sipush dX10_keep_58 (by decide) ?_
      refine ga_istore (ls' := [(6, vI 160), (5, vI v5), (4, vI x2), (0, .ref (G.2.1 1)), (1, vI x1), (2, vI x2), (3, .ref (G.2.1 27))]) dX10_keep_61 (by decide) rfl ?_
      refine ga_aload_n 6 dX10_keep_63 rfl rfl ?_
      refine ga_getR (kI := 1) (r := 29) dX10_keep_64 fX10_57 rfl rfl (by decide) rfl ?_
      refine ga_iconst dX10_keep_67 ?_
      refine ga_aload_n 3 dX10_keep_68 rfl rfl ?_
      refine ga_getR (kI := 6) (r := 5) dX10_keep_69 fX10_32 rfl rfl (by decide) rfl ?_
      refine ga_iload 1 dX10_keep_72 rfl ?_
      refine ga_iload 0 dX10_keep_74 rfl ?_
      refine ga_imul dX10_keep_76 ?_
      refine ga_iload 0 dX10_keep_77 rfl ?_
      obtain ⟨o6, h⟩ := h
      obtain ⟨σ7, eσ7⟩ : ∃ z, z = cpI σ3 29 0 5 (v5 * 160) 160 := ⟨_, rfl⟩
      replace h := h σ7 eσ7
      refine ga_copy dX10_keep_79 wX10_51 rfl rfl (Or.inl rfl) o6 (fun e => by cases e) (by decide) (Nat.le_of_ble_eq_true rfl) eσ7 ?_
      refine ga_aload_n 3 dX10_keep_82 rfl rfl ?_
      refine ga_getR (kI := 7) (r := 6) dX10_keep_83 fX10_35 rfl rfl (by decide) rfl ?_
      refine ga_iload 1 dX10_keep_86 rfl ?_
      refine ga_aload_n 6 dX10_keep_88 rfl rfl ?_
      refine ga_getI (kI := 2) dX10_keep_89 fX10_58 rfl rfl rfl (fun r8 => ?_)
      obtain ⟨i9, h⟩ := h
      obtain ⟨σ10, eσ10⟩ : ∃ z, z = sI σ7 6 v5 (gI σ7 27 2) := ⟨_, rfl⟩
      replace h := h σ10 eσ10
      refine ga_iast (nI := 4) dX10_keep_92 rfl rfl i9 r8 eσ10 ?_
      refine ga_iload 2 dX10_keep_93 rfl ?_
      exact ga_iret dX10_keep_95 rfl rx2 h
    · replace q2 : x1 = 0 := (Decidable.not_not.mp q2)
      have h := hf q2
      refine ga_aload_n 4 dX10_keep_30 rfl rfl ?_
      refine ga_getR (kI := 0) (r := 28) dX10_keep_31 fX10_46 rfl rfl (by decide) rfl ?_
      refine ga_iconst dX10_keep_34 ?_
      refine ga_aload_n 1 dX10_keep_35 rfl rfl ?_
      refine ga_getR (kI := 5) (r := 4) dX10_keep_36 fX10_29 rfl rfl (by decide) rfl ?_
      refine ga_iload 0 dX10_keep_39 rfl ?_
      refine ga_iconst dX10_keep_41 ?_
      refine ga_imul dX10_keep_42 ?_
      refine ga_iconst dX10_keep_43 ?_
      obtain ⟨o11, h⟩ := h
      obtain ⟨σ12, eσ12⟩ : ∃ z, z = cpI σ 28 0 4 (x2 * 4) 4 := ⟨_, rfl⟩
      replace h := h σ12 eσ12
      refine ga_copy dX10_keep_44 wX10_51 rfl rfl (Or.inl rfl) o11 (fun e => by cases e) (by decide) (Nat.le_of_ble_eq_true rfl) eσ12 ?_
      refine ga_goto (tgt := 93) dX10_keep_47 (by decide) ?_
      refine ga_iload 0 dX10_keep_93 rfl ?_
      exact ga_iret dX10_keep_95 rfl rx2 h
  · replace q1 : x2 = (-1) := (Decidable.not_not.mp q1)
    have h := hf q1
    refine ga_aload_n 1 dX10_keep_8 rfl rfl ?_
    refine ga_getR (kI := 4) (r := 3) dX10_keep_9 fX10_25 rfl rfl (by decide) rfl ?_
    refine ga_iload_n 2 dX10_keep_12 rfl rfl ?_
    obtain ⟨i13, h⟩ := h
    refine ga_iald (nI := 3) dX10_keep_13 rfl rfl i13 (fun r14 => ?_)
    refine ga_istore (ls' := [(4, vI (gI σ 3 x1)), (0, .ref (G.2.1 1)), (1, vI x1), (2, vI x2), (3, .ref (G.2.1 27))]) dX10_keep_14 (by decide) rfl ?_
    refine ga_aload_n 1 dX10_keep_16 rfl rfl ?_
    refine ga_getR (kI := 4) (r := 3) dX10_keep_17 fX10_25 rfl rfl (by decide) rfl ?_
    refine ga_iload_n 2 dX10_keep_20 rfl rfl ?_
    refine ga_dup2 dX10_keep_21 rfl rfl ?_
    refine ga_iald (nI := 3) dX10_keep_22 rfl rfl i13 (fun r15 => ?_)
    refine ga_iconst dX10_keep_23 ?_
    refine ga_iadd dX10_keep_24 ?_
    obtain ⟨r17, h⟩ := h
    obtain ⟨σ16, eσ16⟩ : ∃ z, z = sI σ 3 x1 ((gI σ 3 x1) + 1) := ⟨_, rfl⟩
    replace h := h σ16 eσ16
    refine ga_iast (nI := 3) dX10_keep_25 rfl rfl i13 r17 eσ16 ?_
    refine ga_iload_n 2 dX10_keep_26 rfl rfl ?_
    obtain ⟨ht, hf⟩ := h
    refine ga_if_ne (tgt := 50) dX10_keep_27 (by decide) rx1 (fun q18 => ?_) (fun q18 => ?_)
    · replace q18 : ¬ x1 = 0 := q18
      have h := ht q18
      refine ga_iload_n 2 dX10_keep_50 rfl rfl ?_
      refine ga_iload 0 dX10_keep_51 rfl ?_
      refine ga_callSi (z := mX10_placeOf) (As := [vI x1, vI (gI σ 3 x1)]) (rest := []) dX10_keep_53 wX10_42 qX10_keep_X10_placeOf rfl rfl (Nat.le_of_ble_eq_true rfl) (gEi_mono h (fun v21 σ19 h r20 => ?_))
      replace h := h r20
      refine ga_istore (ls' := [(5, vI v21), (4, vI (gI σ 3 x1)), (0, .ref (G.2.1 1)), (1, vI x1), (2, vI x2), (3, .ref (G.2.1 27))]) dX10_keep_56 (by decide) rfl ?_
      refine ga_sipush dX10_keep_58 (by decide) ?_
      refine ga_istore (ls' := [(6, vI 160), (5, vI v21), (4, vI (gI σ 3 x1)), (0, .ref (G.2.1 1)), (1, vI x1), (2, vI x2), (3, .ref (G.2.1 27))]) dX10_keep_61 (by decide) rfl ?_
      refine ga_aload_n 6 dX10_keep_63 rfl rfl ?_
      refine ga_getR (kI := 1) (r := 29) dX10_keep_64 fX10_57 rfl rfl (by decide) rfl ?_
      refine ga_iconst dX10_keep_67 ?_
      refine ga_aload_n 3 dX10_keep_68 rfl rfl ?_
      refine ga_getR (kI := 6) (r := 5) dX10_keep_69 fX10_32 rfl rfl (by decide) rfl ?_
      refine ga_iload 1 dX10_keep_72 rfl ?_
      refine ga_iload 0 dX10_keep_74 rfl ?_
      refine ga_imul dX10_keep_76 ?_
      refine ga_iload 0 dX10_keep_77 rfl ?_
      obtain ⟨o22, h⟩ := h
      obtain ⟨σ23, eσ23⟩ : ∃ z, z = cpI σ19 29 0 5 (v21 * 160) 160 := ⟨_, rfl⟩
      replace h := h σ23 eσ23
      refine ga_copy dX10_keep_79 wX10_51 rfl rfl (Or.inl rfl) o22 (fun e => by cases e) (by decide) (Nat.le_of_ble_eq_true rfl) eσ23 ?_
      refine ga_aload_n 3 dX10_keep_82 rfl rfl ?_
      refine ga_getR (kI := 7) (r := 6) dX10_keep_83 fX10_35 rfl rfl (by decide) rfl ?_
      refine ga_iload 1 dX10_keep_86 rfl ?_
      refine ga_aload_n 6 dX10_keep_88 rfl rfl ?_
      refine ga_getI (kI := 2) dX10_keep_89 fX10_58 rfl rfl rfl (fun r24 => ?_)
      obtain ⟨i25, h⟩ := h
      obtain ⟨σ26, eσ26⟩ : ∃ z, z = sI σ23 6 v21 (gI σ23 27 2) := ⟨_, rfl⟩
      replace h := h σ26 eσ26
      refine ga_iast (nI := 4) dX10_keep_92 rfl rfl i25 r24 eσ26 ?_
      refine ga_iload 2 dX10_keep_93 rfl ?_
      exact ga_iret dX10_keep_95 rfl r14 h
    · replace q18 : x1 = 0 := (Decidable.not_not.mp q18)
      have h := hf q18
      refine ga_aload_n 4 dX10_keep_30 rfl rfl ?_
      refine ga_getR (kI := 0) (r := 28) dX10_keep_31 fX10_46 rfl rfl (by decide) rfl ?_
      refine ga_iconst dX10_keep_34 ?_
      refine ga_aload_n 1 dX10_keep_35 rfl rfl ?_
      refine ga_getR (kI := 5) (r := 4) dX10_keep_36 fX10_29 rfl rfl (by decide) rfl ?_
      refine ga_iload 0 dX10_keep_39 rfl ?_
      refine ga_iconst dX10_keep_41 ?_
      refine ga_imul dX10_keep_42 ?_
      refine ga_iconst dX10_keep_43 ?_
      obtain ⟨o27, h⟩ := h
      obtain ⟨σ28, eσ28⟩ : ∃ z, z = cpI σ16 28 0 4 ((gI σ 3 x1) * 4) 4 := ⟨_, rfl⟩
      replace h := h σ28 eσ28
      refine ga_copy dX10_keep_44 wX10_51 rfl rfl (Or.inl rfl) o27 (fun e => by cases e) (by decide) (Nat.le_of_ble_eq_true rfl) eσ28 ?_
      refine ga_goto (tgt := 93) dX10_keep_47 (by decide) ?_
      refine ga_iload 0 dX10_keep_93 rfl ?_
      exact ga_iret dX10_keep_95 rfl r14 h
abbrev eX10_copy (l : Launch) (G : gG) (a : Nat) (o : Nat) (σ : gS) (Q : gS → Prop) : Prop := gEv l G mX10_copy [.ref (G.2.1 a), .ref (G.2.1 o)] σ Q
set_option maxRecDepth 100000 in
set_option maxHeartbeats 4000000 in
theorem vX10_copy {l : Launch} {G : gG} (a : Nat) (o : Nat) (ha : a = 1 ∨ a = 8 ∨ a = 14 ∨ a = 20) (ho : o = 1 ∨ o = 8 ∨ o = 14 ∨ o = 20) (σ : gS) (Q : gS → Prop) (h : ((0 : Int) ≤ 0 ∧ (0 : Int) ≤ 0 ∧ (0 : Int) ≤ 600 ∧ (0 : Int) + 600 ≤ 600 ∧ (0 : Int) + 600 ≤ 600) ∧ (∀ i, 0 ≤ i → i < 0 + 600 → -128 ≤ gI σ (o + 1) i ∧ gI σ (o + 1) i < 128) ∧ ∀ σ3, σ3 = cpI σ (o + 1) 0 (a + 1) 0 600 →
  ∀ σ5, σ5 = sI σ3 a 1 (gI σ3 o 1) →
  ∀ σ7, σ7 = sI σ5 a 2 (gI σ5 o 2) →
  ∀ σ9, σ9 = sI σ7 a 3 (gI σ7 o 3) →
  ((0 : Int) ≤ 0 ∧ (0 : Int) ≤ 0 ∧ (0 : Int) ≤ 3 ∧ (0 : Int) + 3 ≤ 3 ∧ (0 : Int) + 3 ≤ 3) ∧ ∀ σ11, σ11 = cpI σ9 (o + 2) 0 (a + 2) 0 3 →
  ((0 : Int) ≤ 0 ∧ (0 : Int) ≤ 0 ∧ (0 : Int) ≤ 8 ∧ (0 : Int) + 8 ≤ 8 ∧ (0 : Int) + 8 ≤ 8) ∧ ∀ σ13, σ13 = cpI σ11 (o + 3) 0 (a + 3) 0 8 →
  ((0 : Int) ≤ 0 ∧ (0 : Int) ≤ 0 ∧ (0 : Int) ≤ 640 ∧ (0 : Int) + 640 ≤ 640 ∧ (0 : Int) + 640 ≤ 640) ∧ ∀ σ15, σ15 = cpI σ13 (o + 4) 0 (a + 4) 0 640 →
  ((0 : Int) ≤ 0 ∧ (0 : Int) ≤ 0 ∧ (0 : Int) ≤ 4 ∧ (0 : Int) + 4 ≤ 4 ∧ (0 : Int) + 4 ≤ 4) ∧ ∀ σ17, σ17 = cpI σ15 (o + 5) 0 (a + 5) 0 4 →
  Q σ17) : eX10_copy l G a o σ Q := by
  have hsa0 : gshL[a]? = some (.inr (10, [some (a + 1), none, none, none, some (a + 2), some (a + 3), some (a + 4), some (a + 5)])) := by rcases ha with rfl | rfl | rfl | rfl <;> rfl
  have hsa1 : gshL[a + 1]? = some (.inl (600, .byte)) := by rcases ha with rfl | rfl | rfl | rfl <;> rfl
  have h9a1 : a + 1 ≠ 9999 := by omega
  have hsa2 : gshL[a + 2]? = some (.inl (3, .int)) := by rcases ha with rfl | rfl | rfl | rfl <;> rfl
  have h9a2 : a + 2 ≠ 9999 := by omega
  have hsa3 : gshL[a + 3]? = some (.inl (8, .int)) := by rcases ha with rfl | rfl | rfl | rfl <;> rfl
  have h9a3 : a + 3 ≠ 9999 := by omega
  have hsa4 : gshL[a + 4]? = some (.inl (640, .int)) := by rcases ha with rfl | rfl | rfl | rfl <;> rfl
  have h9a4 : a + 4 ≠ 9999 := by omega
  have hsa5 : gshL[a + 5]? = some (.inl (4, .int)) := by rcases ha with rfl | rfl | rfl | rfl <;> rfl
  have h9a5 : a + 5 ≠ 9999 := by omega
  have hso0 : gshL[o]? = some (.inr (10, [some (o + 1), none, none, none, some (o + 2), some (o + 3), some (o + 4), some (o + 5)])) := by rcases ho with rfl | rfl | rfl | rfl <;> rfl
  have hso1 : gshL[o + 1]? = some (.inl (600, .byte)) := by rcases ho with rfl | rfl | rfl | rfl <;> rfl
  have h9o1 : o + 1 ≠ 9999 := by omega
  have hso2 : gshL[o + 2]? = some (.inl (3, .int)) := by rcases ho with rfl | rfl | rfl | rfl <;> rfl
  have h9o2 : o + 2 ≠ 9999 := by omega
  have hso3 : gshL[o + 3]? = some (.inl (8, .int)) := by rcases ho with rfl | rfl | rfl | rfl <;> rfl
  have h9o3 : o + 3 ≠ 9999 := by omega
  have hso4 : gshL[o + 4]? = some (.inl (640, .int)) := by rcases ho with rfl | rfl | rfl | rfl <;> rfl
  have h9o4 : o + 4 ≠ 9999 := by omega
  have hso5 : gshL[o + 5]? = some (.inl (4, .int)) := by rcases ho with rfl | rfl | rfl | rfl <;> rfl
  have h9o5 : o + 5 ≠ 9999 := by omega
  refine ga_entry rfl (Nat.le_of_ble_eq_true rfl) ?_
  show gAt l G mX10_copy (gQv G Q) 0 [(0, .ref (G.2.1 a)), (1, .ref (G.2.1 o))] [] σ
  refine ga_aload_n 1 dX10_copy_0 rfl rfl ?_
  refine ga_getR (kI := 0) (r := (o + 1)) dX10_copy_1 fX10_9 hso0 rfl h9o1 rfl ?_
  refine ga_iconst dX10_copy_4 ?_
  refine ga_aload_n 0 dX10_copy_5 rfl rfl ?_
  refine ga_getR (kI := 0) (r := (a + 1)) dX10_copy_6 fX10_9 hsa0 rfl h9a1 rfl ?_
  refine ga_iconst dX10_copy_9 ?_
  refine ga_sipush dX10_copy_10 (by decide) ?_
  obtain ⟨o1, h⟩ := h
  obtain ⟨o2, h⟩ := h
  obtain ⟨σ3, eσ3⟩ : ∃ z, z = cpI σ (o + 1) 0 (a + 1) 0 600 := ⟨_, rfl⟩
  replace h := h σ3 eσ3
  refine ga_copy dX10_copy_13 wX10_51 hso1 hsa1 (Or.inr rfl) o1 (fun _ => o2) (by decide) (Nat.le_of_ble_eq_true rfl) eσ3 ?_
  refine ga_aload_n 0 dX10_copy_16 rfl rfl ?_
  refine ga_aload_n 1 dX10_copy_17 rfl rfl ?_
  refine ga_getI (kI := 1) dX10_copy_18 fX10_15 hso0 rfl rfl (fun r4 => ?_)
  obtain ⟨σ5, eσ5⟩ : ∃ z, z = sI σ3 a 1 (gI σ3 o 1) := ⟨_, rfl⟩
  replace h := h σ5 eσ5
  refine ga_putI (kI := 1) dX10_copy_21 fX10_15 pX10_1 hsa0 rfl rfl r4 eσ5 ?_
  refine ga_aload_n 0 dX10_copy_24 rfl rfl ?_
  refine ga_aload_n 1 dX10_copy_25 rfl rfl ?_
  refine ga_getI (kI := 2) dX10_copy_26 fX10_19 hso0 rfl rfl (fun r6 => ?_)
  obtain ⟨σ7, eσ7⟩ : ∃ z, z = sI σ5 a 2 (gI σ5 o 2) := ⟨_, rfl⟩
  replace h := h σ7 eσ7
  refine ga_putI (kI := 2) dX10_copy_29 fX10_19 pX10_2 hsa0 rfl rfl r6 eσ7 ?_
  refine ga_aload_n 0 dX10_copy_32 rfl rfl ?_
  refine ga_aload_n 1 dX10_copy_33 rfl rfl ?_
  refine ga_getI (kI := 3) dX10_copy_34 fX10_22 hso0 rfl rfl (fun r8 => ?_)
  obtain ⟨σ9, eσ9⟩ : ∃ z, z = sI σ7 a 3 (gI σ7 o 3) := ⟨_, rfl⟩
  replace h := h σ9 eσ9
  refine ga_putI (kI := 3) dX10_copy_37 fX10_22 pX10_3 hsa0 rfl rfl r8 eσ9 ?_
  refine ga_aload_n 1 dX10_copy_40 rfl rfl ?_
  refine ga_getR (kI := 4) (r := (o + 2)) dX10_copy_41 fX10_25 hso0 rfl h9o2 rfl ?_
  refine ga_iconst dX10_copy_44 ?_
  refine ga_aload_n 0 dX10_copy_45 rfl rfl ?_
  refine ga_getR (kI := 4) (r := (a + 2)) dX10_copy_46 fX10_25 hsa0 rfl h9a2 rfl ?_
  refine ga_iconst dX10_copy_49 ?_
  refine ga_iconst dX10_copy_50 ?_
  obtain ⟨o10, h⟩ := h
  obtain ⟨σ11, eσ11⟩ : ∃ z, z = cpI σ9 (o + 2) 0 (a + 2) 0 3 := ⟨_, rfl⟩
  replace h := h σ11 eσ11
  refine ga_copy dX10_copy_51 wX10_51 hso2 hsa2 (Or.inl rfl) o10 (fun e => by cases e) (by decide) (Nat.le_of_ble_eq_true rfl) eσ11 ?_
  refine ga_aload_n 1 dX10_copy_54 rfl rfl ?_
  refine ga_getR (kI := 5) (r := (o + 3)) dX10_copy_55 fX10_29 hso0 rfl h9o3 rfl ?_
  refine ga_iconst dX10_copy_58 ?_
  refine ga_aload_n 0 dX10_copy_59 rfl rfl ?_
  refine ga_getR (kI := 5) (r := (a + 3)) dX10_copy_60 fX10_29 hsa0 rfl h9a3 rfl ?_
  refine ga_iconst dX10_copy_63 ?_
  refine ga_aload_n 0 dX10_copy_64 rfl rfl ?_
  refine ga_getR (kI := 5) (r := (a + 3)) dX10_copy_65 fX10_29 hsa0 rfl h9a3 rfl ?_
  refine ga_alen (nI := 8) 0 dX10_copy_68 hsa3 rfl rfl rfl ?_
  obtain ⟨o12, h⟩ := h
  obtain ⟨σ13, eσ13⟩ : ∃ z, z = cpI σ11 (o + 3) 0 (a + 3) 0 8 := ⟨_, rfl⟩
  replace h := h σ13 eσ13
  refine ga_copy dX10_copy_69 wX10_51 hso3 hsa3 (Or.inl rfl) o12 (fun e => by cases e) (by decide) (Nat.le_of_ble_eq_true rfl) eσ13 ?_
  refine ga_aload_n 1 dX10_copy_72 rfl rfl ?_
  refine ga_getR (kI := 6) (r := (o + 4)) dX10_copy_73 fX10_32 hso0 rfl h9o4 rfl ?_
  refine ga_iconst dX10_copy_76 ?_
  refine ga_aload_n 0 dX10_copy_77 rfl rfl ?_
  refine ga_getR (kI := 6) (r := (a + 4)) dX10_copy_78 fX10_32 hsa0 rfl h9a4 rfl ?_
  refine ga_iconst dX10_copy_81 ?_
  refine ga_aload_n 0 dX10_copy_82 rfl rfl ?_
  refine ga_getR (kI := 6) (r := (a + 4)) dX10_copy_83 fX10_32 hsa0 rfl h9a4 rfl ?_
  refine ga_alen (nI := 640) 0 dX10_copy_86 hsa4 rfl rfl rfl ?_
  obtain ⟨o14, h⟩ := h
  obtain ⟨σ15, eσ15⟩ : ∃ z, z = cpI σ13 (o + 4) 0 (a + 4) 0 640 := ⟨_, rfl⟩
  replace h := h σ15 eσ15
  refine ga_copy dX10_copy_87 wX10_51 hso4 hsa4 (Or.inl rfl) o14 (fun e => by cases e) (by decide) (Nat.le_of_ble_eq_true rfl) eσ15 ?_
  refine ga_aload_n 1 dX10_copy_90 rfl rfl ?_
  refine ga_getR (kI := 7) (r := (o + 5)) dX10_copy_91 fX10_35 hso0 rfl h9o5 rfl ?_
  refine ga_iconst dX10_copy_94 ?_
  refine ga_aload_n 0 dX10_copy_95 rfl rfl ?_
  refine ga_getR (kI := 7) (r := (a + 5)) dX10_copy_96 fX10_35 hsa0 rfl h9a5 rfl ?_
  refine ga_iconst dX10_copy_99 ?_
  refine ga_iconst dX10_copy_100 ?_
  obtain ⟨o16, h⟩ := h
  obtain ⟨σ17, eσ17⟩ : ∃ z, z = cpI σ15 (o + 5) 0 (a + 5) 0 4 := ⟨_, rfl⟩
  replace h := h σ17 eσ17
  refine ga_copy dX10_copy_101 wX10_51 hso5 hsa5 (Or.inl rfl) o16 (fun e => by cases e) (by decide) (Nat.le_of_ble_eq_true rfl) eσ17 ?_
  exact ga_vret dX10_copy_104 rfl h
abbrev eX11_feed (l : Launch) (G : gG) (x1 : Int) (x2 : Int) (x3 : Int) (x4 : Int) (x5 : Int) (σ : gS) (Q : Int → gS → Prop) : Prop := gEi l G mX11_feed [.ref (G.2.1 0), vI x1, vI x2, vI x3, vI x4, vI x5] σ Q
set_option maxRecDepth 100000 in
set_option maxHeartbeats 4000000 in
theorem vX11_feed {l : Launch} {G : gG} (x1 : Int) (x2 : Int) (x3 : Int) (x4 : Int) (x5 : Int) (rx1 : gR x1) (rx2 : gR x2) (rx3 : gR x3) (rx4 : gR x4) (rx5 : gR x5) (σ : gS) (Q : Int → gS → Prop) (h : (gR ((gI σ 1 1) + 20)) ∧ (((gI σ 1 1) + 20) ≤ 600 → eX10_put l G x1 σ (fun σ4 =>
    eX10_put l G x2 σ4 (fun σ6 =>
    eX10_put l G x3 σ6 (fun σ8 =>
    eX10_put l G x4 σ8 (fun σ10 =>
    eX10_put l G x5 σ10 (fun σ12 =>
    Q (gI σ12 1 1) σ12)))))) ∧
  (600 < ((gI σ 1 1) + 20) → Q (-1) σ)) : eX11_feed l G x1 x2 x3 x4 x5 σ Q := by
  refine ga_entry rfl (Nat.le_of_ble_eq_true rfl) ?_
  show gAt l G mX11_feed (gQi G Q) 0 [(0, .ref (G.2.1 0)), (1, vI x1), (2, vI x2), (3, vI x3), (4, vI x4), (5, vI x5)] [] σ
  refine ga_aload_n 0 dX11_feed_0 rfl rfl ?_
  refine ga_getR (kI := 0) (r := 1) dX11_feed_1 fX11_12 rfl rfl (by decide) rfl ?_
  refine ga_getI (kI := 1) dX11_feed_4 fX11_73 rfl rfl rfl (fun r1 => ?_)
  refine ga_bipush dX11_feed_7 (by decide) ?_
  refine ga_iadd dX11_feed_9 ?_
  refine ga_sipush dX11_feed_10 (by decide) ?_
  obtain ⟨r2, h⟩ := h
  obtain ⟨ht, hf⟩ := h
  refine ga_icmp_le (tgt := 18) dX11_feed_13 (by decide) r2 (by decide) (fun q3 => ?_) (fun q3 => ?_)
  · replace q3 : ((gI σ 1 1) + 20) ≤ 600 := q3
    have h := ht q3
    refine ga_aload_n 0 dX11_feed_18 rfl rfl ?_
    refine ga_getR (kI := 0) (r := 1) dX11_feed_19 fX11_12 rfl rfl (by decide) rfl ?_
    refine ga_iload_n 1 dX11_feed_22 rfl rfl ?_
    refine ga_callVv (z := mX10_put) (As := [vI x1]) (rest := []) dX11_feed_23 wX11_77 qX11_feed_X10_put rfl ⟨_, rfl, rfl⟩ rfl rfl (Nat.le_of_ble_eq_true rfl) (gEv_mono h (fun σ4 h => ?_))
    refine ga_aload_n 0 dX11_feed_26 rfl rfl ?_
    refine ga_getR (kI := 0) (r := 1) dX11_feed_27 fX11_12 rfl rfl (by decide) rfl ?_
    refine ga_iload_n 2 dX11_feed_30 rfl rfl ?_
    refine ga_callVv (z := mX10_put) (As := [vI x2]) (rest := []) dX11_feed_31 wX11_77 qX11_feed_X10_put rfl ⟨_, rfl, rfl⟩ rfl rfl (Nat.le_of_ble_eq_true rfl) (gEv_mono h (fun σ6 h => ?_))
    refine ga_aload_n 0 dX11_feed_34 rfl rfl ?_
    refine ga_getR (kI := 0) (r := 1) dX11_feed_35 fX11_12 rfl rfl (by decide) rfl ?_
    refine ga_iload_n 3 dX11_feed_38 rfl rfl ?_
    refine ga_callVv (z := mX10_put) (As := [vI x3]) (rest := []) dX11_feed_39 wX11_77 qX11_feed_X10_put rfl ⟨_, rfl, rfl⟩ rfl rfl (Nat.le_of_ble_eq_true rfl) (gEv_mono h (fun σ8 h => ?_))
    refine ga_aload_n 0 dX11_feed_42 rfl rfl ?_
    refine ga_getR (kI := 0) (r := 1) dX11_feed_43 fX11_12 rfl rfl (by decide) rfl ?_
    refine ga_iload 4 dX11_feed_46 rfl ?_
    refine ga_callVv (z := mX10_put) (As := [vI x4]) (rest := []) dX11_feed_48 wX11_77 qX11_feed_X10_put rfl ⟨_, rfl, rfl⟩ rfl rfl (Nat.le_of_ble_eq_true rfl) (gEv_mono h (fun σ10 h => ?_))
    refine ga_aload_n 0 dX11_feed_51 rfl rfl ?_
    refine ga_getR (kI := 0) (r := 1) dX11_feed_52 fX11_12 rfl rfl (by decide) rfl ?_
    refine ga_iload 5 dX11_feed_55 rfl ?_
    refine ga_callVv (z := mX10_put) (As := [vI x5]) (rest := []) dX11_feed_57 wX11_77 qX11_feed_X10_put rfl ⟨_, rfl, rfl⟩ rfl rfl (Nat.le_of_ble_eq_true rfl) (gEv_mono h (fun σ12 h => ?_))
    refine ga_aload_n 0 dX11_feed_60 rfl rfl ?_
    refine ga_getR (kI := 0) (r := 1) dX11_feed_61 fX11_12 rfl rfl (by decide) rfl ?_
    refine ga_getI (kI := 1) dX11_feed_64 fX11_73 rfl rfl rfl (fun r14 => ?_)
    exact ga_iret dX11_feed_67 rfl r14 h
  · replace q3 : 600 < ((gI σ 1 1) + 20) := (Int.not_le.mp q3)
    have h := hf q3
    refine ga_iconst dX11_feed_16 ?_
    exact ga_iret dX11_feed_17 rfl (by decide) h
abbrev eX11_end (l : Launch) (G : gG) (x1 : Int) (σ : gS) (Q : Int → gS → Prop) : Prop := gEi l G mX11_end [.ref (G.2.1 0), vI x1] σ Q
set_option maxRecDepth 100000 in
set_option maxHeartbeats 4000000 in
theorem vX11_end {l : Launch} {G : gG} (x1 : Int) (rx1 : gR x1) (σ : gS) (Q : Int → gS → Prop) (h : (x1 < 0 → Q (-1) σ) ∧
  (0 ≤ x1 → (x1 ≤ (gI σ 1 1) → ∀ σ4, σ4 = sI σ 1 1 x1 →
      Q x1 σ4) ∧
    ((gI σ 1 1) < x1 → Q (-1) σ))) : eX11_end l G x1 σ Q := by
  refine ga_entry rfl (Nat.le_of_ble_eq_true rfl) ?_
  show gAt l G mX11_end (gQi G Q) 0 [(0, .ref (G.2.1 0)), (1, vI x1)] [] σ
  refine ga_iload_n 1 dX11_end_0 rfl rfl ?_
  obtain ⟨ht, hf⟩ := h
  refine ga_if_lt (tgt := 15) dX11_end_1 (by decide) rx1 (fun q1 => ?_) (fun q1 => ?_)
  · replace q1 : x1 < 0 := q1
    have h := ht q1
    refine ga_iconst dX11_end_15 ?_
    exact ga_iret dX11_end_16 rfl (by decide) h
  · replace q1 : 0 ≤ x1 := (Int.not_lt.mp q1)
    have h := hf q1
    refine ga_iload_n 1 dX11_end_4 rfl rfl ?_
    refine ga_aload_n 0 dX11_end_5 rfl rfl ?_
    refine ga_getR (kI := 0) (r := 1) dX11_end_6 fX11_12 rfl rfl (by decide) rfl ?_
    refine ga_getI (kI := 1) dX11_end_9 fX11_73 rfl rfl rfl (fun r2 => ?_)
    obtain ⟨ht, hf⟩ := h
    refine ga_icmp_le (tgt := 17) dX11_end_12 (by decide) rx1 r2 (fun q3 => ?_) (fun q3 => ?_)
    · replace q3 : x1 ≤ (gI σ 1 1) := q3
      have h := ht q3
      refine ga_aload_n 0 dX11_end_17 rfl rfl ?_
      refine ga_getR (kI := 0) (r := 1) dX11_end_18 fX11_12 rfl rfl (by decide) rfl ?_
      refine ga_iload_n 1 dX11_end_21 rfl rfl ?_
      obtain ⟨σ4, eσ4⟩ : ∃ z, z = sI σ 1 1 x1 := ⟨_, rfl⟩
      replace h := h σ4 eσ4
      refine ga_putI (kI := 1) dX11_end_22 fX11_73 pX10_1 rfl rfl rfl rx1 eσ4 ?_
      refine ga_iload_n 1 dX11_end_25 rfl rfl ?_
      exact ga_iret dX11_end_26 rfl rx1 h
    · replace q3 : (gI σ 1 1) < x1 := (Int.not_le.mp q3)
      have h := hf q3
      refine ga_iconst dX11_end_15 ?_
      exact ga_iret dX11_end_16 rfl (by decide) h
abbrev eX11_text (l : Launch) (G : gG) (x1 : Int) (x2 : Int) (σ : gS) (Q : Int → gS → Prop) : Prop := gEi l G mX11_text [.ref (G.2.1 0), vI x1, vI x2] σ Q
set_option maxRecDepth 100000 in
set_option maxHeartbeats 4000000 in
theorem vX11_text {l : Launch} {G : gG} (x1 : Int) (x2 : Int) (rx1 : gR x1) (rx2 : gR x2) (σ : gS) (Q : Int → gS → Prop) (h : ∀ σ2, σ2 = sI σ 1 1 0 →
  ∀ σ3, σ3 = sI σ2 1 2 0 →
  ∀ σ4, σ4 = sI σ3 1 3 (-1) →
  eX10_hasRoom l G x1 x2 σ4 (fun v7 σ5 => (v7 = 0 ∨ v7 = 1) →
  (¬ v7 = 0 → eX7_read l G (gI σ 1 1) x1 σ5 (fun σ9 =>
    ∀ σ12, σ12 = sI σ9 1 2 (gI σ9 27 3) →
    ∀ σ14, σ14 = sI σ12 1 3 (gI σ12 27 4) →
    ((gI σ14 27 3) = 0 → eX10_keep l G x1 x2 σ14 (fun v19 σ17 => gR v19 →
      Q v19 σ17)) ∧
    (¬ (gI σ14 27 3) = 0 → Q (-1) σ14))) ∧
  (v7 = 0 → Q (-2) σ5))) : eX11_text l G x1 x2 σ Q := by
  refine ga_entry rfl (Nat.le_of_ble_eq_true rfl) ?_
  show gAt l G mX11_text (gQi G Q) 0 [(0, .ref (G.2.1 0)), (1, vI x1), (2, vI x2)] [] σ
  refine ga_aload_n 0 dX11_text_0 rfl rfl ?_
  refine ga_getR (kI := 0) (r := 1) dX11_text_1 fX11_12 rfl rfl (by decide) rfl ?_
  refine ga_getI (kI := 1) dX11_text_4 fX11_73 rfl rfl rfl (fun r1 => ?_)
  refine ga_istore_n (ls' := [(3, vI (gI σ 1 1)), (0, .ref (G.2.1 0)), (1, vI x1), (2, vI x2)]) dX11_text_7 rfl (by decide) rfl ?_
  refine ga_aload_n 1 dX11_text_8 rfl rfl ?_
  refine ga_getR (kI := 0) (r := 1) dX11_text_9 fX11_12 rfl rfl (by decide) rfl ?_
  refine ga_iconst dX11_text_12 ?_
  obtain ⟨σ2, eσ2⟩ : ∃ z, z = sI σ 1 1 0 := ⟨_, rfl⟩
  replace h := h σ2 eσ2
  refine ga_putI (kI := 1) dX11_text_13 fX11_73 pX10_1 rfl rfl rfl (by decide) eσ2 ?_
  refine ga_aload_n 1 dX11_text_16 rfl rfl ?_
  refine ga_getR (kI := 0) (r := 1) dX11_text_17 fX11_12 rfl rfl (by decide) rfl ?_
  refine ga_iconst dX11_text_20 ?_
  obtain ⟨σ3, eσ3⟩ : ∃ z, z = sI σ2 1 2 0 := ⟨_, rfl⟩
  replace h := h σ3 eσ3
  refine ga_putI (kI := 2) dX11_text_21 fX11_81 pX10_2 rfl rfl rfl (by decide) eσ3 ?_
  refine ga_aload_n 1 dX11_text_24 rfl rfl ?_
  refine ga_getR (kI := 0) (r := 1) dX11_text_25 fX11_12 rfl rfl (by decide) rfl ?_
  refine ga_iconst dX11_text_28 ?_
  obtain ⟨σ4, eσ4⟩ : ∃ z, z = sI σ3 1 3 (-1) := ⟨_, rfl⟩
  replace h := h σ4 eσ4
  refine ga_putI (kI := 3) dX11_text_29 fX11_84 pX10_3 rfl rfl rfl (by decide) eσ4 ?_
  refine ga_aload_n 1 dX11_text_32 rfl rfl ?_
  refine ga_getR (kI := 0) (r := 1) dX11_text_33 fX11_12 rfl rfl (by decide) rfl ?_
  refine ga_iload_n 2 dX11_text_36 rfl rfl ?_
  refine ga_iload_n 3 dX11_text_37 rfl rfl ?_
  refine ga_callVz (z := mX10_hasRoom) (As := [vI x1, vI x2]) (rest := []) dX11_text_38 wX11_87 qX11_text_X10_hasRoom rfl ⟨_, rfl, rfl⟩ rfl rfl (Nat.le_of_ble_eq_true rfl) (gEz_mono h (fun v7 σ5 h r6 => ?_))
  replace h := h r6
  obtain ⟨ht, hf⟩ := h
  refine ga_if_ne (tgt := 47) dX11_text_41 (by decide) (gR_01 r6) (fun q8 => ?_) (fun q8 => ?_)
  · replace q8 : ¬ v7 = 0 := q8
    have h := ht q8
    refine ga_aload_n 1 dX11_text_47 rfl rfl ?_
    refine ga_getR (kI := 3) (r := 27) dX11_text_48 fX11_27 rfl rfl (by decide) rfl ?_
    refine ga_aload_n 1 dX11_text_51 rfl rfl ?_
    refine ga_getR (kI := 0) (r := 1) dX11_text_52 fX11_12 rfl rfl (by decide) rfl ?_
    refine ga_getR (kI := 0) (r := 2) dX11_text_55 fX11_91 rfl rfl (by decide) rfl ?_
    refine ga_iload_n 0 dX11_text_58 rfl rfl ?_
    refine ga_iload_n 2 dX11_text_59 rfl rfl ?_
    refine ga_callVv (z := mX7_read) (As := [.ref (G.2.1 2), vI (gI σ 1 1), vI x1]) (rest := []) dX11_text_60 wX11_95 qX11_text_X7_read rfl ⟨_, rfl, rfl⟩ rfl rfl (Nat.le_of_ble_eq_true rfl) (gEv_mono h (fun σ9 h => ?_))
    refine ga_aload_n 1 dX11_text_63 rfl rfl ?_
    refine ga_getR (kI := 0) (r := 1) dX11_text_64 fX11_12 rfl rfl (by decide) rfl ?_
    refine ga_aload_n 1 dX11_text_67 rfl rfl ?_
    refine ga_getR (kI := 3) (r := 27) dX11_text_68 fX11_27 rfl rfl (by decide) rfl ?_
    refine ga_getI (kI := 3) dX11_text_71 fX11_99 rfl rfl rfl (fun r11 => ?_)
    obtain ⟨σ12, eσ12⟩ : ∃ z, z = sI σ9 1 2 (gI σ9 27 3) := ⟨_, rfl⟩
    replace h := h σ12 eσ12
    refine ga_putI (kI := 2) dX11_text_74 fX11_81 pX10_2 rfl rfl rfl r11 eσ12 ?_
    refine ga_aload_n 1 dX11_text_77 rfl rfl ?_
    refine ga_getR (kI := 0) (r := 1) dX11_text_78 fX11_12 rfl rfl (by decide) rfl ?_
    refine ga_aload_n 1 dX11_text_81 rfl rfl ?_
    refine ga_getR (kI := 3) (r := 27) dX11_text_82 fX11_27 rfl rfl (by decide) rfl ?_
    refine ga_getI (kI := 4) dX11_text_85 fX11_100 rfl rfl rfl (fun r13 => ?_)
    obtain ⟨σ14, eσ14⟩ : ∃ z, z = sI σ12 1 3 (gI σ12 27 4) := ⟨_, rfl⟩
    replace h := h σ14 eσ14
    refine ga_putI (kI := 3) dX11_text_88 fX11_84 pX10_3 rfl rfl rfl r13 eσ14 ?_
    refine ga_aload_n 1 dX11_text_91 rfl rfl ?_
    refine ga_getR (kI := 3) (r := 27) dX11_text_92 fX11_27 rfl rfl (by decide) rfl ?_
    refine ga_getI (kI := 3) dX11_text_95 fX11_99 rfl rfl rfl (fun r15 => ?_)
    obtain ⟨ht, hf⟩ := h
    refine ga_if_eq (tgt := 103) dX11_text_98 (by decide) r15 (fun q16 => ?_) (fun q16 => ?_)
    · replace q16 : (gI σ14 27 3) = 0 := q16
      have h := ht q16
      refine ga_aload_n 1 dX11_text_103 rfl rfl ?_
      refine ga_getR (kI := 0) (r := 1) dX11_text_104 fX11_12 rfl rfl (by decide) rfl ?_
      refine ga_iload_n 2 dX11_text_107 rfl rfl ?_
      refine ga_iload_n 3 dX11_text_108 rfl rfl ?_
      refine ga_aload_n 1 dX11_text_109 rfl rfl ?_
      refine ga_getR (kI := 3) (r := 27) dX11_text_110 fX11_27 rfl rfl (by decide) rfl ?_
      refine ga_callVi (z := mX10_keep) (As := [vI x1, vI x2, .ref (G.2.1 27)]) (rest := []) dX11_text_113 wX11_101 qX11_text_X10_keep rfl ⟨_, rfl, rfl⟩ rfl rfl (Nat.le_of_ble_eq_true rfl) (gEi_mono h (fun v19 σ17 h r18 => ?_))
      replace h := h r18
      exact ga_iret dX11_text_116 rfl r18 h
    · replace q16 : ¬ (gI σ14 27 3) = 0 := q16
      have h := hf q16
      refine ga_iconst dX11_text_101 ?_
      exact ga_iret dX11_text_102 rfl (by decide) h
  · replace q8 : v7 = 0 := (Decidable.not_not.mp q8)
    have h := hf q8
    refine ga_bipush dX11_text_44 (by decide) ?_
    exact ga_iret dX11_text_46 rfl (by decide) h
abbrev eX11_fault (l : Launch) (G : gG) (x1 : Int) (σ : gS) (Q : Int → gS → Prop) : Prop := gEi l G mX11_fault [.ref (G.2.1 0), vI x1] σ Q
set_option maxRecDepth 100000 in
set_option maxHeartbeats 4000000 in
theorem vX11_fault {l : Launch} {G : gG} (x1 : Int) (rx1 : gR x1) (σ : gS) (Q : Int → gS → Prop) (h : (¬ x1 = 0 → (∀ v5 : Int, v5 = (if x1 = 1 then (gI σ 1 3) else (-1)) →
    Q v5 σ)) ∧
  (x1 = 0 → Q (gI σ 1 2) σ)) : eX11_fault l G x1 σ Q := by
  refine ga_entry rfl (Nat.le_of_ble_eq_true rfl) ?_
  show gAt l G mX11_fault (gQi G Q) 0 [(0, .ref (G.2.1 0)), (1, vI x1)] [] σ
  refine ga_iload_n 1 dX11_fault_0 rfl rfl ?_
  obtain ⟨ht, hf⟩ := h
  refine ga_if_ne (tgt := 12) dX11_fault_1 (by decide) rx1 (fun q1 => ?_) (fun q1 => ?_)
  · replace q1 : ¬ x1 = 0 := q1
    have h := ht q1
    refine ga_iload_n 1 dX11_fault_12 rfl rfl ?_
    refine ga_iconst dX11_fault_13 ?_
    have kJ2 : ∀ v5 : Int, gR v5 → v5 = (if x1 = 1 then (gI σ 1 3) else (-1)) → gAt l G mX11_fault (gQi G Q) 28 [(0, .ref (G.2.1 0)), (1, vI x1)] [vI v5] σ := by
      intro v5 rv5 ev5
      replace h := h v5 ev5
      exact ga_iret dX11_fault_28 rfl rv5 h
    replace h : (¬ x1 = 1 → True) ∧
    (x1 = 1 → True) := by repeat (first | exact True.intro | apply And.intro | intro _)
    obtain ⟨ht, hf⟩ := h
    refine ga_icmp_ne (tgt := 27) dX11_fault_14 (by decide) rx1 (by decide) (fun q3 => ?_) (fun q3 => ?_)
    · replace q3 : ¬ x1 = 1 := q3
      have h := ht q3
      refine ga_iconst dX11_fault_27 ?_
      exact kJ2 (-1) (by decide) (by rw [if_neg q3])
    · replace q3 : x1 = 1 := (Decidable.not_not.mp q3)
      have h := hf q3
      refine ga_aload_n 0 dX11_fault_17 rfl rfl ?_
      refine ga_getR (kI := 0) (r := 1) dX11_fault_18 fX11_12 rfl rfl (by decide) rfl ?_
      refine ga_getI (kI := 3) dX11_fault_21 fX11_84 rfl rfl rfl (fun r4 => ?_)
      refine ga_goto (tgt := 28) dX11_fault_24 (by decide) ?_
      exact kJ2 (gI σ 1 3) r4 (by rw [if_pos q3])
  · replace q1 : x1 = 0 := (Decidable.not_not.mp q1)
    have h := hf q1
    refine ga_aload_n 0 dX11_fault_4 rfl rfl ?_
    refine ga_getR (kI := 0) (r := 1) dX11_fault_5 fX11_12 rfl rfl (by decide) rfl ?_
    refine ga_getI (kI := 2) dX11_fault_8 fX11_81 rfl rfl rfl (fun r6 => ?_)
    exact ga_iret dX11_fault_11 rfl r6 h
abbrev eX11_crossbar (l : Launch) (G : gG) (x1 : Int) (x2 : Int) (σ : gS) (Q : Int → gS → Prop) : Prop := gEi l G mX11_crossbar [.ref (G.2.1 0), vI x1, vI x2] σ Q
set_option maxRecDepth 100000 in
set_option maxHeartbeats 4000000 in
theorem vX11_crossbar {l : Launch} {G : gG} (x1 : Int) (x2 : Int) (rx1 : gR x1) (rx2 : gR x2) (σ : gS) (Q : Int → gS → Prop) (h : eX10_has l G 0 x1 σ (fun v3 σ1 => (v3 = 0 ∨ v3 = 1) →
  (v3 = 0 → Q (-1) σ1) ∧
  (¬ v3 = 0 → (x2 < 0 → Q (-1) σ1) ∧
    (0 ≤ x2 → (x2 < 4 → eX10_bar l G x1 x2 σ1 (fun v9 σ7 => gR v9 →
        Q v9 σ7)) ∧
      (4 ≤ x2 → Q (-1) σ1))))) : eX11_crossbar l G x1 x2 σ Q := by
  refine ga_entry rfl (Nat.le_of_ble_eq_true rfl) ?_
  show gAt l G mX11_crossbar (gQi G Q) 0 [(0, .ref (G.2.1 0)), (1, vI x1), (2, vI x2)] [] σ
  refine ga_aload_n 0 dX11_crossbar_0 rfl rfl ?_
  refine ga_getR (kI := 0) (r := 1) dX11_crossbar_1 fX11_12 rfl rfl (by decide) rfl ?_
  refine ga_iconst dX11_crossbar_4 ?_
  refine ga_iload_n 1 dX11_crossbar_5 rfl rfl ?_
  refine ga_callVz (z := mX10_has) (As := [vI 0, vI x1]) (rest := []) dX11_crossbar_6 wX11_105 qX11_crossbar_X10_has rfl ⟨_, rfl, rfl⟩ rfl rfl (Nat.le_of_ble_eq_true rfl) (gEz_mono h (fun v3 σ1 h r2 => ?_))
  replace h := h r2
  obtain ⟨ht, hf⟩ := h
  refine ga_if_eq (tgt := 21) dX11_crossbar_9 (by decide) (gR_01 r2) (fun q4 => ?_) (fun q4 => ?_)
  · replace q4 : v3 = 0 := q4
    have h := ht q4
    refine ga_iconst dX11_crossbar_21 ?_
    exact ga_iret dX11_crossbar_22 rfl (by decide) h
  · replace q4 : ¬ v3 = 0 := q4
    have h := hf q4
    refine ga_iload_n 2 dX11_crossbar_12 rfl rfl ?_
    obtain ⟨ht, hf⟩ := h
    refine ga_if_lt (tgt := 21) dX11_crossbar_13 (by decide) rx2 (fun q5 => ?_) (fun q5 => ?_)
    · replace q5 : x2 < 0 := q5
      have h := ht q5
      refine ga_iconst dX11_crossbar_21 ?_
      exact ga_iret dX11_crossbar_22 rfl (by decide) h
    · replace q5 : 0 ≤ x2 := (Int.not_lt.mp q5)
      have h := hf q5
      refine ga_iload_n 2 dX11_crossbar_16 rfl rfl ?_
      refine ga_iconst dX11_crossbar_17 ?_
      obtain ⟨ht, hf⟩ := h
      refine ga_icmp_lt (tgt := 23) dX11_crossbar_18 (by decide) rx2 (by decide) (fun q6 => ?_) (fun q6 => ?_)
      · replace q6 : x2 < 4 := q6
        have h := ht q6
        refine ga_aload_n 0 dX11_crossbar_23 rfl rfl ?_
        refine ga_getR (kI := 0) (r := 1) dX11_crossbar_24 fX11_12 rfl rfl (by decide) rfl ?_
        refine ga_iload_n 1 dX11_crossbar_27 rfl rfl ?_
        refine ga_iload_n 2 dX11_crossbar_28 rfl rfl ?_
        refine ga_callVi (z := mX10_bar) (As := [vI x1, vI x2]) (rest := []) dX11_crossbar_29 wX11_108 qX11_crossbar_X10_bar rfl ⟨_, rfl, rfl⟩ rfl rfl (Nat.le_of_ble_eq_true rfl) (gEi_mono h (fun v9 σ7 h r8 => ?_))
        replace h := h r8
        exact ga_iret dX11_crossbar_32 rfl r8 h
      · replace q6 : 4 ≤ x2 := (Int.not_lt.mp q6)
        have h := hf q6
        refine ga_iconst dX11_crossbar_21 ?_
        exact ga_iret dX11_crossbar_22 rfl (by decide) h
abbrev eX11_tellLine (l : Launch) (G : gG) (x1 : Int) (x2 : Int) (x3 : Int) (x4 : Int) (x5 : Int) (σ : gS) (Q : Int → gS → Prop) : Prop := gEi l G mX11_tellLine [.ref (G.2.1 0), vI x1, vI x2, vI x3, vI x4, vI x5] σ Q
set_option maxRecDepth 100000 in
set_option maxHeartbeats 4000000 in
theorem vX11_tellLine {l : Launch} {G : gG} (x1 : Int) (x2 : Int) (x3 : Int) (x4 : Int) (x5 : Int) (rx1 : gR x1) (rx2 : gR x2) (rx3 : gR x3) (rx4 : gR x4) (rx5 : gR x5) (σ : gS) (Q : Int → gS → Prop) (h : eX10_has l G x1 x2 σ (fun v3 σ1 => (v3 = 0 ∨ v3 = 1) →
  (v3 = 0 → Q (-2) σ1) ∧
  (¬ v3 = 0 → (x4 < 0 → Q (-2) σ1) ∧
    (0 ≤ x4 → (x4 ≤ x5 → eX10_lineCount l G x1 x2 σ1 (fun v9 σ7 => gR v9 →
        (¬ x3 = (-1) → (x3 < 0 → Q (-2) σ7) ∧
          (0 ≤ x3 → (x3 < v9 → eX10_line l G x1 x2 x3 x4 σ7 (fun v15 σ13 => gR v15 →
              Q v15 σ13)) ∧
            (v9 ≤ x3 → Q (-2) σ7))) ∧
        (x3 = (-1) → (∀ v18 : Int, v18 = (if x4 = 0 then v9 else (-2)) →
          Q v18 σ7)))) ∧
      (x5 < x4 → Q (-2) σ1))))) : eX11_tellLine l G x1 x2 x3 x4 x5 σ Q := by
  refine ga_entry rfl (Nat.le_of_ble_eq_true rfl) ?_
  show gAt l G mX11_tellLine (gQi G Q) 0 [(0, .ref (G.2.1 0)), (1, vI x1), (2, vI x2), (3, vI x3), (4, vI x4), (5, vI x5)] [] σ
  refine ga_aload_n 0 dX11_tellLine_0 rfl rfl ?_
  refine ga_getR (kI := 0) (r := 1) dX11_tellLine_1 fX11_12 rfl rfl (by decide) rfl ?_
  refine ga_iload_n 1 dX11_tellLine_4 rfl rfl ?_
  refine ga_iload_n 2 dX11_tellLine_5 rfl rfl ?_
  refine ga_callVz (z := mX10_has) (As := [vI x1, vI x2]) (rest := []) dX11_tellLine_6 wX11_105 qX11_tellLine_X10_has rfl ⟨_, rfl, rfl⟩ rfl rfl (Nat.le_of_ble_eq_true rfl) (gEz_mono h (fun v3 σ1 h r2 => ?_))
  replace h := h r2
  obtain ⟨ht, hf⟩ := h
  refine ga_if_eq (tgt := 24) dX11_tellLine_9 (by decide) (gR_01 r2) (fun q4 => ?_) (fun q4 => ?_)
  · replace q4 : v3 = 0 := q4
    have h := ht q4
    refine ga_bipush dX11_tellLine_24 (by decide) ?_
    exact ga_iret dX11_tellLine_26 rfl (by decide) h
  · replace q4 : ¬ v3 = 0 := q4
    have h := hf q4
    refine ga_iload 4 dX11_tellLine_12 rfl ?_
    obtain ⟨ht, hf⟩ := h
    refine ga_if_lt (tgt := 24) dX11_tellLine_14 (by decide) rx4 (fun q5 => ?_) (fun q5 => ?_)
    · replace q5 : x4 < 0 := q5
      have h := ht q5
      refine ga_bipush dX11_tellLine_24 (by decide) ?_
      exact ga_iret dX11_tellLine_26 rfl (by decide) h
    · replace q5 : 0 ≤ x4 := (Int.not_lt.mp q5)
      have h := hf q5
      refine ga_iload 4 dX11_tellLine_17 rfl ?_
      refine ga_iload 5 dX11_tellLine_19 rfl ?_
      obtain ⟨ht, hf⟩ := h
      refine ga_icmp_le (tgt := 27) dX11_tellLine_21 (by decide) rx4 rx5 (fun q6 => ?_) (fun q6 => ?_)
      · replace q6 : x4 ≤ x5 := q6
        have h := ht q6
        refine ga_aload_n 0 dX11_tellLine_27 rfl rfl ?_
        refine ga_getR (kI := 0) (r := 1) dX11_tellLine_28 fX11_12 rfl rfl (by decide) rfl ?_
        refine ga_iload_n 1 dX11_tellLine_31 rfl rfl ?_
        refine ga_iload_n 2 dX11_tellLine_32 rfl rfl ?_
        refine ga_callVi (z := mX10_lineCount) (As := [vI x1, vI x2]) (rest := []) dX11_tellLine_33 wX11_199 qX11_tellLine_X10_lineCount rfl ⟨_, rfl, rfl⟩ rfl rfl (Nat.le_of_ble_eq_true rfl) (gEi_mono h (fun v9 σ7 h r8 => ?_))
        replace h := h r8
        refine ga_istore (ls' := [(6, vI v9), (0, .ref (G.2.1 0)), (1, vI x1), (2, vI x2), (3, vI x3), (4, vI x4), (5, vI x5)]) dX11_tellLine_36 (by decide) rfl ?_
        refine ga_iload_n 4 dX11_tellLine_38 rfl rfl ?_
        refine ga_iconst dX11_tellLine_39 ?_
        obtain ⟨ht, hf⟩ := h
        refine ga_icmp_ne (tgt := 56) dX11_tellLine_40 (by decide) rx3 (by decide) (fun q10 => ?_) (fun q10 => ?_)
        · replace q10 : ¬ x3 = (-1) := q10
          have h := ht q10
          refine ga_iload_n 4 dX11_tellLine_56 rfl rfl ?_
          obtain ⟨ht, hf⟩ := h
          refine ga_if_lt (tgt := 66) dX11_tellLine_57 (by decide) rx3 (fun q11 => ?_) (fun q11 => ?_)
          · replace q11 : x3 < 0 := q11
            have h := ht q11
            refine ga_bipush dX11_tellLine_66 (by decide) ?_
            refine ga_goto (tgt := 83) dX11_tellLine_68 (by decide) ?_
            exact ga_iret dX11_tellLine_83 rfl (by decide) h
          · replace q11 : 0 ≤ x3 := (Int.not_lt.mp q11)
            have h := hf q11
            refine ga_iload_n 4 dX11_tellLine_60 rfl rfl ?_
            refine ga_iload 0 dX11_tellLine_61 rfl ?_
            obtain ⟨ht, hf⟩ := h
            refine ga_icmp_lt (tgt := 71) dX11_tellLine_63 (by decide) rx3 r8 (fun q12 => ?_) (fun q12 => ?_)
            · replace q12 : x3 < v9 := q12
              have h := ht q12
              refine ga_aload_n 1 dX11_tellLine_71 rfl rfl ?_
              refine ga_getR (kI := 0) (r := 1) dX11_tellLine_72 fX11_12 rfl rfl (by decide) rfl ?_
              refine ga_iload_n 2 dX11_tellLine_75 rfl rfl ?_
              refine ga_iload_n 3 dX11_tellLine_76 rfl rfl ?_
              refine ga_iload_n 4 dX11_tellLine_77 rfl rfl ?_
              refine ga_iload 5 dX11_tellLine_78 rfl ?_
              refine ga_callVi (z := mX10_line) (As := [vI x1, vI x2, vI x3, vI x4]) (rest := []) dX11_tellLine_80 wX11_202 qX11_tellLine_X10_line rfl ⟨_, rfl, rfl⟩ rfl rfl (Nat.le_of_ble_eq_true rfl) (gEi_mono h (fun v15 σ13 h r14 => ?_))
              replace h := h r14
              exact ga_iret dX11_tellLine_83 rfl r14 h
            · replace q12 : v9 ≤ x3 := (Int.not_lt.mp q12)
              have h := hf q12
              refine ga_bipush dX11_tellLine_66 (by decide) ?_
              refine ga_goto (tgt := 83) dX11_tellLine_68 (by decide) ?_
              exact ga_iret dX11_tellLine_83 rfl (by decide) h
        · replace q10 : x3 = (-1) := (Decidable.not_not.mp q10)
          have h := hf q10
          refine ga_iload 5 dX11_tellLine_43 rfl ?_
          have kJ16 : ∀ v18 : Int, gR v18 → v18 = (if x4 = 0 then v9 else (-2)) → gAt l G mX11_tellLine (gQi G Q) 55 [(6, vI v9), (0, .ref (G.2.1 0)), (1, vI x1), (2, vI x2), (3, vI x3), (4, vI x4), (5, vI x5)] [vI v18] σ7 := by
            intro v18 rv18 ev18
            replace h := h v18 ev18
            exact ga_iret dX11_tellLine_55 rfl rv18 h
          replace h : (¬ x4 = 0 → True) ∧
          (x4 = 0 → True) := by repeat (first | exact True.intro | apply And.intro | intro _)
          obtain ⟨ht, hf⟩ := h
          refine ga_if_ne (tgt := 53) dX11_tellLine_45 (by decide) rx4 (fun q17 => ?_) (fun q17 => ?_)
          · replace q17 : ¬ x4 = 0 := q17
            have h := ht q17
            refine ga_bipush dX11_tellLine_53 (by decide) ?_
            exact kJ16 (-2) (by decide) (by rw [if_neg q17])
          · replace q17 : x4 = 0 := (Decidable.not_not.mp q17)
            have h := hf q17
            refine ga_iload 0 dX11_tellLine_48 rfl ?_
            refine ga_goto (tgt := 55) dX11_tellLine_50 (by decide) ?_
            exact kJ16 v9 r8 (by rw [if_pos q17])
      · replace q6 : x5 < x4 := (Int.not_le.mp q6)
        have h := hf q6
        refine ga_bipush dX11_tellLine_24 (by decide) ?_
        exact ga_iret dX11_tellLine_26 rfl (by decide) h
abbrev eX11_deed (l : Launch) (G : gG) (x1 : Int) (x2 : Int) (x3 : Int) (σ : gS) (Q : Int → gS → Prop) : Prop := gEi l G mX11_deed [.ref (G.2.1 0), vI x1, vI x2, vI x3] σ Q
set_option maxRecDepth 100000 in
set_option maxHeartbeats 4000000 in
theorem vX11_deed {l : Launch} {G : gG} (x1 : Int) (x2 : Int) (x3 : Int) (rx1 : gR x1) (rx2 : gR x2) (rx3 : gR x3) (σ : gS) (Q : Int → gS → Prop) (h : eX11_tellLine l G 1 x1 x2 x3 2 σ (fun v3 σ1 => gR v3 →
  Q v3 σ1)) : eX11_deed l G x1 x2 x3 σ Q := by
  refine ga_entry rfl (Nat.le_of_ble_eq_true rfl) ?_
  show gAt l G mX11_deed (gQi G Q) 0 [(0, .ref (G.2.1 0)), (1, vI x1), (2, vI x2), (3, vI x3)] [] σ
  refine ga_aload_n 0 dX11_deed_0 rfl rfl ?_
  refine ga_iconst dX11_deed_1 ?_
  refine ga_iload_n 1 dX11_deed_2 rfl rfl ?_
  refine ga_iload_n 2 dX11_deed_3 rfl rfl ?_
  refine ga_iload_n 3 dX11_deed_4 rfl rfl ?_
  refine ga_iconst dX11_deed_5 ?_
  refine ga_callVi (z := mX11_tellLine) (As := [vI 1, vI x1, vI x2, vI x3, vI 2]) (rest := []) dX11_deed_6 wX11_112 qX11_deed_X11_tellLine rfl ⟨_, rfl, rfl⟩ rfl rfl (Nat.le_of_ble_eq_true rfl) (gEi_mono h (fun v3 σ1 h r2 => ?_))
  replace h := h r2
  exact ga_iret dX11_deed_9 rfl r2 h
abbrev eX11_begins (l : Launch) (G : gG) (x1 : Int) (x2 : Int) (σ : gS) (Q : Int → gS → Prop) : Prop := gEz l G mX11_begins [.ref (G.2.1 0), vI x1, vI x2] σ Q
set_option maxRecDepth 100000 in
set_option maxHeartbeats 4000000 in
theorem vX11_begins {l : Launch} {G : gG} (x1 : Int) (x2 : Int) (rx1 : gR x1) (rx2 : gR x2) (σ : gS) (Q : Int → gS → Prop) (h : eX10_has l G 0 x1 σ (fun v3 σ1 => (v3 = 0 ∨ v3 = 1) →
  (v3 = 0 → Q 0 σ1) ∧
  (¬ v3 = 0 → eX10_has l G 1 x2 σ1 (fun v7 σ5 => (v7 = 0 ∨ v7 = 1) →
    (¬ v7 = 0 → eX8_begin l G x1 σ5 (fun σ9 =>
      Q 1 σ9)) ∧
    (v7 = 0 → Q 0 σ5))))) : eX11_begins l G x1 x2 σ Q := by
  refine ga_entry rfl (Nat.le_of_ble_eq_true rfl) ?_
  show gAt l G mX11_begins (gQz G Q) 0 [(0, .ref (G.2.1 0)), (1, vI x1), (2, vI x2)] [] σ
  refine ga_aload_n 0 dX11_begins_0 rfl rfl ?_
  refine ga_getR (kI := 0) (r := 1) dX11_begins_1 fX11_12 rfl rfl (by decide) rfl ?_
  refine ga_iconst dX11_begins_4 ?_
  refine ga_iload_n 1 dX11_begins_5 rfl rfl ?_
  refine ga_callVz (z := mX10_has) (As := [vI 0, vI x1]) (rest := []) dX11_begins_6 wX11_105 qX11_begins_X10_has rfl ⟨_, rfl, rfl⟩ rfl rfl (Nat.le_of_ble_eq_true rfl) (gEz_mono h (fun v3 σ1 h r2 => ?_))
  replace h := h r2
  obtain ⟨ht, hf⟩ := h
  refine ga_if_eq (tgt := 24) dX11_begins_9 (by decide) (gR_01 r2) (fun q4 => ?_) (fun q4 => ?_)
  · replace q4 : v3 = 0 := q4
    have h := ht q4
    refine ga_iconst dX11_begins_24 ?_
    exact ga_bret dX11_begins_25 rfl (Or.inl rfl) h
  · replace q4 : ¬ v3 = 0 := q4
    have h := hf q4
    refine ga_aload_n 0 dX11_begins_12 rfl rfl ?_
    refine ga_getR (kI := 0) (r := 1) dX11_begins_13 fX11_12 rfl rfl (by decide) rfl ?_
    refine ga_iconst dX11_begins_16 ?_
    refine ga_iload_n 2 dX11_begins_17 rfl rfl ?_
    refine ga_callVz (z := mX10_has) (As := [vI 1, vI x2]) (rest := []) dX11_begins_18 wX11_105 qX11_begins_X10_has rfl ⟨_, rfl, rfl⟩ rfl rfl (Nat.le_of_ble_eq_true rfl) (gEz_mono h (fun v7 σ5 h r6 => ?_))
    replace h := h r6
    obtain ⟨ht, hf⟩ := h
    refine ga_if_ne (tgt := 26) dX11_begins_21 (by decide) (gR_01 r6) (fun q8 => ?_) (fun q8 => ?_)
    · replace q8 : ¬ v7 = 0 := q8
      have h := ht q8
      refine ga_aload_n 0 dX11_begins_26 rfl rfl ?_
      refine ga_getR (kI := 4) (r := 32) dX11_begins_27 fX11_34 rfl rfl (by decide) rfl ?_
      refine ga_aload_n 0 dX11_begins_30 rfl rfl ?_
      refine ga_getR (kI := 0) (r := 1) dX11_begins_31 fX11_12 rfl rfl (by decide) rfl ?_
      refine ga_iload_n 1 dX11_begins_34 rfl rfl ?_
      refine ga_callVv (z := mX8_begin) (As := [.ref (G.2.1 1), vI x1]) (rest := []) dX11_begins_35 wX11_184 qX11_begins_X8_begin rfl ⟨_, rfl, rfl⟩ rfl rfl (Nat.le_of_ble_eq_true rfl) (gEv_mono h (fun σ9 h => ?_))
      refine ga_iconst dX11_begins_38 ?_
      exact ga_bret dX11_begins_39 rfl (Or.inr rfl) h
    · replace q8 : v7 = 0 := (Decidable.not_not.mp q8)
      have h := hf q8
      refine ga_iconst dX11_begins_24 ?_
      exact ga_bret dX11_begins_25 rfl (Or.inl rfl) h
abbrev eX11_stop (l : Launch) (G : gG) (x1 : Int) (x2 : Int) (σ : gS) (Q : Int → gS → Prop) : Prop := gEi l G mX11_stop [.ref (G.2.1 0), vI x1, vI x2] σ Q
set_option maxRecDepth 100000 in
set_option maxHeartbeats 4000000 in
theorem vX11_stop {l : Launch} {G : gG} (x1 : Int) (x2 : Int) (rx1 : gR x1) (rx2 : gR x2) (σ : gS) (Q : Int → gS → Prop) (h : eX11_begins l G x1 x2 σ (fun v3 σ1 => (v3 = 0 ∨ v3 = 1) →
  (v3 = 0 → Q (-1) σ1) ∧
  (¬ v3 = 0 → eX8_follow l G x2 40 σ1 (fun v7 σ5 => gR v7 →
    Q v7 σ5)))) : eX11_stop l G x1 x2 σ Q := by
  refine ga_entry rfl (Nat.le_of_ble_eq_true rfl) ?_
  show gAt l G mX11_stop (gQi G Q) 0 [(0, .ref (G.2.1 0)), (1, vI x1), (2, vI x2)] [] σ
  refine ga_aload_n 0 dX11_stop_0 rfl rfl ?_
  refine ga_iload_n 1 dX11_stop_1 rfl rfl ?_
  refine ga_iload_n 2 dX11_stop_2 rfl rfl ?_
  refine ga_callVz (z := mX11_begins) (As := [vI x1, vI x2]) (rest := []) dX11_stop_3 wX11_116 qX11_stop_X11_begins rfl ⟨_, rfl, rfl⟩ rfl rfl (Nat.le_of_ble_eq_true rfl) (gEz_mono h (fun v3 σ1 h r2 => ?_))
  replace h := h r2
  obtain ⟨ht, hf⟩ := h
  refine ga_if_eq (tgt := 26) dX11_stop_6 (by decide) (gR_01 r2) (fun q4 => ?_) (fun q4 => ?_)
  · replace q4 : v3 = 0 := q4
    have h := ht q4
    refine ga_iconst dX11_stop_26 ?_
    exact ga_iret dX11_stop_27 rfl (by decide) h
  · replace q4 : ¬ v3 = 0 := q4
    have h := hf q4
    refine ga_aload_n 0 dX11_stop_9 rfl rfl ?_
    refine ga_getR (kI := 4) (r := 32) dX11_stop_10 fX11_34 rfl rfl (by decide) rfl ?_
    refine ga_aload_n 0 dX11_stop_13 rfl rfl ?_
    refine ga_getR (kI := 0) (r := 1) dX11_stop_14 fX11_12 rfl rfl (by decide) rfl ?_
    refine ga_iload_n 2 dX11_stop_17 rfl rfl ?_
    refine ga_bipush dX11_stop_18 (by decide) ?_
    refine ga_callVi (z := mX8_follow) (As := [.ref (G.2.1 1), vI x2, vI 40]) (rest := []) dX11_stop_20 wX11_119 qX11_stop_X8_follow rfl ⟨_, rfl, rfl⟩ rfl rfl (Nat.le_of_ble_eq_true rfl) (gEi_mono h (fun v7 σ5 h r6 => ?_))
    replace h := h r6
    refine ga_goto (tgt := 27) dX11_stop_23 (by decide) ?_
    exact ga_iret dX11_stop_27 rfl r6 h
abbrev eX11_reaches (l : Launch) (G : gG) (x1 : Int) (x2 : Int) (x3 : Int) (σ : gS) (Q : Int → gS → Prop) : Prop := gEz l G mX11_reaches [.ref (G.2.1 0), vI x1, vI x2, vI x3] σ Q
set_option maxRecDepth 100000 in
set_option maxHeartbeats 4000000 in
theorem vX11_reaches {l : Launch} {G : gG} (x1 : Int) (x2 : Int) (x3 : Int) (rx1 : gR x1) (rx2 : gR x2) (rx3 : gR x3) (σ : gS) (Q : Int → gS → Prop) (h : (x3 < 0 → Q 0 σ) ∧
  (0 ≤ x3 → (40 < x3 → Q 0 σ) ∧
    (x3 ≤ 40 → eX11_begins l G x1 x2 σ (fun v5 σ3 => (v5 = 0 ∨ v5 = 1) →
      (¬ v5 = 0 → eX8_follow l G x2 x3 σ3 (fun v9 σ7 => gR v9 →
        (∀ v12 : Int, v12 = (if v9 = x3 then 1 else 0) →
        Q v12 σ7))) ∧
      (v5 = 0 → Q 0 σ3))))) : eX11_reaches l G x1 x2 x3 σ Q := by
  refine ga_entry rfl (Nat.le_of_ble_eq_true rfl) ?_
  show gAt l G mX11_reaches (gQz G Q) 0 [(0, .ref (G.2.1 0)), (1, vI x1), (2, vI x2), (3, vI x3)] [] σ
  refine ga_iload_n 3 dX11_reaches_0 rfl rfl ?_
  obtain ⟨ht, hf⟩ := h
  refine ga_if_lt (tgt := 19) dX11_reaches_1 (by decide) rx3 (fun q1 => ?_) (fun q1 => ?_)
  · replace q1 : x3 < 0 := q1
    have h := ht q1
    refine ga_iconst dX11_reaches_19 ?_
    exact ga_bret dX11_reaches_20 rfl (Or.inl rfl) h
  · replace q1 : 0 ≤ x3 := (Int.not_lt.mp q1)
    have h := hf q1
    refine ga_iload_n 3 dX11_reaches_4 rfl rfl ?_
    refine ga_bipush dX11_reaches_5 (by decide) ?_
    obtain ⟨ht, hf⟩ := h
    refine ga_icmp_gt (tgt := 19) dX11_reaches_7 (by decide) rx3 (by decide) (fun q2 => ?_) (fun q2 => ?_)
    · replace q2 : 40 < x3 := q2
      have h := ht q2
      refine ga_iconst dX11_reaches_19 ?_
      exact ga_bret dX11_reaches_20 rfl (Or.inl rfl) h
    · replace q2 : x3 ≤ 40 := (Int.not_lt.mp q2)
      have h := hf q2
      refine ga_aload_n 0 dX11_reaches_10 rfl rfl ?_
      refine ga_iload_n 1 dX11_reaches_11 rfl rfl ?_
      refine ga_iload_n 2 dX11_reaches_12 rfl rfl ?_
      refine ga_callVz (z := mX11_begins) (As := [vI x1, vI x2]) (rest := []) dX11_reaches_13 wX11_116 qX11_reaches_X11_begins rfl ⟨_, rfl, rfl⟩ rfl rfl (Nat.le_of_ble_eq_true rfl) (gEz_mono h (fun v5 σ3 h r4 => ?_))
      replace h := h r4
      obtain ⟨ht, hf⟩ := h
      refine ga_if_ne (tgt := 21) dX11_reaches_16 (by decide) (gR_01 r4) (fun q6 => ?_) (fun q6 => ?_)
      · replace q6 : ¬ v5 = 0 := q6
        have h := ht q6
        refine ga_aload_n 0 dX11_reaches_21 rfl rfl ?_
        refine ga_getR (kI := 4) (r := 32) dX11_reaches_22 fX11_34 rfl rfl (by decide) rfl ?_
        refine ga_aload_n 0 dX11_reaches_25 rfl rfl ?_
        refine ga_getR (kI := 0) (r := 1) dX11_reaches_26 fX11_12 rfl rfl (by decide) rfl ?_
        refine ga_iload_n 2 dX11_reaches_29 rfl rfl ?_
        refine ga_iload_n 3 dX11_reaches_30 rfl rfl ?_
        refine ga_callVi (z := mX8_follow) (As := [.ref (G.2.1 1), vI x2, vI x3]) (rest := []) dX11_reaches_31 wX11_119 qX11_reaches_X8_follow rfl ⟨_, rfl, rfl⟩ rfl rfl (Nat.le_of_ble_eq_true rfl) (gEi_mono h (fun v9 σ7 h r8 => ?_))
        replace h := h r8
        refine ga_iload_n 3 dX11_reaches_34 rfl rfl ?_
        have kJ10 : ∀ v12 : Int, gR v12 → (v12 = 0 ∨ v12 = 1) → v12 = (if v9 = x3 then 1 else 0) → gAt l G mX11_reaches (gQz G Q) 43 [(0, .ref (G.2.1 0)), (1, vI x1), (2, vI x2), (3, vI x3)] [vI v12] σ7 := by
          intro v12 rv12 bv12 ev12
          replace h := h v12 ev12
          exact ga_bret dX11_reaches_43 rfl bv12 h
        replace h : (¬ v9 = x3 → True) ∧
        (v9 = x3 → True) := by repeat (first | exact True.intro | apply And.intro | intro _)
        obtain ⟨ht, hf⟩ := h
        refine ga_icmp_ne (tgt := 42) dX11_reaches_35 (by decide) r8 rx3 (fun q11 => ?_) (fun q11 => ?_)
        · replace q11 : ¬ v9 = x3 := q11
          have h := ht q11
          refine ga_iconst dX11_reaches_42 ?_
          exact kJ10 0 (by decide) (Or.inl rfl) (by rw [if_neg q11])
        · replace q11 : v9 = x3 := (Decidable.not_not.mp q11)
          have h := hf q11
          refine ga_iconst dX11_reaches_38 ?_
          refine ga_goto (tgt := 43) dX11_reaches_39 (by decide) ?_
          exact kJ10 1 (by decide) (Or.inr rfl) (by rw [if_pos q11])
      · replace q6 : v5 = 0 := (Decidable.not_not.mp q6)
        have h := hf q6
        refine ga_iconst dX11_reaches_19 ?_
        exact ga_bret dX11_reaches_20 rfl (Or.inl rfl) h
abbrev eX11_state (l : Launch) (G : gG) (x1 : Int) (x2 : Int) (x3 : Int) (x4 : Int) (σ : gS) (Q : Int → gS → Prop) : Prop := gEi l G mX11_state [.ref (G.2.1 0), vI x1, vI x2, vI x3, vI x4] σ Q
set_option maxRecDepth 100000 in
set_option maxHeartbeats 4000000 in
theorem vX11_state {l : Launch} {G : gG} (x1 : Int) (x2 : Int) (x3 : Int) (x4 : Int) (rx1 : gR x1) (rx2 : gR x2) (rx3 : gR x3) (rx4 : gR x4) (σ : gS) (Q : Int → gS → Prop) (h : eX11_reaches l G x1 x2 x3 σ (fun v3 σ1 => (v3 = 0 ∨ v3 = 1) →
  (v3 = 0 → Q (-2) σ1) ∧
  (¬ v3 = 0 → eX8_tell l G x4 σ1 (fun v7 σ5 => gR v7 →
    Q v7 σ5)))) : eX11_state l G x1 x2 x3 x4 σ Q := by
  refine ga_entry rfl (Nat.le_of_ble_eq_true rfl) ?_
  show gAt l G mX11_state (gQi G Q) 0 [(0, .ref (G.2.1 0)), (1, vI x1), (2, vI x2), (3, vI x3), (4, vI x4)] [] σ
  refine ga_aload_n 0 dX11_state_0 rfl rfl ?_
  refine ga_iload_n 1 dX11_state_1 rfl rfl ?_
  refine ga_iload_n 2 dX11_state_2 rfl rfl ?_
  refine ga_iload_n 3 dX11_state_3 rfl rfl ?_
  refine ga_callVz (z := mX11_reaches) (As := [vI x1, vI x2, vI x3]) (rest := []) dX11_state_4 wX11_123 qX11_state_X11_reaches rfl ⟨_, rfl, rfl⟩ rfl rfl (Nat.le_of_ble_eq_true rfl) (gEz_mono h (fun v3 σ1 h r2 => ?_))
  replace h := h r2
  obtain ⟨ht, hf⟩ := h
  refine ga_if_eq (tgt := 22) dX11_state_7 (by decide) (gR_01 r2) (fun q4 => ?_) (fun q4 => ?_)
  · replace q4 : v3 = 0 := q4
    have h := ht q4
    refine ga_bipush dX11_state_22 (by decide) ?_
    exact ga_iret dX11_state_24 rfl (by decide) h
  · replace q4 : ¬ v3 = 0 := q4
    have h := hf q4
    refine ga_aload_n 0 dX11_state_10 rfl rfl ?_
    refine ga_getR (kI := 4) (r := 32) dX11_state_11 fX11_34 rfl rfl (by decide) rfl ?_
    refine ga_iload 4 dX11_state_14 rfl ?_
    refine ga_callVi (z := mX8_tell) (As := [vI x4]) (rest := []) dX11_state_16 wX11_127 qX11_state_X8_tell rfl ⟨_, rfl, rfl⟩ rfl rfl (Nat.le_of_ble_eq_true rfl) (gEi_mono h (fun v7 σ5 h r6 => ?_))
    replace h := h r6
    refine ga_goto (tgt := 24) dX11_state_19 (by decide) ?_
    exact ga_iret dX11_state_24 rfl r6 h
abbrev eX11_cell (l : Launch) (G : gG) (x1 : Int) (x2 : Int) (x3 : Int) (x4 : Int) (σ : gS) (Q : Int → gS → Prop) : Prop := gEi l G mX11_cell [.ref (G.2.1 0), vI x1, vI x2, vI x3, vI x4] σ Q
set_option maxRecDepth 100000 in
set_option maxHeartbeats 4000000 in
theorem vX11_cell {l : Launch} {G : gG} (x1 : Int) (x2 : Int) (x3 : Int) (x4 : Int) (rx1 : gR x1) (rx2 : gR x2) (rx3 : gR x3) (rx4 : gR x4) (σ : gS) (Q : Int → gS → Prop) (h : eX11_begins l G x1 x2 σ (fun v3 σ1 => (v3 = 0 ∨ v3 = 1) →
  (¬ v3 = 0 → eX8_follow l G x2 40 σ1 (fun v7 σ5 => gR v7 →
    eX0_tell l G x3 x4 σ5 (fun v10 σ8 => gR v10 →
    Q v10 σ8))) ∧
  (v3 = 0 → Q (-2) σ1))) : eX11_cell l G x1 x2 x3 x4 σ Q := by
  refine ga_entry rfl (Nat.le_of_ble_eq_true rfl) ?_
  show gAt l G mX11_cell (gQi G Q) 0 [(0, .ref (G.2.1 0)), (1, vI x1), (2, vI x2), (3, vI x3), (4, vI x4)] [] σ
  refine ga_aload_n 0 dX11_cell_0 rfl rfl ?_
  refine ga_iload_n 1 dX11_cell_1 rfl rfl ?_
  refine ga_iload_n 2 dX11_cell_2 rfl rfl ?_
  refine ga_callVz (z := mX11_begins) (As := [vI x1, vI x2]) (rest := []) dX11_cell_3 wX11_116 qX11_cell_X11_begins rfl ⟨_, rfl, rfl⟩ rfl rfl (Nat.le_of_ble_eq_true rfl) (gEz_mono h (fun v3 σ1 h r2 => ?_))
  replace h := h r2
  obtain ⟨ht, hf⟩ := h
  refine ga_if_ne (tgt := 12) dX11_cell_6 (by decide) (gR_01 r2) (fun q4 => ?_) (fun q4 => ?_)
  · replace q4 : ¬ v3 = 0 := q4
    have h := ht q4
    refine ga_aload_n 0 dX11_cell_12 rfl rfl ?_
    refine ga_getR (kI := 4) (r := 32) dX11_cell_13 fX11_34 rfl rfl (by decide) rfl ?_
    refine ga_aload_n 0 dX11_cell_16 rfl rfl ?_
    refine ga_getR (kI := 0) (r := 1) dX11_cell_17 fX11_12 rfl rfl (by decide) rfl ?_
    refine ga_iload_n 2 dX11_cell_20 rfl rfl ?_
    refine ga_bipush dX11_cell_21 (by decide) ?_
    refine ga_callVi (z := mX8_follow) (As := [.ref (G.2.1 1), vI x2, vI 40]) (rest := []) dX11_cell_23 wX11_119 qX11_cell_X8_follow rfl ⟨_, rfl, rfl⟩ rfl rfl (Nat.le_of_ble_eq_true rfl) (gEi_mono h (fun v7 σ5 h r6 => ?_))
    replace h := h r6
    refine ga_pop dX11_cell_26 rfl ?_
    refine ga_aload_n 0 dX11_cell_27 rfl rfl ?_
    refine ga_getR (kI := 4) (r := 32) dX11_cell_28 fX11_34 rfl rfl (by decide) rfl ?_
    refine ga_getR (kI := 0) (r := 33) dX11_cell_31 fX11_131 rfl rfl (by decide) rfl ?_
    refine ga_iload_n 3 dX11_cell_34 rfl rfl ?_
    refine ga_iload 4 dX11_cell_35 rfl ?_
    refine ga_callVi (z := mX0_tell) (As := [vI x3, vI x4]) (rest := []) dX11_cell_37 wX11_135 qX11_cell_X0_tell rfl ⟨_, rfl, rfl⟩ rfl rfl (Nat.le_of_ble_eq_true rfl) (gEi_mono h (fun v10 σ8 h r9 => ?_))
    replace h := h r9
    exact ga_iret dX11_cell_40 rfl r9 h
  · replace q4 : v3 = 0 := (Decidable.not_not.mp q4)
    have h := hf q4
    refine ga_bipush dX11_cell_9 (by decide) ?_
    exact ga_iret dX11_cell_11 rfl (by decide) h
abbrev eX11_full (l : Launch) (G : gG) (x1 : Int) (x2 : Int) (x3 : Int) (σ : gS) (Q : Int → gS → Prop) : Prop := gEi l G mX11_full [.ref (G.2.1 0), vI x1, vI x2, vI x3] σ Q
set_option maxRecDepth 100000 in
set_option maxHeartbeats 4000000 in
theorem vX11_full {l : Launch} {G : gG} (x1 : Int) (x2 : Int) (x3 : Int) (rx1 : gR x1) (rx2 : gR x2) (rx3 : gR x3) (σ : gS) (Q : Int → gS → Prop) (h : eX10_has l G 0 x1 σ (fun v3 σ1 => (v3 = 0 ∨ v3 = 1) →
  (v3 = 0 → Q (-1) σ1) ∧
  (¬ v3 = 0 → (x2 < 0 → Q (-1) σ1) ∧
    (0 ≤ x2 → (x2 < 100 → (x3 < 0 → Q (-1) σ1) ∧
        (0 ≤ x3 → eX10_bar l G x1 0 σ1 (fun v10 σ8 => gR v10 →
          (x3 < v10 → eX2_inputAt l G x1 x2 x3 σ8 (fun v14 σ12 => gR v14 →
            Q v14 σ12)) ∧
          (v10 ≤ x3 → Q (-1) σ8)))) ∧
      (100 ≤ x2 → Q (-1) σ1))))) : eX11_full l G x1 x2 x3 σ Q := by
  refine ga_entry rfl (Nat.le_of_ble_eq_true rfl) ?_
  show gAt l G mX11_full (gQi G Q) 0 [(0, .ref (G.2.1 0)), (1, vI x1), (2, vI x2), (3, vI x3)] [] σ
  refine ga_aload_n 0 dX11_full_0 rfl rfl ?_
  refine ga_getR (kI := 0) (r := 1) dX11_full_1 fX11_12 rfl rfl (by decide) rfl ?_
  refine ga_iconst dX11_full_4 ?_
  refine ga_iload_n 1 dX11_full_5 rfl rfl ?_
  refine ga_callVz (z := mX10_has) (As := [vI 0, vI x1]) (rest := []) dX11_full_6 wX11_105 qX11_full_X10_has rfl ⟨_, rfl, rfl⟩ rfl rfl (Nat.le_of_ble_eq_true rfl) (gEz_mono h (fun v3 σ1 h r2 => ?_))
  replace h := h r2
  obtain ⟨ht, hf⟩ := h
  refine ga_if_eq (tgt := 22) dX11_full_9 (by decide) (gR_01 r2) (fun q4 => ?_) (fun q4 => ?_)
  · replace q4 : v3 = 0 := q4
    have h := ht q4
    refine ga_iconst dX11_full_22 ?_
    exact ga_iret dX11_full_23 rfl (by decide) h
  · replace q4 : ¬ v3 = 0 := q4
    have h := hf q4
    refine ga_iload_n 2 dX11_full_12 rfl rfl ?_
    obtain ⟨ht, hf⟩ := h
    refine ga_if_lt (tgt := 22) dX11_full_13 (by decide) rx2 (fun q5 => ?_) (fun q5 => ?_)
    · replace q5 : x2 < 0 := q5
      have h := ht q5
      refine ga_iconst dX11_full_22 ?_
      exact ga_iret dX11_full_23 rfl (by decide) h
    · replace q5 : 0 ≤ x2 := (Int.not_lt.mp q5)
      have h := hf q5
      refine ga_iload_n 2 dX11_full_16 rfl rfl ?_
      refine ga_bipush dX11_full_17 (by decide) ?_
      obtain ⟨ht, hf⟩ := h
      refine ga_icmp_lt (tgt := 24) dX11_full_19 (by decide) rx2 (by decide) (fun q6 => ?_) (fun q6 => ?_)
      · replace q6 : x2 < 100 := q6
        have h := ht q6
        refine ga_iload_n 3 dX11_full_24 rfl rfl ?_
        obtain ⟨ht, hf⟩ := h
        refine ga_if_lt (tgt := 41) dX11_full_25 (by decide) rx3 (fun q7 => ?_) (fun q7 => ?_)
        · replace q7 : x3 < 0 := q7
          have h := ht q7
          refine ga_iconst dX11_full_41 ?_
          exact ga_iret dX11_full_42 rfl (by decide) h
        · replace q7 : 0 ≤ x3 := (Int.not_lt.mp q7)
          have h := hf q7
          refine ga_iload_n 3 dX11_full_28 rfl rfl ?_
          refine ga_aload_n 0 dX11_full_29 rfl rfl ?_
          refine ga_getR (kI := 0) (r := 1) dX11_full_30 fX11_12 rfl rfl (by decide) rfl ?_
          refine ga_iload_n 1 dX11_full_33 rfl rfl ?_
          refine ga_iconst dX11_full_34 ?_
          refine ga_callVi (z := mX10_bar) (As := [vI x1, vI 0]) (rest := [vI x3]) dX11_full_35 wX11_108 qX11_full_X10_bar rfl ⟨_, rfl, rfl⟩ rfl rfl (Nat.le_of_ble_eq_true rfl) (gEi_mono h (fun v10 σ8 h r9 => ?_))
          replace h := h r9
          obtain ⟨ht, hf⟩ := h
          refine ga_icmp_lt (tgt := 43) dX11_full_38 (by decide) rx3 r9 (fun q11 => ?_) (fun q11 => ?_)
          · replace q11 : x3 < v10 := q11
            have h := ht q11
            refine ga_aload_n 0 dX11_full_43 rfl rfl ?_
            refine ga_getR (kI := 5) (r := 58) dX11_full_44 fX11_41 rfl rfl (by decide) rfl ?_
            refine ga_aload_n 0 dX11_full_47 rfl rfl ?_
            refine ga_getR (kI := 0) (r := 1) dX11_full_48 fX11_12 rfl rfl (by decide) rfl ?_
            refine ga_iload_n 1 dX11_full_51 rfl rfl ?_
            refine ga_iload_n 2 dX11_full_52 rfl rfl ?_
            refine ga_iload_n 3 dX11_full_53 rfl rfl ?_
            refine ga_callVi (z := mX2_inputAt) (As := [.ref (G.2.1 1), vI x1, vI x2, vI x3]) (rest := []) dX11_full_54 wX11_139 qX11_full_X2_inputAt rfl ⟨_, rfl, rfl⟩ rfl rfl (Nat.le_of_ble_eq_true rfl) (gEi_mono h (fun v14 σ12 h r13 => ?_))
            replace h := h r13
            exact ga_iret dX11_full_57 rfl r13 h
          · replace q11 : v10 ≤ x3 := (Int.not_lt.mp q11)
            have h := hf q11
            refine ga_iconst dX11_full_41 ?_
            exact ga_iret dX11_full_42 rfl (by decide) h
      · replace q6 : 100 ≤ x2 := (Int.not_lt.mp q6)
        have h := hf q6
        refine ga_iconst dX11_full_22 ?_
        exact ga_iret dX11_full_23 rfl (by decide) h
