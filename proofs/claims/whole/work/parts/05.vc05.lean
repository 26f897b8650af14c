abbrev eX12_worth (l : Launch) (G : gG) (x1 : Int) (x2 : Int) (x3 : Int) (σ : gS) (Q : Int → gS → Prop) : Prop := gEi l G mX12_worth [.ref (G.2.1 88), vI x1, vI x2, vI x3] σ Q
set_option maxRecDepth 100000 in
set_option maxHeartbeats 4000000 in
theorem vX12_worth {l : Launch} {G : gG} (x1 : Int) (x2 : Int) (x3 : Int) (rx1 : gR x1) (rx2 : gR x2) (rx3 : gR x3) (σ : gS) (Q : Int → gS → Prop) (h : eX12_at l G x1 x2 σ (fun v3 σ1 => gR v3 →
  (0 ≤ v3 ∧ v3 < 36) ∧ (¬ (gI σ1 95 v3) = 0 → (x3 = 0 → Q 1 σ1) ∧
    (¬ x3 = 0 → eX12_at l G x1 x2 σ1 (fun v10 σ8 => gR v10 →
      (0 ≤ v10 ∧ v10 < 36) ∧ Q (gI σ8 95 v10) σ8))) ∧
  ((gI σ1 95 v3) = 0 → Q 0 σ1))) : eX12_worth l G x1 x2 x3 σ Q := by
  refine ga_entry rfl (Nat.le_of_ble_eq_true rfl) ?_
  show gAt l G mX12_worth (gQi G Q) 0 [(0, .ref (G.2.1 88)), (1, vI x1), (2, vI x2), (3, vI x3)] [] σ
  refine ga_aload_n 0 dX12_worth_0 rfl rfl ?_
  refine ga_getR (kI := 18) (r := 95) dX12_worth_1 fX12_29 rfl rfl (by decide) rfl ?_
  refine ga_iload_n 1 dX12_worth_4 rfl rfl ?_
  refine ga_iload_n 2 dX12_worth_5 rfl rfl ?_
  refine ga_callSi (z := mX12_at) (As := [vI x1, vI x2]) (rest := [.ref (G.2.1 95)]) dX12_worth_6 wX12_279 qX12_worth_X12_at rfl rfl (Nat.le_of_ble_eq_true rfl) (gEi_mono h (fun v3 σ1 h r2 => ?_))
  replace h := h r2
  obtain ⟨i4, h⟩ := h
  refine ga_iald (nI := 36) dX12_worth_9 rfl rfl i4 (fun r5 => ?_)
  obtain ⟨ht, hf⟩ := h
  refine ga_if_ne (tgt := 17) dX12_worth_10 (by decide) r5 (fun q6 => ?_) (fun q6 => ?_)
  · replace q6 : ¬ (gI σ1 95 v3) = 0 := q6
    have h := ht q6
    refine ga_iload_n 3 dX12_worth_17 rfl rfl ?_
    obtain ⟨ht, hf⟩ := h
    refine ga_if_eq (tgt := 34) dX12_worth_18 (by decide) rx3 (fun q7 => ?_) (fun q7 => ?_)
    · replace q7 : x3 = 0 := q7
      have h := ht q7
      refine ga_iconst dX12_worth_34 ?_
      exact ga_iret dX12_worth_35 rfl (by decide) h
    · replace q7 : ¬ x3 = 0 := q7
      have h := hf q7
      refine ga_aload_n 0 dX12_worth_21 rfl rfl ?_
      refine ga_getR (kI := 18) (r := 95) dX12_worth_22 fX12_29 rfl rfl (by decide) rfl ?_
      refine ga_iload_n 1 dX12_worth_25 rfl rfl ?_
      refine ga_iload_n 2 dX12_worth_26 rfl rfl ?_
      refine ga_callSi (z := mX12_at) (As := [vI x1, vI x2]) (rest := [.ref (G.2.1 95)]) dX12_worth_27 wX12_279 qX12_worth_X12_at rfl rfl (Nat.le_of_ble_eq_true rfl) (gEi_mono h (fun v10 σ8 h r9 => ?_))
      replace h := h r9
      obtain ⟨i11, h⟩ := h
      refine ga_iald (nI := 36) dX12_worth_30 rfl rfl i11 (fun r12 => ?_)
      refine ga_goto (tgt := 35) dX12_worth_31 (by decide) ?_
      exact ga_iret dX12_worth_35 rfl r12 h
  · replace q6 : (gI σ1 95 v3) = 0 := (Decidable.not_not.mp q6)
    have h := hf q6
    refine ga_iconst dX12_worth_13 ?_
    refine ga_goto (tgt := 35) dX12_worth_14 (by decide) ?_
    exact ga_iret dX12_worth_35 rfl (by decide) h
abbrev eX12_judges (l : Launch) (G : gG) (x1 : Int) (σ : gS) (Q : gS → Prop) : Prop := gEv l G mX12_judges [.ref (G.2.1 88), vI x1] σ Q
abbrev kX12_judges_2 (l : Launch) (G : gG)  (x1 : Int) (x2 : Int) (σ : gS) (Q : gS → Prop) : Prop := gAt l G mX12_judges (gQv G Q) 2 [(0, .ref (G.2.1 88)), (1, vI x1), (2, vI x2)] [] σ
abbrev kX12_judges_36 (l : Launch) (G : gG)  (x1 : Int) (x2 : Int) (σ : gS) (Q : gS → Prop) : Prop := gAt l G mX12_judges (gQv G Q) 36 [(0, .ref (G.2.1 88)), (1, vI x1), (2, vI x2)] [] σ
abbrev kX12_judges_42 (l : Launch) (G : gG)  (x1 : Int) (x2 : Int) (x3 : Int) (σ : gS) (Q : gS → Prop) : Prop := gAt l G mX12_judges (gQv G Q) 42 [(0, .ref (G.2.1 88)), (1, vI x1), (2, vI x2), (3, vI x3)] [] σ
abbrev kX12_judges_70 (l : Launch) (G : gG)  (x1 : Int) (x2 : Int) (x3 : Int) (x4 : Int) (x5 : Int) (σ : gS) (Q : gS → Prop) : Prop := gAt l G mX12_judges (gQv G Q) 70 [(0, .ref (G.2.1 88)), (1, vI x1), (2, vI x2), (3, vI x3), (4, vI x4), (5, vI x5)] [] σ
set_option maxRecDepth 100000 in
set_option maxHeartbeats 4000000 in
theorem vX12_judges {l : Launch} {G : gG} (x1 : Int) (rx1 : gR x1) (σ : gS) (Q : gS → Prop) (h : kX12_judges_2 l G  x1 0 σ Q) : eX12_judges l G x1 σ Q := by
  refine ga_entry rfl (Nat.le_of_ble_eq_true rfl) ?_
  show gAt l G mX12_judges (gQv G Q) 0 [(0, .ref (G.2.1 88)), (1, vI x1)] [] σ
  refine ga_iconst dX12_judges_0 ?_
  refine ga_istore_n (ls' := [(2, vI 0), (0, .ref (G.2.1 88)), (1, vI x1)]) dX12_judges_1 rfl (by decide) rfl ?_
  exact ga_sub [1, 2, 0] rfl h
set_option maxRecDepth 100000 in
set_option maxHeartbeats 4000000 in
theorem vX12_judges_2 {l : Launch} {G : gG}  (x1 : Int) (x2 : Int) (rx1 : gR x1) (rx2 : gR x2) (σ : gS) (Q : gS → Prop) (h : (64 ≤ x2 → kX12_judges_36 l G  x1 ((gI σ 88 10) - 1) σ Q) ∧
  (x2 < 64 → (0 ≤ ((64 * (gI σ 88 10)) + x2) ∧ ((64 * (gI σ 88 10)) + x2) < 448) ∧ ∀ σ5, σ5 = sI σ 116 ((64 * (gI σ 88 10)) + x2) 0 →
    kX12_judges_2 l G  x1 (x2 + 1) σ5 Q)) : kX12_judges_2 l G  x1 x2 σ Q := by
  refine ga_iload_n 2 dX12_judges_2 rfl rfl ?_
  refine ga_bipush dX12_judges_3 (by decide) ?_
  obtain ⟨ht, hf⟩ := h
  refine ga_icmp_ge (tgt := 29) dX12_judges_5 (by decide) rx2 (by decide) (fun q1 => ?_) (fun q1 => ?_)
  · replace q1 : 64 ≤ x2 := q1
    have h := ht q1
    refine ga_aload_n 0 dX12_judges_29 rfl rfl ?_
    refine ga_getI (kI := 10) dX12_judges_30 fX12_236 rfl rfl rfl (fun r2 => ?_)
    refine ga_iconst dX12_judges_33 ?_
    refine ga_isub dX12_judges_34 ?_
    refine ga_istore_n (ls' := [(2, vI ((gI σ 88 10) - 1)), (0, .ref (G.2.1 88)), (1, vI x1)]) dX12_judges_35 rfl (by decide) rfl ?_
    exact ga_sub [1, 2, 0] rfl h
  · replace q1 : x2 < 64 := (Int.not_le.mp q1)
    have h := hf q1
    refine ga_aload_n 0 dX12_judges_8 rfl rfl ?_
    refine ga_getR (kI := 48) (r := 116) dX12_judges_9 fX12_92 rfl rfl (by decide) rfl ?_
    refine ga_bipush dX12_judges_12 (by decide) ?_
    refine ga_aload_n 0 dX12_judges_14 rfl rfl ?_
    refine ga_getI (kI := 10) dX12_judges_15 fX12_236 rfl rfl rfl (fun r3 => ?_)
    refine ga_imul dX12_judges_18 ?_
    refine ga_iload_n 2 dX12_judges_19 rfl rfl ?_
    refine ga_iadd dX12_judges_20 ?_
    refine ga_iconst dX12_judges_21 ?_
    obtain ⟨i4, h⟩ := h
    obtain ⟨σ5, eσ5⟩ : ∃ z, z = sI σ 116 ((64 * (gI σ 88 10)) + x2) 0 := ⟨_, rfl⟩
    replace h := h σ5 eσ5
    refine ga_iast (nI := 448) dX12_judges_22 rfl rfl i4 (by decide) eσ5 ?_
    refine ga_iinc (ls' := [(2, vI (x2 + 1)), (0, .ref (G.2.1 88)), (1, vI x1)]) 2 dX12_judges_23 rfl (by decide) rfl ?_
    refine ga_goto (tgt := 2) dX12_judges_26 (by decide) ?_
    exact ga_sub [1, 2, 0] rfl h
set_option maxRecDepth 100000 in
set_option maxHeartbeats 4000000 in
theorem vX12_judges_36 {l : Launch} {G : gG}  (x1 : Int) (x2 : Int) (rx1 : gR x1) (rx2 : gR x2) (σ : gS) (Q : gS → Prop) (h : (x2 < 0 → Q σ) ∧
  (0 ≤ x2 → kX12_judges_42 l G  x1 x2 0 σ Q)) : kX12_judges_36 l G  x1 x2 σ Q := by
  refine ga_iload_n 2 dX12_judges_36 rfl rfl ?_
  obtain ⟨ht, hf⟩ := h
  refine ga_if_lt (tgt := 182) dX12_judges_37 (by decide) rx2 (fun q6 => ?_) (fun q6 => ?_)
  · replace q6 : x2 < 0 := q6
    have h := ht q6
    exact ga_vret dX12_judges_182 rfl h
  · replace q6 : 0 ≤ x2 := (Int.not_lt.mp q6)
    have h := hf q6
    refine ga_iconst dX12_judges_40 ?_
    refine ga_istore_n (ls' := [(3, vI 0), (0, .ref (G.2.1 88)), (1, vI x1), (2, vI x2)]) dX12_judges_41 rfl (by decide) rfl ?_
    exact ga_sub [1, 2, 3, 0] rfl h
set_option maxRecDepth 100000 in
set_option maxHeartbeats 4000000 in
theorem vX12_judges_42 {l : Launch} {G : gG}  (x1 : Int) (x2 : Int) (x3 : Int) (rx1 : gR x1) (rx2 : gR x2) (rx3 : gR x3) (σ : gS) (Q : gS → Prop) (h : ((gshl 1 (gI σ 88 10)) ≤ x3 → kX12_judges_36 l G  x1 (x2 + (-1)) σ Q) ∧
  (x3 < (gshl 1 (gI σ 88 10)) → (0 ≤ ((64 * (x2 + 1)) + x3) ∧ ((64 * (x2 + 1)) + x3) < 448) ∧ kX12_judges_70 l G  x1 x2 x3 (gI σ 116 ((64 * (x2 + 1)) + x3)) 0 σ Q)) : kX12_judges_42 l G  x1 x2 x3 σ Q := by
  refine ga_iload_n 3 dX12_judges_42 rfl rfl ?_
  refine ga_iconst dX12_judges_43 ?_
  refine ga_aload_n 0 dX12_judges_44 rfl rfl ?_
  refine ga_getI (kI := 10) dX12_judges_45 fX12_236 rfl rfl rfl (fun r7 => ?_)
  refine ga_ishl dX12_judges_48 (fun r8 => ?_)
  obtain ⟨ht, hf⟩ := h
  refine ga_icmp_ge (tgt := 176) dX12_judges_49 (by decide) rx3 r8 (fun q9 => ?_) (fun q9 => ?_)
  · replace q9 : (gshl 1 (gI σ 88 10)) ≤ x3 := q9
    have h := ht q9
    refine ga_iinc (ls' := [(2, vI (x2 + (-1))), (0, .ref (G.2.1 88)), (1, vI x1), (3, vI x3)]) 2 dX12_judges_176 rfl (by decide) rfl ?_
    refine ga_goto (tgt := 36) dX12_judges_179 (by decide) ?_
    exact ga_sub [1, 2, 0] rfl h
  · replace q9 : x3 < (gshl 1 (gI σ 88 10)) := (Int.not_le.mp q9)
    have h := hf q9
    refine ga_aload_n 0 dX12_judges_52 rfl rfl ?_
    refine ga_getR (kI := 48) (r := 116) dX12_judges_53 fX12_92 rfl rfl (by decide) rfl ?_
    refine ga_bipush dX12_judges_56 (by decide) ?_
    refine ga_iload_n 2 dX12_judges_58 rfl rfl ?_
    refine ga_iconst dX12_judges_59 ?_
    refine ga_iadd dX12_judges_60 ?_
    refine ga_imul dX12_judges_61 ?_
    refine ga_iload_n 3 dX12_judges_62 rfl rfl ?_
    refine ga_iadd dX12_judges_63 ?_
    obtain ⟨i10, h⟩ := h
    refine ga_iald (nI := 448) dX12_judges_64 rfl rfl i10 (fun r11 => ?_)
    refine ga_istore (ls' := [(4, vI (gI σ 116 ((64 * (x2 + 1)) + x3))), (0, .ref (G.2.1 88)), (1, vI x1), (2, vI x2), (3, vI x3)]) dX12_judges_65 (by decide) rfl ?_
    refine ga_iconst dX12_judges_67 ?_
    refine ga_istore (ls' := [(5, vI 0), (4, vI (gI σ 116 ((64 * (x2 + 1)) + x3))), (0, .ref (G.2.1 88)), (1, vI x1), (2, vI x2), (3, vI x3)]) dX12_judges_68 (by decide) rfl ?_
    exact ga_sub [2, 3, 4, 5, 1, 0] rfl h
set_option maxRecDepth 100000 in
set_option maxHeartbeats 4000000 in
theorem vX12_judges_70 {l : Launch} {G : gG}  (x1 : Int) (x2 : Int) (x3 : Int) (x4 : Int) (x5 : Int) (rx1 : gR x1) (rx2 : gR x2) (rx3 : gR x3) (rx4 : gR x4) (rx5 : gR x5) (σ : gS) (Q : gS → Prop) (h : ((gI σ 88 10) ≤ x5 → (0 ≤ ((64 * x2) + x3) ∧ ((64 * x2) + x3) < 448) ∧ ∀ σ15, σ15 = sI σ 116 ((64 * x2) + x3) x4 →
    kX12_judges_42 l G  x1 x2 (x3 + 1) σ15 Q) ∧
  (x5 < (gI σ 88 10) → ((gand (gshr x3 x5) 1) = 1 → kX12_judges_70 l G  x1 x2 x3 x4 (x5 + 1) σ Q) ∧
    (¬ (gand (gshr x3 x5) 1) = 1 → eX12_at l G x2 x5 σ (fun v21 σ19 => gR v21 →
      (0 ≤ v21 ∧ v21 < 36) ∧ (¬ (gI σ19 95 v21) = 0 → eX12_worth l G x2 x5 x1 σ19 (fun v27 σ25 => gR v27 →
        (0 ≤ ((64 * (x2 + 1)) + (gor x3 (gshl 1 x5))) ∧ ((64 * (x2 + 1)) + (gor x3 (gshl 1 x5))) < 448) ∧ ((gR (v27 + (gI σ25 116 ((64 * (x2 + 1)) + (gor x3 (gshl 1 x5)))))) ∧ ((v27 + (gI σ25 116 ((64 * (x2 + 1)) + (gor x3 (gshl 1 x5))))) ≤ x4 → True) ∧
        (x4 < (v27 + (gI σ25 116 ((64 * (x2 + 1)) + (gor x3 (gshl 1 x5))))) → True)) ∧
        (∀ v35 : Int, v35 = (if (v27 + (gI σ25 116 ((64 * (x2 + 1)) + (gor x3 (gshl 1 x5))))) ≤ x4 then x4 else (v27 + (gI σ25 116 ((64 * (x2 + 1)) + (gor x3 (gshl 1 x5)))))) →
        kX12_judges_70 l G  x1 x2 x3 v35 (x5 + 1) σ25 Q))) ∧
      ((gI σ19 95 v21) = 0 → kX12_judges_70 l G  x1 x2 x3 x4 (x5 + 1) σ19 Q))))) : kX12_judges_70 l G  x1 x2 x3 x4 x5 σ Q := by
  refine ga_iload 5 dX12_judges_70 rfl ?_
  refine ga_aload_n 0 dX12_judges_72 rfl rfl ?_
  refine ga_getI (kI := 10) dX12_judges_73 fX12_236 rfl rfl rfl (fun r12 => ?_)
  obtain ⟨ht, hf⟩ := h
  refine ga_icmp_ge (tgt := 157) dX12_judges_76 (by decide) rx5 r12 (fun q13 => ?_) (fun q13 => ?_)
  · replace q13 : (gI σ 88 10) ≤ x5 := q13
    have h := ht q13
    refine ga_aload_n 0 dX12_judges_157 rfl rfl ?_
    refine ga_getR (kI := 48) (r := 116) dX12_judges_158 fX12_92 rfl rfl (by decide) rfl ?_
    refine ga_bipush dX12_judges_161 (by decide) ?_
    refine ga_iload_n 2 dX12_judges_163 rfl rfl ?_
    refine ga_imul dX12_judges_164 ?_
    refine ga_iload_n 3 dX12_judges_165 rfl rfl ?_
    refine ga_iadd dX12_judges_166 ?_
    refine ga_iload 4 dX12_judges_167 rfl ?_
    obtain ⟨i14, h⟩ := h
    obtain ⟨σ15, eσ15⟩ : ∃ z, z = sI σ 116 ((64 * x2) + x3) x4 := ⟨_, rfl⟩
    replace h := h σ15 eσ15
    refine ga_iast (nI := 448) dX12_judges_169 rfl rfl i14 rx4 eσ15 ?_
    refine ga_iinc (ls' := [(3, vI (x3 + 1)), (0, .ref (G.2.1 88)), (1, vI x1), (2, vI x2), (4, vI x4), (5, vI x5)]) 3 dX12_judges_170 rfl (by decide) rfl ?_
    refine ga_goto (tgt := 42) dX12_judges_173 (by decide) ?_
    exact ga_sub [1, 2, 3, 0] rfl h
  · replace q13 : x5 < (gI σ 88 10) := (Int.not_le.mp q13)
    have h := hf q13
    refine ga_iload_n 3 dX12_judges_79 rfl rfl ?_
    refine ga_iload 5 dX12_judges_80 rfl ?_
    refine ga_ishr dX12_judges_82 (fun r16 => ?_)
    refine ga_iconst dX12_judges_83 ?_
    refine ga_iand dX12_judges_84 (fun r17 => ?_)
    refine ga_iconst dX12_judges_85 ?_
    obtain ⟨ht, hf⟩ := h
    refine ga_icmp_eq (tgt := 151) dX12_judges_86 (by decide) r17 (by decide) (fun q18 => ?_) (fun q18 => ?_)
    · replace q18 : (gand (gshr x3 x5) 1) = 1 := q18
      have h := ht q18
      refine ga_iinc (ls' := [(5, vI (x5 + 1)), (0, .ref (G.2.1 88)), (1, vI x1), (2, vI x2), (3, vI x3), (4, vI x4)]) 5 dX12_judges_151 rfl (by decide) rfl ?_
      refine ga_goto (tgt := 70) dX12_judges_154 (by decide) ?_
      exact ga_sub [1, 2, 3, 4, 5, 0] rfl h
    · replace q18 : ¬ (gand (gshr x3 x5) 1) = 1 := q18
      have h := hf q18
      refine ga_aload_n 0 dX12_judges_89 rfl rfl ?_
      refine ga_getR (kI := 18) (r := 95) dX12_judges_90 fX12_29 rfl rfl (by decide) rfl ?_
      refine ga_iload_n 2 dX12_judges_93 rfl rfl ?_
      refine ga_iload 5 dX12_judges_94 rfl ?_
      refine ga_callSi (z := mX12_at) (As := [vI x2, vI x5]) (rest := [.ref (G.2.1 95)]) dX12_judges_96 wX12_279 qX12_judges_X12_at rfl rfl (Nat.le_of_ble_eq_true rfl) (gEi_mono h (fun v21 σ19 h r20 => ?_))
      replace h := h r20
      obtain ⟨i22, h⟩ := h
      refine ga_iald (nI := 36) dX12_judges_99 rfl rfl i22 (fun r23 => ?_)
      obtain ⟨ht, hf⟩ := h
      refine ga_if_ne (tgt := 106) dX12_judges_100 (by decide) r23 (fun q24 => ?_) (fun q24 => ?_)
      · replace q24 : ¬ (gI σ19 95 v21) = 0 := q24
        have h := ht q24
        refine ga_aload_n 0 dX12_judges_106 rfl rfl ?_
        refine ga_iload_n 2 dX12_judges_107 rfl rfl ?_
        refine ga_iload 5 dX12_judges_108 rfl ?_
        refine ga_iload_n 1 dX12_judges_110 rfl rfl ?_
        refine ga_callVi (z := mX12_worth) (As := [vI x2, vI x5, vI x1]) (rest := []) dX12_judges_111 wX12_369 qX12_judges_X12_worth rfl ⟨_, rfl, rfl⟩ rfl rfl (Nat.le_of_ble_eq_true rfl) (gEi_mono h (fun v27 σ25 h r26 => ?_))
        replace h := h r26
        refine ga_aload_n 0 dX12_judges_114 rfl rfl ?_
        refine ga_getR (kI := 48) (r := 116) dX12_judges_115 fX12_92 rfl rfl (by decide) rfl ?_
        refine ga_bipush dX12_judges_118 (by decide) ?_
        refine ga_iload_n 2 dX12_judges_120 rfl rfl ?_
        refine ga_iconst dX12_judges_121 ?_
        refine ga_iadd dX12_judges_122 ?_
        refine ga_imul dX12_judges_123 ?_
        refine ga_iload_n 3 dX12_judges_124 rfl rfl ?_
        refine ga_iconst dX12_judges_125 ?_
        refine ga_iload 5 dX12_judges_126 rfl ?_
        refine ga_ishl dX12_judges_128 (fun r28 => ?_)
        refine ga_ior dX12_judges_129 (fun r29 => ?_)
        refine ga_iadd dX12_judges_130 ?_
        obtain ⟨i30, h⟩ := h
        refine ga_iald (nI := 448) dX12_judges_131 rfl rfl i30 (fun r31 => ?_)
        refine ga_iadd dX12_judges_132 ?_
        refine ga_istore (ls' := [(6, vI (v27 + (gI σ25 116 ((64 * (x2 + 1)) + (gor x3 (gshl 1 x5)))))), (0, .ref (G.2.1 88)), (1, vI x1), (2, vI x2), (3, vI x3), (4, vI x4), (5, vI x5)]) dX12_judges_133 (by decide) rfl ?_
        refine ga_iload 0 dX12_judges_135 rfl ?_
        refine ga_iload 5 dX12_judges_137 rfl ?_
        obtain ⟨hob, h⟩ := h
        have kJ32 : ∀ v35 : Int, gR v35 → v35 = (if (v27 + (gI σ25 116 ((64 * (x2 + 1)) + (gor x3 (gshl 1 x5))))) ≤ x4 then x4 else (v27 + (gI σ25 116 ((64 * (x2 + 1)) + (gor x3 (gshl 1 x5)))))) → gAt l G mX12_judges (gQv G Q) 149 [(6, vI (v27 + (gI σ25 116 ((64 * (x2 + 1)) + (gor x3 (gshl 1 x5)))))), (0, .ref (G.2.1 88)), (1, vI x1), (2, vI x2), (3, vI x3), (4, vI x4), (5, vI x5)] [vI v35] σ25 := by
          intro v35 rv35 ev35
          replace h := h v35 ev35
          refine ga_istore (ls' := [(4, vI v35), (6, vI (v27 + (gI σ25 116 ((64 * (x2 + 1)) + (gor x3 (gshl 1 x5)))))), (0, .ref (G.2.1 88)), (1, vI x1), (2, vI x2), (3, vI x3), (5, vI x5)]) dX12_judges_149 (by decide) rfl ?_
          refine ga_iinc (ls' := [(5, vI (x5 + 1)), (4, vI v35), (6, vI (v27 + (gI σ25 116 ((64 * (x2 + 1)) + (gor x3 (gshl 1 x5)))))), (0, .ref (G.2.1 88)), (1, vI x1), (2, vI x2), (3, vI x3)]) 6 dX12_judges_151 rfl (by decide) rfl ?_
          refine ga_goto (tgt := 70) dX12_judges_154 (by decide) ?_
          exact ga_sub [3, 4, 5, 6, 1, 0] rfl h
        replace h := hob
        obtain ⟨r33, h⟩ := h
        obtain ⟨ht, hf⟩ := h
        refine ga_icmp_le (tgt := 147) dX12_judges_139 (by decide) r33 rx4 (fun q34 => ?_) (fun q34 => ?_)
        · replace q34 : (v27 + (gI σ25 116 ((64 * (x2 + 1)) + (gor x3 (gshl 1 x5))))) ≤ x4 := q34
          have h := ht q34
          refine ga_iload 5 dX12_judges_147 rfl ?_
          exact kJ32 x4 rx4 (by rw [if_pos q34])
        · replace q34 : x4 < (v27 + (gI σ25 116 ((64 * (x2 + 1)) + (gor x3 (gshl 1 x5))))) := (Int.not_le.mp q34)
          have h := hf q34
          refine ga_iload 0 dX12_judges_142 rfl ?_
          refine ga_goto (tgt := 149) dX12_judges_144 (by decide) ?_
          exact kJ32 (v27 + (gI σ25 116 ((64 * (x2 + 1)) + (gor x3 (gshl 1 x5))))) r33 (by rw [if_neg (Int.not_le.mpr q34)])
      · replace q24 : (gI σ19 95 v21) = 0 := (Decidable.not_not.mp q24)
        have h := hf q24
        refine ga_goto (tgt := 151) dX12_judges_103 (by decide) ?_
        refine ga_iinc (ls' := [(5, vI (x5 + 1)), (0, .ref (G.2.1 88)), (1, vI x1), (2, vI x2), (3, vI x3), (4, vI x4)]) 5 dX12_judges_151 rfl (by decide) rfl ?_
        refine ga_goto (tgt := 70) dX12_judges_154 (by decide) ?_
        exact ga_sub [1, 2, 3, 4, 5, 0] rfl h
abbrev eX12_rowOf (l : Launch) (G : gG) (x1 : Int) (σ : gS) (Q : Int → gS → Prop) : Prop := gEi l G mX12_rowOf [.ref (G.2.1 88), vI x1] σ Q
abbrev kX12_rowOf_8 (l : Launch) (G : gG)  (x1 : Int) (x2 : Int) (x3 : Int) (x4 : Int) (σ : gS) (Q : Int → gS → Prop) : Prop := gAt l G mX12_rowOf (gQi G Q) 8 [(0, .ref (G.2.1 88)), (1, vI x1), (2, vI x2), (3, vI x3), (4, vI x4)] [] σ
abbrev kX12_rowOf_25 (l : Launch) (G : gG)  (x1 : Int) (x2 : Int) (x3 : Int) (x4 : Int) (x5 : Int) (σ : gS) (Q : Int → gS → Prop) : Prop := gAt l G mX12_rowOf (gQi G Q) 25 [(0, .ref (G.2.1 88)), (1, vI x1), (2, vI x2), (3, vI x3), (4, vI x4), (5, vI x5)] [] σ
set_option maxRecDepth 100000 in
set_option maxHeartbeats 4000000 in
theorem vX12_rowOf {l : Launch} {G : gG} (x1 : Int) (rx1 : gR x1) (σ : gS) (Q : Int → gS → Prop) (h : kX12_rowOf_8 l G  x1 0 6 0 σ Q) : eX12_rowOf l G x1 σ Q := by
  refine ga_entry rfl (Nat.le_of_ble_eq_true rfl) ?_
  show gAt l G mX12_rowOf (gQi G Q) 0 [(0, .ref (G.2.1 88)), (1, vI x1)] [] σ
  refine ga_iconst dX12_rowOf_0 ?_
  refine ga_istore_n (ls' := [(2, vI 0), (0, .ref (G.2.1 88)), (1, vI x1)]) dX12_rowOf_1 rfl (by decide) rfl ?_
  refine ga_bipush dX12_rowOf_2 (by decide) ?_
  refine ga_istore_n (ls' := [(3, vI 6), (2, vI 0), (0, .ref (G.2.1 88)), (1, vI x1)]) dX12_rowOf_4 rfl (by decide) rfl ?_
  refine ga_iconst dX12_rowOf_5 ?_
  refine ga_istore (ls' := [(4, vI 0), (3, vI 6), (2, vI 0), (0, .ref (G.2.1 88)), (1, vI x1)]) dX12_rowOf_6 (by decide) rfl ?_
  exact ga_sub [3, 4, 2, 1, 0] rfl h
set_option maxRecDepth 100000 in
set_option maxHeartbeats 4000000 in
theorem vX12_rowOf_8 {l : Launch} {G : gG}  (x1 : Int) (x2 : Int) (x3 : Int) (x4 : Int) (rx1 : gR x1) (rx2 : gR x2) (rx3 : gR x3) (rx4 : gR x4) (σ : gS) (Q : Int → gS → Prop) (h : (x1 < x4 → Q x3 σ) ∧
  (x4 ≤ x1 → kX12_rowOf_25 l G  x1 x2 6 x4 ((gI σ 88 10) - 1) σ Q)) : kX12_rowOf_8 l G  x1 x2 x3 x4 σ Q := by
  refine ga_iload 4 dX12_rowOf_8 rfl ?_
  refine ga_iload_n 1 dX12_rowOf_10 rfl rfl ?_
  obtain ⟨ht, hf⟩ := h
  refine ga_icmp_gt (tgt := 145) dX12_rowOf_11 (by decide) rx4 rx1 (fun q1 => ?_) (fun q1 => ?_)
  · replace q1 : x1 < x4 := q1
    have h := ht q1
    refine ga_iload_n 3 dX12_rowOf_145 rfl rfl ?_
    exact ga_iret dX12_rowOf_146 rfl rx3 h
  · replace q1 : x4 ≤ x1 := (Int.not_lt.mp q1)
    have h := hf q1
    refine ga_bipush dX12_rowOf_14 (by decide) ?_
    refine ga_istore_n (ls' := [(3, vI 6), (0, .ref (G.2.1 88)), (1, vI x1), (2, vI x2), (4, vI x4)]) dX12_rowOf_16 rfl (by decide) rfl ?_
    refine ga_aload_n 1 dX12_rowOf_17 rfl rfl ?_
    refine ga_getI (kI := 10) dX12_rowOf_18 fX12_236 rfl rfl rfl (fun r2 => ?_)
    refine ga_iconst dX12_rowOf_21 ?_
    refine ga_isub dX12_rowOf_22 ?_
    refine ga_istore (ls' := [(5, vI ((gI σ 88 10) - 1)), (3, vI 6), (0, .ref (G.2.1 88)), (1, vI x1), (2, vI x2), (4, vI x4)]) dX12_rowOf_23 (by decide) rfl ?_
    exact ga_sub [2, 3, 4, 1, 5, 0] rfl h
set_option maxRecDepth 100000 in
set_option maxHeartbeats 4000000 in
theorem vX12_rowOf_25 {l : Launch} {G : gG}  (x1 : Int) (x2 : Int) (x3 : Int) (x4 : Int) (x5 : Int) (rx1 : gR x1) (rx2 : gR x2) (rx3 : gR x3) (rx4 : gR x4) (rx5 : gR x5) (σ : gS) (Q : Int → gS → Prop) (h : (x5 < 0 → (∀ v7 : Int, v7 = (if x3 = 6 then 0 else (gshl 1 x3)) →
    kX12_rowOf_8 l G  x1 (gor x2 v7) x3 (x4 + 1) σ Q)) ∧
  (0 ≤ x5 → (¬ (gand (gshr x2 x5) 1) = 0 → kX12_rowOf_25 l G  x1 x2 x3 x4 (x5 + (-1)) σ Q) ∧
    ((gand (gshr x2 x5) 1) = 0 → eX12_at l G x4 x5 σ (fun v14 σ12 => gR v14 →
      (0 ≤ v14 ∧ v14 < 36) ∧ ((gI σ12 95 v14) ≤ 0 → kX12_rowOf_25 l G  x1 x2 x3 x4 (x5 + (-1)) σ12 Q) ∧
      (0 < (gI σ12 95 v14) → eX12_worth l G x4 x5 1 σ12 (fun v20 σ18 => gR v20 →
        (0 ≤ ((64 * (x4 + 1)) + (gor x2 (gshl 1 x5))) ∧ ((64 * (x4 + 1)) + (gor x2 (gshl 1 x5))) < 448) ∧ (0 ≤ ((64 * x4) + x2) ∧ ((64 * x4) + x2) < 448) ∧ ((gR (v20 + (gI σ18 116 ((64 * (x4 + 1)) + (gor x2 (gshl 1 x5)))))) ∧ (¬ (v20 + (gI σ18 116 ((64 * (x4 + 1)) + (gor x2 (gshl 1 x5))))) = (gI σ18 116 ((64 * x4) + x2)) → True) ∧
        ((v20 + (gI σ18 116 ((64 * (x4 + 1)) + (gor x2 (gshl 1 x5))))) = (gI σ18 116 ((64 * x4) + x2)) → True)) ∧
        (∀ v30 : Int, v30 = (if (v20 + (gI σ18 116 ((64 * (x4 + 1)) + (gor x2 (gshl 1 x5))))) = (gI σ18 116 ((64 * x4) + x2)) then 1 else 0) →
        (∀ v33 : Int, v33 = (if v30 = 0 then x3 else x5) →
          kX12_rowOf_25 l G  x1 x2 v33 x4 (x5 + (-1)) σ18 Q)))))))) : kX12_rowOf_25 l G  x1 x2 x3 x4 x5 σ Q := by
  refine ga_iload 5 dX12_rowOf_25 rfl ?_
  obtain ⟨ht, hf⟩ := h
  refine ga_if_lt (tgt := 123) dX12_rowOf_27 (by decide) rx5 (fun q3 => ?_) (fun q3 => ?_)
  · replace q3 : x5 < 0 := q3
    have h := ht q3
    refine ga_iload_n 2 dX12_rowOf_123 rfl rfl ?_
    refine ga_iload_n 3 dX12_rowOf_124 rfl rfl ?_
    refine ga_bipush dX12_rowOf_125 (by decide) ?_
    have kJ4 : ∀ v7 : Int, gR v7 → v7 = (if x3 = 6 then 0 else (gshl 1 x3)) → gAt l G mX12_rowOf (gQi G Q) 137 [(0, .ref (G.2.1 88)), (1, vI x1), (2, vI x2), (3, vI x3), (4, vI x4), (5, vI x5)] [vI v7, vI x2] σ := by
      intro v7 rv7 ev7
      replace h := h v7 ev7
      refine ga_ior dX12_rowOf_137 (fun r8 => ?_)
      refine ga_istore_n (ls' := [(2, vI (gor x2 v7)), (0, .ref (G.2.1 88)), (1, vI x1), (3, vI x3), (4, vI x4), (5, vI x5)]) dX12_rowOf_138 rfl (by decide) rfl ?_
      refine ga_iinc (ls' := [(4, vI (x4 + 1)), (2, vI (gor x2 v7)), (0, .ref (G.2.1 88)), (1, vI x1), (3, vI x3), (5, vI x5)]) 4 dX12_rowOf_139 rfl (by decide) rfl ?_
      refine ga_goto (tgt := 8) dX12_rowOf_142 (by decide) ?_
      exact ga_sub [2, 3, 1, 4, 0] rfl h
    replace h : (¬ x3 = 6 → True) ∧
    (x3 = 6 → True) := by repeat (first | exact True.intro | apply And.intro | intro _)
    obtain ⟨ht, hf⟩ := h
    refine ga_icmp_ne (tgt := 134) dX12_rowOf_127 (by decide) rx3 (by decide) (fun q5 => ?_) (fun q5 => ?_)
    · replace q5 : ¬ x3 = 6 := q5
      have h := ht q5
      refine ga_iconst dX12_rowOf_134 ?_
      refine ga_iload_n 3 dX12_rowOf_135 rfl rfl ?_
      refine ga_ishl dX12_rowOf_136 (fun r6 => ?_)
      exact kJ4 (gshl 1 x3) r6 (by rw [if_neg q5])
    · replace q5 : x3 = 6 := (Decidable.not_not.mp q5)
      have h := hf q5
      refine ga_iconst dX12_rowOf_130 ?_
      refine ga_goto (tgt := 137) dX12_rowOf_131 (by decide) ?_
      exact kJ4 0 (by decide) (by rw [if_pos q5])
  · replace q3 : 0 ≤ x5 := (Int.not_lt.mp q3)
    have h := hf q3
    refine ga_iload_n 2 dX12_rowOf_30 rfl rfl ?_
    refine ga_iload 5 dX12_rowOf_31 rfl ?_
    refine ga_ishr dX12_rowOf_33 (fun r9 => ?_)
    refine ga_iconst dX12_rowOf_34 ?_
    refine ga_iand dX12_rowOf_35 (fun r10 => ?_)
    obtain ⟨ht, hf⟩ := h
    refine ga_if_ne (tgt := 102) dX12_rowOf_36 (by decide) r10 (fun q11 => ?_) (fun q11 => ?_)
    · replace q11 : ¬ (gand (gshr x2 x5) 1) = 0 := q11
      have h := ht q11
      refine ga_iconst dX12_rowOf_102 ?_
      refine ga_istore (ls' := [(6, vI 0), (0, .ref (G.2.1 88)), (1, vI x1), (2, vI x2), (3, vI x3), (4, vI x4), (5, vI x5)]) dX12_rowOf_103 (by decide) rfl ?_
      refine ga_iload 0 dX12_rowOf_105 rfl ?_
      refine ga_if_eq (x := 0) (tgt := 115) dX12_rowOf_107 (by decide) (by decide) (fun _ => ?_) (fun q => absurd (by decide) q)
      refine ga_iload_n 4 dX12_rowOf_115 rfl rfl ?_
      refine ga_istore_n (ls' := [(3, vI x3), (6, vI 0), (0, .ref (G.2.1 88)), (1, vI x1), (2, vI x2), (4, vI x4), (5, vI x5)]) dX12_rowOf_116 rfl (by decide) rfl ?_
      refine ga_iinc (ls' := [(5, vI (x5 + (-1))), (3, vI x3), (6, vI 0), (0, .ref (G.2.1 88)), (1, vI x1), (2, vI x2), (4, vI x4)]) 6 dX12_rowOf_117 rfl (by decide) rfl ?_
      refine ga_goto (tgt := 25) dX12_rowOf_120 (by decide) ?_
      exact ga_sub [3, 4, 5, 1, 6, 0] rfl h
    · replace q11 : (gand (gshr x2 x5) 1) = 0 := (Decidable.not_not.mp q11)
      have h := hf q11
      refine ga_aload_n 0 dX12_rowOf_39 rfl rfl ?_
      refine ga_getR (kI := 18) (r := 95) dX12_rowOf_40 fX12_29 rfl rfl (by decide) rfl ?_
      refine ga_iload 4 dX12_rowOf_43 rfl ?_
      refine ga_iload 5 dX12_rowOf_45 rfl ?_
      refine ga_callSi (z := mX12_at) (As := [vI x4, vI x5]) (rest := [.ref (G.2.1 95)]) dX12_rowOf_47 wX12_279 qX12_rowOf_X12_at rfl rfl (Nat.le_of_ble_eq_true rfl) (gEi_mono h (fun v14 σ12 h r13 => ?_))
      replace h := h r13
      obtain ⟨i15, h⟩ := h
      refine ga_iald (nI := 36) dX12_rowOf_50 rfl rfl i15 (fun r16 => ?_)
      obtain ⟨ht, hf⟩ := h
      refine ga_if_le (tgt := 102) dX12_rowOf_51 (by decide) r16 (fun q17 => ?_) (fun q17 => ?_)
      · replace q17 : (gI σ12 95 v14) ≤ 0 := q17
        have h := ht q17
        refine ga_iconst dX12_rowOf_102 ?_
        refine ga_istore (ls' := [(6, vI 0), (0, .ref (G.2.1 88)), (1, vI x1), (2, vI x2), (3, vI x3), (4, vI x4), (5, vI x5)]) dX12_rowOf_103 (by decide) rfl ?_
        refine ga_iload 0 dX12_rowOf_105 rfl ?_
        refine ga_if_eq (x := 0) (tgt := 115) dX12_rowOf_107 (by decide) (by decide) (fun _ => ?_) (fun q => absurd (by decide) q)
        refine ga_iload_n 4 dX12_rowOf_115 rfl rfl ?_
        refine ga_istore_n (ls' := [(3, vI x3), (6, vI 0), (0, .ref (G.2.1 88)), (1, vI x1), (2, vI x2), (4, vI x4), (5, vI x5)]) dX12_rowOf_116 rfl (by decide) rfl ?_
        refine ga_iinc (ls' := [(5, vI (x5 + (-1))), (3, vI x3), (6, vI 0), (0, .ref (G.2.1 88)), (1, vI x1), (2, vI x2), (4, vI x4)]) 6 dX12_rowOf_117 rfl (by decide) rfl ?_
        refine ga_goto (tgt := 25) dX12_rowOf_120 (by decide) ?_
        exact ga_sub [3, 4, 5, 1, 6, 0] rfl h
      · replace q17 : 0 < (gI σ12 95 v14) := (Int.not_le.mp q17)
        have h := hf q17
        refine ga_aload_n 0 dX12_rowOf_54 rfl rfl ?_
        refine ga_iload 4 dX12_rowOf_55 rfl ?_
        refine ga_iload 5 dX12_rowOf_57 rfl ?_
        refine ga_iconst dX12_rowOf_59 ?_
        refine ga_callVi (z := mX12_worth) (As := [vI x4, vI x5, vI 1]) (rest := []) dX12_rowOf_60 wX12_369 qX12_rowOf_X12_worth rfl ⟨_, rfl, rfl⟩ rfl rfl (Nat.le_of_ble_eq_true rfl) (gEi_mono h (fun v20 σ18 h r19 => ?_))
        replace h := h r19
        refine ga_aload_n 0 dX12_rowOf_63 rfl rfl ?_
        refine ga_getR (kI := 48) (r := 116) dX12_rowOf_64 fX12_92 rfl rfl (by decide) rfl ?_
        refine ga_bipush dX12_rowOf_67 (by decide) ?_
        refine ga_iload 4 dX12_rowOf_69 rfl ?_
        refine ga_iconst dX12_rowOf_71 ?_
        refine ga_iadd dX12_rowOf_72 ?_
        refine ga_imul dX12_rowOf_73 ?_
        refine ga_iload_n 2 dX12_rowOf_74 rfl rfl ?_
        refine ga_iconst dX12_rowOf_75 ?_
        refine ga_iload 5 dX12_rowOf_76 rfl ?_
        refine ga_ishl dX12_rowOf_78 (fun r21 => ?_)
        refine ga_ior dX12_rowOf_79 (fun r22 => ?_)
        refine ga_iadd dX12_rowOf_80 ?_
        obtain ⟨i23, h⟩ := h
        refine ga_iald (nI := 448) dX12_rowOf_81 rfl rfl i23 (fun r24 => ?_)
        refine ga_iadd dX12_rowOf_82 ?_
        refine ga_aload_n 0 dX12_rowOf_83 rfl rfl ?_
        refine ga_getR (kI := 48) (r := 116) dX12_rowOf_84 fX12_92 rfl rfl (by decide) rfl ?_
        refine ga_bipush dX12_rowOf_87 (by decide) ?_
        refine ga_iload 4 dX12_rowOf_89 rfl ?_
        refine ga_imul dX12_rowOf_91 ?_
        refine ga_iload_n 2 dX12_rowOf_92 rfl rfl ?_
        refine ga_iadd dX12_rowOf_93 ?_
        obtain ⟨i25, h⟩ := h
        refine ga_iald (nI := 448) dX12_rowOf_94 rfl rfl i25 (fun r26 => ?_)
        obtain ⟨hob, h⟩ := h
        have kJ27 : ∀ v30 : Int, gR v30 → (v30 = 0 ∨ v30 = 1) → v30 = (if (v20 + (gI σ18 116 ((64 * (x4 + 1)) + (gor x2 (gshl 1 x5))))) = (gI σ18 116 ((64 * x4) + x2)) then 1 else 0) → gAt l G mX12_rowOf (gQi G Q) 103 [(0, .ref (G.2.1 88)), (1, vI x1), (2, vI x2), (3, vI x3), (4, vI x4), (5, vI x5)] [vI v30] σ18 := by
          intro v30 rv30 bv30 ev30
          replace h := h v30 ev30
          refine ga_istore (ls' := [(6, vI v30), (0, .ref (G.2.1 88)), (1, vI x1), (2, vI x2), (3, vI x3), (4, vI x4), (5, vI x5)]) dX12_rowOf_103 (by decide) rfl ?_
          refine ga_iload 0 dX12_rowOf_105 rfl ?_
          have kJ31 : ∀ v33 : Int, gR v33 → v33 = (if v30 = 0 then x3 else x5) → gAt l G mX12_rowOf (gQi G Q) 116 [(6, vI v30), (0, .ref (G.2.1 88)), (1, vI x1), (2, vI x2), (3, vI x3), (4, vI x4), (5, vI x5)] [vI v33] σ18 := by
            intro v33 rv33 ev33
            replace h := h v33 ev33
            refine ga_istore_n (ls' := [(3, vI v33), (6, vI v30), (0, .ref (G.2.1 88)), (1, vI x1), (2, vI x2), (4, vI x4), (5, vI x5)]) dX12_rowOf_116 rfl (by decide) rfl ?_
            refine ga_iinc (ls' := [(5, vI (x5 + (-1))), (3, vI v33), (6, vI v30), (0, .ref (G.2.1 88)), (1, vI x1), (2, vI x2), (4, vI x4)]) 6 dX12_rowOf_117 rfl (by decide) rfl ?_
            refine ga_goto (tgt := 25) dX12_rowOf_120 (by decide) ?_
            exact ga_sub [3, 4, 5, 1, 6, 0] rfl h
          replace h : (v30 = 0 → True) ∧
          (¬ v30 = 0 → True) := by repeat (first | exact True.intro | apply And.intro | intro _)
          obtain ⟨ht, hf⟩ := h
          refine ga_if_eq (tgt := 115) dX12_rowOf_107 (by decide) rv30 (fun q32 => ?_) (fun q32 => ?_)
          · replace q32 : v30 = 0 := q32
            have h := ht q32
            refine ga_iload_n 4 dX12_rowOf_115 rfl rfl ?_
            exact kJ31 x3 rx3 (by rw [if_pos q32])
          · replace q32 : ¬ v30 = 0 := q32
            have h := hf q32
            refine ga_iload 6 dX12_rowOf_110 rfl ?_
            refine ga_goto (tgt := 116) dX12_rowOf_112 (by decide) ?_
            exact kJ31 x5 rx5 (by rw [if_neg q32])
        replace h := hob
        obtain ⟨r28, h⟩ := h
        obtain ⟨ht, hf⟩ := h
        refine ga_icmp_ne (tgt := 102) dX12_rowOf_95 (by decide) r28 r26 (fun q29 => ?_) (fun q29 => ?_)
        · replace q29 : ¬ (v20 + (gI σ18 116 ((64 * (x4 + 1)) + (gor x2 (gshl 1 x5))))) = (gI σ18 116 ((64 * x4) + x2)) := q29
          have h := ht q29
          refine ga_iconst dX12_rowOf_102 ?_
          exact kJ27 0 (by decide) (Or.inl rfl) (by rw [if_neg q29])
        · replace q29 : (v20 + (gI σ18 116 ((64 * (x4 + 1)) + (gor x2 (gshl 1 x5))))) = (gI σ18 116 ((64 * x4) + x2)) := (Decidable.not_not.mp q29)
          have h := hf q29
          refine ga_iconst dX12_rowOf_98 ?_
          refine ga_goto (tgt := 103) dX12_rowOf_99 (by decide) ?_
          exact kJ27 1 (by decide) (Or.inr rfl) (by rw [if_pos q29])
abbrev eX12_tries (l : Launch) (G : gG) (x1 : Int) (σ : gS) (Q : gS → Prop) : Prop := gEv l G mX12_tries [.ref (G.2.1 88), vI x1] σ Q
abbrev kX12_tries_2 (l : Launch) (G : gG)  (x1 : Int) (x2 : Int) (σ : gS) (Q : gS → Prop) : Prop := gAt l G mX12_tries (gQv G Q) 2 [(0, .ref (G.2.1 88)), (1, vI x1), (2, vI x2)] [] σ
abbrev kX12_tries_59 (l : Launch) (G : gG)  (x1 : Int) (x2 : Int) (σ : gS) (Q : gS → Prop) : Prop := gAt l G mX12_tries (gQv G Q) 59 [(0, .ref (G.2.1 88)), (1, vI x1), (2, vI x2)] [] σ
set_option maxRecDepth 100000 in
set_option maxHeartbeats 4000000 in
theorem vX12_tries {l : Launch} {G : gG} (x1 : Int) (rx1 : gR x1) (σ : gS) (Q : gS → Prop) (h : kX12_tries_2 l G  x1 0 σ Q) : eX12_tries l G x1 σ Q := by
  refine ga_entry rfl (Nat.le_of_ble_eq_true rfl) ?_
  show gAt l G mX12_tries (gQv G Q) 0 [(0, .ref (G.2.1 88)), (1, vI x1)] [] σ
  refine ga_iconst dX12_tries_0 ?_
  refine ga_istore_n (ls' := [(2, vI 0), (0, .ref (G.2.1 88)), (1, vI x1)]) dX12_tries_1 rfl (by decide) rfl ?_
  exact ga_sub [1, 2, 0] rfl h
set_option maxRecDepth 100000 in
set_option maxHeartbeats 4000000 in
theorem vX12_tries_2 {l : Launch} {G : gG}  (x1 : Int) (x2 : Int) (rx1 : gR x1) (rx2 : gR x2) (σ : gS) (Q : gS → Prop) (h : (6 ≤ x2 → ∀ σ2, σ2 = sI σ 88 41 0 →
    ∀ σ3, σ3 = sI σ2 88 42 0 →
    eX12_matches l G x1 0 σ3 (fun σ4 =>
    kX12_tries_59 l G  x1 0 σ4 Q)) ∧
  (x2 < 6 → (0 ≤ x2 ∧ x2 < 6) ∧ (0 ≤ x2 ∧ x2 < 12) ∧ ∀ σ9, σ9 = sI σ 117 x2 (gI σ 92 x2) →
    (0 ≤ (6 + x2) ∧ (6 + x2) < 12) ∧ ∀ σ12, σ12 = sI σ9 117 (6 + x2) (gI σ9 93 x2) →
    kX12_tries_2 l G  x1 (x2 + 1) σ12 Q)) : kX12_tries_2 l G  x1 x2 σ Q := by
  refine ga_iload_n 2 dX12_tries_2 rfl rfl ?_
  refine ga_bipush dX12_tries_3 (by decide) ?_
  obtain ⟨ht, hf⟩ := h
  refine ga_icmp_ge (tgt := 41) dX12_tries_5 (by decide) rx2 (by decide) (fun q1 => ?_) (fun q1 => ?_)
  · replace q1 : 6 ≤ x2 := q1
    have h := ht q1
    refine ga_aload_n 0 dX12_tries_41 rfl rfl ?_
    refine ga_iconst dX12_tries_42 ?_
    obtain ⟨σ2, eσ2⟩ : ∃ z, z = sI σ 88 41 0 := ⟨_, rfl⟩
    replace h := h σ2 eσ2
    refine ga_putI (kI := 41) dX12_tries_43 fX12_299 pX12_41 rfl rfl rfl (by decide) eσ2 ?_
    refine ga_aload_n 0 dX12_tries_46 rfl rfl ?_
    refine ga_iconst dX12_tries_47 ?_
    obtain ⟨σ3, eσ3⟩ : ∃ z, z = sI σ2 88 42 0 := ⟨_, rfl⟩
    replace h := h σ3 eσ3
    refine ga_putI (kI := 42) dX12_tries_48 fX12_302 pX12_42 rfl rfl rfl (by decide) eσ3 ?_
    refine ga_aload_n 0 dX12_tries_51 rfl rfl ?_
    refine ga_iload_n 1 dX12_tries_52 rfl rfl ?_
    refine ga_iconst dX12_tries_53 ?_
    refine ga_callVv (z := mX12_matches) (As := [vI x1, vI 0]) (rest := []) dX12_tries_54 wX12_318 qX12_tries_X12_matches rfl ⟨_, rfl, rfl⟩ rfl rfl (Nat.le_of_ble_eq_true rfl) (gEv_mono h (fun σ4 h => ?_))
    refine ga_iconst dX12_tries_57 ?_
    refine ga_istore_n (ls' := [(2, vI 0), (0, .ref (G.2.1 88)), (1, vI x1)]) dX12_tries_58 rfl (by decide) rfl ?_
    exact ga_sub [1, 2, 0] rfl h
  · replace q1 : x2 < 6 := (Int.not_le.mp q1)
    have h := hf q1
    refine ga_aload_n 0 dX12_tries_8 rfl rfl ?_
    refine ga_getR (kI := 49) (r := 117) dX12_tries_9 fX12_95 rfl rfl (by decide) rfl ?_
    refine ga_iload_n 2 dX12_tries_12 rfl rfl ?_
    refine ga_aload_n 0 dX12_tries_13 rfl rfl ?_
    refine ga_getR (kI := 15) (r := 92) dX12_tries_14 fX12_20 rfl rfl (by decide) rfl ?_
    refine ga_iload_n 2 dX12_tries_17 rfl rfl ?_
    obtain ⟨i6, h⟩ := h
    refine ga_iald (nI := 6) dX12_tries_18 rfl rfl i6 (fun r7 => ?_)
    obtain ⟨i8, h⟩ := h
    obtain ⟨σ9, eσ9⟩ : ∃ z, z = sI σ 117 x2 (gI σ 92 x2) := ⟨_, rfl⟩
    replace h := h σ9 eσ9
    refine ga_iast (nI := 12) dX12_tries_19 rfl rfl i8 r7 eσ9 ?_
    refine ga_aload_n 0 dX12_tries_20 rfl rfl ?_
    refine ga_getR (kI := 49) (r := 117) dX12_tries_21 fX12_95 rfl rfl (by decide) rfl ?_
    refine ga_bipush dX12_tries_24 (by decide) ?_
    refine ga_iload_n 2 dX12_tries_26 rfl rfl ?_
    refine ga_iadd dX12_tries_27 ?_
    refine ga_aload_n 0 dX12_tries_28 rfl rfl ?_
    refine ga_getR (kI := 16) (r := 93) dX12_tries_29 fX12_23 rfl rfl (by decide) rfl ?_
    refine ga_iload_n 2 dX12_tries_32 rfl rfl ?_
    refine ga_iald (nI := 6) dX12_tries_33 rfl rfl i6 (fun r10 => ?_)
    obtain ⟨i11, h⟩ := h
    obtain ⟨σ12, eσ12⟩ : ∃ z, z = sI σ9 117 (6 + x2) (gI σ9 93 x2) := ⟨_, rfl⟩
    replace h := h σ12 eσ12
    refine ga_iast (nI := 12) dX12_tries_34 rfl rfl i11 r10 eσ12 ?_
    refine ga_iinc (ls' := [(2, vI (x2 + 1)), (0, .ref (G.2.1 88)), (1, vI x1)]) 2 dX12_tries_35 rfl (by decide) rfl ?_
    refine ga_goto (tgt := 2) dX12_tries_38 (by decide) ?_
    exact ga_sub [1, 2, 0] rfl h
set_option maxRecDepth 100000 in
set_option maxHeartbeats 4000000 in
theorem vX12_tries_59 {l : Launch} {G : gG}  (x1 : Int) (x2 : Int) (rx1 : gR x1) (rx2 : gR x2) (σ : gS) (Q : gS → Prop) (h : (6 ≤ x2 → Q σ) ∧
  (x2 < 6 → (0 ≤ x2 ∧ x2 < 12) ∧ (0 ≤ x2 ∧ x2 < 6) ∧ ∀ σ17, σ17 = sI σ 92 x2 (gI σ 117 x2) →
    (0 ≤ (6 + x2) ∧ (6 + x2) < 12) ∧ ∀ σ20, σ20 = sI σ17 93 x2 (gI σ17 117 (6 + x2)) →
    kX12_tries_59 l G  x1 (x2 + 1) σ20 Q)) : kX12_tries_59 l G  x1 x2 σ Q := by
  refine ga_iload_n 2 dX12_tries_59 rfl rfl ?_
  refine ga_bipush dX12_tries_60 (by decide) ?_
  obtain ⟨ht, hf⟩ := h
  refine ga_icmp_ge (tgt := 98) dX12_tries_62 (by decide) rx2 (by decide) (fun q13 => ?_) (fun q13 => ?_)
  · replace q13 : 6 ≤ x2 := q13
    have h := ht q13
    exact ga_vret dX12_tries_98 rfl h
  · replace q13 : x2 < 6 := (Int.not_le.mp q13)
    have h := hf q13
    refine ga_aload_n 0 dX12_tries_65 rfl rfl ?_
    refine ga_getR (kI := 15) (r := 92) dX12_tries_66 fX12_20 rfl rfl (by decide) rfl ?_
    refine ga_iload_n 2 dX12_tries_69 rfl rfl ?_
    refine ga_aload_n 0 dX12_tries_70 rfl rfl ?_
    refine ga_getR (kI := 49) (r := 117) dX12_tries_71 fX12_95 rfl rfl (by decide) rfl ?_
    refine ga_iload_n 2 dX12_tries_74 rfl rfl ?_
    obtain ⟨i14, h⟩ := h
    refine ga_iald (nI := 12) dX12_tries_75 rfl rfl i14 (fun r15 => ?_)
    obtain ⟨i16, h⟩ := h
    obtain ⟨σ17, eσ17⟩ : ∃ z, z = sI σ 92 x2 (gI σ 117 x2) := ⟨_, rfl⟩
    replace h := h σ17 eσ17
    refine ga_iast (nI := 6) dX12_tries_76 rfl rfl i16 r15 eσ17 ?_
    refine ga_aload_n 0 dX12_tries_77 rfl rfl ?_
    refine ga_getR (kI := 16) (r := 93) dX12_tries_78 fX12_23 rfl rfl (by decide) rfl ?_
    refine ga_iload_n 2 dX12_tries_81 rfl rfl ?_
    refine ga_aload_n 0 dX12_tries_82 rfl rfl ?_
    refine ga_getR (kI := 49) (r := 117) dX12_tries_83 fX12_95 rfl rfl (by decide) rfl ?_
    refine ga_bipush dX12_tries_86 (by decide) ?_
    refine ga_iload_n 2 dX12_tries_88 rfl rfl ?_
    refine ga_iadd dX12_tries_89 ?_
    obtain ⟨i18, h⟩ := h
    refine ga_iald (nI := 12) dX12_tries_90 rfl rfl i18 (fun r19 => ?_)
    obtain ⟨σ20, eσ20⟩ : ∃ z, z = sI σ17 93 x2 (gI σ17 117 (6 + x2)) := ⟨_, rfl⟩
    replace h := h σ20 eσ20
    refine ga_iast (nI := 6) dX12_tries_91 rfl rfl i16 r19 eσ20 ?_
    refine ga_iinc (ls' := [(2, vI (x2 + 1)), (0, .ref (G.2.1 88)), (1, vI x1)]) 2 dX12_tries_92 rfl (by decide) rfl ?_
    refine ga_goto (tgt := 59) dX12_tries_95 (by decide) ?_
    exact ga_sub [1, 2, 0] rfl h
abbrev eX12_needOf (l : Launch) (G : gG)  (σ : gS) (Q : Int → gS → Prop) : Prop := gEi l G mX12_needOf [.ref (G.2.1 88)] σ Q
abbrev kX12_needOf_4 (l : Launch) (G : gG)  (x1 : Int) (x2 : Int) (σ : gS) (Q : Int → gS → Prop) : Prop := gAt l G mX12_needOf (gQi G Q) 4 [(0, .ref (G.2.1 88)), (1, vI x1), (2, vI x2)] [] σ
abbrev kX12_needOf_20 (l : Launch) (G : gG)  (x1 : Int) (x2 : Int) (x3 : Int) (σ : gS) (Q : Int → gS → Prop) : Prop := gAt l G mX12_needOf (gQi G Q) 20 [(0, .ref (G.2.1 88)), (1, vI x1), (2, vI x2), (3, vI x3)] [] σ
abbrev kX12_needOf_31 (l : Launch) (G : gG)  (x1 : Int) (x2 : Int) (x3 : Int) (x4 : Int) (σ : gS) (Q : Int → gS → Prop) : Prop := gAt l G mX12_needOf (gQi G Q) 31 [(0, .ref (G.2.1 88)), (1, vI x1), (2, vI x2), (3, vI x3), (4, vI x4)] [] σ
set_option maxRecDepth 100000 in
set_option maxHeartbeats 4000000 in
theorem vX12_needOf {l : Launch} {G : gG}  (σ : gS) (Q : Int → gS → Prop) (h : kX12_needOf_4 l G  0 1 σ Q) : eX12_needOf l G  σ Q := by
  refine ga_entry rfl (Nat.le_of_ble_eq_true rfl) ?_
  show gAt l G mX12_needOf (gQi G Q) 0 [(0, .ref (G.2.1 88))] [] σ
  refine ga_iconst dX12_needOf_0 ?_
  refine ga_istore_n (ls' := [(1, vI 0), (0, .ref (G.2.1 88))]) dX12_needOf_1 rfl (by decide) rfl ?_
  refine ga_iconst dX12_needOf_2 ?_
  refine ga_istore_n (ls' := [(2, vI 1), (1, vI 0), (0, .ref (G.2.1 88))]) dX12_needOf_3 rfl (by decide) rfl ?_
  exact ga_sub [2, 1, 0] rfl h
set_option maxRecDepth 100000 in
set_option maxHeartbeats 4000000 in
theorem vX12_needOf_4 {l : Launch} {G : gG}  (x1 : Int) (x2 : Int) (rx1 : gR x1) (rx2 : gR x2) (σ : gS) (Q : Int → gS → Prop) (h : (x2 = 0 → Q x1 σ) ∧
  (¬ x2 = 0 → eX12_tries l G (x1 + 1) σ (fun σ2 =>
    kX12_needOf_20 l G  (x1 + 1) 0 0 σ2 Q))) : kX12_needOf_4 l G  x1 x2 σ Q := by
  refine ga_iload_n 2 dX12_needOf_4 rfl rfl ?_
  obtain ⟨ht, hf⟩ := h
  refine ga_if_eq (tgt := 76) dX12_needOf_5 (by decide) rx2 (fun q1 => ?_) (fun q1 => ?_)
  · replace q1 : x2 = 0 := q1
    have h := ht q1
    refine ga_iload_n 1 dX12_needOf_76 rfl rfl ?_
    exact ga_iret dX12_needOf_77 rfl rx1 h
  · replace q1 : ¬ x2 = 0 := q1
    have h := hf q1
    refine ga_iinc (ls' := [(1, vI (x1 + 1)), (0, .ref (G.2.1 88)), (2, vI x2)]) 1 dX12_needOf_8 rfl (by decide) rfl ?_
    refine ga_aload_n 1 dX12_needOf_11 rfl rfl ?_
    refine ga_iload_n 0 dX12_needOf_12 rfl rfl ?_
    refine ga_callVv (z := mX12_tries) (As := [vI (x1 + 1)]) (rest := []) dX12_needOf_13 wX12_373 qX12_needOf_X12_tries rfl ⟨_, rfl, rfl⟩ rfl rfl (Nat.le_of_ble_eq_true rfl) (gEv_mono h (fun σ2 h => ?_))
    refine ga_iconst dX12_needOf_16 ?_
    refine ga_istore_n (ls' := [(2, vI 0), (1, vI (x1 + 1)), (0, .ref (G.2.1 88))]) dX12_needOf_17 rfl (by decide) rfl ?_
    refine ga_iconst dX12_needOf_18 ?_
    refine ga_istore_n (ls' := [(3, vI 0), (2, vI 0), (1, vI (x1 + 1)), (0, .ref (G.2.1 88))]) dX12_needOf_19 rfl (by decide) rfl ?_
    exact ga_sub [3, 2, 1, 0] rfl h
set_option maxRecDepth 100000 in
set_option maxHeartbeats 4000000 in
theorem vX12_needOf_20 {l : Launch} {G : gG}  (x1 : Int) (x2 : Int) (x3 : Int) (rx1 : gR x1) (rx2 : gR x2) (rx3 : gR x3) (σ : gS) (Q : Int → gS → Prop) (h : ((gI σ 88 10) ≤ x3 → kX12_needOf_4 l G  x1 x2 σ Q) ∧
  (x3 < (gI σ 88 10) → kX12_needOf_31 l G  x1 x2 x3 0 σ Q)) : kX12_needOf_20 l G  x1 x2 x3 σ Q := by
  refine ga_iload_n 3 dX12_needOf_20 rfl rfl ?_
  refine ga_aload_n 0 dX12_needOf_21 rfl rfl ?_
  refine ga_getI (kI := 10) dX12_needOf_22 fX12_236 rfl rfl rfl (fun r4 => ?_)
  obtain ⟨ht, hf⟩ := h
  refine ga_icmp_ge (tgt := 73) dX12_needOf_25 (by decide) rx3 r4 (fun q5 => ?_) (fun q5 => ?_)
  · replace q5 : (gI σ 88 10) ≤ x3 := q5
    have h := ht q5
    refine ga_goto (tgt := 4) dX12_needOf_73 (by decide) ?_
    exact ga_sub [0, 1, 2] rfl h
  · replace q5 : x3 < (gI σ 88 10) := (Int.not_le.mp q5)
    have h := hf q5
    refine ga_iconst dX12_needOf_28 ?_
    refine ga_istore (ls' := [(4, vI 0), (0, .ref (G.2.1 88)), (1, vI x1), (2, vI x2), (3, vI x3)]) dX12_needOf_29 (by decide) rfl ?_
    exact ga_sub [1, 2, 3, 4, 0] rfl h
set_option maxRecDepth 100000 in
set_option maxHeartbeats 4000000 in
theorem vX12_needOf_31 {l : Launch} {G : gG}  (x1 : Int) (x2 : Int) (x3 : Int) (x4 : Int) (rx1 : gR x1) (rx2 : gR x2) (rx3 : gR x3) (rx4 : gR x4) (σ : gS) (Q : Int → gS → Prop) (h : ((gI σ 88 10) ≤ x4 → kX12_needOf_20 l G  x1 x2 (x3 + 1) σ Q) ∧
  (x4 < (gI σ 88 10) → (¬ x2 = 0 → kX12_needOf_31 l G  x1 1 x3 (x4 + 1) σ Q) ∧
    (x2 = 0 → eX12_asks l G x3 x4 0 σ (fun v11 σ9 => (v11 = 0 ∨ v11 = 1) →
      (∀ v14 : Int, v14 = (if v11 = 0 then 0 else 1) →
      kX12_needOf_31 l G  x1 v14 x3 (x4 + 1) σ9 Q))))) : kX12_needOf_31 l G  x1 x2 x3 x4 σ Q := by
  refine ga_iload 4 dX12_needOf_31 rfl ?_
  refine ga_aload_n 0 dX12_needOf_33 rfl rfl ?_
  refine ga_getI (kI := 10) dX12_needOf_34 fX12_236 rfl rfl rfl (fun r6 => ?_)
  obtain ⟨ht, hf⟩ := h
  refine ga_icmp_ge (tgt := 67) dX12_needOf_37 (by decide) rx4 r6 (fun q7 => ?_) (fun q7 => ?_)
  · replace q7 : (gI σ 88 10) ≤ x4 := q7
    have h := ht q7
    refine ga_iinc (ls' := [(3, vI (x3 + 1)), (0, .ref (G.2.1 88)), (1, vI x1), (2, vI x2), (4, vI x4)]) 3 dX12_needOf_67 rfl (by decide) rfl ?_
    refine ga_goto (tgt := 20) dX12_needOf_70 (by decide) ?_
    exact ga_sub [1, 2, 3, 0] rfl h
  · replace q7 : x4 < (gI σ 88 10) := (Int.not_le.mp q7)
    have h := hf q7
    refine ga_iload_n 2 dX12_needOf_40 rfl rfl ?_
    obtain ⟨ht, hf⟩ := h
    refine ga_if_ne (tgt := 55) dX12_needOf_41 (by decide) rx2 (fun q8 => ?_) (fun q8 => ?_)
    · replace q8 : ¬ x2 = 0 := q8
      have h := ht q8
      refine ga_iconst dX12_needOf_55 ?_
      refine ga_goto (tgt := 60) dX12_needOf_56 (by decide) ?_
      refine ga_istore_n (ls' := [(2, vI 1), (0, .ref (G.2.1 88)), (1, vI x1), (3, vI x3), (4, vI x4)]) dX12_needOf_60 rfl (by decide) rfl ?_
      refine ga_iinc (ls' := [(4, vI (x4 + 1)), (2, vI 1), (0, .ref (G.2.1 88)), (1, vI x1), (3, vI x3)]) 4 dX12_needOf_61 rfl (by decide) rfl ?_
      refine ga_goto (tgt := 31) dX12_needOf_64 (by decide) ?_
      exact ga_sub [2, 3, 1, 4, 0] rfl h
    · replace q8 : x2 = 0 := (Decidable.not_not.mp q8)
      have h := hf q8
      refine ga_aload_n 0 dX12_needOf_44 rfl rfl ?_
      refine ga_iload_n 3 dX12_needOf_45 rfl rfl ?_
      refine ga_iload 4 dX12_needOf_46 rfl ?_
      refine ga_iconst dX12_needOf_48 ?_
      refine ga_callVz (z := mX12_asks) (As := [vI x3, vI x4, vI 0]) (rest := []) dX12_needOf_49 wX12_308 qX12_needOf_X12_asks rfl ⟨_, rfl, rfl⟩ rfl rfl (Nat.le_of_ble_eq_true rfl) (gEz_mono h (fun v11 σ9 h r10 => ?_))
      replace h := h r10
      have kJ12 : ∀ v14 : Int, gR v14 → (v14 = 0 ∨ v14 = 1) → v14 = (if v11 = 0 then 0 else 1) → gAt l G mX12_needOf (gQi G Q) 60 [(0, .ref (G.2.1 88)), (1, vI x1), (2, vI x2), (3, vI x3), (4, vI x4)] [vI v14] σ9 := by
        intro v14 rv14 bv14 ev14
        replace h := h v14 ev14
        refine ga_istore_n (ls' := [(2, vI v14), (0, .ref (G.2.1 88)), (1, vI x1), (3, vI x3), (4, vI x4)]) dX12_needOf_60 rfl (by decide) rfl ?_
        refine ga_iinc (ls' := [(4, vI (x4 + 1)), (2, vI v14), (0, .ref (G.2.1 88)), (1, vI x1), (3, vI x3)]) 4 dX12_needOf_61 rfl (by decide) rfl ?_
        refine ga_goto (tgt := 31) dX12_needOf_64 (by decide) ?_
        exact ga_sub [2, 3, 1, 4, 0] rfl h
      replace h : (v11 = 0 → True) ∧
      (¬ v11 = 0 → True) := by repeat (first | exact True.intro | apply And.intro | intro _)
      obtain ⟨ht, hf⟩ := h
      refine ga_if_eq (tgt := 59) dX12_needOf_52 (by decide) (gR_01 r10) (fun q13 => ?_) (fun q13 => ?_)
      · replace q13 : v11 = 0 := q13
        have h := ht q13
        refine ga_iconst dX12_needOf_59 ?_
        exact kJ12 0 (by decide) (Or.inl rfl) (by rw [if_pos q13])
      · replace q13 : ¬ v11 = 0 := q13
        have h := hf q13
        refine ga_iconst dX12_needOf_55 ?_
        refine ga_goto (tgt := 60) dX12_needOf_56 (by decide) ?_
        exact kJ12 1 (by decide) (Or.inr rfl) (by rw [if_neg q13])
abbrev eX12_judge (l : Launch) (G : gG) (x1 : Int) (x2 : Int) (x3 : Int) (x4 : Int) (σ : gS) (Q : Int → gS → Prop) : Prop := gEi l G mX12_judge [.ref (G.2.1 88), vI x1, vI x2, vI x3, vI x4] σ Q
abbrev kX12_judge_72 (l : Launch) (G : gG)  (x1 : Int) (x2 : Int) (x3 : Int) (x4 : Int) (x5 : Int) (x6 : Int) (σ : gS) (Q : Int → gS → Prop) : Prop := gAt l G mX12_judge (gQi G Q) 72 [(0, .ref (G.2.1 88)), (1, vI x1), (2, vI x2), (3, vI x3), (4, vI x4), (5, vI x5), (6, vI x6)] [] σ
set_option maxRecDepth 100000 in
set_option maxHeartbeats 4000000 in
theorem vX12_judge {l : Launch} {G : gG} (x1 : Int) (x2 : Int) (x3 : Int) (x4 : Int) (rx1 : gR x1) (rx2 : gR x2) (rx3 : gR x3) (rx4 : gR x4) (σ : gS) (Q : Int → gS → Prop) (h : eX12_isState l G x1 x2 x3 σ (fun v3 σ1 => (v3 = 0 ∨ v3 = 1) →
  (¬ v3 = 0 → (x4 = 0 → (∀ v8 : Int, v8 = (if x4 = 1 then 1 else 0) →
      eX12_judges l G v8 σ1 (fun σ9 =>
        Q (gI σ9 116 0) σ9))) ∧
    (¬ x4 = 0 → (¬ x4 = 1 → (x4 = 2 → eX12_tries l G (gI σ1 88 11) σ1 (fun σ15 =>
          kX12_judge_72 l G  x1 x2 x3 x4 0 0 σ15 Q)) ∧
        (¬ x4 = 2 → (¬ x4 = 3 → (¬ x4 = 4 → eX12_isIn l G x4 10 15 σ1 (fun v21 σ19 => (v21 = 0 ∨ v21 = 1) →
              (v21 = 0 → Q (-2) σ19) ∧
              (¬ v21 = 0 → eX12_isPort l G (x4 - 10) σ19 (fun v25 σ23 => (v25 = 0 ∨ v25 = 1) →
                (¬ v25 = 0 → eX12_judges l G 1 σ23 (fun σ27 =>
                  eX12_rowOf l G (x4 - 10) σ27 (fun v31 σ29 => gR v31 →
                  Q v31 σ29))) ∧
                (v25 = 0 → Q (-2) σ23))))) ∧
            (x4 = 4 → eX12_needOf l G  σ1 (fun v34 σ32 => gR v34 →
              Q v34 σ32))) ∧
          (x4 = 3 → eX12_tries l G (gI σ1 88 11) σ1 (fun σ36 =>
            kX12_judge_72 l G  x1 x2 x3 x4 0 0 σ36 Q)))) ∧
      (x4 = 1 → (∀ v40 : Int, v40 = (if x4 = 1 then 1 else 0) →
        eX12_judges l G v40 σ1 (fun σ41 =>
          Q (gI σ41 116 0) σ41))))) ∧
  (v3 = 0 → Q (-2) σ1))) : eX12_judge l G x1 x2 x3 x4 σ Q := by
  refine ga_entry rfl (Nat.le_of_ble_eq_true rfl) ?_
  show gAt l G mX12_judge (gQi G Q) 0 [(0, .ref (G.2.1 88)), (1, vI x1), (2, vI x2), (3, vI x3), (4, vI x4)] [] σ
  refine ga_aload_n 0 dX12_judge_0 rfl rfl ?_
  refine ga_iload_n 1 dX12_judge_1 rfl rfl ?_
  refine ga_iload_n 2 dX12_judge_2 rfl rfl ?_
  refine ga_iload_n 3 dX12_judge_3 rfl rfl ?_
  refine ga_callVz (z := mX12_isState) (As := [vI x1, vI x2, vI x3]) (rest := []) dX12_judge_4 wX12_351 qX12_judge_X12_isState rfl ⟨_, rfl, rfl⟩ rfl rfl (Nat.le_of_ble_eq_true rfl) (gEz_mono h (fun v3 σ1 h r2 => ?_))
  replace h := h r2
  obtain ⟨ht, hf⟩ := h
  refine ga_if_ne (tgt := 13) dX12_judge_7 (by decide) (gR_01 r2) (fun q4 => ?_) (fun q4 => ?_)
  · replace q4 : ¬ v3 = 0 := q4
    have h := ht q4
    refine ga_iload 4 dX12_judge_13 rfl ?_
    obtain ⟨ht, hf⟩ := h
    refine ga_if_eq (tgt := 24) dX12_judge_15 (by decide) rx4 (fun q5 => ?_) (fun q5 => ?_)
    · replace q5 : x4 = 0 := q5
      have h := ht q5
      refine ga_aload_n 0 dX12_judge_24 rfl rfl ?_
      refine ga_iload 4 dX12_judge_25 rfl ?_
      refine ga_iconst dX12_judge_27 ?_
      have kJ6 : ∀ v8 : Int, gR v8 → (v8 = 0 ∨ v8 = 1) → v8 = (if x4 = 1 then 1 else 0) → gAt l G mX12_judge (gQi G Q) 36 [(0, .ref (G.2.1 88)), (1, vI x1), (2, vI x2), (3, vI x3), (4, vI x4)] [vI v8, .ref (G.2.1 88)] σ1 := by
        intro v8 rv8 bv8 ev8
        replace h := h v8 ev8
        refine ga_callVv (z := mX12_judges) (As := [vI v8]) (rest := []) dX12_judge_36 wX12_376 qX12_judge_X12_judges rfl ⟨_, rfl, rfl⟩ rfl rfl (Nat.le_of_ble_eq_true rfl) (gEv_mono h (fun σ9 h => ?_))
        refine ga_aload_n 0 dX12_judge_39 rfl rfl ?_
        refine ga_getR (kI := 48) (r := 116) dX12_judge_40 fX12_92 rfl rfl (by decide) rfl ?_
        refine ga_iconst dX12_judge_43 ?_
        refine ga_iald (nI := 448) dX12_judge_44 rfl rfl (by decide) (fun r11 => ?_)
        exact ga_iret dX12_judge_45 rfl r11 h
      replace h : (¬ x4 = 1 → True) ∧
      (x4 = 1 → True) := by repeat (first | exact True.intro | apply And.intro | intro _)
      obtain ⟨ht, hf⟩ := h
      refine ga_icmp_ne (tgt := 35) dX12_judge_28 (by decide) rx4 (by decide) (fun q7 => ?_) (fun q7 => ?_)
      · replace q7 : ¬ x4 = 1 := q7
        have h := ht q7
        refine ga_iconst dX12_judge_35 ?_
        exact kJ6 0 (by decide) (Or.inl rfl) (by rw [if_neg q7])
      · replace q7 : x4 = 1 := (Decidable.not_not.mp q7)
        have h := hf q7
        refine ga_iconst dX12_judge_31 ?_
        refine ga_goto (tgt := 36) dX12_judge_32 (by decide) ?_
        exact kJ6 1 (by decide) (Or.inr rfl) (by rw [if_pos q7])
    · replace q5 : ¬ x4 = 0 := q5
      have h := hf q5
      refine ga_iload 4 dX12_judge_18 rfl ?_
      refine ga_iconst dX12_judge_20 ?_
      obtain ⟨ht, hf⟩ := h
      refine ga_icmp_ne (tgt := 46) dX12_judge_21 (by decide) rx4 (by decide) (fun q12 => ?_) (fun q12 => ?_)
      · replace q12 : ¬ x4 = 1 := q12
        have h := ht q12
        refine ga_iload 4 dX12_judge_46 rfl ?_
        refine ga_iconst dX12_judge_48 ?_
        obtain ⟨ht, hf⟩ := h
        refine ga_icmp_eq (tgt := 58) dX12_judge_49 (by decide) rx4 (by decide) (fun q13 => ?_) (fun q13 => ?_)
        · replace q13 : x4 = 2 := q13
          have h := ht q13
          refine ga_aload_n 0 dX12_judge_58 rfl rfl ?_
          refine ga_aload_n 0 dX12_judge_59 rfl rfl ?_
          refine ga_getI (kI := 11) dX12_judge_60 fX12_239 rfl rfl rfl (fun r14 => ?_)
          refine ga_callVv (z := mX12_tries) (As := [vI (gI σ1 88 11)]) (rest := []) dX12_judge_63 wX12_373 qX12_judge_X12_tries rfl ⟨_, rfl, rfl⟩ rfl rfl (Nat.le_of_ble_eq_true rfl) (gEv_mono h (fun σ15 h => ?_))
          refine ga_iconst dX12_judge_66 ?_
          refine ga_istore (ls' := [(5, vI 0), (0, .ref (G.2.1 88)), (1, vI x1), (2, vI x2), (3, vI x3), (4, vI x4)]) dX12_judge_67 (by decide) rfl ?_
          refine ga_iconst dX12_judge_69 ?_
          refine ga_istore (ls' := [(6, vI 0), (5, vI 0), (0, .ref (G.2.1 88)), (1, vI x1), (2, vI x2), (3, vI x3), (4, vI x4)]) dX12_judge_70 (by decide) rfl ?_
          exact ga_sub [2, 3, 4, 5, 6, 1, 0] rfl h
        · replace q13 : ¬ x4 = 2 := q13
          have h := hf q13
          refine ga_iload 4 dX12_judge_52 rfl ?_
          refine ga_iconst dX12_judge_54 ?_
          obtain ⟨ht, hf⟩ := h
          refine ga_icmp_ne (tgt := 140) dX12_judge_55 (by decide) rx4 (by decide) (fun q17 => ?_) (fun q17 => ?_)
          · replace q17 : ¬ x4 = 3 := q17
            have h := ht q17
            refine ga_iload 4 dX12_judge_140 rfl ?_
            refine ga_iconst dX12_judge_142 ?_
            obtain ⟨ht, hf⟩ := h
            refine ga_icmp_ne (tgt := 151) dX12_judge_143 (by decide) rx4 (by decide) (fun q18 => ?_) (fun q18 => ?_)
            · replace q18 : ¬ x4 = 4 := q18
              have h := ht q18
              refine ga_iload 4 dX12_judge_151 rfl ?_
              refine ga_bipush dX12_judge_153 (by decide) ?_
              refine ga_bipush dX12_judge_155 (by decide) ?_
              refine ga_callSz (z := mX12_isIn) (As := [vI x4, vI 10, vI 15]) (rest := []) dX12_judge_157 wX12_196 qX12_judge_X12_isIn rfl rfl (Nat.le_of_ble_eq_true rfl) (gEz_mono h (fun v21 σ19 h r20 => ?_))
              replace h := h r20
              obtain ⟨ht, hf⟩ := h
              refine ga_if_eq (tgt := 175) dX12_judge_160 (by decide) (gR_01 r20) (fun q22 => ?_) (fun q22 => ?_)
              · replace q22 : v21 = 0 := q22
                have h := ht q22
                refine ga_bipush dX12_judge_175 (by decide) ?_
                exact ga_iret dX12_judge_177 rfl (by decide) h
              · replace q22 : ¬ v21 = 0 := q22
                have h := hf q22
                refine ga_aload_n 0 dX12_judge_163 rfl rfl ?_
                refine ga_iload 4 dX12_judge_164 rfl ?_
                refine ga_bipush dX12_judge_166 (by decide) ?_
                refine ga_isub dX12_judge_168 ?_
                refine ga_callVz (z := mX12_isPort) (As := [vI (x4 - 10)]) (rest := []) dX12_judge_169 wX12_322 qX12_judge_X12_isPort rfl ⟨_, rfl, rfl⟩ rfl rfl (Nat.le_of_ble_eq_true rfl) (gEz_mono h (fun v25 σ23 h r24 => ?_))
                replace h := h r24
                obtain ⟨ht, hf⟩ := h
                refine ga_if_ne (tgt := 178) dX12_judge_172 (by decide) (gR_01 r24) (fun q26 => ?_) (fun q26 => ?_)
                · replace q26 : ¬ v25 = 0 := q26
                  have h := ht q26
                  refine ga_aload_n 0 dX12_judge_178 rfl rfl ?_
                  refine ga_iconst dX12_judge_179 ?_
                  refine ga_callVv (z := mX12_judges) (As := [vI 1]) (rest := []) dX12_judge_180 wX12_376 qX12_judge_X12_judges rfl ⟨_, rfl, rfl⟩ rfl rfl (Nat.le_of_ble_eq_true rfl) (gEv_mono h (fun σ27 h => ?_))
                  refine ga_aload_n 0 dX12_judge_183 rfl rfl ?_
                  refine ga_iload 4 dX12_judge_184 rfl ?_
                  refine ga_bipush dX12_judge_186 (by decide) ?_
                  refine ga_isub dX12_judge_188 ?_
                  refine ga_callVi (z := mX12_rowOf) (As := [vI (x4 - 10)]) (rest := []) dX12_judge_189 wX12_383 qX12_judge_X12_rowOf rfl ⟨_, rfl, rfl⟩ rfl rfl (Nat.le_of_ble_eq_true rfl) (gEi_mono h (fun v31 σ29 h r30 => ?_))
                  replace h := h r30
                  exact ga_iret dX12_judge_192 rfl r30 h
                · replace q26 : v25 = 0 := (Decidable.not_not.mp q26)
                  have h := hf q26
                  refine ga_bipush dX12_judge_175 (by decide) ?_
                  exact ga_iret dX12_judge_177 rfl (by decide) h
            · replace q18 : x4 = 4 := (Decidable.not_not.mp q18)
              have h := hf q18
              refine ga_aload_n 0 dX12_judge_146 rfl rfl ?_
              refine ga_callVi (z := mX12_needOf) (As := []) (rest := []) dX12_judge_147 wX12_380 qX12_judge_X12_needOf rfl ⟨_, rfl, rfl⟩ rfl rfl (Nat.le_of_ble_eq_true rfl) (gEi_mono h (fun v34 σ32 h r33 => ?_))
              replace h := h r33
              exact ga_iret dX12_judge_150 rfl r33 h
          · replace q17 : x4 = 3 := (Decidable.not_not.mp q17)
            have h := hf q17
            refine ga_aload_n 0 dX12_judge_58 rfl rfl ?_
            refine ga_aload_n 0 dX12_judge_59 rfl rfl ?_
            refine ga_getI (kI := 11) dX12_judge_60 fX12_239 rfl rfl rfl (fun r35 => ?_)
            refine ga_callVv (z := mX12_tries) (As := [vI (gI σ1 88 11)]) (rest := []) dX12_judge_63 wX12_373 qX12_judge_X12_tries rfl ⟨_, rfl, rfl⟩ rfl rfl (Nat.le_of_ble_eq_true rfl) (gEv_mono h (fun σ36 h => ?_))
            refine ga_iconst dX12_judge_66 ?_
            refine ga_istore (ls' := [(5, vI 0), (0, .ref (G.2.1 88)), (1, vI x1), (2, vI x2), (3, vI x3), (4, vI x4)]) dX12_judge_67 (by decide) rfl ?_
            refine ga_iconst dX12_judge_69 ?_
            refine ga_istore (ls' := [(6, vI 0), (5, vI 0), (0, .ref (G.2.1 88)), (1, vI x1), (2, vI x2), (3, vI x3), (4, vI x4)]) dX12_judge_70 (by decide) rfl ?_
            exact ga_sub [2, 3, 4, 5, 6, 1, 0] rfl h
      · replace q12 : x4 = 1 := (Decidable.not_not.mp q12)
        have h := hf q12
        refine ga_aload_n 0 dX12_judge_24 rfl rfl ?_
        refine ga_iload 4 dX12_judge_25 rfl ?_
        refine ga_iconst dX12_judge_27 ?_
        have kJ38 : ∀ v40 : Int, gR v40 → (v40 = 0 ∨ v40 = 1) → v40 = (if x4 = 1 then 1 else 0) → gAt l G mX12_judge (gQi G Q) 36 [(0, .ref (G.2.1 88)), (1, vI x1), (2, vI x2), (3, vI x3), (4, vI x4)] [vI v40, .ref (G.2.1 88)] σ1 := by
          intro v40 rv40 bv40 ev40
          replace h := h v40 ev40
          refine ga_callVv (z := mX12_judges) (As := [vI v40]) (rest := []) dX12_judge_36 wX12_376 qX12_judge_X12_judges rfl ⟨_, rfl, rfl⟩ rfl rfl (Nat.le_of_ble_eq_true rfl) (gEv_mono h (fun σ41 h => ?_))
          refine ga_aload_n 0 dX12_judge_39 rfl rfl ?_
          refine ga_getR (kI := 48) (r := 116) dX12_judge_40 fX12_92 rfl rfl (by decide) rfl ?_
          refine ga_iconst dX12_judge_43 ?_
          refine ga_iald (nI := 448) dX12_judge_44 rfl rfl (by decide) (fun r43 => ?_)
          exact ga_iret dX12_judge_45 rfl r43 h
        replace h : (¬ x4 = 1 → True) ∧
        (x4 = 1 → True) := by repeat (first | exact True.intro | apply And.intro | intro _)
        obtain ⟨ht, hf⟩ := h
        refine ga_icmp_ne (tgt := 35) dX12_judge_28 (by decide) rx4 (by decide) (fun q39 => ?_) (fun q39 => ?_)
        · replace q39 : ¬ x4 = 1 := q39
          have h := ht q39
          refine ga_iconst dX12_judge_35 ?_
          exact kJ38 0 (by decide) (Or.inl rfl) (by rw [if_neg q39])
        · replace q39 : x4 = 1 := (Decidable.not_not.mp q39)
          have h := hf q39
          refine ga_iconst dX12_judge_31 ?_
          refine ga_goto (tgt := 36) dX12_judge_32 (by decide) ?_
          exact kJ38 1 (by decide) (Or.inr rfl) (by rw [if_pos q39])
  · replace q4 : v3 = 0 := (Decidable.not_not.mp q4)
    have h := hf q4
    refine ga_bipush dX12_judge_10 (by decide) ?_
    exact ga_iret dX12_judge_12 rfl (by decide) h
set_option maxRecDepth 100000 in
set_option maxHeartbeats 4000000 in
theorem vX12_judge_72 {l : Launch} {G : gG}  (x1 : Int) (x2 : Int) (x3 : Int) (x4 : Int) (x5 : Int) (x6 : Int) (rx1 : gR x1) (rx2 : gR x2) (rx3 : gR x3) (rx4 : gR x4) (rx5 : gR x5) (rx6 : gR x6) (σ : gS) (Q : Int → gS → Prop) (h : ((gI σ 88 10) ≤ x6 → (¬ x4 = 2 → Q x5 σ) ∧
    (x4 = 2 → eX12_matchedNow l G  σ (fun v49 σ47 => gR v49 →
      Q v49 σ47))) ∧
  (x6 < (gI σ 88 10) → (0 ≤ x6 ∧ x6 < 6) ∧ (¬ (gI σ 111 x6) = (-1) → eX12_at l G (gI σ 111 x6) x6 σ (fun v56 σ54 => gR v56 →
      (0 ≤ v56 ∧ v56 < 36) ∧ kX12_judge_72 l G  x1 x2 x3 x4 (x5 + (gI σ54 95 v56)) (x6 + 1) σ54 Q)) ∧
    ((gI σ 111 x6) = (-1) → kX12_judge_72 l G  x1 x2 x3 x4 (x5 + 0) (x6 + 1) σ Q))) : kX12_judge_72 l G  x1 x2 x3 x4 x5 x6 σ Q := by
  refine ga_iload 6 dX12_judge_72 rfl ?_
  refine ga_aload_n 0 dX12_judge_74 rfl rfl ?_
  refine ga_getI (kI := 10) dX12_judge_75 fX12_236 rfl rfl rfl (fun r44 => ?_)
  obtain ⟨ht, hf⟩ := h
  refine ga_icmp_ge (tgt := 124) dX12_judge_78 (by decide) rx6 r44 (fun q45 => ?_) (fun q45 => ?_)
  · replace q45 : (gI σ 88 10) ≤ x6 := q45
    have h := ht q45
    refine ga_iload 4 dX12_judge_124 rfl ?_
    refine ga_iconst dX12_judge_126 ?_
    obtain ⟨ht, hf⟩ := h
    refine ga_icmp_ne (tgt := 137) dX12_judge_127 (by decide) rx4 (by decide) (fun q46 => ?_) (fun q46 => ?_)
    · replace q46 : ¬ x4 = 2 := q46
      have h := ht q46
      refine ga_iload 5 dX12_judge_137 rfl ?_
      exact ga_iret dX12_judge_139 rfl rx5 h
    · replace q46 : x4 = 2 := (Decidable.not_not.mp q46)
      have h := hf q46
      refine ga_aload_n 0 dX12_judge_130 rfl rfl ?_
      refine ga_callVi (z := mX12_matchedNow) (As := []) (rest := []) dX12_judge_131 wX12_363 qX12_judge_X12_matchedNow rfl ⟨_, rfl, rfl⟩ rfl rfl (Nat.le_of_ble_eq_true rfl) (gEi_mono h (fun v49 σ47 h r48 => ?_))
      replace h := h r48
      refine ga_goto (tgt := 139) dX12_judge_134 (by decide) ?_
      exact ga_iret dX12_judge_139 rfl r48 h
  · replace q45 : x6 < (gI σ 88 10) := (Int.not_le.mp q45)
    have h := hf q45
    refine ga_iload 5 dX12_judge_81 rfl ?_
    refine ga_aload_n 0 dX12_judge_83 rfl rfl ?_
    refine ga_getR (kI := 43) (r := 111) dX12_judge_84 fX12_77 rfl rfl (by decide) rfl ?_
    refine ga_iload 6 dX12_judge_87 rfl ?_
    obtain ⟨i50, h⟩ := h
    refine ga_iald (nI := 6) dX12_judge_89 rfl rfl i50 (fun r51 => ?_)
    refine ga_iconst dX12_judge_90 ?_
    obtain ⟨ht, hf⟩ := h
    refine ga_icmp_ne (tgt := 98) dX12_judge_91 (by decide) r51 (by decide) (fun q52 => ?_) (fun q52 => ?_)
    · replace q52 : ¬ (gI σ 111 x6) = (-1) := q52
      have h := ht q52
      refine ga_aload_n 0 dX12_judge_98 rfl rfl ?_
      refine ga_getR (kI := 18) (r := 95) dX12_judge_99 fX12_29 rfl rfl (by decide) rfl ?_
      refine ga_aload_n 0 dX12_judge_102 rfl rfl ?_
      refine ga_getR (kI := 43) (r := 111) dX12_judge_103 fX12_77 rfl rfl (by decide) rfl ?_
      refine ga_iload 6 dX12_judge_106 rfl ?_
      refine ga_iald (nI := 6) dX12_judge_108 rfl rfl i50 (fun r53 => ?_)
      refine ga_iload 6 dX12_judge_109 rfl ?_
      refine ga_callSi (z := mX12_at) (As := [vI (gI σ 111 x6), vI x6]) (rest := [.ref (G.2.1 95), vI x5]) dX12_judge_111 wX12_279 qX12_judge_X12_at rfl rfl (Nat.le_of_ble_eq_true rfl) (gEi_mono h (fun v56 σ54 h r55 => ?_))
      replace h := h r55
      obtain ⟨i57, h⟩ := h
      refine ga_iald (nI := 36) dX12_judge_114 rfl rfl i57 (fun r58 => ?_)
      refine ga_iadd dX12_judge_115 ?_
      refine ga_istore (ls' := [(5, vI (x5 + (gI σ54 95 v56))), (0, .ref (G.2.1 88)), (1, vI x1), (2, vI x2), (3, vI x3), (4, vI x4), (6, vI x6)]) dX12_judge_116 (by decide) rfl ?_
      refine ga_iinc (ls' := [(6, vI (x6 + 1)), (5, vI (x5 + (gI σ54 95 v56))), (0, .ref (G.2.1 88)), (1, vI x1), (2, vI x2), (3, vI x3), (4, vI x4)]) 6 dX12_judge_118 rfl (by decide) rfl ?_
      refine ga_goto (tgt := 72) dX12_judge_121 (by decide) ?_
      exact ga_sub [2, 3, 4, 5, 6, 1, 0] rfl h
    · replace q52 : (gI σ 111 x6) = (-1) := (Decidable.not_not.mp q52)
      have h := hf q52
      refine ga_iconst dX12_judge_94 ?_
      refine ga_goto (tgt := 115) dX12_judge_95 (by decide) ?_
      refine ga_iadd dX12_judge_115 ?_
      refine ga_istore (ls' := [(5, vI (x5 + 0)), (0, .ref (G.2.1 88)), (1, vI x1), (2, vI x2), (3, vI x3), (4, vI x4), (6, vI x6)]) dX12_judge_116 (by decide) rfl ?_
      refine ga_iinc (ls' := [(6, vI (x6 + 1)), (5, vI (x5 + 0)), (0, .ref (G.2.1 88)), (1, vI x1), (2, vI x2), (3, vI x3), (4, vI x4)]) 6 dX12_judge_118 rfl (by decide) rfl ?_
      refine ga_goto (tgt := 72) dX12_judge_121 (by decide) ?_
      exact ga_sub [2, 3, 4, 5, 6, 1, 0] rfl h
abbrev eX12_outputOf (l : Launch) (G : gG) (x0 : Int) (σ : gS) (Q : Int → gS → Prop) : Prop := gEi l G mX12_outputOf [vI x0] σ Q
abbrev kX12_outputOf_2 (l : Launch) (G : gG)  (x0 : Int) (x1 : Int) (σ : gS) (Q : Int → gS → Prop) : Prop := gAt l G mX12_outputOf (gQi G Q) 2 [(0, vI x0), (1, vI x1)] [] σ
set_option maxRecDepth 100000 in
set_option maxHeartbeats 4000000 in
theorem vX12_outputOf {l : Launch} {G : gG} (x0 : Int) (rx0 : gR x0) (σ : gS) (Q : Int → gS → Prop) (h : kX12_outputOf_2 l G  x0 0 σ Q) : eX12_outputOf l G x0 σ Q := by
  refine ga_entry rfl (Nat.le_of_ble_eq_true rfl) ?_
  show gAt l G mX12_outputOf (gQi G Q) 0 [(0, vI x0)] [] σ
  refine ga_iconst dX12_outputOf_0 ?_
  refine ga_istore_n (ls' := [(1, vI 0), (0, vI x0)]) dX12_outputOf_1 rfl (by decide) rfl ?_
  exact ga_sub [1, 0] rfl h
set_option maxRecDepth 100000 in
set_option maxHeartbeats 4000000 in
theorem vX12_outputOf_2 {l : Launch} {G : gG}  (x0 : Int) (x1 : Int) (rx0 : gR x0) (rx1 : gR x1) (σ : gS) (Q : Int → gS → Prop) (h : (¬ (gand (gshr x0 x1) 1) = 0 → Q x1 σ) ∧
  ((gand (gshr x0 x1) 1) = 0 → kX12_outputOf_2 l G  x0 (x1 + 1) σ Q)) : kX12_outputOf_2 l G  x0 x1 σ Q := by
  refine ga_iload_n 0 dX12_outputOf_2 rfl rfl ?_
  refine ga_iload_n 1 dX12_outputOf_3 rfl rfl ?_
  refine ga_ishr dX12_outputOf_4 (fun r1 => ?_)
  refine ga_iconst dX12_outputOf_5 ?_
  refine ga_iand dX12_outputOf_6 (fun r2 => ?_)
  obtain ⟨ht, hf⟩ := h
  refine ga_if_ne (tgt := 16) dX12_outputOf_7 (by decide) r2 (fun q3 => ?_) (fun q3 => ?_)
  · replace q3 : ¬ (gand (gshr x0 x1) 1) = 0 := q3
    have h := ht q3
    refine ga_iload_n 1 dX12_outputOf_16 rfl rfl ?_
    exact ga_iret dX12_outputOf_17 rfl rx1 h
  · replace q3 : (gand (gshr x0 x1) 1) = 0 := (Decidable.not_not.mp q3)
    have h := hf q3
    refine ga_iinc (ls' := [(1, vI (x1 + 1)), (0, vI x0)]) 1 dX12_outputOf_10 rfl (by decide) rfl ?_
    refine ga_goto (tgt := 2) dX12_outputOf_13 (by decide) ?_
    exact ga_sub [1, 0] rfl h
abbrev eX12_firstOf (l : Launch) (G : gG) (x1 : Int) (σ : gS) (Q : Int → gS → Prop) : Prop := gEi l G mX12_firstOf [.ref (G.2.1 88), vI x1] σ Q
abbrev kX12_firstOf_4 (l : Launch) (G : gG)  (x1 : Int) (x2 : Int) (x3 : Int) (σ : gS) (Q : Int → gS → Prop) : Prop := gAt l G mX12_firstOf (gQi G Q) 4 [(0, .ref (G.2.1 88)), (1, vI x1), (2, vI x2), (3, vI x3)] [] σ
set_option maxRecDepth 100000 in
set_option maxHeartbeats 4000000 in
theorem vX12_firstOf {l : Launch} {G : gG} (x1 : Int) (rx1 : gR x1) (σ : gS) (Q : Int → gS → Prop) (h : kX12_firstOf_4 l G  x1 (-1) 0 σ Q) : eX12_firstOf l G x1 σ Q := by
  refine ga_entry rfl (Nat.le_of_ble_eq_true rfl) ?_
  show gAt l G mX12_firstOf (gQi G Q) 0 [(0, .ref (G.2.1 88)), (1, vI x1)] [] σ
  refine ga_iconst dX12_firstOf_0 ?_
  refine ga_istore_n (ls' := [(2, vI (-1)), (0, .ref (G.2.1 88)), (1, vI x1)]) dX12_firstOf_1 rfl (by decide) rfl ?_
  refine ga_iconst dX12_firstOf_2 ?_
  refine ga_istore_n (ls' := [(3, vI 0), (2, vI (-1)), (0, .ref (G.2.1 88)), (1, vI x1)]) dX12_firstOf_3 rfl (by decide) rfl ?_
  exact ga_sub [2, 3, 1, 0] rfl h
set_option maxRecDepth 100000 in
set_option maxHeartbeats 4000000 in
theorem vX12_firstOf_4 {l : Launch} {G : gG}  (x1 : Int) (x2 : Int) (x3 : Int) (rx1 : gR x1) (rx2 : gR x2) (rx3 : gR x3) (σ : gS) (Q : Int → gS → Prop) (h : ((gI σ 88 50) ≤ x3 → Q x2 σ) ∧
  (x3 < (gI σ 88 50) → (0 ≤ x3 ∧ x3 < 40) ∧ (¬ (gI σ 119 x3) = x1 → kX12_firstOf_4 l G  x1 x2 (x3 + 1) σ Q) ∧
    ((gI σ 119 x3) = x1 → ((gI σ 121 x3) = (-1) → (x2 = (-1) → kX12_firstOf_4 l G  x1 x3 (x3 + 1) σ Q) ∧
        (¬ x2 = (-1) → (0 ≤ x2 ∧ x2 < 40) ∧ ((gI σ 120 x3) < (gI σ 120 x2) → kX12_firstOf_4 l G  x1 x3 (x3 + 1) σ Q) ∧
          ((gI σ 120 x2) ≤ (gI σ 120 x3) → (¬ (gI σ 120 x3) = (gI σ 120 x2) → kX12_firstOf_4 l G  x1 x2 (x3 + 1) σ Q) ∧
            ((gI σ 120 x3) = (gI σ 120 x2) → ((gI σ 118 x2) ≤ (gI σ 118 x3) → kX12_firstOf_4 l G  x1 x2 (x3 + 1) σ Q) ∧
              ((gI σ 118 x3) < (gI σ 118 x2) → kX12_firstOf_4 l G  x1 x3 (x3 + 1) σ Q))))) ∧
      (¬ (gI σ 121 x3) = (-1) → kX12_firstOf_4 l G  x1 x2 (x3 + 1) σ Q)))) : kX12_firstOf_4 l G  x1 x2 x3 σ Q := by
  refine ga_iload_n 3 dX12_firstOf_4 rfl rfl ?_
  refine ga_aload_n 0 dX12_firstOf_5 rfl rfl ?_
  refine ga_getI (kI := 50) dX12_firstOf_6 fX12_386 rfl rfl rfl (fun r1 => ?_)
  obtain ⟨ht, hf⟩ := h
  refine ga_icmp_ge (tgt := 93) dX12_firstOf_9 (by decide) rx3 r1 (fun q2 => ?_) (fun q2 => ?_)
  · replace q2 : (gI σ 88 50) ≤ x3 := q2
    have h := ht q2
    refine ga_iload_n 2 dX12_firstOf_93 rfl rfl ?_
    exact ga_iret dX12_firstOf_94 rfl rx2 h
  · replace q2 : x3 < (gI σ 88 50) := (Int.not_le.mp q2)
    have h := hf q2
    refine ga_aload_n 0 dX12_firstOf_12 rfl rfl ?_
    refine ga_getR (kI := 52) (r := 119) dX12_firstOf_13 fX12_101 rfl rfl (by decide) rfl ?_
    refine ga_iload_n 3 dX12_firstOf_16 rfl rfl ?_
    obtain ⟨i3, h⟩ := h
    refine ga_iald (nI := 40) dX12_firstOf_17 rfl rfl i3 (fun r4 => ?_)
    refine ga_iload_n 1 dX12_firstOf_18 rfl rfl ?_
    obtain ⟨ht, hf⟩ := h
    refine ga_icmp_ne (tgt := 87) dX12_firstOf_19 (by decide) r4 rx1 (fun q5 => ?_) (fun q5 => ?_)
    · replace q5 : ¬ (gI σ 119 x3) = x1 := q5
      have h := ht q5
      refine ga_iinc (ls' := [(3, vI (x3 + 1)), (0, .ref (G.2.1 88)), (1, vI x1), (2, vI x2)]) 3 dX12_firstOf_87 rfl (by decide) rfl ?_
      refine ga_goto (tgt := 4) dX12_firstOf_90 (by decide) ?_
      exact ga_sub [1, 2, 3, 0] rfl h
    · replace q5 : (gI σ 119 x3) = x1 := (Decidable.not_not.mp q5)
      have h := hf q5
      refine ga_aload_n 0 dX12_firstOf_22 rfl rfl ?_
      refine ga_getR (kI := 54) (r := 121) dX12_firstOf_23 fX12_107 rfl rfl (by decide) rfl ?_
      refine ga_iload_n 3 dX12_firstOf_26 rfl rfl ?_
      refine ga_iald (nI := 40) dX12_firstOf_27 rfl rfl i3 (fun r6 => ?_)
      refine ga_iconst dX12_firstOf_28 ?_
      obtain ⟨ht, hf⟩ := h
      refine ga_icmp_eq (tgt := 35) dX12_firstOf_29 (by decide) r6 (by decide) (fun q7 => ?_) (fun q7 => ?_)
      · replace q7 : (gI σ 121 x3) = (-1) := q7
        have h := ht q7
        refine ga_iload_n 2 dX12_firstOf_35 rfl rfl ?_
        refine ga_iconst dX12_firstOf_36 ?_
        obtain ⟨ht, hf⟩ := h
        refine ga_icmp_eq (tgt := 85) dX12_firstOf_37 (by decide) rx2 (by decide) (fun q8 => ?_) (fun q8 => ?_)
        · replace q8 : x2 = (-1) := q8
          have h := ht q8
          refine ga_iload_n 3 dX12_firstOf_85 rfl rfl ?_
          refine ga_istore_n (ls' := [(2, vI x3), (0, .ref (G.2.1 88)), (1, vI x1), (3, vI x3)]) dX12_firstOf_86 rfl (by decide) rfl ?_
          refine ga_iinc (ls' := [(3, vI (x3 + 1)), (2, vI x3), (0, .ref (G.2.1 88)), (1, vI x1)]) 3 dX12_firstOf_87 rfl (by decide) rfl ?_
          refine ga_goto (tgt := 4) dX12_firstOf_90 (by decide) ?_
          exact ga_sub [2, 3, 1, 0] rfl h
        · replace q8 : ¬ x2 = (-1) := q8
          have h := hf q8
          refine ga_aload_n 0 dX12_firstOf_40 rfl rfl ?_
          refine ga_getR (kI := 53) (r := 120) dX12_firstOf_41 fX12_104 rfl rfl (by decide) rfl ?_
          refine ga_iload_n 3 dX12_firstOf_44 rfl rfl ?_
          refine ga_iald (nI := 40) dX12_firstOf_45 rfl rfl i3 (fun r9 => ?_)
          refine ga_aload_n 0 dX12_firstOf_46 rfl rfl ?_
          refine ga_getR (kI := 53) (r := 120) dX12_firstOf_47 fX12_104 rfl rfl (by decide) rfl ?_
          refine ga_iload_n 2 dX12_firstOf_50 rfl rfl ?_
          obtain ⟨i10, h⟩ := h
          refine ga_iald (nI := 40) dX12_firstOf_51 rfl rfl i10 (fun r11 => ?_)
          obtain ⟨ht, hf⟩ := h
          refine ga_icmp_lt (tgt := 85) dX12_firstOf_52 (by decide) r9 r11 (fun q12 => ?_) (fun q12 => ?_)
          · replace q12 : (gI σ 120 x3) < (gI σ 120 x2) := q12
            have h := ht q12
            refine ga_iload_n 3 dX12_firstOf_85 rfl rfl ?_
            refine ga_istore_n (ls' := [(2, vI x3), (0, .ref (G.2.1 88)), (1, vI x1), (3, vI x3)]) dX12_firstOf_86 rfl (by decide) rfl ?_
            refine ga_iinc (ls' := [(3, vI (x3 + 1)), (2, vI x3), (0, .ref (G.2.1 88)), (1, vI x1)]) 3 dX12_firstOf_87 rfl (by decide) rfl ?_
            refine ga_goto (tgt := 4) dX12_firstOf_90 (by decide) ?_
            exact ga_sub [2, 3, 1, 0] rfl h
          · replace q12 : (gI σ 120 x2) ≤ (gI σ 120 x3) := (Int.not_lt.mp q12)
            have h := hf q12
            refine ga_aload_n 0 dX12_firstOf_55 rfl rfl ?_
            refine ga_getR (kI := 53) (r := 120) dX12_firstOf_56 fX12_104 rfl rfl (by decide) rfl ?_
            refine ga_iload_n 3 dX12_firstOf_59 rfl rfl ?_
            refine ga_iald (nI := 40) dX12_firstOf_60 rfl rfl i3 (fun r13 => ?_)
            refine ga_aload_n 0 dX12_firstOf_61 rfl rfl ?_
            refine ga_getR (kI := 53) (r := 120) dX12_firstOf_62 fX12_104 rfl rfl (by decide) rfl ?_
            refine ga_iload_n 2 dX12_firstOf_65 rfl rfl ?_
            refine ga_iald (nI := 40) dX12_firstOf_66 rfl rfl i10 (fun r14 => ?_)
            obtain ⟨ht, hf⟩ := h
            refine ga_icmp_ne (tgt := 87) dX12_firstOf_67 (by decide) r13 r14 (fun q15 => ?_) (fun q15 => ?_)
            · replace q15 : ¬ (gI σ 120 x3) = (gI σ 120 x2) := q15
              have h := ht q15
              refine ga_iinc (ls' := [(3, vI (x3 + 1)), (0, .ref (G.2.1 88)), (1, vI x1), (2, vI x2)]) 3 dX12_firstOf_87 rfl (by decide) rfl ?_
              refine ga_goto (tgt := 4) dX12_firstOf_90 (by decide) ?_
              exact ga_sub [1, 2, 3, 0] rfl h
            · replace q15 : (gI σ 120 x3) = (gI σ 120 x2) := (Decidable.not_not.mp q15)
              have h := hf q15
              refine ga_aload_n 0 dX12_firstOf_70 rfl rfl ?_
              refine ga_getR (kI := 51) (r := 118) dX12_firstOf_71 fX12_98 rfl rfl (by decide) rfl ?_
              refine ga_iload_n 3 dX12_firstOf_74 rfl rfl ?_
              refine ga_iald (nI := 40) dX12_firstOf_75 rfl rfl i3 (fun r16 => ?_)
              refine ga_aload_n 0 dX12_firstOf_76 rfl rfl ?_
              refine ga_getR (kI := 51) (r := 118) dX12_firstOf_77 fX12_98 rfl rfl (by decide) rfl ?_
              refine ga_iload_n 2 dX12_firstOf_80 rfl rfl ?_
              refine ga_iald (nI := 40) dX12_firstOf_81 rfl rfl i10 (fun r17 => ?_)
              obtain ⟨ht, hf⟩ := h
              refine ga_icmp_ge (tgt := 87) dX12_firstOf_82 (by decide) r16 r17 (fun q18 => ?_) (fun q18 => ?_)
              · replace q18 : (gI σ 118 x2) ≤ (gI σ 118 x3) := q18
                have h := ht q18
                refine ga_iinc (ls' := [(3, vI (x3 + 1)), (0, .ref (G.2.1 88)), (1, vI x1), (2, vI x2)]) 3 dX12_firstOf_87 rfl (by decide) rfl ?_
                refine ga_goto (tgt := 4) dX12_firstOf_90 (by decide) ?_
                exact ga_sub [1, 2, 3, 0] rfl h
              · replace q18 : (gI σ 118 x3) < (gI σ 118 x2) := (Int.not_le.mp q18)
                have h := hf q18
                refine ga_iload_n 3 dX12_firstOf_85 rfl rfl ?_
                refine ga_istore_n (ls' := [(2, vI x3), (0, .ref (G.2.1 88)), (1, vI x1), (3, vI x3)]) dX12_firstOf_86 rfl (by decide) rfl ?_
                refine ga_iinc (ls' := [(3, vI (x3 + 1)), (2, vI x3), (0, .ref (G.2.1 88)), (1, vI x1)]) 3 dX12_firstOf_87 rfl (by decide) rfl ?_
                refine ga_goto (tgt := 4) dX12_firstOf_90 (by decide) ?_
                exact ga_sub [2, 3, 1, 0] rfl h
      · replace q7 : ¬ (gI σ 121 x3) = (-1) := q7
        have h := hf q7
        refine ga_goto (tgt := 87) dX12_firstOf_32 (by decide) ?_
        refine ga_iinc (ls' := [(3, vI (x3 + 1)), (0, .ref (G.2.1 88)), (1, vI x1), (2, vI x2)]) 3 dX12_firstOf_87 rfl (by decide) rfl ?_
        refine ga_goto (tgt := 4) dX12_firstOf_90 (by decide) ?_
        exact ga_sub [1, 2, 3, 0] rfl h
abbrev eX12_shadows (l : Launch) (G : gG)  (σ : gS) (Q : gS → Prop) : Prop := gEv l G mX12_shadows [.ref (G.2.1 88)] σ Q
abbrev kX12_shadows_7 (l : Launch) (G : gG)  (x1 : Int) (σ : gS) (Q : gS → Prop) : Prop := gAt l G mX12_shadows (gQv G Q) 7 [(0, .ref (G.2.1 88)), (1, vI x1)] [] σ
abbrev kX12_shadows_93 (l : Launch) (G : gG)  (x1 : Int) (σ : gS) (Q : gS → Prop) : Prop := gAt l G mX12_shadows (gQv G Q) 93 [(0, .ref (G.2.1 88)), (1, vI x1)] [] σ
abbrev kX12_shadows_116 (l : Launch) (G : gG)  (x1 : Int) (σ : gS) (Q : gS → Prop) : Prop := gAt l G mX12_shadows (gQv G Q) 116 [(0, .ref (G.2.1 88)), (1, vI x1)] [] σ
abbrev kX12_shadows_132 (l : Launch) (G : gG)  (x1 : Int) (x2 : Int) (x3 : Int) (σ : gS) (Q : gS → Prop) : Prop := gAt l G mX12_shadows (gQv G Q) 132 [(0, .ref (G.2.1 88)), (1, vI x1), (2, vI x2), (3, vI x3)] [] σ
set_option maxRecDepth 100000 in
set_option maxHeartbeats 4000000 in
theorem vX12_shadows {l : Launch} {G : gG}  (σ : gS) (Q : gS → Prop) (h : ∀ σ1, σ1 = sI σ 88 50 0 →
  kX12_shadows_7 l G  0 σ1 Q) : eX12_shadows l G  σ Q := by
  refine ga_entry rfl (Nat.le_of_ble_eq_true rfl) ?_
  show gAt l G mX12_shadows (gQv G Q) 0 [(0, .ref (G.2.1 88))] [] σ
  refine ga_aload_n 0 dX12_shadows_0 rfl rfl ?_
  refine ga_iconst dX12_shadows_1 ?_
  obtain ⟨σ1, eσ1⟩ : ∃ z, z = sI σ 88 50 0 := ⟨_, rfl⟩
  replace h := h σ1 eσ1
  refine ga_putI (kI := 50) dX12_shadows_2 fX12_386 pX12_50 rfl rfl rfl (by decide) eσ1 ?_
  refine ga_iconst dX12_shadows_5 ?_
  refine ga_istore_n (ls' := [(1, vI 0), (0, .ref (G.2.1 88))]) dX12_shadows_6 rfl (by decide) rfl ?_
  exact ga_sub [1, 0] rfl h
set_option maxRecDepth 100000 in
set_option maxHeartbeats 4000000 in
theorem vX12_shadows_7 {l : Launch} {G : gG}  (x1 : Int) (rx1 : gR x1) (σ : gS) (Q : gS → Prop) (h : ((gI σ 88 25) ≤ x1 → kX12_shadows_93 l G  0 σ Q) ∧
  (x1 < (gI σ 88 25) → (0 ≤ x1 ∧ x1 < 400) ∧ (¬ (gI σ 108 x1) = 0 → (0 ≤ (gI σ 88 50) ∧ (gI σ 88 50) < 40) ∧ ∀ σ10, σ10 = sI σ 118 (gI σ 88 50) (gI σ 100 x1) →
      eX12_outputOf l G (gI σ10 101 x1) σ10 (fun v15 σ13 => gR v15 →
      (0 ≤ (gI σ10 88 50) ∧ (gI σ10 88 50) < 40) ∧ ∀ σ17, σ17 = sI σ13 119 (gI σ10 88 50) v15 →
      (0 ≤ (gI σ17 88 50) ∧ (gI σ17 88 50) < 40) ∧ ∀ σ21, σ21 = sI σ17 120 (gI σ17 88 50) (gI σ17 103 x1) →
      (gR ((gI σ21 88 50) + 1)) ∧ ∀ σ23, σ23 = sI σ21 88 50 ((gI σ21 88 50) + 1) →
      kX12_shadows_7 l G  (x1 + 1) σ23 Q)) ∧
    ((gI σ 108 x1) = 0 → kX12_shadows_7 l G  (x1 + 1) σ Q))) : kX12_shadows_7 l G  x1 σ Q := by
  refine ga_iload_n 1 dX12_shadows_7 rfl rfl ?_
  refine ga_aload_n 0 dX12_shadows_8 rfl rfl ?_
  refine ga_getI (kI := 25) dX12_shadows_9 fX12_260 rfl rfl rfl (fun r2 => ?_)
  obtain ⟨ht, hf⟩ := h
  refine ga_icmp_ge (tgt := 91) dX12_shadows_12 (by decide) rx1 r2 (fun q3 => ?_) (fun q3 => ?_)
  · replace q3 : (gI σ 88 25) ≤ x1 := q3
    have h := ht q3
    refine ga_iconst dX12_shadows_91 ?_
    refine ga_istore_n (ls' := [(1, vI 0), (0, .ref (G.2.1 88))]) dX12_shadows_92 rfl (by decide) rfl ?_
    exact ga_sub [1, 0] rfl h
  · replace q3 : x1 < (gI σ 88 25) := (Int.not_le.mp q3)
    have h := hf q3
    refine ga_aload_n 0 dX12_shadows_15 rfl rfl ?_
    refine ga_getR (kI := 38) (r := 108) dX12_shadows_16 fX12_68 rfl rfl (by decide) rfl ?_
    refine ga_iload_n 1 dX12_shadows_19 rfl rfl ?_
    obtain ⟨i4, h⟩ := h
    refine ga_zald (nI := 400) dX12_shadows_20 rfl rfl i4 (fun r5 => ?_)
    obtain ⟨ht, hf⟩ := h
    refine ga_if_ne (tgt := 27) dX12_shadows_21 (by decide) r5 (fun q6 => ?_) (fun q6 => ?_)
    · replace q6 : ¬ (gI σ 108 x1) = 0 := q6
      have h := ht q6
      refine ga_aload_n 0 dX12_shadows_27 rfl rfl ?_
      refine ga_getR (kI := 51) (r := 118) dX12_shadows_28 fX12_98 rfl rfl (by decide) rfl ?_
      refine ga_aload_n 0 dX12_shadows_31 rfl rfl ?_
      refine ga_getI (kI := 50) dX12_shadows_32 fX12_386 rfl rfl rfl (fun r7 => ?_)
      refine ga_aload_n 0 dX12_shadows_35 rfl rfl ?_
      refine ga_getR (kI := 30) (r := 100) dX12_shadows_36 fX12_44 rfl rfl (by decide) rfl ?_
      refine ga_iload_n 1 dX12_shadows_39 rfl rfl ?_
      refine ga_iald (nI := 400) dX12_shadows_40 rfl rfl i4 (fun r8 => ?_)
      obtain ⟨i9, h⟩ := h
      obtain ⟨σ10, eσ10⟩ : ∃ z, z = sI σ 118 (gI σ 88 50) (gI σ 100 x1) := ⟨_, rfl⟩
      replace h := h σ10 eσ10
      refine ga_iast (nI := 40) dX12_shadows_41 rfl rfl i9 r8 eσ10 ?_
      refine ga_aload_n 0 dX12_shadows_42 rfl rfl ?_
      refine ga_getR (kI := 52) (r := 119) dX12_shadows_43 fX12_101 rfl rfl (by decide) rfl ?_
      refine ga_aload_n 0 dX12_shadows_46 rfl rfl ?_
      refine ga_getI (kI := 50) dX12_shadows_47 fX12_386 rfl rfl rfl (fun r11 => ?_)
      refine ga_aload_n 0 dX12_shadows_50 rfl rfl ?_
      refine ga_getR (kI := 31) (r := 101) dX12_shadows_51 fX12_47 rfl rfl (by decide) rfl ?_
      refine ga_iload_n 1 dX12_shadows_54 rfl rfl ?_
      refine ga_iald (nI := 400) dX12_shadows_55 rfl rfl i4 (fun r12 => ?_)
      refine ga_callSi (z := mX12_outputOf) (As := [vI (gI σ10 101 x1)]) (rest := [vI (gI σ10 88 50), .ref (G.2.1 119)]) dX12_shadows_56 wX12_389 qX12_shadows_X12_outputOf rfl rfl (Nat.le_of_ble_eq_true rfl) (gEi_mono h (fun v15 σ13 h r14 => ?_))
      replace h := h r14
      obtain ⟨i16, h⟩ := h
      obtain ⟨σ17, eσ17⟩ : ∃ z, z = sI σ13 119 (gI σ10 88 50) v15 := ⟨_, rfl⟩
      replace h := h σ17 eσ17
      refine ga_iast (nI := 40) dX12_shadows_59 rfl rfl i16 r14 eσ17 ?_
      refine ga_aload_n 0 dX12_shadows_60 rfl rfl ?_
      refine ga_getR (kI := 53) (r := 120) dX12_shadows_61 fX12_104 rfl rfl (by decide) rfl ?_
      refine ga_aload_n 0 dX12_shadows_64 rfl rfl ?_
      refine ga_getI (kI := 50) dX12_shadows_65 fX12_386 rfl rfl rfl (fun r18 => ?_)
      refine ga_aload_n 0 dX12_shadows_68 rfl rfl ?_
      refine ga_getR (kI := 33) (r := 103) dX12_shadows_69 fX12_53 rfl rfl (by decide) rfl ?_
      refine ga_iload_n 1 dX12_shadows_72 rfl rfl ?_
      refine ga_iald (nI := 400) dX12_shadows_73 rfl rfl i4 (fun r19 => ?_)
      obtain ⟨i20, h⟩ := h
      obtain ⟨σ21, eσ21⟩ : ∃ z, z = sI σ17 120 (gI σ17 88 50) (gI σ17 103 x1) := ⟨_, rfl⟩
      replace h := h σ21 eσ21
      refine ga_iast (nI := 40) dX12_shadows_74 rfl rfl i20 r19 eσ21 ?_
      refine ga_aload_n 0 dX12_shadows_75 rfl rfl ?_
      refine ga_dup dX12_shadows_76 rfl ?_
      refine ga_getI (kI := 50) dX12_shadows_77 fX12_386 rfl rfl rfl (fun r22 => ?_)
      refine ga_iconst dX12_shadows_80 ?_
      refine ga_iadd dX12_shadows_81 ?_
      obtain ⟨r24, h⟩ := h
      obtain ⟨σ23, eσ23⟩ : ∃ z, z = sI σ21 88 50 ((gI σ21 88 50) + 1) := ⟨_, rfl⟩
      replace h := h σ23 eσ23
      refine ga_putI (kI := 50) dX12_shadows_82 fX12_386 pX12_50 rfl rfl rfl r24 eσ23 ?_
      refine ga_iinc (ls' := [(1, vI (x1 + 1)), (0, .ref (G.2.1 88))]) 1 dX12_shadows_85 rfl (by decide) rfl ?_
      refine ga_goto (tgt := 7) dX12_shadows_88 (by decide) ?_
      exact ga_sub [1, 0] rfl h
    · replace q6 : (gI σ 108 x1) = 0 := (Decidable.not_not.mp q6)
      have h := hf q6
      refine ga_goto (tgt := 85) dX12_shadows_24 (by decide) ?_
      refine ga_iinc (ls' := [(1, vI (x1 + 1)), (0, .ref (G.2.1 88))]) 1 dX12_shadows_85 rfl (by decide) rfl ?_
      refine ga_goto (tgt := 7) dX12_shadows_88 (by decide) ?_
      exact ga_sub [1, 0] rfl h
set_option maxRecDepth 100000 in
set_option maxHeartbeats 4000000 in
theorem vX12_shadows_93 {l : Launch} {G : gG}  (x1 : Int) (rx1 : gR x1) (σ : gS) (Q : gS → Prop) (h : ((gI σ 88 50) ≤ x1 → kX12_shadows_116 l G  0 σ Q) ∧
  (x1 < (gI σ 88 50) → (0 ≤ x1 ∧ x1 < 40) ∧ ∀ σ28, σ28 = sI σ 121 x1 (-1) →
    kX12_shadows_93 l G  (x1 + 1) σ28 Q)) : kX12_shadows_93 l G  x1 σ Q := by
  refine ga_iload_n 1 dX12_shadows_93 rfl rfl ?_
  refine ga_aload_n 0 dX12_shadows_94 rfl rfl ?_
  refine ga_getI (kI := 50) dX12_shadows_95 fX12_386 rfl rfl rfl (fun r25 => ?_)
  obtain ⟨ht, hf⟩ := h
  refine ga_icmp_ge (tgt := 114) dX12_shadows_98 (by decide) rx1 r25 (fun q26 => ?_) (fun q26 => ?_)
  · replace q26 : (gI σ 88 50) ≤ x1 := q26
    have h := ht q26
    refine ga_iconst dX12_shadows_114 ?_
    refine ga_istore_n (ls' := [(1, vI 0), (0, .ref (G.2.1 88))]) dX12_shadows_115 rfl (by decide) rfl ?_
    exact ga_sub [1, 0] rfl h
  · replace q26 : x1 < (gI σ 88 50) := (Int.not_le.mp q26)
    have h := hf q26
    refine ga_aload_n 0 dX12_shadows_101 rfl rfl ?_
    refine ga_getR (kI := 54) (r := 121) dX12_shadows_102 fX12_107 rfl rfl (by decide) rfl ?_
    refine ga_iload_n 1 dX12_shadows_105 rfl rfl ?_
    refine ga_iconst dX12_shadows_106 ?_
    obtain ⟨i27, h⟩ := h
    obtain ⟨σ28, eσ28⟩ : ∃ z, z = sI σ 121 x1 (-1) := ⟨_, rfl⟩
    replace h := h σ28 eσ28
    refine ga_iast (nI := 40) dX12_shadows_107 rfl rfl i27 (by decide) eσ28 ?_
    refine ga_iinc (ls' := [(1, vI (x1 + 1)), (0, .ref (G.2.1 88))]) 1 dX12_shadows_108 rfl (by decide) rfl ?_
    refine ga_goto (tgt := 93) dX12_shadows_111 (by decide) ?_
    exact ga_sub [1, 0] rfl h
set_option maxRecDepth 100000 in
set_option maxHeartbeats 4000000 in
theorem vX12_shadows_116 {l : Launch} {G : gG}  (x1 : Int) (rx1 : gR x1) (σ : gS) (Q : gS → Prop) (h : ((gI σ 88 10) ≤ x1 → Q σ) ∧
  (x1 < (gI σ 88 10) → eX12_firstOf l G x1 σ (fun v33 σ31 => gR v33 →
    kX12_shadows_132 l G  x1 0 v33 σ31 Q))) : kX12_shadows_116 l G  x1 σ Q := by
  refine ga_iload_n 1 dX12_shadows_116 rfl rfl ?_
  refine ga_aload_n 0 dX12_shadows_117 rfl rfl ?_
  refine ga_getI (kI := 10) dX12_shadows_118 fX12_236 rfl rfl rfl (fun r29 => ?_)
  obtain ⟨ht, hf⟩ := h
  refine ga_icmp_ge (tgt := 187) dX12_shadows_121 (by decide) rx1 r29 (fun q30 => ?_) (fun q30 => ?_)
  · replace q30 : (gI σ 88 10) ≤ x1 := q30
    have h := ht q30
    exact ga_vret dX12_shadows_187 rfl h
  · replace q30 : x1 < (gI σ 88 10) := (Int.not_le.mp q30)
    have h := hf q30
    refine ga_iconst dX12_shadows_124 ?_
    refine ga_istore_n (ls' := [(2, vI 0), (0, .ref (G.2.1 88)), (1, vI x1)]) dX12_shadows_125 rfl (by decide) rfl ?_
    refine ga_aload_n 1 dX12_shadows_126 rfl rfl ?_
    refine ga_iload_n 2 dX12_shadows_127 rfl rfl ?_
    refine ga_callVi (z := mX12_firstOf) (As := [vI x1]) (rest := []) dX12_shadows_128 wX12_392 qX12_shadows_X12_firstOf rfl ⟨_, rfl, rfl⟩ rfl rfl (Nat.le_of_ble_eq_true rfl) (gEi_mono h (fun v33 σ31 h r32 => ?_))
    replace h := h r32
    refine ga_istore_n (ls' := [(3, vI v33), (2, vI 0), (0, .ref (G.2.1 88)), (1, vI x1)]) dX12_shadows_131 rfl (by decide) rfl ?_
    exact ga_sub [2, 3, 1, 0] rfl h
set_option maxRecDepth 100000 in
set_option maxHeartbeats 4000000 in
theorem vX12_shadows_132 {l : Launch} {G : gG}  (x1 : Int) (x2 : Int) (x3 : Int) (rx1 : gR x1) (rx2 : gR x2) (rx3 : gR x3) (σ : gS) (Q : gS → Prop) (h : (x3 = (-1) → kX12_shadows_116 l G  (x1 + 1) σ Q) ∧
  (¬ x3 = (-1) → (0 ≤ x3 ∧ x3 < 40) ∧ (∀ v40 : Int, v40 = (if (gI σ 120 x3) ≤ x2 then x2 else (gI σ 120 x3)) →
    ∀ σ41, σ41 = sI σ 121 x3 v40 →
      eX12_firstOf l G x1 σ41 (fun v45 σ43 => gR v45 →
      kX12_shadows_132 l G  x1 ((gI σ41 121 x3) + 1) v45 σ43 Q)))) : kX12_shadows_132 l G  x1 x2 x3 σ Q := by
  refine ga_iload_n 3 dX12_shadows_132 rfl rfl ?_
  refine ga_iconst dX12_shadows_133 ?_
  obtain ⟨ht, hf⟩ := h
  refine ga_icmp_eq (tgt := 181) dX12_shadows_134 (by decide) rx3 (by decide) (fun q34 => ?_) (fun q34 => ?_)
  · replace q34 : x3 = (-1) := q34
    have h := ht q34
    refine ga_iinc (ls' := [(1, vI (x1 + 1)), (0, .ref (G.2.1 88)), (2, vI x2), (3, vI x3)]) 1 dX12_shadows_181 rfl (by decide) rfl ?_
    refine ga_goto (tgt := 116) dX12_shadows_184 (by decide) ?_
    exact ga_sub [1, 0] rfl h
  · replace q34 : ¬ x3 = (-1) := q34
    have h := hf q34
    refine ga_aload_n 0 dX12_shadows_137 rfl rfl ?_
    refine ga_getR (kI := 54) (r := 121) dX12_shadows_138 fX12_107 rfl rfl (by decide) rfl ?_
    refine ga_iload_n 3 dX12_shadows_141 rfl rfl ?_
    refine ga_aload_n 0 dX12_shadows_142 rfl rfl ?_
    refine ga_getR (kI := 53) (r := 120) dX12_shadows_143 fX12_104 rfl rfl (by decide) rfl ?_
    refine ga_iload_n 3 dX12_shadows_146 rfl rfl ?_
    obtain ⟨i35, h⟩ := h
    refine ga_iald (nI := 40) dX12_shadows_147 rfl rfl i35 (fun r36 => ?_)
    refine ga_iload_n 2 dX12_shadows_148 rfl rfl ?_
    have kJ37 : ∀ v40 : Int, gR v40 → v40 = (if (gI σ 120 x3) ≤ x2 then x2 else (gI σ 120 x3)) → gAt l G mX12_shadows (gQv G Q) 162 [(0, .ref (G.2.1 88)), (1, vI x1), (2, vI x2), (3, vI x3)] [vI v40, vI x3, .ref (G.2.1 121)] σ := by
      intro v40 rv40 ev40
      replace h := h v40 ev40
      obtain ⟨σ41, eσ41⟩ : ∃ z, z = sI σ 121 x3 v40 := ⟨_, rfl⟩
      replace h := h σ41 eσ41
      refine ga_iast (nI := 40) dX12_shadows_162 rfl rfl i35 rv40 eσ41 ?_
      refine ga_aload_n 0 dX12_shadows_163 rfl rfl ?_
      refine ga_getR (kI := 54) (r := 121) dX12_shadows_164 fX12_107 rfl rfl (by decide) rfl ?_
      refine ga_iload_n 3 dX12_shadows_167 rfl rfl ?_
      refine ga_iald (nI := 40) dX12_shadows_168 rfl rfl i35 (fun r42 => ?_)
      refine ga_iconst dX12_shadows_169 ?_
      refine ga_iadd dX12_shadows_170 ?_
      refine ga_istore_n (ls' := [(2, vI ((gI σ41 121 x3) + 1)), (0, .ref (G.2.1 88)), (1, vI x1), (3, vI x3)]) dX12_shadows_171 rfl (by decide) rfl ?_
      refine ga_aload_n 1 dX12_shadows_172 rfl rfl ?_
      refine ga_iload_n 2 dX12_shadows_173 rfl rfl ?_
      refine ga_callVi (z := mX12_firstOf) (As := [vI x1]) (rest := []) dX12_shadows_174 wX12_392 qX12_shadows_X12_firstOf rfl ⟨_, rfl, rfl⟩ rfl rfl (Nat.le_of_ble_eq_true rfl) (gEi_mono h (fun v45 σ43 h r44 => ?_))
      replace h := h r44
      refine ga_istore_n (ls' := [(3, vI v45), (2, vI ((gI σ41 121 x3) + 1)), (0, .ref (G.2.1 88)), (1, vI x1)]) dX12_shadows_177 rfl (by decide) rfl ?_
      refine ga_goto (tgt := 132) dX12_shadows_178 (by decide) ?_
      exact ga_sub [2, 3, 1, 0] rfl h
    replace h : ((gI σ 120 x3) ≤ x2 → True) ∧
    (x2 < (gI σ 120 x3) → True) := by repeat (first | exact True.intro | apply And.intro | intro _)
    obtain ⟨ht, hf⟩ := h
    refine ga_icmp_le (tgt := 161) dX12_shadows_149 (by decide) r36 rx2 (fun q38 => ?_) (fun q38 => ?_)
    · replace q38 : (gI σ 120 x3) ≤ x2 := q38
      have h := ht q38
      refine ga_iload_n 2 dX12_shadows_161 rfl rfl ?_
      exact kJ37 x2 rx2 (by rw [if_pos q38])
    · replace q38 : x2 < (gI σ 120 x3) := (Int.not_le.mp q38)
      have h := hf q38
      refine ga_aload_n 0 dX12_shadows_152 rfl rfl ?_
      refine ga_getR (kI := 53) (r := 120) dX12_shadows_153 fX12_104 rfl rfl (by decide) rfl ?_
      refine ga_iload_n 3 dX12_shadows_156 rfl rfl ?_
      refine ga_iald (nI := 40) dX12_shadows_157 rfl rfl i35 (fun r39 => ?_)
      refine ga_goto (tgt := 162) dX12_shadows_158 (by decide) ?_
      exact kJ37 (gI σ 120 x3) r39 (by rw [if_neg (Int.not_le.mpr q38)])
abbrev eX12_putsIn (l : Launch) (G : gG) (x1 : Int) (σ : gS) (Q : gS → Prop) : Prop := gEv l G mX12_putsIn [.ref (G.2.1 88), vI x1] σ Q
abbrev kX12_putsIn_12 (l : Launch) (G : gG)  (x1 : Int) (x2 : Int) (x3 : Int) (x4 : Int) (σ : gS) (Q : gS → Prop) : Prop := gAt l G mX12_putsIn (gQv G Q) 12 [(0, .ref (G.2.1 88)), (1, vI x1), (2, vI x2), (3, vI x3), (4, vI x4)] [] σ
abbrev kX12_putsIn_108 (l : Launch) (G : gG)  (x1 : Int) (x2 : Int) (x3 : Int) (x4 : Int) (x5 : Int) (σ : gS) (Q : gS → Prop) : Prop := gAt l G mX12_putsIn (gQv G Q) 108 [(0, .ref (G.2.1 88)), (1, vI x1), (2, vI x2), (3, vI x3), (4, vI x4), (5, vI x5)] [] σ
set_option maxRecDepth 100000 in
set_option maxHeartbeats 4000000 in
theorem vX12_putsIn {l : Launch} {G : gG} (x1 : Int) (rx1 : gR x1) (σ : gS) (Q : gS → Prop) (h : (0 ≤ x1 ∧ x1 < 40) ∧ kX12_putsIn_12 l G  x1 (gI σ 118 x1) 0 0 σ Q) : eX12_putsIn l G x1 σ Q := by
  refine ga_entry rfl (Nat.le_of_ble_eq_true rfl) ?_
  show gAt l G mX12_putsIn (gQv G Q) 0 [(0, .ref (G.2.1 88)), (1, vI x1)] [] σ
  refine ga_aload_n 0 dX12_putsIn_0 rfl rfl ?_
  refine ga_getR (kI := 51) (r := 118) dX12_putsIn_1 fX12_98 rfl rfl (by decide) rfl ?_
  refine ga_iload_n 1 dX12_putsIn_4 rfl rfl ?_
  obtain ⟨i1, h⟩ := h
  refine ga_iald (nI := 40) dX12_putsIn_5 rfl rfl i1 (fun r2 => ?_)
  refine ga_istore_n (ls' := [(2, vI (gI σ 118 x1)), (0, .ref (G.2.1 88)), (1, vI x1)]) dX12_putsIn_6 rfl (by decide) rfl ?_
  refine ga_iconst dX12_putsIn_7 ?_
  refine ga_istore_n (ls' := [(3, vI 0), (2, vI (gI σ 118 x1)), (0, .ref (G.2.1 88)), (1, vI x1)]) dX12_putsIn_8 rfl (by decide) rfl ?_
  refine ga_iconst dX12_putsIn_9 ?_
  refine ga_istore (ls' := [(4, vI 0), (3, vI 0), (2, vI (gI σ 118 x1)), (0, .ref (G.2.1 88)), (1, vI x1)]) dX12_putsIn_10 (by decide) rfl ?_
  exact ga_sub [3, 4, 2, 1, 0] rfl h
set_option maxRecDepth 100000 in
set_option maxHeartbeats 4000000 in
theorem vX12_putsIn_12 {l : Launch} {G : gG}  (x1 : Int) (x2 : Int) (x3 : Int) (x4 : Int) (rx1 : gR x1) (rx2 : gR x2) (rx3 : gR x3) (rx4 : gR x4) (σ : gS) (Q : gS → Prop) (h : ((gI σ 88 50) ≤ x4 → (0 ≤ x2 ∧ x2 < 6) ∧ (∀ v10 : Int, v10 = (if (gI σ 124 x2) ≤ x3 then (gI σ 124 x2) else x3) →
    kX12_putsIn_108 l G  x1 x2 x3 v10 (gI σ 124 x2) σ Q)) ∧
  (x4 < (gI σ 88 50) → (0 ≤ x4 ∧ x4 < 40) ∧ ((¬ (gI σ 125 x4) = 2 → True) ∧
    ((gI σ 125 x4) = 2 → (0 ≤ x1 ∧ x1 < 40) ∧ (¬ (gI σ 119 x4) = (gI σ 119 x1) → True) ∧
      ((gI σ 119 x4) = (gI σ 119 x1) → ((gI σ 121 x1) ≤ (gI σ 121 x4) → True) ∧
        ((gI σ 121 x4) < (gI σ 121 x1) → True)))) ∧
    (∀ v23 : Int, v23 = (if (gI σ 125 x4) = 2 then (if (gI σ 119 x4) = (gI σ 119 x1) then (if (gI σ 121 x1) ≤ (gI σ 121 x4) then 0 else 1) else 0) else 0) →
    kX12_putsIn_12 l G  x1 x2 (x3 + v23) (x4 + 1) σ Q))) : kX12_putsIn_12 l G  x1 x2 x3 x4 σ Q := by
  refine ga_iload 4 dX12_putsIn_12 rfl ?_
  refine ga_aload_n 0 dX12_putsIn_14 rfl rfl ?_
  refine ga_getI (kI := 50) dX12_putsIn_15 fX12_386 rfl rfl rfl (fun r3 => ?_)
  obtain ⟨ht, hf⟩ := h
  refine ga_icmp_ge (tgt := 78) dX12_putsIn_18 (by decide) rx4 r3 (fun q4 => ?_) (fun q4 => ?_)
  · replace q4 : (gI σ 88 50) ≤ x4 := q4
    have h := ht q4
    refine ga_iload_n 3 dX12_putsIn_78 rfl rfl ?_
    refine ga_aload_n 0 dX12_putsIn_79 rfl rfl ?_
    refine ga_getR (kI := 57) (r := 124) dX12_putsIn_80 fX12_116 rfl rfl (by decide) rfl ?_
    refine ga_iload_n 2 dX12_putsIn_83 rfl rfl ?_
    obtain ⟨i5, h⟩ := h
    refine ga_iald (nI := 6) dX12_putsIn_84 rfl rfl i5 (fun r6 => ?_)
    have kJ7 : ∀ v10 : Int, gR v10 → v10 = (if (gI σ 124 x2) ≤ x3 then (gI σ 124 x2) else x3) → gAt l G mX12_putsIn (gQv G Q) 98 [(0, .ref (G.2.1 88)), (1, vI x1), (2, vI x2), (3, vI x3), (4, vI x4)] [vI v10] σ := by
      intro v10 rv10 ev10
      replace h := h v10 ev10
      refine ga_istore (ls' := [(4, vI v10), (0, .ref (G.2.1 88)), (1, vI x1), (2, vI x2), (3, vI x3)]) dX12_putsIn_98 (by decide) rfl ?_
      refine ga_aload_n 1 dX12_putsIn_100 rfl rfl ?_
      refine ga_getR (kI := 57) (r := 124) dX12_putsIn_101 fX12_116 rfl rfl (by decide) rfl ?_
      refine ga_iload_n 3 dX12_putsIn_104 rfl rfl ?_
      refine ga_iald (nI := 6) dX12_putsIn_105 rfl rfl i5 (fun r11 => ?_)
      refine ga_istore (ls' := [(5, vI (gI σ 124 x2)), (4, vI v10), (0, .ref (G.2.1 88)), (1, vI x1), (2, vI x2), (3, vI x3)]) dX12_putsIn_106 (by decide) rfl ?_
      exact ga_sub [2, 3, 4, 5, 1, 0] rfl h
    replace h : ((gI σ 124 x2) ≤ x3 → True) ∧
    (x3 < (gI σ 124 x2) → True) := by repeat (first | exact True.intro | apply And.intro | intro _)
    obtain ⟨ht, hf⟩ := h
    refine ga_icmp_ge (tgt := 92) dX12_putsIn_85 (by decide) rx3 r6 (fun q8 => ?_) (fun q8 => ?_)
    · replace q8 : (gI σ 124 x2) ≤ x3 := q8
      have h := ht q8
      refine ga_aload_n 0 dX12_putsIn_92 rfl rfl ?_
      refine ga_getR (kI := 57) (r := 124) dX12_putsIn_93 fX12_116 rfl rfl (by decide) rfl ?_
      refine ga_iload_n 2 dX12_putsIn_96 rfl rfl ?_
      refine ga_iald (nI := 6) dX12_putsIn_97 rfl rfl i5 (fun r9 => ?_)
      exact kJ7 (gI σ 124 x2) r9 (by rw [if_pos q8])
    · replace q8 : x3 < (gI σ 124 x2) := (Int.not_le.mp q8)
      have h := hf q8
      refine ga_iload_n 3 dX12_putsIn_88 rfl rfl ?_
      refine ga_goto (tgt := 98) dX12_putsIn_89 (by decide) ?_
      exact kJ7 x3 rx3 (by rw [if_neg (Int.not_le.mpr q8)])
  · replace q4 : x4 < (gI σ 88 50) := (Int.not_le.mp q4)
    have h := hf q4
    refine ga_iload_n 3 dX12_putsIn_21 rfl rfl ?_
    refine ga_aload_n 0 dX12_putsIn_22 rfl rfl ?_
    refine ga_getR (kI := 58) (r := 125) dX12_putsIn_23 fX12_119 rfl rfl (by decide) rfl ?_
    refine ga_iload 4 dX12_putsIn_26 rfl ?_
    obtain ⟨i12, h⟩ := h
    refine ga_iald (nI := 40) dX12_putsIn_28 rfl rfl i12 (fun r13 => ?_)
    refine ga_iconst dX12_putsIn_29 ?_
    obtain ⟨hob, h⟩ := h
    have kJ14 : ∀ v23 : Int, gR v23 → (v23 = 0 ∨ v23 = 1) → v23 = (if (gI σ 125 x4) = 2 then (if (gI σ 119 x4) = (gI σ 119 x1) then (if (gI σ 121 x1) ≤ (gI σ 121 x4) then 0 else 1) else 0) else 0) → gAt l G mX12_putsIn (gQv G Q) 70 [(0, .ref (G.2.1 88)), (1, vI x1), (2, vI x2), (3, vI x3), (4, vI x4)] [vI v23, vI x3] σ := by
      intro v23 rv23 bv23 ev23
      replace h := h v23 ev23
      refine ga_iadd dX12_putsIn_70 ?_
      refine ga_istore_n (ls' := [(3, vI (x3 + v23)), (0, .ref (G.2.1 88)), (1, vI x1), (2, vI x2), (4, vI x4)]) dX12_putsIn_71 rfl (by decide) rfl ?_
      refine ga_iinc (ls' := [(4, vI (x4 + 1)), (3, vI (x3 + v23)), (0, .ref (G.2.1 88)), (1, vI x1), (2, vI x2)]) 4 dX12_putsIn_72 rfl (by decide) rfl ?_
      refine ga_goto (tgt := 12) dX12_putsIn_75 (by decide) ?_
      exact ga_sub [2, 3, 4, 1, 0] rfl h
    replace h := hob
    obtain ⟨ht, hf⟩ := h
    refine ga_icmp_ne (tgt := 69) dX12_putsIn_30 (by decide) r13 (by decide) (fun q15 => ?_) (fun q15 => ?_)
    · replace q15 : ¬ (gI σ 125 x4) = 2 := q15
      have h := ht q15
      refine ga_iconst dX12_putsIn_69 ?_
      exact kJ14 0 (by decide) (Or.inl rfl) (by rw [if_neg q15])
    · replace q15 : (gI σ 125 x4) = 2 := (Decidable.not_not.mp q15)
      have h := hf q15
      refine ga_aload_n 0 dX12_putsIn_33 rfl rfl ?_
      refine ga_getR (kI := 52) (r := 119) dX12_putsIn_34 fX12_101 rfl rfl (by decide) rfl ?_
      refine ga_iload 4 dX12_putsIn_37 rfl ?_
      refine ga_iald (nI := 40) dX12_putsIn_39 rfl rfl i12 (fun r16 => ?_)
      refine ga_aload_n 0 dX12_putsIn_40 rfl rfl ?_
      refine ga_getR (kI := 52) (r := 119) dX12_putsIn_41 fX12_101 rfl rfl (by decide) rfl ?_
      refine ga_iload_n 1 dX12_putsIn_44 rfl rfl ?_
      obtain ⟨i17, h⟩ := h
      refine ga_iald (nI := 40) dX12_putsIn_45 rfl rfl i17 (fun r18 => ?_)
      obtain ⟨ht, hf⟩ := h
      refine ga_icmp_ne (tgt := 69) dX12_putsIn_46 (by decide) r16 r18 (fun q19 => ?_) (fun q19 => ?_)
      · replace q19 : ¬ (gI σ 119 x4) = (gI σ 119 x1) := q19
        have h := ht q19
        refine ga_iconst dX12_putsIn_69 ?_
        exact kJ14 0 (by decide) (Or.inl rfl) (by rw [if_pos q15, if_neg q19])
      · replace q19 : (gI σ 119 x4) = (gI σ 119 x1) := (Decidable.not_not.mp q19)
        have h := hf q19
        refine ga_aload_n 0 dX12_putsIn_49 rfl rfl ?_
        refine ga_getR (kI := 54) (r := 121) dX12_putsIn_50 fX12_107 rfl rfl (by decide) rfl ?_
        refine ga_iload 4 dX12_putsIn_53 rfl ?_
        refine ga_iald (nI := 40) dX12_putsIn_55 rfl rfl i12 (fun r20 => ?_)
        refine ga_aload_n 0 dX12_putsIn_56 rfl rfl ?_
        refine ga_getR (kI := 54) (r := 121) dX12_putsIn_57 fX12_107 rfl rfl (by decide) rfl ?_
        refine ga_iload_n 1 dX12_putsIn_60 rfl rfl ?_
        refine ga_iald (nI := 40) dX12_putsIn_61 rfl rfl i17 (fun r21 => ?_)
        obtain ⟨ht, hf⟩ := h
        refine ga_icmp_ge (tgt := 69) dX12_putsIn_62 (by decide) r20 r21 (fun q22 => ?_) (fun q22 => ?_)
        · replace q22 : (gI σ 121 x1) ≤ (gI σ 121 x4) := q22
          have h := ht q22
          refine ga_iconst dX12_putsIn_69 ?_
          exact kJ14 0 (by decide) (Or.inl rfl) (by rw [if_pos q15, if_pos q19, if_pos q22])
        · replace q22 : (gI σ 121 x4) < (gI σ 121 x1) := (Int.not_le.mp q22)
          have h := hf q22
          refine ga_iconst dX12_putsIn_65 ?_
          refine ga_goto (tgt := 70) dX12_putsIn_66 (by decide) ?_
          exact kJ14 1 (by decide) (Or.inr rfl) (by rw [if_pos q15, if_pos q19, if_neg (Int.not_le.mpr q22)])
set_option maxRecDepth 100000 in
set_option maxHeartbeats 4000000 in
theorem vX12_putsIn_108 {l : Launch} {G : gG}  (x1 : Int) (x2 : Int) (x3 : Int) (x4 : Int) (x5 : Int) (rx1 : gR x1) (rx2 : gR x2) (rx3 : gR x3) (rx4 : gR x4) (rx5 : gR x5) (σ : gS) (Q : gS → Prop) (h : (x5 ≤ x4 → (0 ≤ ((40 * x2) + x4) ∧ ((40 * x2) + x4) < 240) ∧ ∀ σ26, σ26 = sI σ 123 ((40 * x2) + x4) x1 →
    (0 ≤ x2 ∧ x2 < 6) ∧ (gR ((gI σ26 124 x2) + 1)) ∧ ∀ σ29, σ29 = sI σ26 124 x2 ((gI σ26 124 x2) + 1) →
    (0 ≤ x1 ∧ x1 < 40) ∧ ∀ σ32, σ32 = sI σ29 125 x1 1 →
    Q σ32) ∧
  (x4 < x5 → (0 ≤ (((40 * x2) + x5) - 1) ∧ (((40 * x2) + x5) - 1) < 240) ∧ (0 ≤ ((40 * x2) + x5) ∧ ((40 * x2) + x5) < 240) ∧ ∀ σ36, σ36 = sI σ 123 ((40 * x2) + x5) (gI σ 123 (((40 * x2) + x5) - 1)) →
    kX12_putsIn_108 l G  x1 x2 x3 x4 (x5 + (-1)) σ36 Q)) : kX12_putsIn_108 l G  x1 x2 x3 x4 x5 σ Q := by
  refine ga_iload 5 dX12_putsIn_108 rfl ?_
  refine ga_iload 4 dX12_putsIn_110 rfl ?_
  obtain ⟨ht, hf⟩ := h
  refine ga_icmp_le (tgt := 147) dX12_putsIn_112 (by decide) rx5 rx4 (fun q24 => ?_) (fun q24 => ?_)
  · replace q24 : x5 ≤ x4 := q24
    have h := ht q24
    refine ga_aload_n 0 dX12_putsIn_147 rfl rfl ?_
    refine ga_getR (kI := 56) (r := 123) dX12_putsIn_148 fX12_113 rfl rfl (by decide) rfl ?_
    refine ga_bipush dX12_putsIn_151 (by decide) ?_
    refine ga_iload_n 2 dX12_putsIn_153 rfl rfl ?_
    refine ga_imul dX12_putsIn_154 ?_
    refine ga_iload 4 dX12_putsIn_155 rfl ?_
    refine ga_iadd dX12_putsIn_157 ?_
    refine ga_iload_n 1 dX12_putsIn_158 rfl rfl ?_
    obtain ⟨i25, h⟩ := h
    obtain ⟨σ26, eσ26⟩ : ∃ z, z = sI σ 123 ((40 * x2) + x4) x1 := ⟨_, rfl⟩
    replace h := h σ26 eσ26
    refine ga_iast (nI := 240) dX12_putsIn_159 rfl rfl i25 rx1 eσ26 ?_
    refine ga_aload_n 0 dX12_putsIn_160 rfl rfl ?_
    refine ga_getR (kI := 57) (r := 124) dX12_putsIn_161 fX12_116 rfl rfl (by decide) rfl ?_
    refine ga_iload_n 2 dX12_putsIn_164 rfl rfl ?_
    refine ga_dup2 dX12_putsIn_165 rfl rfl ?_
    obtain ⟨i27, h⟩ := h
    refine ga_iald (nI := 6) dX12_putsIn_166 rfl rfl i27 (fun r28 => ?_)
    refine ga_iconst dX12_putsIn_167 ?_
    refine ga_iadd dX12_putsIn_168 ?_
    obtain ⟨r30, h⟩ := h
    obtain ⟨σ29, eσ29⟩ : ∃ z, z = sI σ26 124 x2 ((gI σ26 124 x2) + 1) := ⟨_, rfl⟩
    replace h := h σ29 eσ29
    refine ga_iast (nI := 6) dX12_putsIn_169 rfl rfl i27 r30 eσ29 ?_
    refine ga_aload_n 0 dX12_putsIn_170 rfl rfl ?_
    refine ga_getR (kI := 58) (r := 125) dX12_putsIn_171 fX12_119 rfl rfl (by decide) rfl ?_
    refine ga_iload_n 1 dX12_putsIn_174 rfl rfl ?_
    refine ga_iconst dX12_putsIn_175 ?_
    obtain ⟨i31, h⟩ := h
    obtain ⟨σ32, eσ32⟩ : ∃ z, z = sI σ29 125 x1 1 := ⟨_, rfl⟩
    replace h := h σ32 eσ32
    refine ga_iast (nI := 40) dX12_putsIn_176 rfl rfl i31 (by decide) eσ32 ?_
    exact ga_vret dX12_putsIn_177 rfl h
  · replace q24 : x4 < x5 := (Int.not_le.mp q24)
    have h := hf q24
    refine ga_aload_n 0 dX12_putsIn_115 rfl rfl ?_
    refine ga_getR (kI := 56) (r := 123) dX12_putsIn_116 fX12_113 rfl rfl (by decide) rfl ?_
    refine ga_bipush dX12_putsIn_119 (by decide) ?_
    refine ga_iload_n 2 dX12_putsIn_121 rfl rfl ?_
    refine ga_imul dX12_putsIn_122 ?_
    refine ga_iload 5 dX12_putsIn_123 rfl ?_
    refine ga_iadd dX12_putsIn_125 ?_
    refine ga_aload_n 0 dX12_putsIn_126 rfl rfl ?_
    refine ga_getR (kI := 56) (r := 123) dX12_putsIn_127 fX12_113 rfl rfl (by decide) rfl ?_
    refine ga_bipush dX12_putsIn_130 (by decide) ?_
    refine ga_iload_n 2 dX12_putsIn_132 rfl rfl ?_
    refine ga_imul dX12_putsIn_133 ?_
    refine ga_iload 5 dX12_putsIn_134 rfl ?_
    refine ga_iadd dX12_putsIn_136 ?_
    refine ga_iconst dX12_putsIn_137 ?_
    refine ga_isub dX12_putsIn_138 ?_
    obtain ⟨i33, h⟩ := h
    refine ga_iald (nI := 240) dX12_putsIn_139 rfl rfl i33 (fun r34 => ?_)
    obtain ⟨i35, h⟩ := h
    obtain ⟨σ36, eσ36⟩ : ∃ z, z = sI σ 123 ((40 * x2) + x5) (gI σ 123 (((40 * x2) + x5) - 1)) := ⟨_, rfl⟩
    replace h := h σ36 eσ36
    refine ga_iast (nI := 240) dX12_putsIn_140 rfl rfl i35 r34 eσ36 ?_
    refine ga_iinc (ls' := [(5, vI (x5 + (-1))), (0, .ref (G.2.1 88)), (1, vI x1), (2, vI x2), (3, vI x3), (4, vI x4)]) 5 dX12_putsIn_141 rfl (by decide) rfl ?_
    refine ga_goto (tgt := 108) dX12_putsIn_144 (by decide) ?_
    exact ga_sub [1, 2, 3, 4, 5, 0] rfl h
abbrev eX12_placeIn (l : Launch) (G : gG) (x1 : Int) (σ : gS) (Q : Int → gS → Prop) : Prop := gEi l G mX12_placeIn [.ref (G.2.1 88), vI x1] σ Q
abbrev kX12_placeIn_2 (l : Launch) (G : gG)  (x1 : Int) (x2 : Int) (σ : gS) (Q : Int → gS → Prop) : Prop := gAt l G mX12_placeIn (gQi G Q) 2 [(0, .ref (G.2.1 88)), (1, vI x1), (2, vI x2)] [] σ
set_option maxRecDepth 100000 in
set_option maxHeartbeats 4000000 in
theorem vX12_placeIn {l : Launch} {G : gG} (x1 : Int) (rx1 : gR x1) (σ : gS) (Q : Int → gS → Prop) (h : kX12_placeIn_2 l G  x1 0 σ Q) : eX12_placeIn l G x1 σ Q := by
  refine ga_entry rfl (Nat.le_of_ble_eq_true rfl) ?_
  show gAt l G mX12_placeIn (gQi G Q) 0 [(0, .ref (G.2.1 88)), (1, vI x1)] [] σ
  refine ga_iconst dX12_placeIn_0 ?_
  refine ga_istore_n (ls' := [(2, vI 0), (0, .ref (G.2.1 88)), (1, vI x1)]) dX12_placeIn_1 rfl (by decide) rfl ?_
  exact ga_sub [1, 2, 0] rfl h
set_option maxRecDepth 100000 in
set_option maxHeartbeats 4000000 in
theorem vX12_placeIn_2 {l : Launch} {G : gG}  (x1 : Int) (x2 : Int) (rx1 : gR x1) (rx2 : gR x2) (σ : gS) (Q : Int → gS → Prop) (h : (0 ≤ x1 ∧ x1 < 40) ∧ (0 ≤ ((40 * (gI σ 118 x1)) + x2) ∧ ((40 * (gI σ 118 x1)) + x2) < 240) ∧ ((gI σ 123 ((40 * (gI σ 118 x1)) + x2)) = x1 → Q x2 σ) ∧
  (¬ (gI σ 123 ((40 * (gI σ 118 x1)) + x2)) = x1 → kX12_placeIn_2 l G  x1 (x2 + 1) σ Q)) : kX12_placeIn_2 l G  x1 x2 σ Q := by
  refine ga_aload_n 0 dX12_placeIn_2 rfl rfl ?_
  refine ga_getR (kI := 56) (r := 123) dX12_placeIn_3 fX12_113 rfl rfl (by decide) rfl ?_
  refine ga_bipush dX12_placeIn_6 (by decide) ?_
  refine ga_aload_n 0 dX12_placeIn_8 rfl rfl ?_
  refine ga_getR (kI := 51) (r := 118) dX12_placeIn_9 fX12_98 rfl rfl (by decide) rfl ?_
  refine ga_iload_n 1 dX12_placeIn_12 rfl rfl ?_
  obtain ⟨i1, h⟩ := h
  refine ga_iald (nI := 40) dX12_placeIn_13 rfl rfl i1 (fun r2 => ?_)
  refine ga_imul dX12_placeIn_14 ?_
  refine ga_iload_n 2 dX12_placeIn_15 rfl rfl ?_
  refine ga_iadd dX12_placeIn_16 ?_
  obtain ⟨i3, h⟩ := h
  refine ga_iald (nI := 240) dX12_placeIn_17 rfl rfl i3 (fun r4 => ?_)
  refine ga_iload_n 1 dX12_placeIn_18 rfl rfl ?_
  obtain ⟨ht, hf⟩ := h
  refine ga_icmp_eq (tgt := 28) dX12_placeIn_19 (by decide) r4 rx1 (fun q5 => ?_) (fun q5 => ?_)
  · replace q5 : (gI σ 123 ((40 * (gI σ 118 x1)) + x2)) = x1 := q5
    have h := ht q5
    refine ga_iload_n 2 dX12_placeIn_28 rfl rfl ?_
    exact ga_iret dX12_placeIn_29 rfl rx2 h
  · replace q5 : ¬ (gI σ 123 ((40 * (gI σ 118 x1)) + x2)) = x1 := q5
    have h := hf q5
    refine ga_iinc (ls' := [(2, vI (x2 + 1)), (0, .ref (G.2.1 88)), (1, vI x1)]) 2 dX12_placeIn_22 rfl (by decide) rfl ?_
    refine ga_goto (tgt := 2) dX12_placeIn_25 (by decide) ?_
    exact ga_sub [1, 2, 0] rfl h
abbrev eX12_nextAsk (l : Launch) (G : gG) (x1 : Int) (σ : gS) (Q : Int → gS → Prop) : Prop := gEi l G mX12_nextAsk [.ref (G.2.1 88), vI x1] σ Q
abbrev kX12_nextAsk_4 (l : Launch) (G : gG)  (x1 : Int) (x2 : Int) (x3 : Int) (σ : gS) (Q : Int → gS → Prop) : Prop := gAt l G mX12_nextAsk (gQi G Q) 4 [(0, .ref (G.2.1 88)), (1, vI x1), (2, vI x2), (3, vI x3)] [] σ
set_option maxRecDepth 100000 in
set_option maxHeartbeats 4000000 in
theorem vX12_nextAsk {l : Launch} {G : gG} (x1 : Int) (rx1 : gR x1) (σ : gS) (Q : Int → gS → Prop) (h : kX12_nextAsk_4 l G  x1 (-1) 0 σ Q) : eX12_nextAsk l G x1 σ Q := by
  refine ga_entry rfl (Nat.le_of_ble_eq_true rfl) ?_
  show gAt l G mX12_nextAsk (gQi G Q) 0 [(0, .ref (G.2.1 88)), (1, vI x1)] [] σ
  refine ga_iconst dX12_nextAsk_0 ?_
  refine ga_istore_n (ls' := [(2, vI (-1)), (0, .ref (G.2.1 88)), (1, vI x1)]) dX12_nextAsk_1 rfl (by decide) rfl ?_
  refine ga_iconst dX12_nextAsk_2 ?_
  refine ga_istore_n (ls' := [(3, vI 0), (2, vI (-1)), (0, .ref (G.2.1 88)), (1, vI x1)]) dX12_nextAsk_3 rfl (by decide) rfl ?_
  exact ga_sub [2, 3, 1, 0] rfl h
set_option maxRecDepth 100000 in
set_option maxHeartbeats 4000000 in
theorem vX12_nextAsk_4 {l : Launch} {G : gG}  (x1 : Int) (x2 : Int) (x3 : Int) (rx1 : gR x1) (rx2 : gR x2) (rx3 : gR x3) (σ : gS) (Q : Int → gS → Prop) (h : ((gI σ 88 50) ≤ x3 → Q x2 σ) ∧
  (x3 < (gI σ 88 50) → (0 ≤ x3 ∧ x3 < 40) ∧ (¬ (gI σ 119 x3) = x1 → kX12_nextAsk_4 l G  x1 x2 (x3 + 1) σ Q) ∧
    ((gI σ 119 x3) = x1 → (¬ (gI σ 125 x3) = 1 → kX12_nextAsk_4 l G  x1 x2 (x3 + 1) σ Q) ∧
      ((gI σ 125 x3) = 1 → ((gI σ 126 x3) = 0 → (x2 = (-1) → kX12_nextAsk_4 l G  x1 x3 (x3 + 1) σ Q) ∧
          (¬ x2 = (-1) → (0 ≤ x2 ∧ x2 < 40) ∧ ((gI σ 121 x2) ≤ (gI σ 121 x3) → kX12_nextAsk_4 l G  x1 x2 (x3 + 1) σ Q) ∧
            ((gI σ 121 x3) < (gI σ 121 x2) → kX12_nextAsk_4 l G  x1 x3 (x3 + 1) σ Q))) ∧
        (¬ (gI σ 126 x3) = 0 → kX12_nextAsk_4 l G  x1 x2 (x3 + 1) σ Q))))) : kX12_nextAsk_4 l G  x1 x2 x3 σ Q := by
  refine ga_iload_n 3 dX12_nextAsk_4 rfl rfl ?_
  refine ga_aload_n 0 dX12_nextAsk_5 rfl rfl ?_
  refine ga_getI (kI := 50) dX12_nextAsk_6 fX12_386 rfl rfl rfl (fun r1 => ?_)
  obtain ⟨ht, hf⟩ := h
  refine ga_icmp_ge (tgt := 72) dX12_nextAsk_9 (by decide) rx3 r1 (fun q2 => ?_) (fun q2 => ?_)
  · replace q2 : (gI σ 88 50) ≤ x3 := q2
    have h := ht q2
    refine ga_iload_n 2 dX12_nextAsk_72 rfl rfl ?_
    exact ga_iret dX12_nextAsk_73 rfl rx2 h
  · replace q2 : x3 < (gI σ 88 50) := (Int.not_le.mp q2)
    have h := hf q2
    refine ga_aload_n 0 dX12_nextAsk_12 rfl rfl ?_
    refine ga_getR (kI := 52) (r := 119) dX12_nextAsk_13 fX12_101 rfl rfl (by decide) rfl ?_
    refine ga_iload_n 3 dX12_nextAsk_16 rfl rfl ?_
    obtain ⟨i3, h⟩ := h
    refine ga_iald (nI := 40) dX12_nextAsk_17 rfl rfl i3 (fun r4 => ?_)
    refine ga_iload_n 1 dX12_nextAsk_18 rfl rfl ?_
    obtain ⟨ht, hf⟩ := h
    refine ga_icmp_ne (tgt := 66) dX12_nextAsk_19 (by decide) r4 rx1 (fun q5 => ?_) (fun q5 => ?_)
    · replace q5 : ¬ (gI σ 119 x3) = x1 := q5
      have h := ht q5
      refine ga_iinc (ls' := [(3, vI (x3 + 1)), (0, .ref (G.2.1 88)), (1, vI x1), (2, vI x2)]) 3 dX12_nextAsk_66 rfl (by decide) rfl ?_
      refine ga_goto (tgt := 4) dX12_nextAsk_69 (by decide) ?_
      exact ga_sub [1, 2, 3, 0] rfl h
    · replace q5 : (gI σ 119 x3) = x1 := (Decidable.not_not.mp q5)
      have h := hf q5
      refine ga_aload_n 0 dX12_nextAsk_22 rfl rfl ?_
      refine ga_getR (kI := 58) (r := 125) dX12_nextAsk_23 fX12_119 rfl rfl (by decide) rfl ?_
      refine ga_iload_n 3 dX12_nextAsk_26 rfl rfl ?_
      refine ga_iald (nI := 40) dX12_nextAsk_27 rfl rfl i3 (fun r6 => ?_)
      refine ga_iconst dX12_nextAsk_28 ?_
      obtain ⟨ht, hf⟩ := h
      refine ga_icmp_ne (tgt := 66) dX12_nextAsk_29 (by decide) r6 (by decide) (fun q7 => ?_) (fun q7 => ?_)
      · replace q7 : ¬ (gI σ 125 x3) = 1 := q7
        have h := ht q7
        refine ga_iinc (ls' := [(3, vI (x3 + 1)), (0, .ref (G.2.1 88)), (1, vI x1), (2, vI x2)]) 3 dX12_nextAsk_66 rfl (by decide) rfl ?_
        refine ga_goto (tgt := 4) dX12_nextAsk_69 (by decide) ?_
        exact ga_sub [1, 2, 3, 0] rfl h
      · replace q7 : (gI σ 125 x3) = 1 := (Decidable.not_not.mp q7)
        have h := hf q7
        refine ga_aload_n 0 dX12_nextAsk_32 rfl rfl ?_
        refine ga_getR (kI := 59) (r := 126) dX12_nextAsk_33 fX12_122 rfl rfl (by decide) rfl ?_
        refine ga_iload_n 3 dX12_nextAsk_36 rfl rfl ?_
        refine ga_zald (nI := 40) dX12_nextAsk_37 rfl rfl i3 (fun r8 => ?_)
        obtain ⟨ht, hf⟩ := h
        refine ga_if_eq (tgt := 44) dX12_nextAsk_38 (by decide) r8 (fun q9 => ?_) (fun q9 => ?_)
        · replace q9 : (gI σ 126 x3) = 0 := q9
          have h := ht q9
          refine ga_iload_n 2 dX12_nextAsk_44 rfl rfl ?_
          refine ga_iconst dX12_nextAsk_45 ?_
          obtain ⟨ht, hf⟩ := h
          refine ga_icmp_eq (tgt := 64) dX12_nextAsk_46 (by decide) rx2 (by decide) (fun q10 => ?_) (fun q10 => ?_)
          · replace q10 : x2 = (-1) := q10
            have h := ht q10
            refine ga_iload_n 3 dX12_nextAsk_64 rfl rfl ?_
            refine ga_istore_n (ls' := [(2, vI x3), (0, .ref (G.2.1 88)), (1, vI x1), (3, vI x3)]) dX12_nextAsk_65 rfl (by decide) rfl ?_
            refine ga_iinc (ls' := [(3, vI (x3 + 1)), (2, vI x3), (0, .ref (G.2.1 88)), (1, vI x1)]) 3 dX12_nextAsk_66 rfl (by decide) rfl ?_
            refine ga_goto (tgt := 4) dX12_nextAsk_69 (by decide) ?_
            exact ga_sub [2, 3, 1, 0] rfl h
          · replace q10 : ¬ x2 = (-1) := q10
            have h := hf q10
            refine ga_aload_n 0 dX12_nextAsk_49 rfl rfl ?_
            refine ga_getR (kI := 54) (r := 121) dX12_nextAsk_50 fX12_107 rfl rfl (by decide) rfl ?_
            refine ga_iload_n 3 dX12_nextAsk_53 rfl rfl ?_
            refine ga_iald (nI := 40) dX12_nextAsk_54 rfl rfl i3 (fun r11 => ?_)
            refine ga_aload_n 0 dX12_nextAsk_55 rfl rfl ?_
            refine ga_getR (kI := 54) (r := 121) dX12_nextAsk_56 fX12_107 rfl rfl (by decide) rfl ?_
            refine ga_iload_n 2 dX12_nextAsk_59 rfl rfl ?_
            obtain ⟨i12, h⟩ := h
            refine ga_iald (nI := 40) dX12_nextAsk_60 rfl rfl i12 (fun r13 => ?_)
            obtain ⟨ht, hf⟩ := h
            refine ga_icmp_ge (tgt := 66) dX12_nextAsk_61 (by decide) r11 r13 (fun q14 => ?_) (fun q14 => ?_)
            · replace q14 : (gI σ 121 x2) ≤ (gI σ 121 x3) := q14
              have h := ht q14
              refine ga_iinc (ls' := [(3, vI (x3 + 1)), (0, .ref (G.2.1 88)), (1, vI x1), (2, vI x2)]) 3 dX12_nextAsk_66 rfl (by decide) rfl ?_
              refine ga_goto (tgt := 4) dX12_nextAsk_69 (by decide) ?_
              exact ga_sub [1, 2, 3, 0] rfl h
            · replace q14 : (gI σ 121 x3) < (gI σ 121 x2) := (Int.not_le.mp q14)
              have h := hf q14
              refine ga_iload_n 3 dX12_nextAsk_64 rfl rfl ?_
              refine ga_istore_n (ls' := [(2, vI x3), (0, .ref (G.2.1 88)), (1, vI x1), (3, vI x3)]) dX12_nextAsk_65 rfl (by decide) rfl ?_
              refine ga_iinc (ls' := [(3, vI (x3 + 1)), (2, vI x3), (0, .ref (G.2.1 88)), (1, vI x1)]) 3 dX12_nextAsk_66 rfl (by decide) rfl ?_
              refine ga_goto (tgt := 4) dX12_nextAsk_69 (by decide) ?_
              exact ga_sub [2, 3, 1, 0] rfl h
        · replace q9 : ¬ (gI σ 126 x3) = 0 := q9
          have h := hf q9
          refine ga_goto (tgt := 66) dX12_nextAsk_41 (by decide) ?_
          refine ga_iinc (ls' := [(3, vI (x3 + 1)), (0, .ref (G.2.1 88)), (1, vI x1), (2, vI x2)]) 3 dX12_nextAsk_66 rfl (by decide) rfl ?_
          refine ga_goto (tgt := 4) dX12_nextAsk_69 (by decide) ?_
          exact ga_sub [1, 2, 3, 0] rfl h
abbrev eX12_isKept (l : Launch) (G : gG) (x1 : Int) (σ : gS) (Q : Int → gS → Prop) : Prop := gEz l G mX12_isKept [.ref (G.2.1 88), vI x1] σ Q
abbrev kX12_isKept_4 (l : Launch) (G : gG)  (x1 : Int) (x2 : Int) (x3 : Int) (σ : gS) (Q : Int → gS → Prop) : Prop := gAt l G mX12_isKept (gQz G Q) 4 [(0, .ref (G.2.1 88)), (1, vI x1), (2, vI x2), (3, vI x3)] [] σ
set_option maxRecDepth 100000 in
set_option maxHeartbeats 4000000 in
theorem vX12_isKept {l : Launch} {G : gG} (x1 : Int) (rx1 : gR x1) (σ : gS) (Q : Int → gS → Prop) (h : kX12_isKept_4 l G  x1 0 0 σ Q) : eX12_isKept l G x1 σ Q := by
  refine ga_entry rfl (Nat.le_of_ble_eq_true rfl) ?_
  show gAt l G mX12_isKept (gQz G Q) 0 [(0, .ref (G.2.1 88)), (1, vI x1)] [] σ
  refine ga_iconst dX12_isKept_0 ?_
  refine ga_istore_n (ls' := [(2, vI 0), (0, .ref (G.2.1 88)), (1, vI x1)]) dX12_isKept_1 rfl (by decide) rfl ?_
  refine ga_iconst dX12_isKept_2 ?_
  refine ga_istore_n (ls' := [(3, vI 0), (2, vI 0), (0, .ref (G.2.1 88)), (1, vI x1)]) dX12_isKept_3 rfl (by decide) rfl ?_
  exact ga_sub [2, 3, 1, 0] rfl h
set_option maxRecDepth 100000 in
set_option maxHeartbeats 4000000 in
theorem vX12_isKept_4 {l : Launch} {G : gG}  (x1 : Int) (x2 : Int) (x3 : Int) (rx1 : gR x1) (rx2 : gR x2) (rx3 : gR x3) (σ : gS) (Q : Int → gS → Prop) (h : ((gI σ 88 10) ≤ x3 → (x2 = 0 ∨ x2 = 1) ∧ Q x2 σ) ∧
  (x3 < (gI σ 88 10) → ((¬ x2 = 0 → True) ∧
    (x2 = 0 → (0 ≤ x3 ∧ x3 < 6) ∧ ((gI σ 127 x3) = (-1) → True) ∧
      (¬ (gI σ 127 x3) = (-1) → (0 ≤ (gI σ 127 x3) ∧ (gI σ 127 x3) < 40) ∧ (¬ (gI σ 119 (gI σ 127 x3)) = x1 → True) ∧
        ((gI σ 119 (gI σ 127 x3)) = x1 → True)))) ∧
    (∀ v13 : Int, v13 = (if x2 = 0 then (if (gI σ 127 x3) = (-1) then 0 else (if (gI σ 119 (gI σ 127 x3)) = x1 then 1 else 0)) else 1) →
    kX12_isKept_4 l G  x1 v13 (x3 + 1) σ Q))) : kX12_isKept_4 l G  x1 x2 x3 σ Q := by
  refine ga_iload_n 3 dX12_isKept_4 rfl rfl ?_
  refine ga_aload_n 0 dX12_isKept_5 rfl rfl ?_
  refine ga_getI (kI := 10) dX12_isKept_6 fX12_236 rfl rfl rfl (fun r1 => ?_)
  obtain ⟨ht, hf⟩ := h
  refine ga_icmp_ge (tgt := 53) dX12_isKept_9 (by decide) rx3 r1 (fun q2 => ?_) (fun q2 => ?_)
  · replace q2 : (gI σ 88 10) ≤ x3 := q2
    have h := ht q2
    refine ga_iload_n 2 dX12_isKept_53 rfl rfl ?_
    obtain ⟨o3, h⟩ := h
    exact ga_bret dX12_isKept_54 rfl o3 h
  · replace q2 : x3 < (gI σ 88 10) := (Int.not_le.mp q2)
    have h := hf q2
    refine ga_iload_n 2 dX12_isKept_12 rfl rfl ?_
    obtain ⟨hob, h⟩ := h
    have kJ4 : ∀ v13 : Int, gR v13 → (v13 = 0 ∨ v13 = 1) → v13 = (if x2 = 0 then (if (gI σ 127 x3) = (-1) then 0 else (if (gI σ 119 (gI σ 127 x3)) = x1 then 1 else 0)) else 1) → gAt l G mX12_isKept (gQz G Q) 46 [(0, .ref (G.2.1 88)), (1, vI x1), (2, vI x2), (3, vI x3)] [vI v13] σ := by
      intro v13 rv13 bv13 ev13
      replace h := h v13 ev13
      refine ga_istore_n (ls' := [(2, vI v13), (0, .ref (G.2.1 88)), (1, vI x1), (3, vI x3)]) dX12_isKept_46 rfl (by decide) rfl ?_
      refine ga_iinc (ls' := [(3, vI (x3 + 1)), (2, vI v13), (0, .ref (G.2.1 88)), (1, vI x1)]) 3 dX12_isKept_47 rfl (by decide) rfl ?_
      refine ga_goto (tgt := 4) dX12_isKept_50 (by decide) ?_
      exact ga_sub [2, 3, 1, 0] rfl h
    replace h := hob
    obtain ⟨ht, hf⟩ := h
    refine ga_if_ne (tgt := 41) dX12_isKept_13 (by decide) rx2 (fun q5 => ?_) (fun q5 => ?_)
    · replace q5 : ¬ x2 = 0 := q5
      have h := ht q5
      refine ga_iconst dX12_isKept_41 ?_
      refine ga_goto (tgt := 46) dX12_isKept_42 (by decide) ?_
      exact kJ4 1 (by decide) (Or.inr rfl) (by rw [if_neg q5])
    · replace q5 : x2 = 0 := (Decidable.not_not.mp q5)
      have h := hf q5
      refine ga_aload_n 0 dX12_isKept_16 rfl rfl ?_
      refine ga_getR (kI := 60) (r := 127) dX12_isKept_17 fX12_125 rfl rfl (by decide) rfl ?_
      refine ga_iload_n 3 dX12_isKept_20 rfl rfl ?_
      obtain ⟨i6, h⟩ := h
      refine ga_iald (nI := 6) dX12_isKept_21 rfl rfl i6 (fun r7 => ?_)
      refine ga_iconst dX12_isKept_22 ?_
      obtain ⟨ht, hf⟩ := h
      refine ga_icmp_eq (tgt := 45) dX12_isKept_23 (by decide) r7 (by decide) (fun q8 => ?_) (fun q8 => ?_)
      · replace q8 : (gI σ 127 x3) = (-1) := q8
        have h := ht q8
        refine ga_iconst dX12_isKept_45 ?_
        exact kJ4 0 (by decide) (Or.inl rfl) (by rw [if_pos q5, if_pos q8])
      · replace q8 : ¬ (gI σ 127 x3) = (-1) := q8
        have h := hf q8
        refine ga_aload_n 0 dX12_isKept_26 rfl rfl ?_
        refine ga_getR (kI := 52) (r := 119) dX12_isKept_27 fX12_101 rfl rfl (by decide) rfl ?_
        refine ga_aload_n 0 dX12_isKept_30 rfl rfl ?_
        refine ga_getR (kI := 60) (r := 127) dX12_isKept_31 fX12_125 rfl rfl (by decide) rfl ?_
        refine ga_iload_n 3 dX12_isKept_34 rfl rfl ?_
        refine ga_iald (nI := 6) dX12_isKept_35 rfl rfl i6 (fun r9 => ?_)
        obtain ⟨i10, h⟩ := h
        refine ga_iald (nI := 40) dX12_isKept_36 rfl rfl i10 (fun r11 => ?_)
        refine ga_iload_n 1 dX12_isKept_37 rfl rfl ?_
        obtain ⟨ht, hf⟩ := h
        refine ga_icmp_ne (tgt := 45) dX12_isKept_38 (by decide) r11 rx1 (fun q12 => ?_) (fun q12 => ?_)
        · replace q12 : ¬ (gI σ 119 (gI σ 127 x3)) = x1 := q12
          have h := ht q12
          refine ga_iconst dX12_isKept_45 ?_
          exact kJ4 0 (by decide) (Or.inl rfl) (by rw [if_pos q5, if_neg q8, if_neg q12])
        · replace q12 : (gI σ 119 (gI σ 127 x3)) = x1 := (Decidable.not_not.mp q12)
          have h := hf q12
          refine ga_iconst dX12_isKept_41 ?_
          refine ga_goto (tgt := 46) dX12_isKept_42 (by decide) ?_
          exact kJ4 1 (by decide) (Or.inr rfl) (by rw [if_pos q5, if_neg q8, if_pos q12])
abbrev eX12_stable (l : Launch) (G : gG)  (σ : gS) (Q : gS → Prop) : Prop := gEv l G mX12_stable [.ref (G.2.1 88)] σ Q
abbrev kX12_stable_2 (l : Launch) (G : gG)  (x1 : Int) (σ : gS) (Q : gS → Prop) : Prop := gAt l G mX12_stable (gQv G Q) 2 [(0, .ref (G.2.1 88)), (1, vI x1)] [] σ
abbrev kX12_stable_25 (l : Launch) (G : gG)  (x1 : Int) (σ : gS) (Q : gS → Prop) : Prop := gAt l G mX12_stable (gQv G Q) 25 [(0, .ref (G.2.1 88)), (1, vI x1)] [] σ
abbrev kX12_stable_46 (l : Launch) (G : gG)  (x1 : Int) (σ : gS) (Q : gS → Prop) : Prop := gAt l G mX12_stable (gQv G Q) 46 [(0, .ref (G.2.1 88)), (1, vI x1)] [] σ
abbrev kX12_stable_54 (l : Launch) (G : gG)  (x1 : Int) (x2 : Int) (σ : gS) (Q : gS → Prop) : Prop := gAt l G mX12_stable (gQv G Q) 54 [(0, .ref (G.2.1 88)), (1, vI x1), (2, vI x2)] [] σ
abbrev kX12_stable_154 (l : Launch) (G : gG)  (x1 : Int) (x2 : Int) (σ : gS) (Q : gS → Prop) : Prop := gAt l G mX12_stable (gQv G Q) 154 [(0, .ref (G.2.1 88)), (1, vI x1), (2, vI x2)] [] σ
abbrev kX12_stable_199 (l : Launch) (G : gG)  (x1 : Int) (x2 : Int) (x3 : Int) (x4 : Int) (σ : gS) (Q : gS → Prop) : Prop := gAt l G mX12_stable (gQv G Q) 199 [(0, .ref (G.2.1 88)), (1, vI x1), (2, vI x2), (3, vI x3), (4, vI x4)] [] σ
set_option maxRecDepth 100000 in
set_option maxHeartbeats 4000000 in
theorem vX12_stable {l : Launch} {G : gG}  (σ : gS) (Q : gS → Prop) (h : kX12_stable_2 l G  0 σ Q) : eX12_stable l G  σ Q := by
  refine ga_entry rfl (Nat.le_of_ble_eq_true rfl) ?_
  show gAt l G mX12_stable (gQv G Q) 0 [(0, .ref (G.2.1 88))] [] σ
  refine ga_iconst dX12_stable_0 ?_
  refine ga_istore_n (ls' := [(1, vI 0), (0, .ref (G.2.1 88))]) dX12_stable_1 rfl (by decide) rfl ?_
  exact ga_sub [1, 0] rfl h
set_option maxRecDepth 100000 in
set_option maxHeartbeats 4000000 in
theorem vX12_stable_2 {l : Launch} {G : gG}  (x1 : Int) (rx1 : gR x1) (σ : gS) (Q : gS → Prop) (h : ((gI σ 88 50) ≤ x1 → kX12_stable_25 l G  0 σ Q) ∧
  (x1 < (gI σ 88 50) → (0 ≤ x1 ∧ x1 < 40) ∧ ∀ σ4, σ4 = sI σ 126 x1 0 →
    kX12_stable_2 l G  (x1 + 1) σ4 Q)) : kX12_stable_2 l G  x1 σ Q := by
  refine ga_iload_n 1 dX12_stable_2 rfl rfl ?_
  refine ga_aload_n 0 dX12_stable_3 rfl rfl ?_
  refine ga_getI (kI := 50) dX12_stable_4 fX12_386 rfl rfl rfl (fun r1 => ?_)
  obtain ⟨ht, hf⟩ := h
  refine ga_icmp_ge (tgt := 23) dX12_stable_7 (by decide) rx1 r1 (fun q2 => ?_) (fun q2 => ?_)
  · replace q2 : (gI σ 88 50) ≤ x1 := q2
    have h := ht q2
    refine ga_iconst dX12_stable_23 ?_
    refine ga_istore_n (ls' := [(1, vI 0), (0, .ref (G.2.1 88))]) dX12_stable_24 rfl (by decide) rfl ?_
    exact ga_sub [1, 0] rfl h
  · replace q2 : x1 < (gI σ 88 50) := (Int.not_le.mp q2)
    have h := hf q2
    refine ga_aload_n 0 dX12_stable_10 rfl rfl ?_
    refine ga_getR (kI := 59) (r := 126) dX12_stable_11 fX12_122 rfl rfl (by decide) rfl ?_
    refine ga_iload_n 1 dX12_stable_14 rfl rfl ?_
    refine ga_iconst dX12_stable_15 ?_
    obtain ⟨i3, h⟩ := h
    obtain ⟨σ4, eσ4⟩ : ∃ z, z = sI σ 126 x1 0 := ⟨_, rfl⟩
    replace h := h σ4 eσ4
    refine ga_zast (nI := 40) dX12_stable_16 rfl rfl i3 (Or.inl rfl) eσ4 ?_
    refine ga_iinc (ls' := [(1, vI (x1 + 1)), (0, .ref (G.2.1 88))]) 1 dX12_stable_17 rfl (by decide) rfl ?_
    refine ga_goto (tgt := 2) dX12_stable_20 (by decide) ?_
    exact ga_sub [1, 0] rfl h
set_option maxRecDepth 100000 in
set_option maxHeartbeats 4000000 in
theorem vX12_stable_25 {l : Launch} {G : gG}  (x1 : Int) (rx1 : gR x1) (σ : gS) (Q : gS → Prop) (h : (6 ≤ x1 → kX12_stable_46 l G  1 σ Q) ∧
  (x1 < 6 → (0 ≤ x1 ∧ x1 < 6) ∧ ∀ σ7, σ7 = sI σ 127 x1 (-1) →
    kX12_stable_25 l G  (x1 + 1) σ7 Q)) : kX12_stable_25 l G  x1 σ Q := by
  refine ga_iload_n 1 dX12_stable_25 rfl rfl ?_
  refine ga_bipush dX12_stable_26 (by decide) ?_
  obtain ⟨ht, hf⟩ := h
  refine ga_icmp_ge (tgt := 44) dX12_stable_28 (by decide) rx1 (by decide) (fun q5 => ?_) (fun q5 => ?_)
  · replace q5 : 6 ≤ x1 := q5
    have h := ht q5
    refine ga_iconst dX12_stable_44 ?_
    refine ga_istore_n (ls' := [(1, vI 1), (0, .ref (G.2.1 88))]) dX12_stable_45 rfl (by decide) rfl ?_
    exact ga_sub [1, 0] rfl h
  · replace q5 : x1 < 6 := (Int.not_le.mp q5)
    have h := hf q5
    refine ga_aload_n 0 dX12_stable_31 rfl rfl ?_
    refine ga_getR (kI := 60) (r := 127) dX12_stable_32 fX12_125 rfl rfl (by decide) rfl ?_
    refine ga_iload_n 1 dX12_stable_35 rfl rfl ?_
    refine ga_iconst dX12_stable_36 ?_
    obtain ⟨i6, h⟩ := h
    obtain ⟨σ7, eσ7⟩ : ∃ z, z = sI σ 127 x1 (-1) := ⟨_, rfl⟩
    replace h := h σ7 eσ7
    refine ga_iast (nI := 6) dX12_stable_37 rfl rfl i6 (by decide) eσ7 ?_
    refine ga_iinc (ls' := [(1, vI (x1 + 1)), (0, .ref (G.2.1 88))]) 1 dX12_stable_38 rfl (by decide) rfl ?_
    refine ga_goto (tgt := 25) dX12_stable_41 (by decide) ?_
    exact ga_sub [1, 0] rfl h
set_option maxRecDepth 100000 in
set_option maxHeartbeats 4000000 in
theorem vX12_stable_46 {l : Launch} {G : gG}  (x1 : Int) (rx1 : gR x1) (σ : gS) (Q : gS → Prop) (h : (x1 = 0 → kX12_stable_154 l G  x1 0 σ Q) ∧
  (¬ x1 = 0 → kX12_stable_54 l G  0 0 σ Q)) : kX12_stable_46 l G  x1 σ Q := by
  refine ga_iload_n 1 dX12_stable_46 rfl rfl ?_
  obtain ⟨ht, hf⟩ := h
  refine ga_if_eq (tgt := 152) dX12_stable_47 (by decide) rx1 (fun q8 => ?_) (fun q8 => ?_)
  · replace q8 : x1 = 0 := q8
    have h := ht q8
    refine ga_iconst dX12_stable_152 ?_
    refine ga_istore_n (ls' := [(2, vI 0), (0, .ref (G.2.1 88)), (1, vI x1)]) dX12_stable_153 rfl (by decide) rfl ?_
    exact ga_sub [1, 2, 0] rfl h
  · replace q8 : ¬ x1 = 0 := q8
    have h := hf q8
    refine ga_iconst dX12_stable_50 ?_
    refine ga_istore_n (ls' := [(1, vI 0), (0, .ref (G.2.1 88))]) dX12_stable_51 rfl (by decide) rfl ?_
    refine ga_iconst dX12_stable_52 ?_
    refine ga_istore_n (ls' := [(2, vI 0), (1, vI 0), (0, .ref (G.2.1 88))]) dX12_stable_53 rfl (by decide) rfl ?_
    exact ga_sub [2, 1, 0] rfl h
set_option maxRecDepth 100000 in
set_option maxHeartbeats 4000000 in
theorem vX12_stable_54 {l : Launch} {G : gG}  (x1 : Int) (x2 : Int) (rx1 : gR x1) (rx2 : gR x2) (σ : gS) (Q : gS → Prop) (h : ((gI σ 88 10) ≤ x2 → kX12_stable_46 l G  x1 σ Q) ∧
  (x2 < (gI σ 88 10) → eX12_isKept l G x2 σ (fun v13 σ11 => (v13 = 0 ∨ v13 = 1) →
    (v13 = 0 → eX12_nextAsk l G x2 σ11 (fun v17 σ15 => gR v17 →
      (¬ v17 = (-1) → (0 ≤ v17 ∧ v17 < 40) ∧ ∀ σ20, σ20 = sI σ15 126 v17 1 →
        (0 ≤ (gI σ20 118 v17) ∧ (gI σ20 118 v17) < 6) ∧ ((gI σ20 127 (gI σ20 118 v17)) = (-1) → ∀ σ25, σ25 = sI σ20 127 (gI σ20 118 v17) v17 →
          kX12_stable_54 l G  1 (x2 + 1) σ25 Q) ∧
        (¬ (gI σ20 127 (gI σ20 118 v17)) = (-1) → eX12_placeIn l G v17 σ20 (fun v28 σ26 => gR v28 →
          eX12_placeIn l G (gI σ26 127 (gI σ20 118 v17)) σ26 (fun v32 σ30 => gR v32 →
          (v32 ≤ v28 → kX12_stable_54 l G  1 (x2 + 1) σ30 Q) ∧
          (v28 < v32 → ∀ σ34, σ34 = sI σ30 127 (gI σ20 118 v17) v17 →
            kX12_stable_54 l G  1 (x2 + 1) σ34 Q))))) ∧
      (v17 = (-1) → kX12_stable_54 l G  x1 (x2 + 1) σ15 Q))) ∧
    (¬ v13 = 0 → kX12_stable_54 l G  x1 (x2 + 1) σ11 Q)))) : kX12_stable_54 l G  x1 x2 σ Q := by
  refine ga_iload_n 2 dX12_stable_54 rfl rfl ?_
  refine ga_aload_n 0 dX12_stable_55 rfl rfl ?_
  refine ga_getI (kI := 10) dX12_stable_56 fX12_236 rfl rfl rfl (fun r9 => ?_)
  obtain ⟨ht, hf⟩ := h
  refine ga_icmp_ge (tgt := 149) dX12_stable_59 (by decide) rx2 r9 (fun q10 => ?_) (fun q10 => ?_)
  · replace q10 : (gI σ 88 10) ≤ x2 := q10
    have h := ht q10
    refine ga_goto (tgt := 46) dX12_stable_149 (by decide) ?_
    exact ga_sub [0, 1] rfl h
  · replace q10 : x2 < (gI σ 88 10) := (Int.not_le.mp q10)
    have h := hf q10
    refine ga_aload_n 0 dX12_stable_62 rfl rfl ?_
    refine ga_iload_n 2 dX12_stable_63 rfl rfl ?_
    refine ga_callVz (z := mX12_isKept) (As := [vI x2]) (rest := []) dX12_stable_64 wX12_395 qX12_stable_X12_isKept rfl ⟨_, rfl, rfl⟩ rfl rfl (Nat.le_of_ble_eq_true rfl) (gEz_mono h (fun v13 σ11 h r12 => ?_))
    replace h := h r12
    obtain ⟨ht, hf⟩ := h
    refine ga_if_eq (tgt := 74) dX12_stable_67 (by decide) (gR_01 r12) (fun q14 => ?_) (fun q14 => ?_)
    · replace q14 : v13 = 0 := q14
      have h := ht q14
      refine ga_aload_n 0 dX12_stable_74 rfl rfl ?_
      refine ga_iload_n 2 dX12_stable_75 rfl rfl ?_
      refine ga_callVi (z := mX12_nextAsk) (As := [vI x2]) (rest := []) dX12_stable_76 wX12_398 qX12_stable_X12_nextAsk rfl ⟨_, rfl, rfl⟩ rfl rfl (Nat.le_of_ble_eq_true rfl) (gEi_mono h (fun v17 σ15 h r16 => ?_))
      replace h := h r16
      refine ga_istore_n (ls' := [(3, vI v17), (0, .ref (G.2.1 88)), (1, vI x1), (2, vI x2)]) dX12_stable_79 rfl (by decide) rfl ?_
      refine ga_iload_n 0 dX12_stable_80 rfl rfl ?_
      refine ga_iconst dX12_stable_81 ?_
      obtain ⟨ht, hf⟩ := h
      refine ga_icmp_ne (tgt := 88) dX12_stable_82 (by decide) r16 (by decide) (fun q18 => ?_) (fun q18 => ?_)
      · replace q18 : ¬ v17 = (-1) := q18
        have h := ht q18
        refine ga_aload_n 1 dX12_stable_88 rfl rfl ?_
        refine ga_getR (kI := 59) (r := 126) dX12_stable_89 fX12_122 rfl rfl (by decide) rfl ?_
        refine ga_iload_n 0 dX12_stable_92 rfl rfl ?_
        refine ga_iconst dX12_stable_93 ?_
        obtain ⟨i19, h⟩ := h
        obtain ⟨σ20, eσ20⟩ : ∃ z, z = sI σ15 126 v17 1 := ⟨_, rfl⟩
        replace h := h σ20 eσ20
        refine ga_zast (nI := 40) dX12_stable_94 rfl rfl i19 (Or.inr rfl) eσ20 ?_
        refine ga_iconst dX12_stable_95 ?_
        refine ga_istore_n (ls' := [(1, vI 1), (3, vI v17), (0, .ref (G.2.1 88)), (2, vI x2)]) dX12_stable_96 rfl (by decide) rfl ?_
        refine ga_aload_n 2 dX12_stable_97 rfl rfl ?_
        refine ga_getR (kI := 51) (r := 118) dX12_stable_98 fX12_98 rfl rfl (by decide) rfl ?_
        refine ga_iload_n 1 dX12_stable_101 rfl rfl ?_
        refine ga_iald (nI := 40) dX12_stable_102 rfl rfl i19 (fun r21 => ?_)
        refine ga_istore (ls' := [(4, vI (gI σ20 118 v17)), (1, vI 1), (3, vI v17), (0, .ref (G.2.1 88)), (2, vI x2)]) dX12_stable_103 (by decide) rfl ?_
        refine ga_aload_n 3 dX12_stable_105 rfl rfl ?_
        refine ga_getR (kI := 60) (r := 127) dX12_stable_106 fX12_125 rfl rfl (by decide) rfl ?_
        refine ga_iload 0 dX12_stable_109 rfl ?_
        obtain ⟨i22, h⟩ := h
        refine ga_iald (nI := 6) dX12_stable_111 rfl rfl i22 (fun r23 => ?_)
        refine ga_iconst dX12_stable_112 ?_
        obtain ⟨ht, hf⟩ := h
        refine ga_icmp_eq (tgt := 135) dX12_stable_113 (by decide) r23 (by decide) (fun q24 => ?_) (fun q24 => ?_)
        · replace q24 : (gI σ20 127 (gI σ20 118 v17)) = (-1) := q24
          have h := ht q24
          refine ga_aload_n 3 dX12_stable_135 rfl rfl ?_
          refine ga_getR (kI := 60) (r := 127) dX12_stable_136 fX12_125 rfl rfl (by decide) rfl ?_
          refine ga_iload 0 dX12_stable_139 rfl ?_
          refine ga_iload_n 2 dX12_stable_141 rfl rfl ?_
          obtain ⟨σ25, eσ25⟩ : ∃ z, z = sI σ20 127 (gI σ20 118 v17) v17 := ⟨_, rfl⟩
          replace h := h σ25 eσ25
          refine ga_iast (nI := 6) dX12_stable_142 rfl rfl i22 r16 eσ25 ?_
          refine ga_iinc (ls' := [(2, vI (x2 + 1)), (4, vI (gI σ20 118 v17)), (1, vI 1), (3, vI v17), (0, .ref (G.2.1 88))]) 4 dX12_stable_143 rfl (by decide) rfl ?_
          refine ga_goto (tgt := 54) dX12_stable_146 (by decide) ?_
          exact ga_sub [4, 2, 0] rfl h
        · replace q24 : ¬ (gI σ20 127 (gI σ20 118 v17)) = (-1) := q24
          have h := hf q24
          refine ga_aload_n 3 dX12_stable_116 rfl rfl ?_
          refine ga_iload_n 2 dX12_stable_117 rfl rfl ?_
          refine ga_callVi (z := mX12_placeIn) (As := [vI v17]) (rest := []) dX12_stable_118 wX12_401 qX12_stable_X12_placeIn rfl ⟨_, rfl, rfl⟩ rfl rfl (Nat.le_of_ble_eq_true rfl) (gEi_mono h (fun v28 σ26 h r27 => ?_))
          replace h := h r27
          refine ga_aload_n 3 dX12_stable_121 rfl rfl ?_
          refine ga_aload_n 3 dX12_stable_122 rfl rfl ?_
          refine ga_getR (kI := 60) (r := 127) dX12_stable_123 fX12_125 rfl rfl (by decide) rfl ?_
          refine ga_iload 0 dX12_stable_126 rfl ?_
          refine ga_iald (nI := 6) dX12_stable_128 rfl rfl i22 (fun r29 => ?_)
          refine ga_callVi (z := mX12_placeIn) (As := [vI (gI σ26 127 (gI σ20 118 v17))]) (rest := [vI v28]) dX12_stable_129 wX12_401 qX12_stable_X12_placeIn rfl ⟨_, rfl, rfl⟩ rfl rfl (Nat.le_of_ble_eq_true rfl) (gEi_mono h (fun v32 σ30 h r31 => ?_))
          replace h := h r31
          obtain ⟨ht, hf⟩ := h
          refine ga_icmp_ge (tgt := 143) dX12_stable_132 (by decide) r27 r31 (fun q33 => ?_) (fun q33 => ?_)
          · replace q33 : v32 ≤ v28 := q33
            have h := ht q33
            refine ga_iinc (ls' := [(2, vI (x2 + 1)), (4, vI (gI σ20 118 v17)), (1, vI 1), (3, vI v17), (0, .ref (G.2.1 88))]) 4 dX12_stable_143 rfl (by decide) rfl ?_
            refine ga_goto (tgt := 54) dX12_stable_146 (by decide) ?_
            exact ga_sub [4, 2, 0] rfl h
          · replace q33 : v28 < v32 := (Int.not_le.mp q33)
            have h := hf q33
            refine ga_aload_n 3 dX12_stable_135 rfl rfl ?_
            refine ga_getR (kI := 60) (r := 127) dX12_stable_136 fX12_125 rfl rfl (by decide) rfl ?_
            refine ga_iload 0 dX12_stable_139 rfl ?_
            refine ga_iload_n 2 dX12_stable_141 rfl rfl ?_
            obtain ⟨σ34, eσ34⟩ : ∃ z, z = sI σ30 127 (gI σ20 118 v17) v17 := ⟨_, rfl⟩
            replace h := h σ34 eσ34
            refine ga_iast (nI := 6) dX12_stable_142 rfl rfl i22 r16 eσ34 ?_
            refine ga_iinc (ls' := [(2, vI (x2 + 1)), (4, vI (gI σ20 118 v17)), (1, vI 1), (3, vI v17), (0, .ref (G.2.1 88))]) 4 dX12_stable_143 rfl (by decide) rfl ?_
            refine ga_goto (tgt := 54) dX12_stable_146 (by decide) ?_
            exact ga_sub [4, 2, 0] rfl h
      · replace q18 : v17 = (-1) := (Decidable.not_not.mp q18)
        have h := hf q18
        refine ga_goto (tgt := 143) dX12_stable_85 (by decide) ?_
        refine ga_iinc (ls' := [(2, vI (x2 + 1)), (3, vI v17), (0, .ref (G.2.1 88)), (1, vI x1)]) 3 dX12_stable_143 rfl (by decide) rfl ?_
        refine ga_goto (tgt := 54) dX12_stable_146 (by decide) ?_
        exact ga_sub [2, 3, 0] rfl h
    · replace q14 : ¬ v13 = 0 := q14
      have h := hf q14
      refine ga_iconst dX12_stable_70 ?_
      refine ga_goto (tgt := 79) dX12_stable_71 (by decide) ?_
      refine ga_istore_n (ls' := [(3, vI (-1)), (0, .ref (G.2.1 88)), (1, vI x1), (2, vI x2)]) dX12_stable_79 rfl (by decide) rfl ?_
      refine ga_iload_n 0 dX12_stable_80 rfl rfl ?_
      refine ga_iconst dX12_stable_81 ?_
      refine ga_icmp_ne (x := (-1)) (y := (-1)) (tgt := 88) dX12_stable_82 (by decide) (by decide) (by decide) (fun q => absurd q (by decide)) (fun _ => ?_)
      refine ga_goto (tgt := 143) dX12_stable_85 (by decide) ?_
      refine ga_iinc (ls' := [(2, vI (x2 + 1)), (3, vI (-1)), (0, .ref (G.2.1 88)), (1, vI x1)]) 3 dX12_stable_143 rfl (by decide) rfl ?_
      refine ga_goto (tgt := 54) dX12_stable_146 (by decide) ?_
      exact ga_sub [2, 3, 0] rfl h
set_option maxRecDepth 100000 in
set_option maxHeartbeats 4000000 in
theorem vX12_stable_154 {l : Launch} {G : gG}  (x1 : Int) (x2 : Int) (rx1 : gR x1) (rx2 : gR x2) (σ : gS) (Q : gS → Prop) (h : ((gI σ 88 10) ≤ x2 → Q σ) ∧
  (x2 < (gI σ 88 10) → (0 ≤ x2 ∧ x2 < 6) ∧ (¬ (gI σ 127 x2) = (-1) → eX12_placeIn l G (gI σ 127 x2) σ (fun v43 σ41 => gR v43 →
      (gR ((gI σ41 124 x2) - 1)) ∧ ∀ σ45, σ45 = sI σ41 124 x2 ((gI σ41 124 x2) - 1) →
      kX12_stable_199 l G  x1 x2 v43 v43 σ45 Q)) ∧
    ((gI σ 127 x2) = (-1) → kX12_stable_154 l G  x1 (x2 + 1) σ Q))) : kX12_stable_154 l G  x1 x2 σ Q := by
  refine ga_iload_n 2 dX12_stable_154 rfl rfl ?_
  refine ga_aload_n 0 dX12_stable_155 rfl rfl ?_
  refine ga_getI (kI := 10) dX12_stable_156 fX12_236 rfl rfl rfl (fun r35 => ?_)
  obtain ⟨ht, hf⟩ := h
  refine ga_icmp_ge (tgt := 260) dX12_stable_159 (by decide) rx2 r35 (fun q36 => ?_) (fun q36 => ?_)
  · replace q36 : (gI σ 88 10) ≤ x2 := q36
    have h := ht q36
    exact ga_vret dX12_stable_260 rfl h
  · replace q36 : x2 < (gI σ 88 10) := (Int.not_le.mp q36)
    have h := hf q36
    refine ga_aload_n 0 dX12_stable_162 rfl rfl ?_
    refine ga_getR (kI := 60) (r := 127) dX12_stable_163 fX12_125 rfl rfl (by decide) rfl ?_
    refine ga_iload_n 2 dX12_stable_166 rfl rfl ?_
    obtain ⟨i37, h⟩ := h
    refine ga_iald (nI := 6) dX12_stable_167 rfl rfl i37 (fun r38 => ?_)
    refine ga_iconst dX12_stable_168 ?_
    obtain ⟨ht, hf⟩ := h
    refine ga_icmp_ne (tgt := 175) dX12_stable_169 (by decide) r38 (by decide) (fun q39 => ?_) (fun q39 => ?_)
    · replace q39 : ¬ (gI σ 127 x2) = (-1) := q39
      have h := ht q39
      refine ga_aload_n 0 dX12_stable_175 rfl rfl ?_
      refine ga_aload_n 0 dX12_stable_176 rfl rfl ?_
      refine ga_getR (kI := 60) (r := 127) dX12_stable_177 fX12_125 rfl rfl (by decide) rfl ?_
      refine ga_iload_n 2 dX12_stable_180 rfl rfl ?_
      refine ga_iald (nI := 6) dX12_stable_181 rfl rfl i37 (fun r40 => ?_)
      refine ga_callVi (z := mX12_placeIn) (As := [vI (gI σ 127 x2)]) (rest := []) dX12_stable_182 wX12_401 qX12_stable_X12_placeIn rfl ⟨_, rfl, rfl⟩ rfl rfl (Nat.le_of_ble_eq_true rfl) (gEi_mono h (fun v43 σ41 h r42 => ?_))
      replace h := h r42
      refine ga_istore_n (ls' := [(3, vI v43), (0, .ref (G.2.1 88)), (1, vI x1), (2, vI x2)]) dX12_stable_185 rfl (by decide) rfl ?_
      refine ga_aload_n 1 dX12_stable_186 rfl rfl ?_
      refine ga_getR (kI := 57) (r := 124) dX12_stable_187 fX12_116 rfl rfl (by decide) rfl ?_
      refine ga_iload_n 3 dX12_stable_190 rfl rfl ?_
      refine ga_dup2 dX12_stable_191 rfl rfl ?_
      refine ga_iald (nI := 6) dX12_stable_192 rfl rfl i37 (fun r44 => ?_)
      refine ga_iconst dX12_stable_193 ?_
      refine ga_isub dX12_stable_194 ?_
      obtain ⟨r46, h⟩ := h
      obtain ⟨σ45, eσ45⟩ : ∃ z, z = sI σ41 124 x2 ((gI σ41 124 x2) - 1) := ⟨_, rfl⟩
      replace h := h σ45 eσ45
      refine ga_iast (nI := 6) dX12_stable_195 rfl rfl i37 r46 eσ45 ?_
      refine ga_iload_n 0 dX12_stable_196 rfl rfl ?_
      refine ga_istore (ls' := [(4, vI v43), (3, vI v43), (0, .ref (G.2.1 88)), (1, vI x1), (2, vI x2)]) dX12_stable_197 (by decide) rfl ?_
      exact ga_sub [2, 3, 4, 1, 0] rfl h
    · replace q39 : (gI σ 127 x2) = (-1) := (Decidable.not_not.mp q39)
      have h := hf q39
      refine ga_goto (tgt := 254) dX12_stable_172 (by decide) ?_
      refine ga_iinc (ls' := [(2, vI (x2 + 1)), (0, .ref (G.2.1 88)), (1, vI x1)]) 2 dX12_stable_254 rfl (by decide) rfl ?_
      refine ga_goto (tgt := 154) dX12_stable_257 (by decide) ?_
      exact ga_sub [1, 2, 0] rfl h
set_option maxRecDepth 100000 in
set_option maxHeartbeats 4000000 in
theorem vX12_stable_199 {l : Launch} {G : gG}  (x1 : Int) (x2 : Int) (x3 : Int) (x4 : Int) (rx1 : gR x1) (rx2 : gR x2) (rx3 : gR x3) (rx4 : gR x4) (σ : gS) (Q : gS → Prop) (h : (0 ≤ x2 ∧ x2 < 6) ∧ ((gI σ 124 x2) ≤ x4 → (0 ≤ (gI σ 127 x2) ∧ (gI σ 127 x2) < 40) ∧ ∀ σ52, σ52 = sI σ 125 (gI σ 127 x2) 2 →
    kX12_stable_154 l G  x1 (x2 + 1) σ52 Q) ∧
  (x4 < (gI σ 124 x2) → (0 ≤ (((40 * x2) + x4) + 1) ∧ (((40 * x2) + x4) + 1) < 240) ∧ (0 ≤ ((40 * x2) + x4) ∧ ((40 * x2) + x4) < 240) ∧ ∀ σ56, σ56 = sI σ 123 ((40 * x2) + x4) (gI σ 123 (((40 * x2) + x4) + 1)) →
    kX12_stable_199 l G  x1 x2 x3 (x4 + 1) σ56 Q)) : kX12_stable_199 l G  x1 x2 x3 x4 σ Q := by
  refine ga_iload 4 dX12_stable_199 rfl ?_
  refine ga_aload_n 0 dX12_stable_201 rfl rfl ?_
  refine ga_getR (kI := 57) (r := 124) dX12_stable_202 fX12_116 rfl rfl (by decide) rfl ?_
  refine ga_iload_n 2 dX12_stable_205 rfl rfl ?_
  obtain ⟨i47, h⟩ := h
  refine ga_iald (nI := 6) dX12_stable_206 rfl rfl i47 (fun r48 => ?_)
  obtain ⟨ht, hf⟩ := h
  refine ga_icmp_ge (tgt := 242) dX12_stable_207 (by decide) rx4 r48 (fun q49 => ?_) (fun q49 => ?_)
  · replace q49 : (gI σ 124 x2) ≤ x4 := q49
    have h := ht q49
    refine ga_aload_n 0 dX12_stable_242 rfl rfl ?_
    refine ga_getR (kI := 58) (r := 125) dX12_stable_243 fX12_119 rfl rfl (by decide) rfl ?_
    refine ga_aload_n 0 dX12_stable_246 rfl rfl ?_
    refine ga_getR (kI := 60) (r := 127) dX12_stable_247 fX12_125 rfl rfl (by decide) rfl ?_
    refine ga_iload_n 2 dX12_stable_250 rfl rfl ?_
    refine ga_iald (nI := 6) dX12_stable_251 rfl rfl i47 (fun r50 => ?_)
    refine ga_iconst dX12_stable_252 ?_
    obtain ⟨i51, h⟩ := h
    obtain ⟨σ52, eσ52⟩ : ∃ z, z = sI σ 125 (gI σ 127 x2) 2 := ⟨_, rfl⟩
    replace h := h σ52 eσ52
    refine ga_iast (nI := 40) dX12_stable_253 rfl rfl i51 (by decide) eσ52 ?_
    refine ga_iinc (ls' := [(2, vI (x2 + 1)), (0, .ref (G.2.1 88)), (1, vI x1), (3, vI x3), (4, vI x4)]) 2 dX12_stable_254 rfl (by decide) rfl ?_
    refine ga_goto (tgt := 154) dX12_stable_257 (by decide) ?_
    exact ga_sub [1, 2, 0] rfl h
  · replace q49 : x4 < (gI σ 124 x2) := (Int.not_le.mp q49)
    have h := hf q49
    refine ga_aload_n 0 dX12_stable_210 rfl rfl ?_
    refine ga_getR (kI := 56) (r := 123) dX12_stable_211 fX12_113 rfl rfl (by decide) rfl ?_
    refine ga_bipush dX12_stable_214 (by decide) ?_
    refine ga_iload_n 2 dX12_stable_216 rfl rfl ?_
    refine ga_imul dX12_stable_217 ?_
    refine ga_iload 4 dX12_stable_218 rfl ?_
    refine ga_iadd dX12_stable_220 ?_
    refine ga_aload_n 0 dX12_stable_221 rfl rfl ?_
    refine ga_getR (kI := 56) (r := 123) dX12_stable_222 fX12_113 rfl rfl (by decide) rfl ?_
    refine ga_bipush dX12_stable_225 (by decide) ?_
    refine ga_iload_n 2 dX12_stable_227 rfl rfl ?_
    refine ga_imul dX12_stable_228 ?_
    refine ga_iload 4 dX12_stable_229 rfl ?_
    refine ga_iadd dX12_stable_231 ?_
    refine ga_iconst dX12_stable_232 ?_
    refine ga_iadd dX12_stable_233 ?_
    obtain ⟨i53, h⟩ := h
    refine ga_iald (nI := 240) dX12_stable_234 rfl rfl i53 (fun r54 => ?_)
    obtain ⟨i55, h⟩ := h
    obtain ⟨σ56, eσ56⟩ : ∃ z, z = sI σ 123 ((40 * x2) + x4) (gI σ 123 (((40 * x2) + x4) + 1)) := ⟨_, rfl⟩
    replace h := h σ56 eσ56
    refine ga_iast (nI := 240) dX12_stable_235 rfl rfl i55 r54 eσ56 ?_
    refine ga_iinc (ls' := [(4, vI (x4 + 1)), (0, .ref (G.2.1 88)), (1, vI x1), (2, vI x2), (3, vI x3)]) 4 dX12_stable_236 rfl (by decide) rfl ?_
    refine ga_goto (tgt := 199) dX12_stable_239 (by decide) ?_
    exact ga_sub [1, 2, 3, 4, 0] rfl h
abbrev eX12_sendsLeast (l : Launch) (G : gG) (x1 : Int) (σ : gS) (Q : Int → gS → Prop) : Prop := gEi l G mX12_sendsLeast [.ref (G.2.1 88), vI x1] σ Q
abbrev kX12_sendsLeast_4 (l : Launch) (G : gG)  (x1 : Int) (x2 : Int) (x3 : Int) (σ : gS) (Q : Int → gS → Prop) : Prop := gAt l G mX12_sendsLeast (gQi G Q) 4 [(0, .ref (G.2.1 88)), (1, vI x1), (2, vI x2), (3, vI x3)] [] σ
abbrev kX12_sendsLeast_18 (l : Launch) (G : gG)  (x1 : Int) (x2 : Int) (x3 : Int) (x4 : Int) (x5 : Int) (σ : gS) (Q : Int → gS → Prop) : Prop := gAt l G mX12_sendsLeast (gQi G Q) 18 [(0, .ref (G.2.1 88)), (1, vI x1), (2, vI x2), (3, vI x3), (4, vI x4), (5, vI x5)] [] σ
set_option maxRecDepth 100000 in
set_option maxHeartbeats 4000000 in
theorem vX12_sendsLeast {l : Launch} {G : gG} (x1 : Int) (rx1 : gR x1) (σ : gS) (Q : Int → gS → Prop) (h : kX12_sendsLeast_4 l G  x1 0 0 σ Q) : eX12_sendsLeast l G x1 σ Q := by
  refine ga_entry rfl (Nat.le_of_ble_eq_true rfl) ?_
  show gAt l G mX12_sendsLeast (gQi G Q) 0 [(0, .ref (G.2.1 88)), (1, vI x1)] [] σ
  refine ga_iconst dX12_sendsLeast_0 ?_
  refine ga_istore_n (ls' := [(2, vI 0), (0, .ref (G.2.1 88)), (1, vI x1)]) dX12_sendsLeast_1 rfl (by decide) rfl ?_
  refine ga_iconst dX12_sendsLeast_2 ?_
  refine ga_istore_n (ls' := [(3, vI 0), (2, vI 0), (0, .ref (G.2.1 88)), (1, vI x1)]) dX12_sendsLeast_3 rfl (by decide) rfl ?_
  exact ga_sub [2, 3, 1, 0] rfl h
set_option maxRecDepth 100000 in
set_option maxHeartbeats 4000000 in
theorem vX12_sendsLeast_4 {l : Launch} {G : gG}  (x1 : Int) (x2 : Int) (x3 : Int) (rx1 : gR x1) (rx2 : gR x2) (rx3 : gR x3) (σ : gS) (Q : Int → gS → Prop) (h : ((gI σ 88 10) ≤ x3 → Q x2 σ) ∧
  (x3 < (gI σ 88 10) → kX12_sendsLeast_18 l G  x1 x2 x3 (-1) 0 σ Q)) : kX12_sendsLeast_4 l G  x1 x2 x3 σ Q := by
  refine ga_iload_n 3 dX12_sendsLeast_4 rfl rfl ?_
  refine ga_aload_n 0 dX12_sendsLeast_5 rfl rfl ?_
  refine ga_getI (kI := 10) dX12_sendsLeast_6 fX12_236 rfl rfl rfl (fun r1 => ?_)
  obtain ⟨ht, hf⟩ := h
  refine ga_icmp_ge (tgt := 116) dX12_sendsLeast_9 (by decide) rx3 r1 (fun q2 => ?_) (fun q2 => ?_)
  · replace q2 : (gI σ 88 10) ≤ x3 := q2
    have h := ht q2
    refine ga_iload_n 2 dX12_sendsLeast_116 rfl rfl ?_
    exact ga_iret dX12_sendsLeast_117 rfl rx2 h
  · replace q2 : x3 < (gI σ 88 10) := (Int.not_le.mp q2)
    have h := hf q2
    refine ga_iconst dX12_sendsLeast_12 ?_
    refine ga_istore (ls' := [(4, vI (-1)), (0, .ref (G.2.1 88)), (1, vI x1), (2, vI x2), (3, vI x3)]) dX12_sendsLeast_13 (by decide) rfl ?_
    refine ga_iconst dX12_sendsLeast_15 ?_
    refine ga_istore (ls' := [(5, vI 0), (4, vI (-1)), (0, .ref (G.2.1 88)), (1, vI x1), (2, vI x2), (3, vI x3)]) dX12_sendsLeast_16 (by decide) rfl ?_
    exact ga_sub [2, 3, 4, 5, 1, 0] rfl h
set_option maxRecDepth 100000 in
set_option maxHeartbeats 4000000 in
theorem vX12_sendsLeast_18 {l : Launch} {G : gG}  (x1 : Int) (x2 : Int) (x3 : Int) (x4 : Int) (x5 : Int) (rx1 : gR x1) (rx2 : gR x2) (rx3 : gR x3) (rx4 : gR x4) (rx5 : gR x5) (σ : gS) (Q : Int → gS → Prop) (h : ((gI σ 88 50) ≤ x5 → (¬ x4 = (-1) → (0 ≤ x4 ∧ x4 < 40) ∧ ∀ σ7, σ7 = sI σ 125 x4 3 →
      ∀ σ8, σ8 = sI σ7 122 x4 x1 →
      kX12_sendsLeast_4 l G  x1 (x2 + 1) (x3 + 1) σ8 Q) ∧
    (x4 = (-1) → kX12_sendsLeast_4 l G  x1 x2 (x3 + 1) σ Q)) ∧
  (x5 < (gI σ 88 50) → (0 ≤ x5 ∧ x5 < 40) ∧ (¬ (gI σ 119 x5) = x3 → kX12_sendsLeast_18 l G  x1 x2 x3 x4 (x5 + 1) σ Q) ∧
    ((gI σ 119 x5) = x3 → (¬ (gI σ 125 x5) = 2 → kX12_sendsLeast_18 l G  x1 x2 x3 x4 (x5 + 1) σ Q) ∧
      ((gI σ 125 x5) = 2 → (x4 = (-1) → kX12_sendsLeast_18 l G  x1 x2 x3 x5 (x5 + 1) σ Q) ∧
        (¬ x4 = (-1) → (0 ≤ x4 ∧ x4 < 40) ∧ ((gI σ 121 x4) ≤ (gI σ 121 x5) → kX12_sendsLeast_18 l G  x1 x2 x3 x4 (x5 + 1) σ Q) ∧
          ((gI σ 121 x5) < (gI σ 121 x4) → kX12_sendsLeast_18 l G  x1 x2 x3 x5 (x5 + 1) σ Q)))))) : kX12_sendsLeast_18 l G  x1 x2 x3 x4 x5 σ Q := by
  refine ga_iload 5 dX12_sendsLeast_18 rfl ?_
  refine ga_aload_n 0 dX12_sendsLeast_20 rfl rfl ?_
  refine ga_getI (kI := 50) dX12_sendsLeast_21 fX12_386 rfl rfl rfl (fun r3 => ?_)
  obtain ⟨ht, hf⟩ := h
  refine ga_icmp_ge (tgt := 82) dX12_sendsLeast_24 (by decide) rx5 r3 (fun q4 => ?_) (fun q4 => ?_)
  · replace q4 : (gI σ 88 50) ≤ x5 := q4
    have h := ht q4
    refine ga_iload 4 dX12_sendsLeast_82 rfl ?_
    refine ga_iconst dX12_sendsLeast_84 ?_
    obtain ⟨ht, hf⟩ := h
    refine ga_icmp_ne (tgt := 91) dX12_sendsLeast_85 (by decide) rx4 (by decide) (fun q5 => ?_) (fun q5 => ?_)
    · replace q5 : ¬ x4 = (-1) := q5
      have h := ht q5
      refine ga_aload_n 0 dX12_sendsLeast_91 rfl rfl ?_
      refine ga_getR (kI := 58) (r := 125) dX12_sendsLeast_92 fX12_119 rfl rfl (by decide) rfl ?_
      refine ga_iload 4 dX12_sendsLeast_95 rfl ?_
      refine ga_iconst dX12_sendsLeast_97 ?_
      obtain ⟨i6, h⟩ := h
      obtain ⟨σ7, eσ7⟩ : ∃ z, z = sI σ 125 x4 3 := ⟨_, rfl⟩
      replace h := h σ7 eσ7
      refine ga_iast (nI := 40) dX12_sendsLeast_98 rfl rfl i6 (by decide) eσ7 ?_
      refine ga_aload_n 0 dX12_sendsLeast_99 rfl rfl ?_
      refine ga_getR (kI := 55) (r := 122) dX12_sendsLeast_100 fX12_110 rfl rfl (by decide) rfl ?_
      refine ga_iload 4 dX12_sendsLeast_103 rfl ?_
      refine ga_iload_n 1 dX12_sendsLeast_105 rfl rfl ?_
      obtain ⟨σ8, eσ8⟩ : ∃ z, z = sI σ7 122 x4 x1 := ⟨_, rfl⟩
      replace h := h σ8 eσ8
      refine ga_iast (nI := 40) dX12_sendsLeast_106 rfl rfl i6 rx1 eσ8 ?_
      refine ga_iinc (ls' := [(2, vI (x2 + 1)), (0, .ref (G.2.1 88)), (1, vI x1), (3, vI x3), (4, vI x4), (5, vI x5)]) 2 dX12_sendsLeast_107 rfl (by decide) rfl ?_
      refine ga_iinc (ls' := [(3, vI (x3 + 1)), (2, vI (x2 + 1)), (0, .ref (G.2.1 88)), (1, vI x1), (4, vI x4), (5, vI x5)]) 3 dX12_sendsLeast_110 rfl (by decide) rfl ?_
      refine ga_goto (tgt := 4) dX12_sendsLeast_113 (by decide) ?_
      exact ga_sub [2, 3, 1, 0] rfl h
    · replace q5 : x4 = (-1) := (Decidable.not_not.mp q5)
      have h := hf q5
      refine ga_goto (tgt := 110) dX12_sendsLeast_88 (by decide) ?_
      refine ga_iinc (ls' := [(3, vI (x3 + 1)), (0, .ref (G.2.1 88)), (1, vI x1), (2, vI x2), (4, vI x4), (5, vI x5)]) 3 dX12_sendsLeast_110 rfl (by decide) rfl ?_
      refine ga_goto (tgt := 4) dX12_sendsLeast_113 (by decide) ?_
      exact ga_sub [1, 2, 3, 0] rfl h
  · replace q4 : x5 < (gI σ 88 50) := (Int.not_le.mp q4)
    have h := hf q4
    refine ga_aload_n 0 dX12_sendsLeast_27 rfl rfl ?_
    refine ga_getR (kI := 52) (r := 119) dX12_sendsLeast_28 fX12_101 rfl rfl (by decide) rfl ?_
    refine ga_iload 5 dX12_sendsLeast_31 rfl ?_
    obtain ⟨i9, h⟩ := h
    refine ga_iald (nI := 40) dX12_sendsLeast_33 rfl rfl i9 (fun r10 => ?_)
    refine ga_iload_n 3 dX12_sendsLeast_34 rfl rfl ?_
    obtain ⟨ht, hf⟩ := h
    refine ga_icmp_ne (tgt := 76) dX12_sendsLeast_35 (by decide) r10 rx3 (fun q11 => ?_) (fun q11 => ?_)
    · replace q11 : ¬ (gI σ 119 x5) = x3 := q11
      have h := ht q11
      refine ga_iinc (ls' := [(5, vI (x5 + 1)), (0, .ref (G.2.1 88)), (1, vI x1), (2, vI x2), (3, vI x3), (4, vI x4)]) 5 dX12_sendsLeast_76 rfl (by decide) rfl ?_
      refine ga_goto (tgt := 18) dX12_sendsLeast_79 (by decide) ?_
      exact ga_sub [1, 2, 3, 4, 5, 0] rfl h
    · replace q11 : (gI σ 119 x5) = x3 := (Decidable.not_not.mp q11)
      have h := hf q11
      refine ga_aload_n 0 dX12_sendsLeast_38 rfl rfl ?_
      refine ga_getR (kI := 58) (r := 125) dX12_sendsLeast_39 fX12_119 rfl rfl (by decide) rfl ?_
      refine ga_iload 5 dX12_sendsLeast_42 rfl ?_
      refine ga_iald (nI := 40) dX12_sendsLeast_44 rfl rfl i9 (fun r12 => ?_)
      refine ga_iconst dX12_sendsLeast_45 ?_
      obtain ⟨ht, hf⟩ := h
      refine ga_icmp_ne (tgt := 76) dX12_sendsLeast_46 (by decide) r12 (by decide) (fun q13 => ?_) (fun q13 => ?_)
      · replace q13 : ¬ (gI σ 125 x5) = 2 := q13
        have h := ht q13
        refine ga_iinc (ls' := [(5, vI (x5 + 1)), (0, .ref (G.2.1 88)), (1, vI x1), (2, vI x2), (3, vI x3), (4, vI x4)]) 5 dX12_sendsLeast_76 rfl (by decide) rfl ?_
        refine ga_goto (tgt := 18) dX12_sendsLeast_79 (by decide) ?_
        exact ga_sub [1, 2, 3, 4, 5, 0] rfl h
      · replace q13 : (gI σ 125 x5) = 2 := (Decidable.not_not.mp q13)
        have h := hf q13
        refine ga_iload 4 dX12_sendsLeast_49 rfl ?_
        refine ga_iconst dX12_sendsLeast_51 ?_
        obtain ⟨ht, hf⟩ := h
        refine ga_icmp_eq (tgt := 72) dX12_sendsLeast_52 (by decide) rx4 (by decide) (fun q14 => ?_) (fun q14 => ?_)
        · replace q14 : x4 = (-1) := q14
          have h := ht q14
          refine ga_iload 5 dX12_sendsLeast_72 rfl ?_
          refine ga_istore (ls' := [(4, vI x5), (0, .ref (G.2.1 88)), (1, vI x1), (2, vI x2), (3, vI x3), (5, vI x5)]) dX12_sendsLeast_74 (by decide) rfl ?_
          refine ga_iinc (ls' := [(5, vI (x5 + 1)), (4, vI x5), (0, .ref (G.2.1 88)), (1, vI x1), (2, vI x2), (3, vI x3)]) 5 dX12_sendsLeast_76 rfl (by decide) rfl ?_
          refine ga_goto (tgt := 18) dX12_sendsLeast_79 (by decide) ?_
          exact ga_sub [2, 3, 4, 5, 1, 0] rfl h
        · replace q14 : ¬ x4 = (-1) := q14
          have h := hf q14
          refine ga_aload_n 0 dX12_sendsLeast_55 rfl rfl ?_
          refine ga_getR (kI := 54) (r := 121) dX12_sendsLeast_56 fX12_107 rfl rfl (by decide) rfl ?_
          refine ga_iload 5 dX12_sendsLeast_59 rfl ?_
          refine ga_iald (nI := 40) dX12_sendsLeast_61 rfl rfl i9 (fun r15 => ?_)
          refine ga_aload_n 0 dX12_sendsLeast_62 rfl rfl ?_
          refine ga_getR (kI := 54) (r := 121) dX12_sendsLeast_63 fX12_107 rfl rfl (by decide) rfl ?_
          refine ga_iload 4 dX12_sendsLeast_66 rfl ?_
          obtain ⟨i16, h⟩ := h
          refine ga_iald (nI := 40) dX12_sendsLeast_68 rfl rfl i16 (fun r17 => ?_)
          obtain ⟨ht, hf⟩ := h
          refine ga_icmp_ge (tgt := 76) dX12_sendsLeast_69 (by decide) r15 r17 (fun q18 => ?_) (fun q18 => ?_)
          · replace q18 : (gI σ 121 x4) ≤ (gI σ 121 x5) := q18
            have h := ht q18
            refine ga_iinc (ls' := [(5, vI (x5 + 1)), (0, .ref (G.2.1 88)), (1, vI x1), (2, vI x2), (3, vI x3), (4, vI x4)]) 5 dX12_sendsLeast_76 rfl (by decide) rfl ?_
            refine ga_goto (tgt := 18) dX12_sendsLeast_79 (by decide) ?_
            exact ga_sub [1, 2, 3, 4, 5, 0] rfl h
          · replace q18 : (gI σ 121 x5) < (gI σ 121 x4) := (Int.not_le.mp q18)
            have h := hf q18
            refine ga_iload 5 dX12_sendsLeast_72 rfl ?_
            refine ga_istore (ls' := [(4, vI x5), (0, .ref (G.2.1 88)), (1, vI x1), (2, vI x2), (3, vI x3), (5, vI x5)]) dX12_sendsLeast_74 (by decide) rfl ?_
            refine ga_iinc (ls' := [(5, vI (x5 + 1)), (4, vI x5), (0, .ref (G.2.1 88)), (1, vI x1), (2, vI x2), (3, vI x3)]) 5 dX12_sendsLeast_76 rfl (by decide) rfl ?_
            refine ga_goto (tgt := 18) dX12_sendsLeast_79 (by decide) ?_
            exact ga_sub [2, 3, 4, 5, 1, 0] rfl h
abbrev eX12_mimics (l : Launch) (G : gG) (x1 : Int) (σ : gS) (Q : gS → Prop) : Prop := gEv l G mX12_mimics [.ref (G.2.1 88), vI x1] σ Q
abbrev kX12_mimics_2 (l : Launch) (G : gG)  (x1 : Int) (x2 : Int) (σ : gS) (Q : gS → Prop) : Prop := gAt l G mX12_mimics (gQv G Q) 2 [(0, .ref (G.2.1 88)), (1, vI x1), (2, vI x2)] [] σ
abbrev kX12_mimics_23 (l : Launch) (G : gG)  (x1 : Int) (x2 : Int) (σ : gS) (Q : gS → Prop) : Prop := gAt l G mX12_mimics (gQv G Q) 23 [(0, .ref (G.2.1 88)), (1, vI x1), (2, vI x2)] [] σ
abbrev kX12_mimics_51 (l : Launch) (G : gG)  (x1 : Int) (x2 : Int) (x3 : Int) (σ : gS) (Q : gS → Prop) : Prop := gAt l G mX12_mimics (gQv G Q) 51 [(0, .ref (G.2.1 88)), (1, vI x1), (2, vI x2), (3, vI x3)] [] σ
abbrev kX12_mimics_58 (l : Launch) (G : gG)  (x1 : Int) (x2 : Int) (x3 : Int) (x4 : Int) (σ : gS) (Q : gS → Prop) : Prop := gAt l G mX12_mimics (gQv G Q) 58 [(0, .ref (G.2.1 88)), (1, vI x1), (2, vI x2), (3, vI x3), (4, vI x4)] [] σ
set_option maxRecDepth 100000 in
set_option maxHeartbeats 4000000 in
theorem vX12_mimics {l : Launch} {G : gG} (x1 : Int) (rx1 : gR x1) (σ : gS) (Q : gS → Prop) (h : kX12_mimics_2 l G  x1 0 σ Q) : eX12_mimics l G x1 σ Q := by
  refine ga_entry rfl (Nat.le_of_ble_eq_true rfl) ?_
  show gAt l G mX12_mimics (gQv G Q) 0 [(0, .ref (G.2.1 88)), (1, vI x1)] [] σ
  refine ga_iconst dX12_mimics_0 ?_
  refine ga_istore_n (ls' := [(2, vI 0), (0, .ref (G.2.1 88)), (1, vI x1)]) dX12_mimics_1 rfl (by decide) rfl ?_
  exact ga_sub [1, 2, 0] rfl h
set_option maxRecDepth 100000 in
set_option maxHeartbeats 4000000 in
theorem vX12_mimics_2 {l : Launch} {G : gG}  (x1 : Int) (x2 : Int) (rx1 : gR x1) (rx2 : gR x2) (σ : gS) (Q : gS → Prop) (h : (6 ≤ x2 → kX12_mimics_23 l G  x1 0 σ Q) ∧
  (x2 < 6 → (0 ≤ x2 ∧ x2 < 6) ∧ ∀ σ3, σ3 = sI σ 124 x2 0 →
    kX12_mimics_2 l G  x1 (x2 + 1) σ3 Q)) : kX12_mimics_2 l G  x1 x2 σ Q := by
  refine ga_iload_n 2 dX12_mimics_2 rfl rfl ?_
  refine ga_bipush dX12_mimics_3 (by decide) ?_
  obtain ⟨ht, hf⟩ := h
  refine ga_icmp_ge (tgt := 21) dX12_mimics_5 (by decide) rx2 (by decide) (fun q1 => ?_) (fun q1 => ?_)
  · replace q1 : 6 ≤ x2 := q1
    have h := ht q1
    refine ga_iconst dX12_mimics_21 ?_
    refine ga_istore_n (ls' := [(2, vI 0), (0, .ref (G.2.1 88)), (1, vI x1)]) dX12_mimics_22 rfl (by decide) rfl ?_
    exact ga_sub [1, 2, 0] rfl h
  · replace q1 : x2 < 6 := (Int.not_le.mp q1)
    have h := hf q1
    refine ga_aload_n 0 dX12_mimics_8 rfl rfl ?_
    refine ga_getR (kI := 57) (r := 124) dX12_mimics_9 fX12_116 rfl rfl (by decide) rfl ?_
    refine ga_iload_n 2 dX12_mimics_12 rfl rfl ?_
    refine ga_iconst dX12_mimics_13 ?_
    obtain ⟨i2, h⟩ := h
    obtain ⟨σ3, eσ3⟩ : ∃ z, z = sI σ 124 x2 0 := ⟨_, rfl⟩
    replace h := h σ3 eσ3
    refine ga_iast (nI := 6) dX12_mimics_14 rfl rfl i2 (by decide) eσ3 ?_
    refine ga_iinc (ls' := [(2, vI (x2 + 1)), (0, .ref (G.2.1 88)), (1, vI x1)]) 2 dX12_mimics_15 rfl (by decide) rfl ?_
    refine ga_goto (tgt := 2) dX12_mimics_18 (by decide) ?_
    exact ga_sub [1, 2, 0] rfl h
set_option maxRecDepth 100000 in
set_option maxHeartbeats 4000000 in
theorem vX12_mimics_23 {l : Launch} {G : gG}  (x1 : Int) (x2 : Int) (rx1 : gR x1) (rx2 : gR x2) (σ : gS) (Q : gS → Prop) (h : ((gI σ 88 50) ≤ x2 → kX12_mimics_51 l G  x1 (gI σ 88 50) 0 σ Q) ∧
  (x2 < (gI σ 88 50) → (0 ≤ x2 ∧ x2 < 40) ∧ ∀ σ8, σ8 = sI σ 125 x2 0 →
    kX12_mimics_23 l G  x1 (x2 + 1) σ8 Q)) : kX12_mimics_23 l G  x1 x2 σ Q := by
  refine ga_iload_n 2 dX12_mimics_23 rfl rfl ?_
  refine ga_aload_n 0 dX12_mimics_24 rfl rfl ?_
  refine ga_getI (kI := 50) dX12_mimics_25 fX12_386 rfl rfl rfl (fun r4 => ?_)
  obtain ⟨ht, hf⟩ := h
  refine ga_icmp_ge (tgt := 44) dX12_mimics_28 (by decide) rx2 r4 (fun q5 => ?_) (fun q5 => ?_)
  · replace q5 : (gI σ 88 50) ≤ x2 := q5
    have h := ht q5
    refine ga_aload_n 0 dX12_mimics_44 rfl rfl ?_
    refine ga_getI (kI := 50) dX12_mimics_45 fX12_386 rfl rfl rfl (fun r6 => ?_)
    refine ga_istore_n (ls' := [(2, vI (gI σ 88 50)), (0, .ref (G.2.1 88)), (1, vI x1)]) dX12_mimics_48 rfl (by decide) rfl ?_
    refine ga_iconst dX12_mimics_49 ?_
    refine ga_istore_n (ls' := [(3, vI 0), (2, vI (gI σ 88 50)), (0, .ref (G.2.1 88)), (1, vI x1)]) dX12_mimics_50 rfl (by decide) rfl ?_
    exact ga_sub [2, 3, 1, 0] rfl h
  · replace q5 : x2 < (gI σ 88 50) := (Int.not_le.mp q5)
    have h := hf q5
    refine ga_aload_n 0 dX12_mimics_31 rfl rfl ?_
    refine ga_getR (kI := 58) (r := 125) dX12_mimics_32 fX12_119 rfl rfl (by decide) rfl ?_
    refine ga_iload_n 2 dX12_mimics_35 rfl rfl ?_
    refine ga_iconst dX12_mimics_36 ?_
    obtain ⟨i7, h⟩ := h
    obtain ⟨σ8, eσ8⟩ : ∃ z, z = sI σ 125 x2 0 := ⟨_, rfl⟩
    replace h := h σ8 eσ8
    refine ga_iast (nI := 40) dX12_mimics_37 rfl rfl i7 (by decide) eσ8 ?_
    refine ga_iinc (ls' := [(2, vI (x2 + 1)), (0, .ref (G.2.1 88)), (1, vI x1)]) 2 dX12_mimics_38 rfl (by decide) rfl ?_
    refine ga_goto (tgt := 23) dX12_mimics_41 (by decide) ?_
    exact ga_sub [1, 2, 0] rfl h
set_option maxRecDepth 100000 in
set_option maxHeartbeats 4000000 in
theorem vX12_mimics_51 {l : Launch} {G : gG}  (x1 : Int) (x2 : Int) (x3 : Int) (rx1 : gR x1) (rx2 : gR x2) (rx3 : gR x3) (σ : gS) (Q : gS → Prop) (h : (x2 ≤ 0 → Q σ) ∧
  (0 < x2 → kX12_mimics_58 l G  x1 x2 x3 0 σ Q)) : kX12_mimics_51 l G  x1 x2 x3 σ Q := by
  refine ga_iload_n 2 dX12_mimics_51 rfl rfl ?_
  obtain ⟨ht, hf⟩ := h
  refine ga_if_le (tgt := 117) dX12_mimics_52 (by decide) rx2 (fun q9 => ?_) (fun q9 => ?_)
  · replace q9 : x2 ≤ 0 := q9
    have h := ht q9
    exact ga_vret dX12_mimics_117 rfl h
  · replace q9 : 0 < x2 := (Int.not_le.mp q9)
    have h := hf q9
    refine ga_iconst dX12_mimics_55 ?_
    refine ga_istore (ls' := [(4, vI 0), (0, .ref (G.2.1 88)), (1, vI x1), (2, vI x2), (3, vI x3)]) dX12_mimics_56 (by decide) rfl ?_
    exact ga_sub [1, 2, 3, 4, 0] rfl h
set_option maxRecDepth 100000 in
set_option maxHeartbeats 4000000 in
theorem vX12_mimics_58 {l : Launch} {G : gG}  (x1 : Int) (x2 : Int) (x3 : Int) (x4 : Int) (rx1 : gR x1) (rx2 : gR x2) (rx3 : gR x3) (rx4 : gR x4) (σ : gS) (Q : gS → Prop) (h : ((gI σ 88 50) ≤ x4 → eX12_stable l G  σ (fun σ12 =>
    eX12_sendsLeast l G x3 σ12 (fun v16 σ14 => gR v16 →
    (¬ x1 = 2 → kX12_mimics_51 l G  x1 (x2 - v16) (x3 + 1) σ14 Q) ∧
    (x1 = 2 → eX12_stable l G  σ14 (fun σ18 =>
      kX12_mimics_51 l G  x1 (x2 - v16) (x3 + 1) σ18 Q))))) ∧
  (x4 < (gI σ 88 50) → (0 ≤ x4 ∧ x4 < 40) ∧ (¬ (gI σ 120 x4) = x3 → kX12_mimics_58 l G  x1 x2 x3 (x4 + 1) σ Q) ∧
    ((gI σ 120 x4) = x3 → eX12_putsIn l G x4 σ (fun σ23 =>
      kX12_mimics_58 l G  x1 x2 x3 (x4 + 1) σ23 Q)))) : kX12_mimics_58 l G  x1 x2 x3 x4 σ Q := by
  refine ga_iload 4 dX12_mimics_58 rfl ?_
  refine ga_aload_n 0 dX12_mimics_60 rfl rfl ?_
  refine ga_getI (kI := 50) dX12_mimics_61 fX12_386 rfl rfl rfl (fun r10 => ?_)
  obtain ⟨ht, hf⟩ := h
  refine ga_icmp_ge (tgt := 90) dX12_mimics_64 (by decide) rx4 r10 (fun q11 => ?_) (fun q11 => ?_)
  · replace q11 : (gI σ 88 50) ≤ x4 := q11
    have h := ht q11
    refine ga_aload_n 0 dX12_mimics_90 rfl rfl ?_
    refine ga_callVv (z := mX12_stable) (As := []) (rest := []) dX12_mimics_91 wX12_407 qX12_mimics_X12_stable rfl ⟨_, rfl, rfl⟩ rfl rfl (Nat.le_of_ble_eq_true rfl) (gEv_mono h (fun σ12 h => ?_))
    refine ga_iload_n 2 dX12_mimics_94 rfl rfl ?_
    refine ga_aload_n 0 dX12_mimics_95 rfl rfl ?_
    refine ga_iload_n 3 dX12_mimics_96 rfl rfl ?_
    refine ga_callVi (z := mX12_sendsLeast) (As := [vI x3]) (rest := [vI x2]) dX12_mimics_97 wX12_410 qX12_mimics_X12_sendsLeast rfl ⟨_, rfl, rfl⟩ rfl rfl (Nat.le_of_ble_eq_true rfl) (gEi_mono h (fun v16 σ14 h r15 => ?_))
    replace h := h r15
    refine ga_isub dX12_mimics_100 ?_
    refine ga_istore_n (ls' := [(2, vI (x2 - v16)), (0, .ref (G.2.1 88)), (1, vI x1), (3, vI x3), (4, vI x4)]) dX12_mimics_101 rfl (by decide) rfl ?_
    refine ga_iload_n 2 dX12_mimics_102 rfl rfl ?_
    refine ga_iconst dX12_mimics_103 ?_
    obtain ⟨ht, hf⟩ := h
    refine ga_icmp_ne (tgt := 111) dX12_mimics_104 (by decide) rx1 (by decide) (fun q17 => ?_) (fun q17 => ?_)
    · replace q17 : ¬ x1 = 2 := q17
      have h := ht q17
      refine ga_iinc (ls' := [(3, vI (x3 + 1)), (2, vI (x2 - v16)), (0, .ref (G.2.1 88)), (1, vI x1), (4, vI x4)]) 3 dX12_mimics_111 rfl (by decide) rfl ?_
      refine ga_goto (tgt := 51) dX12_mimics_114 (by decide) ?_
      exact ga_sub [2, 3, 1, 0] rfl h
    · replace q17 : x1 = 2 := (Decidable.not_not.mp q17)
      have h := hf q17
      refine ga_aload_n 1 dX12_mimics_107 rfl rfl ?_
      refine ga_callVv (z := mX12_stable) (As := []) (rest := []) dX12_mimics_108 wX12_407 qX12_mimics_X12_stable rfl ⟨_, rfl, rfl⟩ rfl rfl (Nat.le_of_ble_eq_true rfl) (gEv_mono h (fun σ18 h => ?_))
      refine ga_iinc (ls' := [(3, vI (x3 + 1)), (2, vI (x2 - v16)), (0, .ref (G.2.1 88)), (1, vI x1), (4, vI x4)]) 3 dX12_mimics_111 rfl (by decide) rfl ?_
      refine ga_goto (tgt := 51) dX12_mimics_114 (by decide) ?_
      exact ga_sub [2, 3, 1, 0] rfl h
  · replace q11 : x4 < (gI σ 88 50) := (Int.not_le.mp q11)
    have h := hf q11
    refine ga_aload_n 0 dX12_mimics_67 rfl rfl ?_
    refine ga_getR (kI := 53) (r := 120) dX12_mimics_68 fX12_104 rfl rfl (by decide) rfl ?_
    refine ga_iload 4 dX12_mimics_71 rfl ?_
    obtain ⟨i20, h⟩ := h
    refine ga_iald (nI := 40) dX12_mimics_73 rfl rfl i20 (fun r21 => ?_)
    refine ga_iload_n 3 dX12_mimics_74 rfl rfl ?_
    obtain ⟨ht, hf⟩ := h
    refine ga_icmp_ne (tgt := 84) dX12_mimics_75 (by decide) r21 rx3 (fun q22 => ?_) (fun q22 => ?_)
    · replace q22 : ¬ (gI σ 120 x4) = x3 := q22
      have h := ht q22
      refine ga_iinc (ls' := [(4, vI (x4 + 1)), (0, .ref (G.2.1 88)), (1, vI x1), (2, vI x2), (3, vI x3)]) 4 dX12_mimics_84 rfl (by decide) rfl ?_
      refine ga_goto (tgt := 58) dX12_mimics_87 (by decide) ?_
      exact ga_sub [1, 2, 3, 4, 0] rfl h
    · replace q22 : (gI σ 120 x4) = x3 := (Decidable.not_not.mp q22)
      have h := hf q22
      refine ga_aload_n 0 dX12_mimics_78 rfl rfl ?_
      refine ga_iload 4 dX12_mimics_79 rfl ?_
      refine ga_callVv (z := mX12_putsIn) (As := [vI x4]) (rest := []) dX12_mimics_81 wX12_404 qX12_mimics_X12_putsIn rfl ⟨_, rfl, rfl⟩ rfl rfl (Nat.le_of_ble_eq_true rfl) (gEv_mono h (fun σ23 h => ?_))
      refine ga_iinc (ls' := [(4, vI (x4 + 1)), (0, .ref (G.2.1 88)), (1, vI x1), (2, vI x2), (3, vI x3)]) 4 dX12_mimics_84 rfl (by decide) rfl ?_
      refine ga_goto (tgt := 58) dX12_mimics_87 (by decide) ?_
      exact ga_sub [1, 2, 3, 4, 0] rfl h
abbrev eX12_mimic (l : Launch) (G : gG) (x1 : Int) (x2 : Int) (x3 : Int) (x4 : Int) (σ : gS) (Q : Int → gS → Prop) : Prop := gEi l G mX12_mimic [.ref (G.2.1 88), vI x1, vI x2, vI x3, vI x4] σ Q
abbrev kX12_mimic_60 (l : Launch) (G : gG)  (x1 : Int) (x2 : Int) (x3 : Int) (x4 : Int) (x5 : Int) (x6 : Int) (σ : gS) (Q : Int → gS → Prop) : Prop := gAt l G mX12_mimic (gQi G Q) 60 [(0, .ref (G.2.1 88)), (1, vI x1), (2, vI x2), (3, vI x3), (4, vI x4), (5, vI x5), (6, vI x6)] [] σ
set_option maxRecDepth 100000 in
set_option maxHeartbeats 4000000 in
theorem vX12_mimic {l : Launch} {G : gG} (x1 : Int) (x2 : Int) (x3 : Int) (x4 : Int) (rx1 : gR x1) (rx2 : gR x2) (rx3 : gR x3) (rx4 : gR x4) (σ : gS) (Q : Int → gS → Prop) (h : eX12_isCrossbar l G x1 σ (fun v3 σ1 => (v3 = 0 ∨ v3 = 1) →
  (v3 = 0 → Q (-1) σ1) ∧
  (¬ v3 = 0 → eX12_isTraffic l G x2 σ1 (fun v7 σ5 => (v7 = 0 ∨ v7 = 1) →
    (v7 = 0 → Q (-1) σ5) ∧
    (¬ v7 = 0 → eX12_isIn l G x4 0 2 σ5 (fun v11 σ9 => (v11 = 0 ∨ v11 = 1) →
      (¬ v11 = 0 → eX12_goes l G 40 σ9 (fun σ13 =>
        eX12_shadows l G  σ13 (fun σ15 =>
        (x4 ≤ 0 → (¬ x3 = (-1) → eX12_isIn l G x3 0 ((gI σ15 88 50) - 1) σ15 (fun v22 σ20 => (v22 = 0 ∨ v22 = 1) →
            ((¬ v22 = 0 → (¬ x4 = 0 → (0 ≤ x3 ∧ x3 < 40) ∧ True) ∧
              (x4 = 0 → (0 ≤ x3 ∧ x3 < 40) ∧ True)) ∧
            (v22 = 0 → True)) ∧
            (∀ v30 : Int, v30 = (if v22 = 0 then (-1) else (if x4 = 0 then (gI σ20 121 x3) else (gI σ20 122 x3))) →
            Q v30 σ20))) ∧
          (x3 = (-1) → kX12_mimic_60 l G  x1 x2 x3 x4 0 0 σ15 Q)) ∧
        (0 < x4 → eX12_mimics l G x4 σ15 (fun σ31 =>
          (¬ x3 = (-1) → eX12_isIn l G x3 0 ((gI σ31 88 50) - 1) σ31 (fun v37 σ35 => (v37 = 0 ∨ v37 = 1) →
            ((¬ v37 = 0 → (¬ x4 = 0 → (0 ≤ x3 ∧ x3 < 40) ∧ True) ∧
              (x4 = 0 → (0 ≤ x3 ∧ x3 < 40) ∧ True)) ∧
            (v37 = 0 → True)) ∧
            (∀ v45 : Int, v45 = (if v37 = 0 then (-1) else (if x4 = 0 then (gI σ35 121 x3) else (gI σ35 122 x3))) →
            Q v45 σ35))) ∧
          (x3 = (-1) → kX12_mimic_60 l G  x1 x2 x3 x4 0 0 σ31 Q)))))) ∧
      (v11 = 0 → Q (-1) σ9))))))) : eX12_mimic l G x1 x2 x3 x4 σ Q := by
  refine ga_entry rfl (Nat.le_of_ble_eq_true rfl) ?_
  show gAt l G mX12_mimic (gQi G Q) 0 [(0, .ref (G.2.1 88)), (1, vI x1), (2, vI x2), (3, vI x3), (4, vI x4)] [] σ
  refine ga_aload_n 0 dX12_mimic_0 rfl rfl ?_
  refine ga_iload_n 1 dX12_mimic_1 rfl rfl ?_
  refine ga_callVz (z := mX12_isCrossbar) (As := [vI x1]) (rest := []) dX12_mimic_2 wX12_344 qX12_mimic_X12_isCrossbar rfl ⟨_, rfl, rfl⟩ rfl rfl (Nat.le_of_ble_eq_true rfl) (gEz_mono h (fun v3 σ1 h r2 => ?_))
  replace h := h r2
  obtain ⟨ht, hf⟩ := h
  refine ga_if_eq (tgt := 26) dX12_mimic_5 (by decide) (gR_01 r2) (fun q4 => ?_) (fun q4 => ?_)
  · replace q4 : v3 = 0 := q4
    have h := ht q4
    refine ga_iconst dX12_mimic_26 ?_
    exact ga_iret dX12_mimic_27 rfl (by decide) h
  · replace q4 : ¬ v3 = 0 := q4
    have h := hf q4
    refine ga_aload_n 0 dX12_mimic_8 rfl rfl ?_
    refine ga_iload_n 2 dX12_mimic_9 rfl rfl ?_
    refine ga_callVz (z := mX12_isTraffic) (As := [vI x2]) (rest := []) dX12_mimic_10 wX12_251 qX12_mimic_X12_isTraffic rfl ⟨_, rfl, rfl⟩ rfl rfl (Nat.le_of_ble_eq_true rfl) (gEz_mono h (fun v7 σ5 h r6 => ?_))
    replace h := h r6
    obtain ⟨ht, hf⟩ := h
    refine ga_if_eq (tgt := 26) dX12_mimic_13 (by decide) (gR_01 r6) (fun q8 => ?_) (fun q8 => ?_)
    · replace q8 : v7 = 0 := q8
      have h := ht q8
      refine ga_iconst dX12_mimic_26 ?_
      exact ga_iret dX12_mimic_27 rfl (by decide) h
    · replace q8 : ¬ v7 = 0 := q8
      have h := hf q8
      refine ga_iload 4 dX12_mimic_16 rfl ?_
      refine ga_iconst dX12_mimic_18 ?_
      refine ga_iconst dX12_mimic_19 ?_
      refine ga_callSz (z := mX12_isIn) (As := [vI x4, vI 0, vI 2]) (rest := []) dX12_mimic_20 wX12_196 qX12_mimic_X12_isIn rfl rfl (Nat.le_of_ble_eq_true rfl) (gEz_mono h (fun v11 σ9 h r10 => ?_))
      replace h := h r10
      obtain ⟨ht, hf⟩ := h
      refine ga_if_ne (tgt := 28) dX12_mimic_23 (by decide) (gR_01 r10) (fun q12 => ?_) (fun q12 => ?_)
      · replace q12 : ¬ v11 = 0 := q12
        have h := ht q12
        refine ga_aload_n 0 dX12_mimic_28 rfl rfl ?_
        refine ga_bipush dX12_mimic_29 (by decide) ?_
        refine ga_callVv (z := mX12_goes) (As := [vI 40]) (rest := []) dX12_mimic_31 wX12_347 qX12_mimic_X12_goes rfl ⟨_, rfl, rfl⟩ rfl rfl (Nat.le_of_ble_eq_true rfl) (gEv_mono h (fun σ13 h => ?_))
        refine ga_aload_n 0 dX12_mimic_34 rfl rfl ?_
        refine ga_callVv (z := mX12_shadows) (As := []) (rest := []) dX12_mimic_35 wX12_413 qX12_mimic_X12_shadows rfl ⟨_, rfl, rfl⟩ rfl rfl (Nat.le_of_ble_eq_true rfl) (gEv_mono h (fun σ15 h => ?_))
        refine ga_iload 4 dX12_mimic_38 rfl ?_
        obtain ⟨ht, hf⟩ := h
        refine ga_if_le (tgt := 49) dX12_mimic_40 (by decide) rx4 (fun q17 => ?_) (fun q17 => ?_)
        · replace q17 : x4 ≤ 0 := q17
          have h := ht q17
          refine ga_iload_n 3 dX12_mimic_49 rfl rfl ?_
          refine ga_iconst dX12_mimic_50 ?_
          obtain ⟨ht, hf⟩ := h
          refine ga_icmp_ne (tgt := 122) dX12_mimic_51 (by decide) rx3 (by decide) (fun q18 => ?_) (fun q18 => ?_)
          · replace q18 : ¬ x3 = (-1) := q18
            have h := ht q18
            refine ga_iload_n 3 dX12_mimic_122 rfl rfl ?_
            refine ga_iconst dX12_mimic_123 ?_
            refine ga_aload_n 0 dX12_mimic_124 rfl rfl ?_
            refine ga_getI (kI := 50) dX12_mimic_125 fX12_386 rfl rfl rfl (fun r19 => ?_)
            refine ga_iconst dX12_mimic_128 ?_
            refine ga_isub dX12_mimic_129 ?_
            refine ga_callSz (z := mX12_isIn) (As := [vI x3, vI 0, vI ((gI σ15 88 50) - 1)]) (rest := []) dX12_mimic_130 wX12_196 qX12_mimic_X12_isIn rfl rfl (Nat.le_of_ble_eq_true rfl) (gEz_mono h (fun v22 σ20 h r21 => ?_))
            replace h := h r21
            obtain ⟨hob, h⟩ := h
            have kJ23 : ∀ v30 : Int, gR v30 → v30 = (if v22 = 0 then (-1) else (if x4 = 0 then (gI σ20 121 x3) else (gI σ20 122 x3))) → gAt l G mX12_mimic (gQi G Q) 160 [(0, .ref (G.2.1 88)), (1, vI x1), (2, vI x2), (3, vI x3), (4, vI x4)] [vI v30] σ20 := by
              intro v30 rv30 ev30
              replace h := h v30 ev30
              exact ga_iret dX12_mimic_160 rfl rv30 h
            replace h := hob
            obtain ⟨ht, hf⟩ := h
            refine ga_if_ne (tgt := 140) dX12_mimic_133 (by decide) (gR_01 r21) (fun q24 => ?_) (fun q24 => ?_)
            · replace q24 : ¬ v22 = 0 := q24
              have h := ht q24
              refine ga_iload 4 dX12_mimic_140 rfl ?_
              obtain ⟨ht, hf⟩ := h
              refine ga_if_ne (tgt := 154) dX12_mimic_142 (by decide) rx4 (fun q25 => ?_) (fun q25 => ?_)
              · replace q25 : ¬ x4 = 0 := q25
                have h := ht q25
                refine ga_aload_n 0 dX12_mimic_154 rfl rfl ?_
                refine ga_getR (kI := 55) (r := 122) dX12_mimic_155 fX12_110 rfl rfl (by decide) rfl ?_
                refine ga_iload_n 3 dX12_mimic_158 rfl rfl ?_
                obtain ⟨i26, h⟩ := h
                refine ga_iald (nI := 40) dX12_mimic_159 rfl rfl i26 (fun r27 => ?_)
                exact kJ23 (gI σ20 122 x3) r27 (by rw [if_neg q24, if_neg q25])
              · replace q25 : x4 = 0 := (Decidable.not_not.mp q25)
                have h := hf q25
                refine ga_aload_n 0 dX12_mimic_145 rfl rfl ?_
                refine ga_getR (kI := 54) (r := 121) dX12_mimic_146 fX12_107 rfl rfl (by decide) rfl ?_
                refine ga_iload_n 3 dX12_mimic_149 rfl rfl ?_
                obtain ⟨i28, h⟩ := h
                refine ga_iald (nI := 40) dX12_mimic_150 rfl rfl i28 (fun r29 => ?_)
                refine ga_goto (tgt := 160) dX12_mimic_151 (by decide) ?_
                exact kJ23 (gI σ20 121 x3) r29 (by rw [if_neg q24, if_pos q25])
            · replace q24 : v22 = 0 := (Decidable.not_not.mp q24)
              have h := hf q24
              refine ga_iconst dX12_mimic_136 ?_
              refine ga_goto (tgt := 160) dX12_mimic_137 (by decide) ?_
              exact kJ23 (-1) (by decide) (by rw [if_pos q24])
          · replace q18 : x3 = (-1) := (Decidable.not_not.mp q18)
            have h := hf q18
            refine ga_iconst dX12_mimic_54 ?_
            refine ga_istore (ls' := [(5, vI 0), (0, .ref (G.2.1 88)), (1, vI x1), (2, vI x2), (3, vI x3), (4, vI x4)]) dX12_mimic_55 (by decide) rfl ?_
            refine ga_iconst dX12_mimic_57 ?_
            refine ga_istore (ls' := [(6, vI 0), (5, vI 0), (0, .ref (G.2.1 88)), (1, vI x1), (2, vI x2), (3, vI x3), (4, vI x4)]) dX12_mimic_58 (by decide) rfl ?_
            exact ga_sub [2, 3, 4, 5, 6, 1, 0] rfl h
        · replace q17 : 0 < x4 := (Int.not_le.mp q17)
          have h := hf q17
          refine ga_aload_n 0 dX12_mimic_43 rfl rfl ?_
          refine ga_iload 4 dX12_mimic_44 rfl ?_
          refine ga_callVv (z := mX12_mimics) (As := [vI x4]) (rest := []) dX12_mimic_46 wX12_416 qX12_mimic_X12_mimics rfl ⟨_, rfl, rfl⟩ rfl rfl (Nat.le_of_ble_eq_true rfl) (gEv_mono h (fun σ31 h => ?_))
          refine ga_iload_n 3 dX12_mimic_49 rfl rfl ?_
          refine ga_iconst dX12_mimic_50 ?_
          obtain ⟨ht, hf⟩ := h
          refine ga_icmp_ne (tgt := 122) dX12_mimic_51 (by decide) rx3 (by decide) (fun q33 => ?_) (fun q33 => ?_)
          · replace q33 : ¬ x3 = (-1) := q33
            have h := ht q33
            refine ga_iload_n 3 dX12_mimic_122 rfl rfl ?_
            refine ga_iconst dX12_mimic_123 ?_
            refine ga_aload_n 0 dX12_mimic_124 rfl rfl ?_
            refine ga_getI (kI := 50) dX12_mimic_125 fX12_386 rfl rfl rfl (fun r34 => ?_)
            refine ga_iconst dX12_mimic_128 ?_
            refine ga_isub dX12_mimic_129 ?_
            refine ga_callSz (z := mX12_isIn) (As := [vI x3, vI 0, vI ((gI σ31 88 50) - 1)]) (rest := []) dX12_mimic_130 wX12_196 qX12_mimic_X12_isIn rfl rfl (Nat.le_of_ble_eq_true rfl) (gEz_mono h (fun v37 σ35 h r36 => ?_))
            replace h := h r36
            obtain ⟨hob, h⟩ := h
            have kJ38 : ∀ v45 : Int, gR v45 → v45 = (if v37 = 0 then (-1) else (if x4 = 0 then (gI σ35 121 x3) else (gI σ35 122 x3))) → gAt l G mX12_mimic (gQi G Q) 160 [(0, .ref (G.2.1 88)), (1, vI x1), (2, vI x2), (3, vI x3), (4, vI x4)] [vI v45] σ35 := by
              intro v45 rv45 ev45
              replace h := h v45 ev45
              exact ga_iret dX12_mimic_160 rfl rv45 h
            replace h := hob
            obtain ⟨ht, hf⟩ := h
            refine ga_if_ne (tgt := 140) dX12_mimic_133 (by decide) (gR_01 r36) (fun q39 => ?_) (fun q39 => ?_)
            · replace q39 : ¬ v37 = 0 := q39
              have h := ht q39
              refine ga_iload 4 dX12_mimic_140 rfl ?_
              obtain ⟨ht, hf⟩ := h
              refine ga_if_ne (tgt := 154) dX12_mimic_142 (by decide) rx4 (fun q40 => ?_) (fun q40 => ?_)
              · replace q40 : ¬ x4 = 0 := q40
                have h := ht q40
                refine ga_aload_n 0 dX12_mimic_154 rfl rfl ?_
                refine ga_getR (kI := 55) (r := 122) dX12_mimic_155 fX12_110 rfl rfl (by decide) rfl ?_
                refine ga_iload_n 3 dX12_mimic_158 rfl rfl ?_
                obtain ⟨i41, h⟩ := h
                refine ga_iald (nI := 40) dX12_mimic_159 rfl rfl i41 (fun r42 => ?_)
                exact kJ38 (gI σ35 122 x3) r42 (by rw [if_neg q39, if_neg q40])
              · replace q40 : x4 = 0 := (Decidable.not_not.mp q40)
                have h := hf q40
                refine ga_aload_n 0 dX12_mimic_145 rfl rfl ?_
                refine ga_getR (kI := 54) (r := 121) dX12_mimic_146 fX12_107 rfl rfl (by decide) rfl ?_
                refine ga_iload_n 3 dX12_mimic_149 rfl rfl ?_
                obtain ⟨i43, h⟩ := h
                refine ga_iald (nI := 40) dX12_mimic_150 rfl rfl i43 (fun r44 => ?_)
                refine ga_goto (tgt := 160) dX12_mimic_151 (by decide) ?_
                exact kJ38 (gI σ35 121 x3) r44 (by rw [if_neg q39, if_pos q40])
            · replace q39 : v37 = 0 := (Decidable.not_not.mp q39)
              have h := hf q39
              refine ga_iconst dX12_mimic_136 ?_
              refine ga_goto (tgt := 160) dX12_mimic_137 (by decide) ?_
              exact kJ38 (-1) (by decide) (by rw [if_pos q39])
          · replace q33 : x3 = (-1) := (Decidable.not_not.mp q33)
            have h := hf q33
            refine ga_iconst dX12_mimic_54 ?_
            refine ga_istore (ls' := [(5, vI 0), (0, .ref (G.2.1 88)), (1, vI x1), (2, vI x2), (3, vI x3), (4, vI x4)]) dX12_mimic_55 (by decide) rfl ?_
            refine ga_iconst dX12_mimic_57 ?_
            refine ga_istore (ls' := [(6, vI 0), (5, vI 0), (0, .ref (G.2.1 88)), (1, vI x1), (2, vI x2), (3, vI x3), (4, vI x4)]) dX12_mimic_58 (by decide) rfl ?_
            exact ga_sub [2, 3, 4, 5, 6, 1, 0] rfl h
      · replace q12 : v11 = 0 := (Decidable.not_not.mp q12)
        have h := hf q12
        refine ga_iconst dX12_mimic_26 ?_
        exact ga_iret dX12_mimic_27 rfl (by decide) h
set_option maxRecDepth 100000 in
set_option maxHeartbeats 4000000 in
theorem vX12_mimic_60 {l : Launch} {G : gG}  (x1 : Int) (x2 : Int) (x3 : Int) (x4 : Int) (x5 : Int) (x6 : Int) (rx1 : gR x1) (rx2 : gR x2) (rx3 : gR x3) (rx4 : gR x4) (rx5 : gR x5) (rx6 : gR x6) (σ : gS) (Q : Int → gS → Prop) (h : ((gI σ 88 50) ≤ x6 → (∀ v51 : Int, v51 = (if x4 = 0 then (gI σ 88 50) else x5) →
    Q v51 σ)) ∧
  (x6 < (gI σ 88 50) → ((x4 ≤ 0 → True) ∧
    (0 < x4 → (0 ≤ x6 ∧ x6 < 40) ∧ ((gI σ 122 x6) ≤ (gI σ 121 x6) → True) ∧
      ((gI σ 121 x6) < (gI σ 122 x6) → True))) ∧
    (∀ v58 : Int, v58 = (if x4 ≤ 0 then 0 else (if (gI σ 122 x6) ≤ (gI σ 121 x6) then 0 else 1)) →
    kX12_mimic_60 l G  x1 x2 x3 x4 (x5 + v58) (x6 + 1) σ Q))) : kX12_mimic_60 l G  x1 x2 x3 x4 x5 x6 σ Q := by
  refine ga_iload 6 dX12_mimic_60 rfl ?_
  refine ga_aload_n 0 dX12_mimic_62 rfl rfl ?_
  refine ga_getI (kI := 50) dX12_mimic_63 fX12_386 rfl rfl rfl (fun r46 => ?_)
  obtain ⟨ht, hf⟩ := h
  refine ga_icmp_ge (tgt := 107) dX12_mimic_66 (by decide) rx6 r46 (fun q47 => ?_) (fun q47 => ?_)
  · replace q47 : (gI σ 88 50) ≤ x6 := q47
    have h := ht q47
    refine ga_iload 4 dX12_mimic_107 rfl ?_
    have kJ48 : ∀ v51 : Int, gR v51 → v51 = (if x4 = 0 then (gI σ 88 50) else x5) → gAt l G mX12_mimic (gQi G Q) 121 [(0, .ref (G.2.1 88)), (1, vI x1), (2, vI x2), (3, vI x3), (4, vI x4), (5, vI x5), (6, vI x6)] [vI v51] σ := by
      intro v51 rv51 ev51
      replace h := h v51 ev51
      exact ga_iret dX12_mimic_121 rfl rv51 h
    replace h : (¬ x4 = 0 → True) ∧
    (x4 = 0 → True) := by repeat (first | exact True.intro | apply And.intro | intro _)
    obtain ⟨ht, hf⟩ := h
    refine ga_if_ne (tgt := 119) dX12_mimic_109 (by decide) rx4 (fun q49 => ?_) (fun q49 => ?_)
    · replace q49 : ¬ x4 = 0 := q49
      have h := ht q49
      refine ga_iload 5 dX12_mimic_119 rfl ?_
      exact kJ48 x5 rx5 (by rw [if_neg q49])
    · replace q49 : x4 = 0 := (Decidable.not_not.mp q49)
      have h := hf q49
      refine ga_aload_n 0 dX12_mimic_112 rfl rfl ?_
      refine ga_getI (kI := 50) dX12_mimic_113 fX12_386 rfl rfl rfl (fun r50 => ?_)
      refine ga_goto (tgt := 121) dX12_mimic_116 (by decide) ?_
      exact kJ48 (gI σ 88 50) r50 (by rw [if_pos q49])
  · replace q47 : x6 < (gI σ 88 50) := (Int.not_le.mp q47)
    have h := hf q47
    refine ga_iload 5 dX12_mimic_69 rfl ?_
    refine ga_iload 4 dX12_mimic_71 rfl ?_
    obtain ⟨hob, h⟩ := h
    have kJ52 : ∀ v58 : Int, gR v58 → (v58 = 0 ∨ v58 = 1) → v58 = (if x4 ≤ 0 then 0 else (if (gI σ 122 x6) ≤ (gI σ 121 x6) then 0 else 1)) → gAt l G mX12_mimic (gQi G Q) 98 [(0, .ref (G.2.1 88)), (1, vI x1), (2, vI x2), (3, vI x3), (4, vI x4), (5, vI x5), (6, vI x6)] [vI v58, vI x5] σ := by
      intro v58 rv58 bv58 ev58
      replace h := h v58 ev58
      refine ga_iadd dX12_mimic_98 ?_
      refine ga_istore (ls' := [(5, vI (x5 + v58)), (0, .ref (G.2.1 88)), (1, vI x1), (2, vI x2), (3, vI x3), (4, vI x4), (6, vI x6)]) dX12_mimic_99 (by decide) rfl ?_
      refine ga_iinc (ls' := [(6, vI (x6 + 1)), (5, vI (x5 + v58)), (0, .ref (G.2.1 88)), (1, vI x1), (2, vI x2), (3, vI x3), (4, vI x4)]) 6 dX12_mimic_101 rfl (by decide) rfl ?_
      refine ga_goto (tgt := 60) dX12_mimic_104 (by decide) ?_
      exact ga_sub [2, 3, 4, 5, 6, 1, 0] rfl h
    replace h := hob
    obtain ⟨ht, hf⟩ := h
    refine ga_if_le (tgt := 97) dX12_mimic_73 (by decide) rx4 (fun q53 => ?_) (fun q53 => ?_)
    · replace q53 : x4 ≤ 0 := q53
      have h := ht q53
      refine ga_iconst dX12_mimic_97 ?_
      exact kJ52 0 (by decide) (Or.inl rfl) (by rw [if_pos q53])
    · replace q53 : 0 < x4 := (Int.not_le.mp q53)
      have h := hf q53
      refine ga_aload_n 0 dX12_mimic_76 rfl rfl ?_
      refine ga_getR (kI := 55) (r := 122) dX12_mimic_77 fX12_110 rfl rfl (by decide) rfl ?_
      refine ga_iload 6 dX12_mimic_80 rfl ?_
      obtain ⟨i54, h⟩ := h
      refine ga_iald (nI := 40) dX12_mimic_82 rfl rfl i54 (fun r55 => ?_)
      refine ga_aload_n 0 dX12_mimic_83 rfl rfl ?_
      refine ga_getR (kI := 54) (r := 121) dX12_mimic_84 fX12_107 rfl rfl (by decide) rfl ?_
      refine ga_iload 6 dX12_mimic_87 rfl ?_
      refine ga_iald (nI := 40) dX12_mimic_89 rfl rfl i54 (fun r56 => ?_)
      obtain ⟨ht, hf⟩ := h
      refine ga_icmp_le (tgt := 97) dX12_mimic_90 (by decide) r55 r56 (fun q57 => ?_) (fun q57 => ?_)
      · replace q57 : (gI σ 122 x6) ≤ (gI σ 121 x6) := q57
        have h := ht q57
        refine ga_iconst dX12_mimic_97 ?_
        exact kJ52 0 (by decide) (Or.inl rfl) (by rw [if_neg (Int.not_le.mpr q53), if_pos q57])
      · replace q57 : (gI σ 121 x6) < (gI σ 122 x6) := (Int.not_le.mp q57)
        have h := hf q57
        refine ga_iconst dX12_mimic_93 ?_
        refine ga_goto (tgt := 98) dX12_mimic_94 (by decide) ?_
        exact kJ52 1 (by decide) (Or.inr rfl) (by rw [if_neg (Int.not_le.mpr q53), if_neg (Int.not_le.mpr q57)])
abbrev eX12_laysFlows (l : Launch) (G : gG)  (σ : gS) (Q : gS → Prop) : Prop := gEv l G mX12_laysFlows [.ref (G.2.1 88)] σ Q
abbrev kX12_laysFlows_7 (l : Launch) (G : gG)  (x1 : Int) (σ : gS) (Q : gS → Prop) : Prop := gAt l G mX12_laysFlows (gQv G Q) 7 [(0, .ref (G.2.1 88)), (1, vI x1)] [] σ
abbrev kX12_laysFlows_48 (l : Launch) (G : gG)  (x1 : Int) (x2 : Int) (x3 : Int) (σ : gS) (Q : gS → Prop) : Prop := gAt l G mX12_laysFlows (gQv G Q) 48 [(0, .ref (G.2.1 88)), (1, vI x1), (2, vI x2), (3, vI x3)] [] σ
set_option maxRecDepth 100000 in
set_option maxHeartbeats 4000000 in
theorem vX12_laysFlows {l : Launch} {G : gG}  (σ : gS) (Q : gS → Prop) (h : ∀ σ1, σ1 = sI σ 88 61 0 →
  kX12_laysFlows_7 l G  0 σ1 Q) : eX12_laysFlows l G  σ Q := by
  refine ga_entry rfl (Nat.le_of_ble_eq_true rfl) ?_
  show gAt l G mX12_laysFlows (gQv G Q) 0 [(0, .ref (G.2.1 88))] [] σ
  refine ga_aload_n 0 dX12_laysFlows_0 rfl rfl ?_
  refine ga_iconst dX12_laysFlows_1 ?_
  obtain ⟨σ1, eσ1⟩ : ∃ z, z = sI σ 88 61 0 := ⟨_, rfl⟩
  replace h := h σ1 eσ1
  refine ga_putI (kI := 61) dX12_laysFlows_2 fX12_419 pX12_61 rfl rfl rfl (by decide) eσ1 ?_
  refine ga_iconst dX12_laysFlows_5 ?_
  refine ga_istore_n (ls' := [(1, vI 0), (0, .ref (G.2.1 88))]) dX12_laysFlows_6 rfl (by decide) rfl ?_
  exact ga_sub [1, 0] rfl h
set_option maxRecDepth 100000 in
set_option maxHeartbeats 4000000 in
theorem vX12_laysFlows_7 {l : Launch} {G : gG}  (x1 : Int) (rx1 : gR x1) (σ : gS) (Q : gS → Prop) (h : (gR (6 * (gI σ 88 24))) ∧ ((6 * (gI σ 88 24)) ≤ x1 → Q σ) ∧
  (x1 < (6 * (gI σ 88 24)) → (0 ≤ x1 ∧ x1 < 2520) ∧ (¬ (gI σ 109 x1) = (-1) → kX12_laysFlows_48 l G  x1 ((10 * (gI σ 109 x1)) + (grem x1 6)) 0 σ Q) ∧
    ((gI σ 109 x1) = (-1) → kX12_laysFlows_7 l G  (x1 + 1) σ Q))) : kX12_laysFlows_7 l G  x1 σ Q := by
  refine ga_iload_n 1 dX12_laysFlows_7 rfl rfl ?_
  refine ga_bipush dX12_laysFlows_8 (by decide) ?_
  refine ga_aload_n 0 dX12_laysFlows_10 rfl rfl ?_
  refine ga_getI (kI := 24) dX12_laysFlows_11 fX12_257 rfl rfl rfl (fun r2 => ?_)
  refine ga_imul dX12_laysFlows_14 ?_
  obtain ⟨r3, h⟩ := h
  obtain ⟨ht, hf⟩ := h
  refine ga_icmp_ge (tgt := 120) dX12_laysFlows_15 (by decide) rx1 r3 (fun q4 => ?_) (fun q4 => ?_)
  · replace q4 : (6 * (gI σ 88 24)) ≤ x1 := q4
    have h := ht q4
    exact ga_vret dX12_laysFlows_120 rfl h
  · replace q4 : x1 < (6 * (gI σ 88 24)) := (Int.not_le.mp q4)
    have h := hf q4
    refine ga_aload_n 0 dX12_laysFlows_18 rfl rfl ?_
    refine ga_getR (kI := 39) (r := 109) dX12_laysFlows_19 fX12_71 rfl rfl (by decide) rfl ?_
    refine ga_iload_n 1 dX12_laysFlows_22 rfl rfl ?_
    obtain ⟨i5, h⟩ := h
    refine ga_iald (nI := 2520) dX12_laysFlows_23 rfl rfl i5 (fun r6 => ?_)
    refine ga_iconst dX12_laysFlows_24 ?_
    obtain ⟨ht, hf⟩ := h
    refine ga_icmp_ne (tgt := 31) dX12_laysFlows_25 (by decide) r6 (by decide) (fun q7 => ?_) (fun q7 => ?_)
    · replace q7 : ¬ (gI σ 109 x1) = (-1) := q7
      have h := ht q7
      refine ga_bipush dX12_laysFlows_31 (by decide) ?_
      refine ga_aload_n 0 dX12_laysFlows_33 rfl rfl ?_
      refine ga_getR (kI := 39) (r := 109) dX12_laysFlows_34 fX12_71 rfl rfl (by decide) rfl ?_
      refine ga_iload_n 1 dX12_laysFlows_37 rfl rfl ?_
      refine ga_iald (nI := 2520) dX12_laysFlows_38 rfl rfl i5 (fun r8 => ?_)
      refine ga_imul dX12_laysFlows_39 ?_
      refine ga_iload_n 1 dX12_laysFlows_40 rfl rfl ?_
      refine ga_bipush dX12_laysFlows_41 (by decide) ?_
      refine ga_irem dX12_laysFlows_43 (by decide) (by decide) (fun r9 => ?_)
      refine ga_iadd dX12_laysFlows_44 ?_
      refine ga_istore_n (ls' := [(2, vI ((10 * (gI σ 109 x1)) + (grem x1 6))), (0, .ref (G.2.1 88)), (1, vI x1)]) dX12_laysFlows_45 rfl (by decide) rfl ?_
      refine ga_iconst dX12_laysFlows_46 ?_
      refine ga_istore_n (ls' := [(3, vI 0), (2, vI ((10 * (gI σ 109 x1)) + (grem x1 6))), (0, .ref (G.2.1 88)), (1, vI x1)]) dX12_laysFlows_47 rfl (by decide) rfl ?_
      exact ga_sub [2, 3, 1, 0] rfl h
    · replace q7 : (gI σ 109 x1) = (-1) := (Decidable.not_not.mp q7)
      have h := hf q7
      refine ga_goto (tgt := 114) dX12_laysFlows_28 (by decide) ?_
      refine ga_iinc (ls' := [(1, vI (x1 + 1)), (0, .ref (G.2.1 88))]) 1 dX12_laysFlows_114 rfl (by decide) rfl ?_
      refine ga_goto (tgt := 7) dX12_laysFlows_117 (by decide) ?_
      exact ga_sub [1, 0] rfl h
set_option maxRecDepth 100000 in
set_option maxHeartbeats 4000000 in
theorem vX12_laysFlows_48 {l : Launch} {G : gG}  (x1 : Int) (x2 : Int) (x3 : Int) (rx1 : gR x1) (rx2 : gR x2) (rx3 : gR x3) (σ : gS) (Q : gS → Prop) (h : ((gI σ 88 61) ≤ x3 → (¬ x3 = (gI σ 88 61) → (0 ≤ x3 ∧ x3 < 36) ∧ (gR ((gI σ 129 x3) + 1)) ∧ ∀ σ16, σ16 = sI σ 129 x3 ((gI σ 129 x3) + 1) →
      kX12_laysFlows_7 l G  (x1 + 1) σ16 Q) ∧
    (x3 = (gI σ 88 61) → (0 ≤ x3 ∧ x3 < 36) ∧ ∀ σ19, σ19 = sI σ 128 x3 x2 →
      ∀ σ20, σ20 = sI σ19 129 x3 0 →
      (gR ((gI σ20 88 61) + 1)) ∧ ∀ σ22, σ22 = sI σ20 88 61 ((gI σ20 88 61) + 1) →
      (gR ((gI σ22 129 x3) + 1)) ∧ ∀ σ25, σ25 = sI σ22 129 x3 ((gI σ22 129 x3) + 1) →
      kX12_laysFlows_7 l G  (x1 + 1) σ25 Q)) ∧
  (x3 < (gI σ 88 61) → (0 ≤ x3 ∧ x3 < 36) ∧ ((gI σ 128 x3) = x2 → (¬ x3 = (gI σ 88 61) → (gR ((gI σ 129 x3) + 1)) ∧ ∀ σ33, σ33 = sI σ 129 x3 ((gI σ 129 x3) + 1) →
        kX12_laysFlows_7 l G  (x1 + 1) σ33 Q) ∧
      (x3 = (gI σ 88 61) → ∀ σ35, σ35 = sI σ 128 x3 x2 →
        ∀ σ36, σ36 = sI σ35 129 x3 0 →
        (gR ((gI σ36 88 61) + 1)) ∧ ∀ σ38, σ38 = sI σ36 88 61 ((gI σ36 88 61) + 1) →
        (gR ((gI σ38 129 x3) + 1)) ∧ ∀ σ41, σ41 = sI σ38 129 x3 ((gI σ38 129 x3) + 1) →
        kX12_laysFlows_7 l G  (x1 + 1) σ41 Q)) ∧
    (¬ (gI σ 128 x3) = x2 → kX12_laysFlows_48 l G  x1 x2 (x3 + 1) σ Q))) : kX12_laysFlows_48 l G  x1 x2 x3 σ Q := by
  refine ga_iload_n 3 dX12_laysFlows_48 rfl rfl ?_
  refine ga_aload_n 0 dX12_laysFlows_49 rfl rfl ?_
  refine ga_getI (kI := 61) dX12_laysFlows_50 fX12_419 rfl rfl rfl (fun r10 => ?_)
  obtain ⟨ht, hf⟩ := h
  refine ga_icmp_ge (tgt := 72) dX12_laysFlows_53 (by decide) rx3 r10 (fun q11 => ?_) (fun q11 => ?_)
  · replace q11 : (gI σ 88 61) ≤ x3 := q11
    have h := ht q11
    refine ga_iload_n 3 dX12_laysFlows_72 rfl rfl ?_
    refine ga_aload_n 0 dX12_laysFlows_73 rfl rfl ?_
    refine ga_getI (kI := 61) dX12_laysFlows_74 fX12_419 rfl rfl rfl (fun r12 => ?_)
    obtain ⟨ht, hf⟩ := h
    refine ga_icmp_ne (tgt := 104) dX12_laysFlows_77 (by decide) rx3 r12 (fun q13 => ?_) (fun q13 => ?_)
    · replace q13 : ¬ x3 = (gI σ 88 61) := q13
      have h := ht q13
      refine ga_aload_n 0 dX12_laysFlows_104 rfl rfl ?_
      refine ga_getR (kI := 63) (r := 129) dX12_laysFlows_105 fX12_131 rfl rfl (by decide) rfl ?_
      refine ga_iload_n 3 dX12_laysFlows_108 rfl rfl ?_
      refine ga_dup2 dX12_laysFlows_109 rfl rfl ?_
      obtain ⟨i14, h⟩ := h
      refine ga_iald (nI := 36) dX12_laysFlows_110 rfl rfl i14 (fun r15 => ?_)
      refine ga_iconst dX12_laysFlows_111 ?_
      refine ga_iadd dX12_laysFlows_112 ?_
      obtain ⟨r17, h⟩ := h
      obtain ⟨σ16, eσ16⟩ : ∃ z, z = sI σ 129 x3 ((gI σ 129 x3) + 1) := ⟨_, rfl⟩
      replace h := h σ16 eσ16
      refine ga_iast (nI := 36) dX12_laysFlows_113 rfl rfl i14 r17 eσ16 ?_
      refine ga_iinc (ls' := [(1, vI (x1 + 1)), (0, .ref (G.2.1 88)), (2, vI x2), (3, vI x3)]) 1 dX12_laysFlows_114 rfl (by decide) rfl ?_
      refine ga_goto (tgt := 7) dX12_laysFlows_117 (by decide) ?_
      exact ga_sub [1, 0] rfl h
    · replace q13 : x3 = (gI σ 88 61) := (Decidable.not_not.mp q13)
      have h := hf q13
      refine ga_aload_n 0 dX12_laysFlows_80 rfl rfl ?_
      refine ga_getR (kI := 62) (r := 128) dX12_laysFlows_81 fX12_128 rfl rfl (by decide) rfl ?_
      refine ga_iload_n 3 dX12_laysFlows_84 rfl rfl ?_
      refine ga_iload_n 2 dX12_laysFlows_85 rfl rfl ?_
      obtain ⟨i18, h⟩ := h
      obtain ⟨σ19, eσ19⟩ : ∃ z, z = sI σ 128 x3 x2 := ⟨_, rfl⟩
      replace h := h σ19 eσ19
      refine ga_iast (nI := 36) dX12_laysFlows_86 rfl rfl i18 rx2 eσ19 ?_
      refine ga_aload_n 0 dX12_laysFlows_87 rfl rfl ?_
      refine ga_getR (kI := 63) (r := 129) dX12_laysFlows_88 fX12_131 rfl rfl (by decide) rfl ?_
      refine ga_iload_n 3 dX12_laysFlows_91 rfl rfl ?_
      refine ga_iconst dX12_laysFlows_92 ?_
      obtain ⟨σ20, eσ20⟩ : ∃ z, z = sI σ19 129 x3 0 := ⟨_, rfl⟩
      replace h := h σ20 eσ20
      refine ga_iast (nI := 36) dX12_laysFlows_93 rfl rfl i18 (by decide) eσ20 ?_
      refine ga_aload_n 0 dX12_laysFlows_94 rfl rfl ?_
      refine ga_dup dX12_laysFlows_95 rfl ?_
      refine ga_getI (kI := 61) dX12_laysFlows_96 fX12_419 rfl rfl rfl (fun r21 => ?_)
      refine ga_iconst dX12_laysFlows_99 ?_
      refine ga_iadd dX12_laysFlows_100 ?_
      obtain ⟨r23, h⟩ := h
      obtain ⟨σ22, eσ22⟩ : ∃ z, z = sI σ20 88 61 ((gI σ20 88 61) + 1) := ⟨_, rfl⟩
      replace h := h σ22 eσ22
      refine ga_putI (kI := 61) dX12_laysFlows_101 fX12_419 pX12_61 rfl rfl rfl r23 eσ22 ?_
      refine ga_aload_n 0 dX12_laysFlows_104 rfl rfl ?_
      refine ga_getR (kI := 63) (r := 129) dX12_laysFlows_105 fX12_131 rfl rfl (by decide) rfl ?_
      refine ga_iload_n 3 dX12_laysFlows_108 rfl rfl ?_
      refine ga_dup2 dX12_laysFlows_109 rfl rfl ?_
      refine ga_iald (nI := 36) dX12_laysFlows_110 rfl rfl i18 (fun r24 => ?_)
      refine ga_iconst dX12_laysFlows_111 ?_
      refine ga_iadd dX12_laysFlows_112 ?_
      obtain ⟨r26, h⟩ := h
      obtain ⟨σ25, eσ25⟩ : ∃ z, z = sI σ22 129 x3 ((gI σ22 129 x3) + 1) := ⟨_, rfl⟩
      replace h := h σ25 eσ25
      refine ga_iast (nI := 36) dX12_laysFlows_113 rfl rfl i18 r26 eσ25 ?_
      refine ga_iinc (ls' := [(1, vI (x1 + 1)), (0, .ref (G.2.1 88)), (2, vI x2), (3, vI x3)]) 1 dX12_laysFlows_114 rfl (by decide) rfl ?_
      refine ga_goto (tgt := 7) dX12_laysFlows_117 (by decide) ?_
      exact ga_sub [1, 0] rfl h
  · replace q11 : x3 < (gI σ 88 61) := (Int.not_le.mp q11)
    have h := hf q11
    refine ga_aload_n 0 dX12_laysFlows_56 rfl rfl ?_
    refine ga_getR (kI := 62) (r := 128) dX12_laysFlows_57 fX12_128 rfl rfl (by decide) rfl ?_
    refine ga_iload_n 3 dX12_laysFlows_60 rfl rfl ?_
    obtain ⟨i27, h⟩ := h
    refine ga_iald (nI := 36) dX12_laysFlows_61 rfl rfl i27 (fun r28 => ?_)
    refine ga_iload_n 2 dX12_laysFlows_62 rfl rfl ?_
    obtain ⟨ht, hf⟩ := h
    refine ga_icmp_eq (tgt := 72) dX12_laysFlows_63 (by decide) r28 rx2 (fun q29 => ?_) (fun q29 => ?_)
    · replace q29 : (gI σ 128 x3) = x2 := q29
      have h := ht q29
      refine ga_iload_n 3 dX12_laysFlows_72 rfl rfl ?_
      refine ga_aload_n 0 dX12_laysFlows_73 rfl rfl ?_
      refine ga_getI (kI := 61) dX12_laysFlows_74 fX12_419 rfl rfl rfl (fun r30 => ?_)
      obtain ⟨ht, hf⟩ := h
      refine ga_icmp_ne (tgt := 104) dX12_laysFlows_77 (by decide) rx3 r30 (fun q31 => ?_) (fun q31 => ?_)
      · replace q31 : ¬ x3 = (gI σ 88 61) := q31
        have h := ht q31
        refine ga_aload_n 0 dX12_laysFlows_104 rfl rfl ?_
        refine ga_getR (kI := 63) (r := 129) dX12_laysFlows_105 fX12_131 rfl rfl (by decide) rfl ?_
        refine ga_iload_n 3 dX12_laysFlows_108 rfl rfl ?_
        refine ga_dup2 dX12_laysFlows_109 rfl rfl ?_
        refine ga_iald (nI := 36) dX12_laysFlows_110 rfl rfl i27 (fun r32 => ?_)
        refine ga_iconst dX12_laysFlows_111 ?_
        refine ga_iadd dX12_laysFlows_112 ?_
        obtain ⟨r34, h⟩ := h
        obtain ⟨σ33, eσ33⟩ : ∃ z, z = sI σ 129 x3 ((gI σ 129 x3) + 1) := ⟨_, rfl⟩
        replace h := h σ33 eσ33
        refine ga_iast (nI := 36) dX12_laysFlows_113 rfl rfl i27 r34 eσ33 ?_
        refine ga_iinc (ls' := [(1, vI (x1 + 1)), (0, .ref (G.2.1 88)), (2, vI x2), (3, vI x3)]) 1 dX12_laysFlows_114 rfl (by decide) rfl ?_
        refine ga_goto (tgt := 7) dX12_laysFlows_117 (by decide) ?_
        exact ga_sub [1, 0] rfl h
      · replace q31 : x3 = (gI σ 88 61) := (Decidable.not_not.mp q31)
        have h := hf q31
        refine ga_aload_n 0 dX12_laysFlows_80 rfl rfl ?_
        refine ga_getR (kI := 62) (r := 128) dX12_laysFlows_81 fX12_128 rfl rfl (by decide) rfl ?_
        refine ga_iload_n 3 dX12_laysFlows_84 rfl rfl ?_
        refine ga_iload_n 2 dX12_laysFlows_85 rfl rfl ?_
        obtain ⟨σ35, eσ35⟩ : ∃ z, z = sI σ 128 x3 x2 := ⟨_, rfl⟩
        replace h := h σ35 eσ35
        refine ga_iast (nI := 36) dX12_laysFlows_86 rfl rfl i27 rx2 eσ35 ?_
        refine ga_aload_n 0 dX12_laysFlows_87 rfl rfl ?_
        refine ga_getR (kI := 63) (r := 129) dX12_laysFlows_88 fX12_131 rfl rfl (by decide) rfl ?_
        refine ga_iload_n 3 dX12_laysFlows_91 rfl rfl ?_
        refine ga_iconst dX12_laysFlows_92 ?_
        obtain ⟨σ36, eσ36⟩ : ∃ z, z = sI σ35 129 x3 0 := ⟨_, rfl⟩
        replace h := h σ36 eσ36
        refine ga_iast (nI := 36) dX12_laysFlows_93 rfl rfl i27 (by decide) eσ36 ?_
        refine ga_aload_n 0 dX12_laysFlows_94 rfl rfl ?_
        refine ga_dup dX12_laysFlows_95 rfl ?_
        refine ga_getI (kI := 61) dX12_laysFlows_96 fX12_419 rfl rfl rfl (fun r37 => ?_)
        refine ga_iconst dX12_laysFlows_99 ?_
        refine ga_iadd dX12_laysFlows_100 ?_
        obtain ⟨r39, h⟩ := h
        obtain ⟨σ38, eσ38⟩ : ∃ z, z = sI σ36 88 61 ((gI σ36 88 61) + 1) := ⟨_, rfl⟩
        replace h := h σ38 eσ38
        refine ga_putI (kI := 61) dX12_laysFlows_101 fX12_419 pX12_61 rfl rfl rfl r39 eσ38 ?_
        refine ga_aload_n 0 dX12_laysFlows_104 rfl rfl ?_
        refine ga_getR (kI := 63) (r := 129) dX12_laysFlows_105 fX12_131 rfl rfl (by decide) rfl ?_
        refine ga_iload_n 3 dX12_laysFlows_108 rfl rfl ?_
        refine ga_dup2 dX12_laysFlows_109 rfl rfl ?_
        refine ga_iald (nI := 36) dX12_laysFlows_110 rfl rfl i27 (fun r40 => ?_)
        refine ga_iconst dX12_laysFlows_111 ?_
        refine ga_iadd dX12_laysFlows_112 ?_
        obtain ⟨r42, h⟩ := h
        obtain ⟨σ41, eσ41⟩ : ∃ z, z = sI σ38 129 x3 ((gI σ38 129 x3) + 1) := ⟨_, rfl⟩
        replace h := h σ41 eσ41
        refine ga_iast (nI := 36) dX12_laysFlows_113 rfl rfl i27 r42 eσ41 ?_
        refine ga_iinc (ls' := [(1, vI (x1 + 1)), (0, .ref (G.2.1 88)), (2, vI x2), (3, vI x3)]) 1 dX12_laysFlows_114 rfl (by decide) rfl ?_
        refine ga_goto (tgt := 7) dX12_laysFlows_117 (by decide) ?_
        exact ga_sub [1, 0] rfl h
    · replace q29 : ¬ (gI σ 128 x3) = x2 := q29
      have h := hf q29
      refine ga_iinc (ls' := [(3, vI (x3 + 1)), (0, .ref (G.2.1 88)), (1, vI x1), (2, vI x2)]) 3 dX12_laysFlows_66 rfl (by decide) rfl ?_
      refine ga_goto (tgt := 48) dX12_laysFlows_69 (by decide) ?_
      exact ga_sub [1, 2, 3, 0] rfl h
abbrev eX12_flow (l : Launch) (G : gG) (x1 : Int) (x2 : Int) (x3 : Int) (x4 : Int) (σ : gS) (Q : Int → gS → Prop) : Prop := gEi l G mX12_flow [.ref (G.2.1 88), vI x1, vI x2, vI x3, vI x4] σ Q
set_option maxRecDepth 100000 in
set_option maxHeartbeats 4000000 in
theorem vX12_flow {l : Launch} {G : gG} (x1 : Int) (x2 : Int) (x3 : Int) (x4 : Int) (rx1 : gR x1) (rx2 : gR x2) (rx3 : gR x3) (rx4 : gR x4) (σ : gS) (Q : Int → gS → Prop) (h : eX12_isCrossbar l G x1 σ (fun v3 σ1 => (v3 = 0 ∨ v3 = 1) →
  (v3 = 0 → Q (-1) σ1) ∧
  (¬ v3 = 0 → eX12_isTraffic l G x2 σ1 (fun v7 σ5 => (v7 = 0 ∨ v7 = 1) →
    (¬ v7 = 0 → eX12_goes l G 40 σ5 (fun σ9 =>
      eX12_laysFlows l G  σ9 (fun σ11 =>
      (¬ x3 = (-1) → eX12_isIn l G x3 0 ((gI σ11 88 61) - 1) σ11 (fun v17 σ15 => (v17 = 0 ∨ v17 = 1) →
        (v17 = 0 → Q (-1) σ15) ∧
        (¬ v17 = 0 → eX12_isIn l G x4 0 2 σ15 (fun v21 σ19 => (v21 = 0 ∨ v21 = 1) →
          (¬ v21 = 0 → (¬ x4 = 0 → (¬ x4 = 1 → (0 ≤ x3 ∧ x3 < 36) ∧ eX12_at l G (gdiv (gI σ19 128 x3) 10) (grem (gI σ19 128 x3) 10) σ19 (fun v32 σ30 => gR v32 →
                (0 ≤ v32 ∧ v32 < 36) ∧ Q (gI σ30 95 v32) σ30)) ∧
              (x4 = 1 → (0 ≤ x3 ∧ x3 < 36) ∧ Q (gI σ19 129 x3) σ19)) ∧
            (x4 = 0 → (0 ≤ x3 ∧ x3 < 36) ∧ Q (gI σ19 128 x3) σ19)) ∧
          (v21 = 0 → Q (-1) σ19))))) ∧
      (x3 = (-1) → (∀ v42 : Int, v42 = (if x4 = 0 then (gI σ11 88 61) else (-1)) →
        Q v42 σ11))))) ∧
    (v7 = 0 → Q (-1) σ5))))) : eX12_flow l G x1 x2 x3 x4 σ Q := by
  refine ga_entry rfl (Nat.le_of_ble_eq_true rfl) ?_
  show gAt l G mX12_flow (gQi G Q) 0 [(0, .ref (G.2.1 88)), (1, vI x1), (2, vI x2), (3, vI x3), (4, vI x4)] [] σ
  refine ga_aload_n 0 dX12_flow_0 rfl rfl ?_
  refine ga_iload_n 1 dX12_flow_1 rfl rfl ?_
  refine ga_callVz (z := mX12_isCrossbar) (As := [vI x1]) (rest := []) dX12_flow_2 wX12_344 qX12_flow_X12_isCrossbar rfl ⟨_, rfl, rfl⟩ rfl rfl (Nat.le_of_ble_eq_true rfl) (gEz_mono h (fun v3 σ1 h r2 => ?_))
  replace h := h r2
  obtain ⟨ht, hf⟩ := h
  refine ga_if_eq (tgt := 16) dX12_flow_5 (by decide) (gR_01 r2) (fun q4 => ?_) (fun q4 => ?_)
  · replace q4 : v3 = 0 := q4
    have h := ht q4
    refine ga_iconst dX12_flow_16 ?_
    exact ga_iret dX12_flow_17 rfl (by decide) h
  · replace q4 : ¬ v3 = 0 := q4
    have h := hf q4
    refine ga_aload_n 0 dX12_flow_8 rfl rfl ?_
    refine ga_iload_n 2 dX12_flow_9 rfl rfl ?_
    refine ga_callVz (z := mX12_isTraffic) (As := [vI x2]) (rest := []) dX12_flow_10 wX12_251 qX12_flow_X12_isTraffic rfl ⟨_, rfl, rfl⟩ rfl rfl (Nat.le_of_ble_eq_true rfl) (gEz_mono h (fun v7 σ5 h r6 => ?_))
    replace h := h r6
    obtain ⟨ht, hf⟩ := h
    refine ga_if_ne (tgt := 18) dX12_flow_13 (by decide) (gR_01 r6) (fun q8 => ?_) (fun q8 => ?_)
    · replace q8 : ¬ v7 = 0 := q8
      have h := ht q8
      refine ga_aload_n 0 dX12_flow_18 rfl rfl ?_
      refine ga_bipush dX12_flow_19 (by decide) ?_
      refine ga_callVv (z := mX12_goes) (As := [vI 40]) (rest := []) dX12_flow_21 wX12_347 qX12_flow_X12_goes rfl ⟨_, rfl, rfl⟩ rfl rfl (Nat.le_of_ble_eq_true rfl) (gEv_mono h (fun σ9 h => ?_))
      refine ga_aload_n 0 dX12_flow_24 rfl rfl ?_
      refine ga_callVv (z := mX12_laysFlows) (As := []) (rest := []) dX12_flow_25 wX12_422 qX12_flow_X12_laysFlows rfl ⟨_, rfl, rfl⟩ rfl rfl (Nat.le_of_ble_eq_true rfl) (gEv_mono h (fun σ11 h => ?_))
      refine ga_iload_n 3 dX12_flow_28 rfl rfl ?_
      refine ga_iconst dX12_flow_29 ?_
      obtain ⟨ht, hf⟩ := h
      refine ga_icmp_ne (tgt := 47) dX12_flow_30 (by decide) rx3 (by decide) (fun q13 => ?_) (fun q13 => ?_)
      · replace q13 : ¬ x3 = (-1) := q13
        have h := ht q13
        refine ga_iload_n 3 dX12_flow_47 rfl rfl ?_
        refine ga_iconst dX12_flow_48 ?_
        refine ga_aload_n 0 dX12_flow_49 rfl rfl ?_
        refine ga_getI (kI := 61) dX12_flow_50 fX12_419 rfl rfl rfl (fun r14 => ?_)
        refine ga_iconst dX12_flow_53 ?_
        refine ga_isub dX12_flow_54 ?_
        refine ga_callSz (z := mX12_isIn) (As := [vI x3, vI 0, vI ((gI σ11 88 61) - 1)]) (rest := []) dX12_flow_55 wX12_196 qX12_flow_X12_isIn rfl rfl (Nat.le_of_ble_eq_true rfl) (gEz_mono h (fun v17 σ15 h r16 => ?_))
        replace h := h r16
        obtain ⟨ht, hf⟩ := h
        refine ga_if_eq (tgt := 71) dX12_flow_58 (by decide) (gR_01 r16) (fun q18 => ?_) (fun q18 => ?_)
        · replace q18 : v17 = 0 := q18
          have h := ht q18
          refine ga_iconst dX12_flow_71 ?_
          exact ga_iret dX12_flow_72 rfl (by decide) h
        · replace q18 : ¬ v17 = 0 := q18
          have h := hf q18
          refine ga_iload 4 dX12_flow_61 rfl ?_
          refine ga_iconst dX12_flow_63 ?_
          refine ga_iconst dX12_flow_64 ?_
          refine ga_callSz (z := mX12_isIn) (As := [vI x4, vI 0, vI 2]) (rest := []) dX12_flow_65 wX12_196 qX12_flow_X12_isIn rfl rfl (Nat.le_of_ble_eq_true rfl) (gEz_mono h (fun v21 σ19 h r20 => ?_))
          replace h := h r20
          obtain ⟨ht, hf⟩ := h
          refine ga_if_ne (tgt := 73) dX12_flow_68 (by decide) (gR_01 r20) (fun q22 => ?_) (fun q22 => ?_)
          · replace q22 : ¬ v21 = 0 := q22
            have h := ht q22
            refine ga_iload 4 dX12_flow_73 rfl ?_
            obtain ⟨ht, hf⟩ := h
            refine ga_if_ne (tgt := 87) dX12_flow_75 (by decide) rx4 (fun q23 => ?_) (fun q23 => ?_)
            · replace q23 : ¬ x4 = 0 := q23
              have h := ht q23
              refine ga_iload 4 dX12_flow_87 rfl ?_
              refine ga_iconst dX12_flow_89 ?_
              obtain ⟨ht, hf⟩ := h
              refine ga_icmp_ne (tgt := 102) dX12_flow_90 (by decide) rx4 (by decide) (fun q24 => ?_) (fun q24 => ?_)
              · replace q24 : ¬ x4 = 1 := q24
                have h := ht q24
                refine ga_aload_n 0 dX12_flow_102 rfl rfl ?_
                refine ga_getR (kI := 18) (r := 95) dX12_flow_103 fX12_29 rfl rfl (by decide) rfl ?_
                refine ga_aload_n 0 dX12_flow_106 rfl rfl ?_
                refine ga_getR (kI := 62) (r := 128) dX12_flow_107 fX12_128 rfl rfl (by decide) rfl ?_
                refine ga_iload_n 3 dX12_flow_110 rfl rfl ?_
                obtain ⟨i25, h⟩ := h
                refine ga_iald (nI := 36) dX12_flow_111 rfl rfl i25 (fun r26 => ?_)
                refine ga_bipush dX12_flow_112 (by decide) ?_
                refine ga_idiv dX12_flow_114 (by decide) (by decide) (fun r27 => ?_)
                refine ga_aload_n 0 dX12_flow_115 rfl rfl ?_
                refine ga_getR (kI := 62) (r := 128) dX12_flow_116 fX12_128 rfl rfl (by decide) rfl ?_
                refine ga_iload_n 3 dX12_flow_119 rfl rfl ?_
                refine ga_iald (nI := 36) dX12_flow_120 rfl rfl i25 (fun r28 => ?_)
                refine ga_bipush dX12_flow_121 (by decide) ?_
                refine ga_irem dX12_flow_123 (by decide) (by decide) (fun r29 => ?_)
                refine ga_callSi (z := mX12_at) (As := [vI (gdiv (gI σ19 128 x3) 10), vI (grem (gI σ19 128 x3) 10)]) (rest := [.ref (G.2.1 95)]) dX12_flow_124 wX12_279 qX12_flow_X12_at rfl rfl (Nat.le_of_ble_eq_true rfl) (gEi_mono h (fun v32 σ30 h r31 => ?_))
                replace h := h r31
                obtain ⟨i33, h⟩ := h
                refine ga_iald (nI := 36) dX12_flow_127 rfl rfl i33 (fun r34 => ?_)
                exact ga_iret dX12_flow_128 rfl r34 h
              · replace q24 : x4 = 1 := (Decidable.not_not.mp q24)
                have h := hf q24
                refine ga_aload_n 0 dX12_flow_93 rfl rfl ?_
                refine ga_getR (kI := 63) (r := 129) dX12_flow_94 fX12_131 rfl rfl (by decide) rfl ?_
                refine ga_iload_n 3 dX12_flow_97 rfl rfl ?_
                obtain ⟨i35, h⟩ := h
                refine ga_iald (nI := 36) dX12_flow_98 rfl rfl i35 (fun r36 => ?_)
                refine ga_goto (tgt := 128) dX12_flow_99 (by decide) ?_
                exact ga_iret dX12_flow_128 rfl r36 h
            · replace q23 : x4 = 0 := (Decidable.not_not.mp q23)
              have h := hf q23
              refine ga_aload_n 0 dX12_flow_78 rfl rfl ?_
              refine ga_getR (kI := 62) (r := 128) dX12_flow_79 fX12_128 rfl rfl (by decide) rfl ?_
              refine ga_iload_n 3 dX12_flow_82 rfl rfl ?_
              obtain ⟨i37, h⟩ := h
              refine ga_iald (nI := 36) dX12_flow_83 rfl rfl i37 (fun r38 => ?_)
              refine ga_goto (tgt := 128) dX12_flow_84 (by decide) ?_
              exact ga_iret dX12_flow_128 rfl r38 h
          · replace q22 : v21 = 0 := (Decidable.not_not.mp q22)
            have h := hf q22
            refine ga_iconst dX12_flow_71 ?_
            exact ga_iret dX12_flow_72 rfl (by decide) h
      · replace q13 : x3 = (-1) := (Decidable.not_not.mp q13)
        have h := hf q13
        refine ga_iload 4 dX12_flow_33 rfl ?_
        have kJ39 : ∀ v42 : Int, gR v42 → v42 = (if x4 = 0 then (gI σ11 88 61) else (-1)) → gAt l G mX12_flow (gQi G Q) 46 [(0, .ref (G.2.1 88)), (1, vI x1), (2, vI x2), (3, vI x3), (4, vI x4)] [vI v42] σ11 := by
          intro v42 rv42 ev42
          replace h := h v42 ev42
          exact ga_iret dX12_flow_46 rfl rv42 h
        replace h : (¬ x4 = 0 → True) ∧
        (x4 = 0 → True) := by repeat (first | exact True.intro | apply And.intro | intro _)
        obtain ⟨ht, hf⟩ := h
        refine ga_if_ne (tgt := 45) dX12_flow_35 (by decide) rx4 (fun q40 => ?_) (fun q40 => ?_)
        · replace q40 : ¬ x4 = 0 := q40
          have h := ht q40
          refine ga_iconst dX12_flow_45 ?_
          exact kJ39 (-1) (by decide) (by rw [if_neg q40])
        · replace q40 : x4 = 0 := (Decidable.not_not.mp q40)
          have h := hf q40
          refine ga_aload_n 0 dX12_flow_38 rfl rfl ?_
          refine ga_getI (kI := 61) dX12_flow_39 fX12_419 rfl rfl rfl (fun r41 => ?_)
          refine ga_goto (tgt := 46) dX12_flow_42 (by decide) ?_
          exact kJ39 (gI σ11 88 61) r41 (by rw [if_pos q40])
    · replace q8 : v7 = 0 := (Decidable.not_not.mp q8)
      have h := hf q8
      refine ga_iconst dX12_flow_16 ?_
      exact ga_iret dX12_flow_17 rfl (by decide) h
abbrev eX12_fairOf (l : Launch) (G : gG)  (σ : gS) (Q : Int → gS → Prop) : Prop := gEi l G mX12_fairOf [.ref (G.2.1 88)] σ Q
abbrev kX12_fairOf_8 (l : Launch) (G : gG)  (x1 : Int) (x2 : Int) (σ : gS) (Q : Int → gS → Prop) : Prop := gAt l G mX12_fairOf (gQi G Q) 8 [(0, .ref (G.2.1 88)), (1, vI x1), (2, vI x2)] [] σ
set_option maxRecDepth 100000 in
set_option maxHeartbeats 4000000 in
theorem vX12_fairOf {l : Launch} {G : gG}  (σ : gS) (Q : Int → gS → Prop) (h : eX12_laysFlows l G  σ (fun σ1 =>
  kX12_fairOf_8 l G  (-1) 0 σ1 Q)) : eX12_fairOf l G  σ Q := by
  refine ga_entry rfl (Nat.le_of_ble_eq_true rfl) ?_
  show gAt l G mX12_fairOf (gQi G Q) 0 [(0, .ref (G.2.1 88))] [] σ
  refine ga_aload_n 0 dX12_fairOf_0 rfl rfl ?_
  refine ga_callVv (z := mX12_laysFlows) (As := []) (rest := []) dX12_fairOf_1 wX12_422 qX12_fairOf_X12_laysFlows rfl ⟨_, rfl, rfl⟩ rfl rfl (Nat.le_of_ble_eq_true rfl) (gEv_mono h (fun σ1 h => ?_))
  refine ga_iconst dX12_fairOf_4 ?_
  refine ga_istore_n (ls' := [(1, vI (-1)), (0, .ref (G.2.1 88))]) dX12_fairOf_5 rfl (by decide) rfl ?_
  refine ga_iconst dX12_fairOf_6 ?_
  refine ga_istore_n (ls' := [(2, vI 0), (1, vI (-1)), (0, .ref (G.2.1 88))]) dX12_fairOf_7 rfl (by decide) rfl ?_
  exact ga_sub [2, 1, 0] rfl h
set_option maxRecDepth 100000 in
set_option maxHeartbeats 4000000 in
theorem vX12_fairOf_8 {l : Launch} {G : gG}  (x1 : Int) (x2 : Int) (rx1 : gR x1) (rx2 : gR x2) (σ : gS) (Q : Int → gS → Prop) (h : ((gI σ 88 61) ≤ x2 → ((¬ x1 = (-1) → (0 ≤ x1 ∧ x1 < 36) ∧ True) ∧
    (x1 = (-1) → True)) ∧
    (∀ v9 : Int, v9 = (if x1 = (-1) then (-1) else (gI σ 128 x1)) →
    Q v9 σ)) ∧
  (x2 < (gI σ 88 61) → (x1 = (-1) → kX12_fairOf_8 l G  x2 (x2 + 1) σ Q) ∧
    (¬ x1 = (-1) → (0 ≤ x2 ∧ x2 < 36) ∧ (0 ≤ x1 ∧ x1 < 36) ∧ ((gI σ 129 x1) ≤ (gI σ 129 x2) → kX12_fairOf_8 l G  x1 (x2 + 1) σ Q) ∧
      ((gI σ 129 x2) < (gI σ 129 x1) → kX12_fairOf_8 l G  x2 (x2 + 1) σ Q)))) : kX12_fairOf_8 l G  x1 x2 σ Q := by
  refine ga_iload_n 2 dX12_fairOf_8 rfl rfl ?_
  refine ga_aload_n 0 dX12_fairOf_9 rfl rfl ?_
  refine ga_getI (kI := 61) dX12_fairOf_10 fX12_419 rfl rfl rfl (fun r3 => ?_)
  obtain ⟨ht, hf⟩ := h
  refine ga_icmp_ge (tgt := 44) dX12_fairOf_13 (by decide) rx2 r3 (fun q4 => ?_) (fun q4 => ?_)
  · replace q4 : (gI σ 88 61) ≤ x2 := q4
    have h := ht q4
    refine ga_iload_n 1 dX12_fairOf_44 rfl rfl ?_
    refine ga_iconst dX12_fairOf_45 ?_
    obtain ⟨hob, h⟩ := h
    have kJ5 : ∀ v9 : Int, gR v9 → v9 = (if x1 = (-1) then (-1) else (gI σ 128 x1)) → gAt l G mX12_fairOf (gQi G Q) 59 [(0, .ref (G.2.1 88)), (1, vI x1), (2, vI x2)] [vI v9] σ := by
      intro v9 rv9 ev9
      replace h := h v9 ev9
      exact ga_iret dX12_fairOf_59 rfl rv9 h
    replace h := hob
    obtain ⟨ht, hf⟩ := h
    refine ga_icmp_ne (tgt := 53) dX12_fairOf_46 (by decide) rx1 (by decide) (fun q6 => ?_) (fun q6 => ?_)
    · replace q6 : ¬ x1 = (-1) := q6
      have h := ht q6
      refine ga_aload_n 0 dX12_fairOf_53 rfl rfl ?_
      refine ga_getR (kI := 62) (r := 128) dX12_fairOf_54 fX12_128 rfl rfl (by decide) rfl ?_
      refine ga_iload_n 1 dX12_fairOf_57 rfl rfl ?_
      obtain ⟨i7, h⟩ := h
      refine ga_iald (nI := 36) dX12_fairOf_58 rfl rfl i7 (fun r8 => ?_)
      exact kJ5 (gI σ 128 x1) r8 (by rw [if_neg q6])
    · replace q6 : x1 = (-1) := (Decidable.not_not.mp q6)
      have h := hf q6
      refine ga_iconst dX12_fairOf_49 ?_
      refine ga_goto (tgt := 59) dX12_fairOf_50 (by decide) ?_
      exact kJ5 (-1) (by decide) (by rw [if_pos q6])
  · replace q4 : x2 < (gI σ 88 61) := (Int.not_le.mp q4)
    have h := hf q4
    refine ga_iload_n 1 dX12_fairOf_16 rfl rfl ?_
    refine ga_iconst dX12_fairOf_17 ?_
    obtain ⟨ht, hf⟩ := h
    refine ga_icmp_eq (tgt := 36) dX12_fairOf_18 (by decide) rx1 (by decide) (fun q10 => ?_) (fun q10 => ?_)
    · replace q10 : x1 = (-1) := q10
      have h := ht q10
      refine ga_iload_n 2 dX12_fairOf_36 rfl rfl ?_
      refine ga_istore_n (ls' := [(1, vI x2), (0, .ref (G.2.1 88)), (2, vI x2)]) dX12_fairOf_37 rfl (by decide) rfl ?_
      refine ga_iinc (ls' := [(2, vI (x2 + 1)), (1, vI x2), (0, .ref (G.2.1 88))]) 2 dX12_fairOf_38 rfl (by decide) rfl ?_
      refine ga_goto (tgt := 8) dX12_fairOf_41 (by decide) ?_
      exact ga_sub [2, 1, 0] rfl h
    · replace q10 : ¬ x1 = (-1) := q10
      have h := hf q10
      refine ga_aload_n 0 dX12_fairOf_21 rfl rfl ?_
      refine ga_getR (kI := 63) (r := 129) dX12_fairOf_22 fX12_131 rfl rfl (by decide) rfl ?_
      refine ga_iload_n 2 dX12_fairOf_25 rfl rfl ?_
      obtain ⟨i11, h⟩ := h
      refine ga_iald (nI := 36) dX12_fairOf_26 rfl rfl i11 (fun r12 => ?_)
      refine ga_aload_n 0 dX12_fairOf_27 rfl rfl ?_
      refine ga_getR (kI := 63) (r := 129) dX12_fairOf_28 fX12_131 rfl rfl (by decide) rfl ?_
      refine ga_iload_n 1 dX12_fairOf_31 rfl rfl ?_
      obtain ⟨i13, h⟩ := h
      refine ga_iald (nI := 36) dX12_fairOf_32 rfl rfl i13 (fun r14 => ?_)
      obtain ⟨ht, hf⟩ := h
      refine ga_icmp_ge (tgt := 38) dX12_fairOf_33 (by decide) r12 r14 (fun q15 => ?_) (fun q15 => ?_)
      · replace q15 : (gI σ 129 x1) ≤ (gI σ 129 x2) := q15
        have h := ht q15
        refine ga_iinc (ls' := [(2, vI (x2 + 1)), (0, .ref (G.2.1 88)), (1, vI x1)]) 2 dX12_fairOf_38 rfl (by decide) rfl ?_
        refine ga_goto (tgt := 8) dX12_fairOf_41 (by decide) ?_
        exact ga_sub [1, 2, 0] rfl h
      · replace q15 : (gI σ 129 x2) < (gI σ 129 x1) := (Int.not_le.mp q15)
        have h := hf q15
        refine ga_iload_n 2 dX12_fairOf_36 rfl rfl ?_
        refine ga_istore_n (ls' := [(1, vI x2), (0, .ref (G.2.1 88)), (2, vI x2)]) dX12_fairOf_37 rfl (by decide) rfl ?_
        refine ga_iinc (ls' := [(2, vI (x2 + 1)), (1, vI x2), (0, .ref (G.2.1 88))]) 2 dX12_fairOf_38 rfl (by decide) rfl ?_
        refine ga_goto (tgt := 8) dX12_fairOf_41 (by decide) ?_
        exact ga_sub [2, 1, 0] rfl h
abbrev eX12_waitOf (l : Launch) (G : gG) (x1 : Int) (σ : gS) (Q : Int → gS → Prop) : Prop := gEi l G mX12_waitOf [.ref (G.2.1 88), vI x1] σ Q
set_option maxRecDepth 100000 in
set_option maxHeartbeats 4000000 in
theorem vX12_waitOf {l : Launch} {G : gG} (x1 : Int) (rx1 : gR x1) (σ : gS) (Q : Int → gS → Prop) (h : (0 ≤ x1 ∧ x1 < 400) ∧ (gR ((gI σ 104 x1) - (gI σ 103 x1))) ∧ Q ((gI σ 104 x1) - (gI σ 103 x1)) σ) : eX12_waitOf l G x1 σ Q := by
  refine ga_entry rfl (Nat.le_of_ble_eq_true rfl) ?_
  show gAt l G mX12_waitOf (gQi G Q) 0 [(0, .ref (G.2.1 88)), (1, vI x1)] [] σ
  refine ga_aload_n 0 dX12_waitOf_0 rfl rfl ?_
  refine ga_getR (kI := 34) (r := 104) dX12_waitOf_1 fX12_56 rfl rfl (by decide) rfl ?_
  refine ga_iload_n 1 dX12_waitOf_4 rfl rfl ?_
  obtain ⟨i1, h⟩ := h
  refine ga_iald (nI := 400) dX12_waitOf_5 rfl rfl i1 (fun r2 => ?_)
  refine ga_aload_n 0 dX12_waitOf_6 rfl rfl ?_
  refine ga_getR (kI := 33) (r := 103) dX12_waitOf_7 fX12_53 rfl rfl (by decide) rfl ?_
  refine ga_iload_n 1 dX12_waitOf_10 rfl rfl ?_
  refine ga_iald (nI := 400) dX12_waitOf_11 rfl rfl i1 (fun r3 => ?_)
  refine ga_isub dX12_waitOf_12 ?_
  obtain ⟨r4, h⟩ := h
  exact ga_iret dX12_waitOf_13 rfl r4 h
abbrev eX12_worstOf (l : Launch) (G : gG)  (σ : gS) (Q : Int → gS → Prop) : Prop := gEi l G mX12_worstOf [.ref (G.2.1 88)] σ Q
abbrev kX12_worstOf_4 (l : Launch) (G : gG)  (x1 : Int) (x2 : Int) (σ : gS) (Q : Int → gS → Prop) : Prop := gAt l G mX12_worstOf (gQi G Q) 4 [(0, .ref (G.2.1 88)), (1, vI x1), (2, vI x2)] [] σ
set_option maxRecDepth 100000 in
set_option maxHeartbeats 4000000 in
theorem vX12_worstOf {l : Launch} {G : gG}  (σ : gS) (Q : Int → gS → Prop) (h : kX12_worstOf_4 l G  (-1) 0 σ Q) : eX12_worstOf l G  σ Q := by
  refine ga_entry rfl (Nat.le_of_ble_eq_true rfl) ?_
  show gAt l G mX12_worstOf (gQi G Q) 0 [(0, .ref (G.2.1 88))] [] σ
  refine ga_iconst dX12_worstOf_0 ?_
  refine ga_istore_n (ls' := [(1, vI (-1)), (0, .ref (G.2.1 88))]) dX12_worstOf_1 rfl (by decide) rfl ?_
  refine ga_iconst dX12_worstOf_2 ?_
  refine ga_istore_n (ls' := [(2, vI 0), (1, vI (-1)), (0, .ref (G.2.1 88))]) dX12_worstOf_3 rfl (by decide) rfl ?_
  exact ga_sub [2, 1, 0] rfl h
set_option maxRecDepth 100000 in
set_option maxHeartbeats 4000000 in
theorem vX12_worstOf_4 {l : Launch} {G : gG}  (x1 : Int) (x2 : Int) (rx1 : gR x1) (rx2 : gR x2) (σ : gS) (Q : Int → gS → Prop) (h : ((gI σ 88 25) ≤ x2 → Q x1 σ) ∧
  (x2 < (gI σ 88 25) → (0 ≤ x2 ∧ x2 < 400) ∧ ((gI σ 104 x2) = (-1) → kX12_worstOf_4 l G  x1 (x2 + 1) σ Q) ∧
    (¬ (gI σ 104 x2) = (-1) → (x1 = (-1) → kX12_worstOf_4 l G  x2 (x2 + 1) σ Q) ∧
      (¬ x1 = (-1) → eX12_waitOf l G x2 σ (fun v9 σ7 => gR v9 →
        eX12_waitOf l G x1 σ7 (fun v12 σ10 => gR v12 →
        (v9 ≤ v12 → kX12_worstOf_4 l G  x1 (x2 + 1) σ10 Q) ∧
        (v12 < v9 → kX12_worstOf_4 l G  x2 (x2 + 1) σ10 Q))))))) : kX12_worstOf_4 l G  x1 x2 σ Q := by
  refine ga_iload_n 2 dX12_worstOf_4 rfl rfl ?_
  refine ga_aload_n 0 dX12_worstOf_5 rfl rfl ?_
  refine ga_getI (kI := 25) dX12_worstOf_6 fX12_260 rfl rfl rfl (fun r1 => ?_)
  obtain ⟨ht, hf⟩ := h
  refine ga_icmp_ge (tgt := 48) dX12_worstOf_9 (by decide) rx2 r1 (fun q2 => ?_) (fun q2 => ?_)
  · replace q2 : (gI σ 88 25) ≤ x2 := q2
    have h := ht q2
    refine ga_iload_n 1 dX12_worstOf_48 rfl rfl ?_
    exact ga_iret dX12_worstOf_49 rfl rx1 h
  · replace q2 : x2 < (gI σ 88 25) := (Int.not_le.mp q2)
    have h := hf q2
    refine ga_aload_n 0 dX12_worstOf_12 rfl rfl ?_
    refine ga_getR (kI := 34) (r := 104) dX12_worstOf_13 fX12_56 rfl rfl (by decide) rfl ?_
    refine ga_iload_n 2 dX12_worstOf_16 rfl rfl ?_
    obtain ⟨i3, h⟩ := h
    refine ga_iald (nI := 400) dX12_worstOf_17 rfl rfl i3 (fun r4 => ?_)
    refine ga_iconst dX12_worstOf_18 ?_
    obtain ⟨ht, hf⟩ := h
    refine ga_icmp_eq (tgt := 42) dX12_worstOf_19 (by decide) r4 (by decide) (fun q5 => ?_) (fun q5 => ?_)
    · replace q5 : (gI σ 104 x2) = (-1) := q5
      have h := ht q5
      refine ga_iinc (ls' := [(2, vI (x2 + 1)), (0, .ref (G.2.1 88)), (1, vI x1)]) 2 dX12_worstOf_42 rfl (by decide) rfl ?_
      refine ga_goto (tgt := 4) dX12_worstOf_45 (by decide) ?_
      exact ga_sub [1, 2, 0] rfl h
    · replace q5 : ¬ (gI σ 104 x2) = (-1) := q5
      have h := hf q5
      refine ga_iload_n 1 dX12_worstOf_22 rfl rfl ?_
      refine ga_iconst dX12_worstOf_23 ?_
      obtain ⟨ht, hf⟩ := h
      refine ga_icmp_eq (tgt := 40) dX12_worstOf_24 (by decide) rx1 (by decide) (fun q6 => ?_) (fun q6 => ?_)
      · replace q6 : x1 = (-1) := q6
        have h := ht q6
        refine ga_iload_n 2 dX12_worstOf_40 rfl rfl ?_
        refine ga_istore_n (ls' := [(1, vI x2), (0, .ref (G.2.1 88)), (2, vI x2)]) dX12_worstOf_41 rfl (by decide) rfl ?_
        refine ga_iinc (ls' := [(2, vI (x2 + 1)), (1, vI x2), (0, .ref (G.2.1 88))]) 2 dX12_worstOf_42 rfl (by decide) rfl ?_
        refine ga_goto (tgt := 4) dX12_worstOf_45 (by decide) ?_
        exact ga_sub [2, 1, 0] rfl h
      · replace q6 : ¬ x1 = (-1) := q6
        have h := hf q6
        refine ga_aload_n 0 dX12_worstOf_27 rfl rfl ?_
        refine ga_iload_n 2 dX12_worstOf_28 rfl rfl ?_
        refine ga_callVi (z := mX12_waitOf) (As := [vI x2]) (rest := []) dX12_worstOf_29 wX12_425 qX12_worstOf_X12_waitOf rfl ⟨_, rfl, rfl⟩ rfl rfl (Nat.le_of_ble_eq_true rfl) (gEi_mono h (fun v9 σ7 h r8 => ?_))
        replace h := h r8
        refine ga_aload_n 0 dX12_worstOf_32 rfl rfl ?_
        refine ga_iload_n 1 dX12_worstOf_33 rfl rfl ?_
        refine ga_callVi (z := mX12_waitOf) (As := [vI x1]) (rest := [vI v9]) dX12_worstOf_34 wX12_425 qX12_worstOf_X12_waitOf rfl ⟨_, rfl, rfl⟩ rfl rfl (Nat.le_of_ble_eq_true rfl) (gEi_mono h (fun v12 σ10 h r11 => ?_))
        replace h := h r11
        obtain ⟨ht, hf⟩ := h
        refine ga_icmp_le (tgt := 42) dX12_worstOf_37 (by decide) r8 r11 (fun q13 => ?_) (fun q13 => ?_)
        · replace q13 : v9 ≤ v12 := q13
          have h := ht q13
          refine ga_iinc (ls' := [(2, vI (x2 + 1)), (0, .ref (G.2.1 88)), (1, vI x1)]) 2 dX12_worstOf_42 rfl (by decide) rfl ?_
          refine ga_goto (tgt := 4) dX12_worstOf_45 (by decide) ?_
          exact ga_sub [1, 2, 0] rfl h
        · replace q13 : v12 < v9 := (Int.not_le.mp q13)
          have h := hf q13
          refine ga_iload_n 2 dX12_worstOf_40 rfl rfl ?_
          refine ga_istore_n (ls' := [(1, vI x2), (0, .ref (G.2.1 88)), (2, vI x2)]) dX12_worstOf_41 rfl (by decide) rfl ?_
          refine ga_iinc (ls' := [(2, vI (x2 + 1)), (1, vI x2), (0, .ref (G.2.1 88))]) 2 dX12_worstOf_42 rfl (by decide) rfl ?_
          refine ga_goto (tgt := 4) dX12_worstOf_45 (by decide) ?_
          exact ga_sub [2, 1, 0] rfl h
abbrev eX12_sumOf (l : Launch) (G : gG)  (σ : gS) (Q : Int → gS → Prop) : Prop := gEi l G mX12_sumOf [.ref (G.2.1 88)] σ Q
abbrev kX12_sumOf_4 (l : Launch) (G : gG)  (x1 : Int) (x2 : Int) (σ : gS) (Q : Int → gS → Prop) : Prop := gAt l G mX12_sumOf (gQi G Q) 4 [(0, .ref (G.2.1 88)), (1, vI x1), (2, vI x2)] [] σ
set_option maxRecDepth 100000 in
set_option maxHeartbeats 4000000 in
theorem vX12_sumOf {l : Launch} {G : gG}  (σ : gS) (Q : Int → gS → Prop) (h : kX12_sumOf_4 l G  0 0 σ Q) : eX12_sumOf l G  σ Q := by
  refine ga_entry rfl (Nat.le_of_ble_eq_true rfl) ?_
  show gAt l G mX12_sumOf (gQi G Q) 0 [(0, .ref (G.2.1 88))] [] σ
  refine ga_iconst dX12_sumOf_0 ?_
  refine ga_istore_n (ls' := [(1, vI 0), (0, .ref (G.2.1 88))]) dX12_sumOf_1 rfl (by decide) rfl ?_
  refine ga_iconst dX12_sumOf_2 ?_
  refine ga_istore_n (ls' := [(2, vI 0), (1, vI 0), (0, .ref (G.2.1 88))]) dX12_sumOf_3 rfl (by decide) rfl ?_
  exact ga_sub [2, 1, 0] rfl h
set_option maxRecDepth 100000 in
set_option maxHeartbeats 4000000 in
theorem vX12_sumOf_4 {l : Launch} {G : gG}  (x1 : Int) (x2 : Int) (rx1 : gR x1) (rx2 : gR x2) (σ : gS) (Q : Int → gS → Prop) (h : ((gI σ 88 25) ≤ x2 → Q x1 σ) ∧
  (x2 < (gI σ 88 25) → (0 ≤ x2 ∧ x2 < 400) ∧ (¬ (gI σ 104 x2) = (-1) → eX12_waitOf l G x2 σ (fun v8 σ6 => gR v8 →
      kX12_sumOf_4 l G  (x1 + v8) (x2 + 1) σ6 Q)) ∧
    ((gI σ 104 x2) = (-1) → kX12_sumOf_4 l G  (x1 + 0) (x2 + 1) σ Q))) : kX12_sumOf_4 l G  x1 x2 σ Q := by
  refine ga_iload_n 2 dX12_sumOf_4 rfl rfl ?_
  refine ga_aload_n 0 dX12_sumOf_5 rfl rfl ?_
  refine ga_getI (kI := 25) dX12_sumOf_6 fX12_260 rfl rfl rfl (fun r1 => ?_)
  obtain ⟨ht, hf⟩ := h
  refine ga_icmp_ge (tgt := 40) dX12_sumOf_9 (by decide) rx2 r1 (fun q2 => ?_) (fun q2 => ?_)
  · replace q2 : (gI σ 88 25) ≤ x2 := q2
    have h := ht q2
    refine ga_iload_n 1 dX12_sumOf_40 rfl rfl ?_
    exact ga_iret dX12_sumOf_41 rfl rx1 h
  · replace q2 : x2 < (gI σ 88 25) := (Int.not_le.mp q2)
    have h := hf q2
    refine ga_iload_n 1 dX12_sumOf_12 rfl rfl ?_
    refine ga_aload_n 0 dX12_sumOf_13 rfl rfl ?_
    refine ga_getR (kI := 34) (r := 104) dX12_sumOf_14 fX12_56 rfl rfl (by decide) rfl ?_
    refine ga_iload_n 2 dX12_sumOf_17 rfl rfl ?_
    obtain ⟨i3, h⟩ := h
    refine ga_iald (nI := 400) dX12_sumOf_18 rfl rfl i3 (fun r4 => ?_)
    refine ga_iconst dX12_sumOf_19 ?_
    obtain ⟨ht, hf⟩ := h
    refine ga_icmp_ne (tgt := 27) dX12_sumOf_20 (by decide) r4 (by decide) (fun q5 => ?_) (fun q5 => ?_)
    · replace q5 : ¬ (gI σ 104 x2) = (-1) := q5
      have h := ht q5
      refine ga_aload_n 0 dX12_sumOf_27 rfl rfl ?_
      refine ga_iload_n 2 dX12_sumOf_28 rfl rfl ?_
      refine ga_callVi (z := mX12_waitOf) (As := [vI x2]) (rest := [vI x1]) dX12_sumOf_29 wX12_425 qX12_sumOf_X12_waitOf rfl ⟨_, rfl, rfl⟩ rfl rfl (Nat.le_of_ble_eq_true rfl) (gEi_mono h (fun v8 σ6 h r7 => ?_))
      replace h := h r7
      refine ga_iadd dX12_sumOf_32 ?_
      refine ga_istore_n (ls' := [(1, vI (x1 + v8)), (0, .ref (G.2.1 88)), (2, vI x2)]) dX12_sumOf_33 rfl (by decide) rfl ?_
      refine ga_iinc (ls' := [(2, vI (x2 + 1)), (1, vI (x1 + v8)), (0, .ref (G.2.1 88))]) 2 dX12_sumOf_34 rfl (by decide) rfl ?_
      refine ga_goto (tgt := 4) dX12_sumOf_37 (by decide) ?_
      exact ga_sub [2, 1, 0] rfl h
    · replace q5 : (gI σ 104 x2) = (-1) := (Decidable.not_not.mp q5)
      have h := hf q5
      refine ga_iconst dX12_sumOf_23 ?_
      refine ga_goto (tgt := 32) dX12_sumOf_24 (by decide) ?_
      refine ga_iadd dX12_sumOf_32 ?_
      refine ga_istore_n (ls' := [(1, vI (x1 + 0)), (0, .ref (G.2.1 88)), (2, vI x2)]) dX12_sumOf_33 rfl (by decide) rfl ?_
      refine ga_iinc (ls' := [(2, vI (x2 + 1)), (1, vI (x1 + 0)), (0, .ref (G.2.1 88))]) 2 dX12_sumOf_34 rfl (by decide) rfl ?_
      refine ga_goto (tgt := 4) dX12_sumOf_37 (by decide) ?_
      exact ga_sub [2, 1, 0] rfl h
abbrev eX12_splitsOf (l : Launch) (G : gG)  (σ : gS) (Q : Int → gS → Prop) : Prop := gEi l G mX12_splitsOf [.ref (G.2.1 88)] σ Q
abbrev kX12_splitsOf_4 (l : Launch) (G : gG)  (x1 : Int) (x2 : Int) (σ : gS) (Q : Int → gS → Prop) : Prop := gAt l G mX12_splitsOf (gQi G Q) 4 [(0, .ref (G.2.1 88)), (1, vI x1), (2, vI x2)] [] σ
set_option maxRecDepth 100000 in
set_option maxHeartbeats 4000000 in
theorem vX12_splitsOf {l : Launch} {G : gG}  (σ : gS) (Q : Int → gS → Prop) (h : kX12_splitsOf_4 l G  0 0 σ Q) : eX12_splitsOf l G  σ Q := by
  refine ga_entry rfl (Nat.le_of_ble_eq_true rfl) ?_
  show gAt l G mX12_splitsOf (gQi G Q) 0 [(0, .ref (G.2.1 88))] [] σ
  refine ga_iconst dX12_splitsOf_0 ?_
  refine ga_istore_n (ls' := [(1, vI 0), (0, .ref (G.2.1 88))]) dX12_splitsOf_1 rfl (by decide) rfl ?_
  refine ga_iconst dX12_splitsOf_2 ?_
  refine ga_istore_n (ls' := [(2, vI 0), (1, vI 0), (0, .ref (G.2.1 88))]) dX12_splitsOf_3 rfl (by decide) rfl ?_
  exact ga_sub [2, 1, 0] rfl h
set_option maxRecDepth 100000 in
set_option maxHeartbeats 4000000 in
theorem vX12_splitsOf_4 {l : Launch} {G : gG}  (x1 : Int) (x2 : Int) (rx1 : gR x1) (rx2 : gR x2) (σ : gS) (Q : Int → gS → Prop) (h : ((gI σ 88 25) ≤ x2 → Q x1 σ) ∧
  (x2 < (gI σ 88 25) → (0 ≤ x2 ∧ x2 < 400) ∧ (∀ v7 : Int, v7 = (if (gI σ 107 x2) ≤ 1 then 0 else 1) →
    kX12_splitsOf_4 l G  (x1 + v7) (x2 + 1) σ Q))) : kX12_splitsOf_4 l G  x1 x2 σ Q := by
  refine ga_iload_n 2 dX12_splitsOf_4 rfl rfl ?_
  refine ga_aload_n 0 dX12_splitsOf_5 rfl rfl ?_
  refine ga_getI (kI := 25) dX12_splitsOf_6 fX12_260 rfl rfl rfl (fun r1 => ?_)
  obtain ⟨ht, hf⟩ := h
  refine ga_icmp_ge (tgt := 36) dX12_splitsOf_9 (by decide) rx2 r1 (fun q2 => ?_) (fun q2 => ?_)
  · replace q2 : (gI σ 88 25) ≤ x2 := q2
    have h := ht q2
    refine ga_iload_n 1 dX12_splitsOf_36 rfl rfl ?_
    exact ga_iret dX12_splitsOf_37 rfl rx1 h
  · replace q2 : x2 < (gI σ 88 25) := (Int.not_le.mp q2)
    have h := hf q2
    refine ga_iload_n 1 dX12_splitsOf_12 rfl rfl ?_
    refine ga_aload_n 0 dX12_splitsOf_13 rfl rfl ?_
    refine ga_getR (kI := 37) (r := 107) dX12_splitsOf_14 fX12_65 rfl rfl (by decide) rfl ?_
    refine ga_iload_n 2 dX12_splitsOf_17 rfl rfl ?_
    obtain ⟨i3, h⟩ := h
    refine ga_iald (nI := 400) dX12_splitsOf_18 rfl rfl i3 (fun r4 => ?_)
    refine ga_iconst dX12_splitsOf_19 ?_
    have kJ5 : ∀ v7 : Int, gR v7 → (v7 = 0 ∨ v7 = 1) → v7 = (if (gI σ 107 x2) ≤ 1 then 0 else 1) → gAt l G mX12_splitsOf (gQi G Q) 28 [(0, .ref (G.2.1 88)), (1, vI x1), (2, vI x2)] [vI v7, vI x1] σ := by
      intro v7 rv7 bv7 ev7
      replace h := h v7 ev7
      refine ga_iadd dX12_splitsOf_28 ?_
      refine ga_istore_n (ls' := [(1, vI (x1 + v7)), (0, .ref (G.2.1 88)), (2, vI x2)]) dX12_splitsOf_29 rfl (by decide) rfl ?_
      refine ga_iinc (ls' := [(2, vI (x2 + 1)), (1, vI (x1 + v7)), (0, .ref (G.2.1 88))]) 2 dX12_splitsOf_30 rfl (by decide) rfl ?_
      refine ga_goto (tgt := 4) dX12_splitsOf_33 (by decide) ?_
      exact ga_sub [2, 1, 0] rfl h
    replace h : ((gI σ 107 x2) ≤ 1 → True) ∧
    (1 < (gI σ 107 x2) → True) := by repeat (first | exact True.intro | apply And.intro | intro _)
    obtain ⟨ht, hf⟩ := h
    refine ga_icmp_le (tgt := 27) dX12_splitsOf_20 (by decide) r4 (by decide) (fun q6 => ?_) (fun q6 => ?_)
    · replace q6 : (gI σ 107 x2) ≤ 1 := q6
      have h := ht q6
      refine ga_iconst dX12_splitsOf_27 ?_
      exact kJ5 0 (by decide) (Or.inl rfl) (by rw [if_pos q6])
    · replace q6 : 1 < (gI σ 107 x2) := (Int.not_le.mp q6)
      have h := hf q6
      refine ga_iconst dX12_splitsOf_23 ?_
      refine ga_goto (tgt := 28) dX12_splitsOf_24 (by decide) ?_
      exact kJ5 1 (by decide) (Or.inr rfl) (by rw [if_neg (Int.not_le.mpr q6)])
abbrev eX12_takenIn (l : Launch) (G : gG) (x1 : Int) (σ : gS) (Q : Int → gS → Prop) : Prop := gEi l G mX12_takenIn [.ref (G.2.1 88), vI x1] σ Q
abbrev kX12_takenIn_4 (l : Launch) (G : gG)  (x1 : Int) (x2 : Int) (x3 : Int) (σ : gS) (Q : Int → gS → Prop) : Prop := gAt l G mX12_takenIn (gQi G Q) 4 [(0, .ref (G.2.1 88)), (1, vI x1), (2, vI x2), (3, vI x3)] [] σ
set_option maxRecDepth 100000 in
set_option maxHeartbeats 4000000 in
theorem vX12_takenIn {l : Launch} {G : gG} (x1 : Int) (rx1 : gR x1) (σ : gS) (Q : Int → gS → Prop) (h : kX12_takenIn_4 l G  x1 0 0 σ Q) : eX12_takenIn l G x1 σ Q := by
  refine ga_entry rfl (Nat.le_of_ble_eq_true rfl) ?_
  show gAt l G mX12_takenIn (gQi G Q) 0 [(0, .ref (G.2.1 88)), (1, vI x1)] [] σ
  refine ga_iconst dX12_takenIn_0 ?_
  refine ga_istore_n (ls' := [(2, vI 0), (0, .ref (G.2.1 88)), (1, vI x1)]) dX12_takenIn_1 rfl (by decide) rfl ?_
  refine ga_iconst dX12_takenIn_2 ?_
  refine ga_istore_n (ls' := [(3, vI 0), (2, vI 0), (0, .ref (G.2.1 88)), (1, vI x1)]) dX12_takenIn_3 rfl (by decide) rfl ?_
  exact ga_sub [2, 3, 1, 0] rfl h
set_option maxRecDepth 100000 in
set_option maxHeartbeats 4000000 in
theorem vX12_takenIn_4 {l : Launch} {G : gG}  (x1 : Int) (x2 : Int) (x3 : Int) (rx1 : gR x1) (rx2 : gR x2) (rx3 : gR x3) (σ : gS) (Q : Int → gS → Prop) (h : (6 ≤ x3 → Q x2 σ) ∧
  (x3 < 6 → (0 ≤ ((6 * x1) + x3) ∧ ((6 * x1) + x3) < 2520) ∧ (∀ v6 : Int, v6 = (if (gI σ 109 ((6 * x1) + x3)) = (-1) then 0 else 1) →
    (∀ v10 : Int, v10 = (if (gI σ 110 ((6 * x1) + x3)) = (-1) then 0 else 1) →
      kX12_takenIn_4 l G  x1 (x2 + (v6 + v10)) (x3 + 1) σ Q)))) : kX12_takenIn_4 l G  x1 x2 x3 σ Q := by
  refine ga_iload_n 3 dX12_takenIn_4 rfl rfl ?_
  refine ga_bipush dX12_takenIn_5 (by decide) ?_
  obtain ⟨ht, hf⟩ := h
  refine ga_icmp_ge (tgt := 60) dX12_takenIn_7 (by decide) rx3 (by decide) (fun q1 => ?_) (fun q1 => ?_)
  · replace q1 : 6 ≤ x3 := q1
    have h := ht q1
    refine ga_iload_n 2 dX12_takenIn_60 rfl rfl ?_
    exact ga_iret dX12_takenIn_61 rfl rx2 h
  · replace q1 : x3 < 6 := (Int.not_le.mp q1)
    have h := hf q1
    refine ga_iload_n 2 dX12_takenIn_10 rfl rfl ?_
    refine ga_aload_n 0 dX12_takenIn_11 rfl rfl ?_
    refine ga_getR (kI := 39) (r := 109) dX12_takenIn_12 fX12_71 rfl rfl (by decide) rfl ?_
    refine ga_bipush dX12_takenIn_15 (by decide) ?_
    refine ga_iload_n 1 dX12_takenIn_17 rfl rfl ?_
    refine ga_imul dX12_takenIn_18 ?_
    refine ga_iload_n 3 dX12_takenIn_19 rfl rfl ?_
    refine ga_iadd dX12_takenIn_20 ?_
    obtain ⟨i2, h⟩ := h
    refine ga_iald (nI := 2520) dX12_takenIn_21 rfl rfl i2 (fun r3 => ?_)
    refine ga_iconst dX12_takenIn_22 ?_
    have kJ4 : ∀ v6 : Int, gR v6 → (v6 = 0 ∨ v6 = 1) → v6 = (if (gI σ 109 ((6 * x1) + x3)) = (-1) then 0 else 1) → gAt l G mX12_takenIn (gQi G Q) 31 [(0, .ref (G.2.1 88)), (1, vI x1), (2, vI x2), (3, vI x3)] [vI v6, vI x2] σ := by
      intro v6 rv6 bv6 ev6
      replace h := h v6 ev6
      refine ga_aload_n 0 dX12_takenIn_31 rfl rfl ?_
      refine ga_getR (kI := 40) (r := 110) dX12_takenIn_32 fX12_74 rfl rfl (by decide) rfl ?_
      refine ga_bipush dX12_takenIn_35 (by decide) ?_
      refine ga_iload_n 1 dX12_takenIn_37 rfl rfl ?_
      refine ga_imul dX12_takenIn_38 ?_
      refine ga_iload_n 3 dX12_takenIn_39 rfl rfl ?_
      refine ga_iadd dX12_takenIn_40 ?_
      refine ga_iald (nI := 2520) dX12_takenIn_41 rfl rfl i2 (fun r7 => ?_)
      refine ga_iconst dX12_takenIn_42 ?_
      have kJ8 : ∀ v10 : Int, gR v10 → (v10 = 0 ∨ v10 = 1) → v10 = (if (gI σ 110 ((6 * x1) + x3)) = (-1) then 0 else 1) → gAt l G mX12_takenIn (gQi G Q) 51 [(0, .ref (G.2.1 88)), (1, vI x1), (2, vI x2), (3, vI x3)] [vI v10, vI v6, vI x2] σ := by
        intro v10 rv10 bv10 ev10
        replace h := h v10 ev10
        refine ga_iadd dX12_takenIn_51 ?_
        refine ga_iadd dX12_takenIn_52 ?_
        refine ga_istore_n (ls' := [(2, vI (x2 + (v6 + v10))), (0, .ref (G.2.1 88)), (1, vI x1), (3, vI x3)]) dX12_takenIn_53 rfl (by decide) rfl ?_
        refine ga_iinc (ls' := [(3, vI (x3 + 1)), (2, vI (x2 + (v6 + v10))), (0, .ref (G.2.1 88)), (1, vI x1)]) 3 dX12_takenIn_54 rfl (by decide) rfl ?_
        refine ga_goto (tgt := 4) dX12_takenIn_57 (by decide) ?_
        exact ga_sub [2, 3, 1, 0] rfl h
      replace h : (¬ (gI σ 110 ((6 * x1) + x3)) = (-1) → True) ∧
      ((gI σ 110 ((6 * x1) + x3)) = (-1) → True) := by repeat (first | exact True.intro | apply And.intro | intro _)
      obtain ⟨ht, hf⟩ := h
      refine ga_icmp_ne (tgt := 50) dX12_takenIn_43 (by decide) r7 (by decide) (fun q9 => ?_) (fun q9 => ?_)
      · replace q9 : ¬ (gI σ 110 ((6 * x1) + x3)) = (-1) := q9
        have h := ht q9
        refine ga_iconst dX12_takenIn_50 ?_
        exact kJ8 1 (by decide) (Or.inr rfl) (by rw [if_neg q9])
      · replace q9 : (gI σ 110 ((6 * x1) + x3)) = (-1) := (Decidable.not_not.mp q9)
        have h := hf q9
        refine ga_iconst dX12_takenIn_46 ?_
        refine ga_goto (tgt := 51) dX12_takenIn_47 (by decide) ?_
        exact kJ8 0 (by decide) (Or.inl rfl) (by rw [if_pos q9])
    replace h : (¬ (gI σ 109 ((6 * x1) + x3)) = (-1) → True) ∧
    ((gI σ 109 ((6 * x1) + x3)) = (-1) → True) := by repeat (first | exact True.intro | apply And.intro | intro _)
    obtain ⟨ht, hf⟩ := h
    refine ga_icmp_ne (tgt := 30) dX12_takenIn_23 (by decide) r3 (by decide) (fun q5 => ?_) (fun q5 => ?_)
    · replace q5 : ¬ (gI σ 109 ((6 * x1) + x3)) = (-1) := q5
      have h := ht q5
      refine ga_iconst dX12_takenIn_30 ?_
      exact kJ4 1 (by decide) (Or.inr rfl) (by rw [if_neg q5])
    · replace q5 : (gI σ 109 ((6 * x1) + x3)) = (-1) := (Decidable.not_not.mp q5)
      have h := hf q5
      refine ga_iconst dX12_takenIn_26 ?_
      refine ga_goto (tgt := 31) dX12_takenIn_27 (by decide) ?_
      exact kJ4 0 (by decide) (Or.inl rfl) (by rw [if_pos q5])
