abbrev eX11_rhythm (l : Launch) (G : gG) (x1 : Int) (x2 : Int) (σ : gS) (Q : Int → gS → Prop) : Prop := gEi l G mX11_rhythm [.ref (G.2.1 0), vI x1, vI x2] σ Q
set_option maxRecDepth 100000 in
set_option maxHeartbeats 4000000 in
theorem vX11_rhythm {l : Launch} {G : gG} (x1 : Int) (x2 : Int) (rx1 : gR x1) (rx2 : gR x2) (σ : gS) (Q : Int → gS → Prop) (h : eX10_has l G 0 x1 σ (fun v3 σ1 => (v3 = 0 ∨ v3 = 1) →
  (¬ v3 = 0 → eX2_tellRhythm l G x1 x2 σ1 (fun v7 σ5 => gR v7 →
    Q v7 σ5)) ∧
  (v3 = 0 → Q (-2) σ1))) : eX11_rhythm l G x1 x2 σ Q := by
  refine ga_entry rfl (Nat.le_of_ble_eq_true rfl) ?_
  show gAt l G mX11_rhythm (gQi G Q) 0 [(0, .ref (G.2.1 0)), (1, vI x1), (2, vI x2)] [] σ
  refine ga_aload_n 0 dX11_rhythm_0 rfl rfl ?_
  refine ga_getR (kI := 0) (r := 1) dX11_rhythm_1 fX11_12 rfl rfl (by decide) rfl ?_
  refine ga_iconst dX11_rhythm_4 ?_
  refine ga_iload_n 1 dX11_rhythm_5 rfl rfl ?_
  refine ga_callVz (z := mX10_has) (As := [vI 0, vI x1]) (rest := []) dX11_rhythm_6 wX11_105 qX11_rhythm_X10_has rfl ⟨_, rfl, rfl⟩ rfl rfl (Nat.le_of_ble_eq_true rfl) (gEz_mono h (fun v3 σ1 h r2 => ?_))
  replace h := h r2
  obtain ⟨ht, hf⟩ := h
  refine ga_if_ne (tgt := 15) dX11_rhythm_9 (by decide) (gR_01 r2) (fun q4 => ?_) (fun q4 => ?_)
  · replace q4 : ¬ v3 = 0 := q4
    have h := ht q4
    refine ga_aload_n 0 dX11_rhythm_15 rfl rfl ?_
    refine ga_getR (kI := 5) (r := 58) dX11_rhythm_16 fX11_41 rfl rfl (by decide) rfl ?_
    refine ga_aload_n 0 dX11_rhythm_19 rfl rfl ?_
    refine ga_getR (kI := 0) (r := 1) dX11_rhythm_20 fX11_12 rfl rfl (by decide) rfl ?_
    refine ga_iload_n 1 dX11_rhythm_23 rfl rfl ?_
    refine ga_iload_n 2 dX11_rhythm_24 rfl rfl ?_
    refine ga_callVi (z := mX2_tellRhythm) (As := [.ref (G.2.1 1), vI x1, vI x2]) (rest := []) dX11_rhythm_25 wX11_143 qX11_rhythm_X2_tellRhythm rfl ⟨_, rfl, rfl⟩ rfl rfl (Nat.le_of_ble_eq_true rfl) (gEi_mono h (fun v7 σ5 h r6 => ?_))
    replace h := h r6
    exact ga_iret dX11_rhythm_28 rfl r6 h
  · replace q4 : v3 = 0 := (Decidable.not_not.mp q4)
    have h := hf q4
    refine ga_bipush dX11_rhythm_12 (by decide) ?_
    exact ga_iret dX11_rhythm_14 rfl (by decide) h
abbrev eX11_judge (l : Launch) (G : gG) (x1 : Int) (x2 : Int) (x3 : Int) (x4 : Int) (σ : gS) (Q : Int → gS → Prop) : Prop := gEi l G mX11_judge [.ref (G.2.1 0), vI x1, vI x2, vI x3, vI x4] σ Q
set_option maxRecDepth 100000 in
set_option maxHeartbeats 4000000 in
theorem vX11_judge {l : Launch} {G : gG} (x1 : Int) (x2 : Int) (x3 : Int) (x4 : Int) (rx1 : gR x1) (rx2 : gR x2) (rx3 : gR x3) (rx4 : gR x4) (σ : gS) (Q : Int → gS → Prop) (h : eX11_reaches l G x1 x2 x3 σ (fun v3 σ1 => (v3 = 0 ∨ v3 = 1) →
  (v3 = 0 → Q (-2) σ1) ∧
  (¬ v3 = 0 → eX3_tell l G x4 σ1 (fun v7 σ5 => gR v7 →
    Q v7 σ5)))) : eX11_judge l G x1 x2 x3 x4 σ Q := by
  refine ga_entry rfl (Nat.le_of_ble_eq_true rfl) ?_
  show gAt l G mX11_judge (gQi G Q) 0 [(0, .ref (G.2.1 0)), (1, vI x1), (2, vI x2), (3, vI x3), (4, vI x4)] [] σ
  refine ga_aload_n 0 dX11_judge_0 rfl rfl ?_
  refine ga_iload_n 1 dX11_judge_1 rfl rfl ?_
  refine ga_iload_n 2 dX11_judge_2 rfl rfl ?_
  refine ga_iload_n 3 dX11_judge_3 rfl rfl ?_
  refine ga_callVz (z := mX11_reaches) (As := [vI x1, vI x2, vI x3]) (rest := []) dX11_judge_4 wX11_123 qX11_judge_X11_reaches rfl ⟨_, rfl, rfl⟩ rfl rfl (Nat.le_of_ble_eq_true rfl) (gEz_mono h (fun v3 σ1 h r2 => ?_))
  replace h := h r2
  obtain ⟨ht, hf⟩ := h
  refine ga_if_eq (tgt := 26) dX11_judge_7 (by decide) (gR_01 r2) (fun q4 => ?_) (fun q4 => ?_)
  · replace q4 : v3 = 0 := q4
    have h := ht q4
    refine ga_bipush dX11_judge_26 (by decide) ?_
    exact ga_iret dX11_judge_28 rfl (by decide) h
  · replace q4 : ¬ v3 = 0 := q4
    have h := hf q4
    refine ga_aload_n 0 dX11_judge_10 rfl rfl ?_
    refine ga_getR (kI := 6) (r := 67) dX11_judge_11 fX11_48 rfl rfl (by decide) rfl ?_
    refine ga_aload_n 0 dX11_judge_14 rfl rfl ?_
    refine ga_getR (kI := 4) (r := 32) dX11_judge_15 fX11_34 rfl rfl (by decide) rfl ?_
    refine ga_iload 4 dX11_judge_18 rfl ?_
    refine ga_callVi (z := mX3_tell) (As := [.ref (G.2.1 32), vI x4]) (rest := []) dX11_judge_20 wX11_146 qX11_judge_X3_tell rfl ⟨_, rfl, rfl⟩ rfl rfl (Nat.le_of_ble_eq_true rfl) (gEi_mono h (fun v7 σ5 h r6 => ?_))
    replace h := h r6
    refine ga_goto (tgt := 28) dX11_judge_23 (by decide) ?_
    exact ga_iret dX11_judge_28 rfl r6 h
abbrev eX11_mimic (l : Launch) (G : gG) (x1 : Int) (x2 : Int) (x3 : Int) (x4 : Int) (σ : gS) (Q : Int → gS → Prop) : Prop := gEi l G mX11_mimic [.ref (G.2.1 0), vI x1, vI x2, vI x3, vI x4] σ Q
set_option maxRecDepth 100000 in
set_option maxHeartbeats 4000000 in
theorem vX11_mimic {l : Launch} {G : gG} (x1 : Int) (x2 : Int) (x3 : Int) (x4 : Int) (rx1 : gR x1) (rx2 : gR x2) (rx3 : gR x3) (rx4 : gR x4) (σ : gS) (Q : Int → gS → Prop) (h : (x4 < 0 → Q (-1) σ) ∧
  (0 ≤ x4 → (2 < x4 → Q (-1) σ) ∧
    (x4 ≤ 2 → eX11_begins l G x1 x2 σ (fun v5 σ3 => (v5 = 0 ∨ v5 = 1) →
      (¬ v5 = 0 → eX8_follow l G x2 40 σ3 (fun v9 σ7 => gR v9 →
        eX9_take l G x2 v9 σ7 (fun σ10 =>
        (x3 = (-1) → eX9_tell l G x3 x4 σ10 (fun v15 σ13 => gR v15 →
          Q v15 σ13)) ∧
        (¬ x3 = (-1) → (x3 < 0 → Q (-1) σ10) ∧
          (0 ≤ x3 → (x3 < (gI σ10 69 0) → eX9_tell l G x3 x4 σ10 (fun v21 σ19 => gR v21 →
              Q v21 σ19)) ∧
            ((gI σ10 69 0) ≤ x3 → Q (-1) σ10)))))) ∧
      (v5 = 0 → Q (-1) σ3))))) : eX11_mimic l G x1 x2 x3 x4 σ Q := by
  refine ga_entry rfl (Nat.le_of_ble_eq_true rfl) ?_
  show gAt l G mX11_mimic (gQi G Q) 0 [(0, .ref (G.2.1 0)), (1, vI x1), (2, vI x2), (3, vI x3), (4, vI x4)] [] σ
  refine ga_iload 4 dX11_mimic_0 rfl ?_
  obtain ⟨ht, hf⟩ := h
  refine ga_if_lt (tgt := 20) dX11_mimic_2 (by decide) rx4 (fun q1 => ?_) (fun q1 => ?_)
  · replace q1 : x4 < 0 := q1
    have h := ht q1
    refine ga_iconst dX11_mimic_20 ?_
    exact ga_iret dX11_mimic_21 rfl (by decide) h
  · replace q1 : 0 ≤ x4 := (Int.not_lt.mp q1)
    have h := hf q1
    refine ga_iload 4 dX11_mimic_5 rfl ?_
    refine ga_iconst dX11_mimic_7 ?_
    obtain ⟨ht, hf⟩ := h
    refine ga_icmp_gt (tgt := 20) dX11_mimic_8 (by decide) rx4 (by decide) (fun q2 => ?_) (fun q2 => ?_)
    · replace q2 : 2 < x4 := q2
      have h := ht q2
      refine ga_iconst dX11_mimic_20 ?_
      exact ga_iret dX11_mimic_21 rfl (by decide) h
    · replace q2 : x4 ≤ 2 := (Int.not_lt.mp q2)
      have h := hf q2
      refine ga_aload_n 0 dX11_mimic_11 rfl rfl ?_
      refine ga_iload_n 1 dX11_mimic_12 rfl rfl ?_
      refine ga_iload_n 2 dX11_mimic_13 rfl rfl ?_
      refine ga_callVz (z := mX11_begins) (As := [vI x1, vI x2]) (rest := []) dX11_mimic_14 wX11_116 qX11_mimic_X11_begins rfl ⟨_, rfl, rfl⟩ rfl rfl (Nat.le_of_ble_eq_true rfl) (gEz_mono h (fun v5 σ3 h r4 => ?_))
      replace h := h r4
      obtain ⟨ht, hf⟩ := h
      refine ga_if_ne (tgt := 22) dX11_mimic_17 (by decide) (gR_01 r4) (fun q6 => ?_) (fun q6 => ?_)
      · replace q6 : ¬ v5 = 0 := q6
        have h := ht q6
        refine ga_aload_n 0 dX11_mimic_22 rfl rfl ?_
        refine ga_getR (kI := 7) (r := 69) dX11_mimic_23 fX11_55 rfl rfl (by decide) rfl ?_
        refine ga_aload_n 0 dX11_mimic_26 rfl rfl ?_
        refine ga_getR (kI := 0) (r := 1) dX11_mimic_27 fX11_12 rfl rfl (by decide) rfl ?_
        refine ga_iload_n 2 dX11_mimic_30 rfl rfl ?_
        refine ga_aload_n 0 dX11_mimic_31 rfl rfl ?_
        refine ga_getR (kI := 4) (r := 32) dX11_mimic_32 fX11_34 rfl rfl (by decide) rfl ?_
        refine ga_aload_n 0 dX11_mimic_35 rfl rfl ?_
        refine ga_getR (kI := 0) (r := 1) dX11_mimic_36 fX11_12 rfl rfl (by decide) rfl ?_
        refine ga_iload_n 2 dX11_mimic_39 rfl rfl ?_
        refine ga_bipush dX11_mimic_40 (by decide) ?_
        refine ga_callVi (z := mX8_follow) (As := [.ref (G.2.1 1), vI x2, vI 40]) (rest := [vI x2, .ref (G.2.1 1), .ref (G.2.1 69)]) dX11_mimic_42 wX11_119 qX11_mimic_X8_follow rfl ⟨_, rfl, rfl⟩ rfl rfl (Nat.le_of_ble_eq_true rfl) (gEi_mono h (fun v9 σ7 h r8 => ?_))
        replace h := h r8
        refine ga_callVv (z := mX9_take) (As := [.ref (G.2.1 1), vI x2, vI v9]) (rest := []) dX11_mimic_45 wX11_149 qX11_mimic_X9_take rfl ⟨_, rfl, rfl⟩ rfl rfl (Nat.le_of_ble_eq_true rfl) (gEv_mono h (fun σ10 h => ?_))
        refine ga_iload_n 3 dX11_mimic_48 rfl rfl ?_
        refine ga_iconst dX11_mimic_49 ?_
        obtain ⟨ht, hf⟩ := h
        refine ga_icmp_eq (tgt := 70) dX11_mimic_50 (by decide) rx3 (by decide) (fun q12 => ?_) (fun q12 => ?_)
        · replace q12 : x3 = (-1) := q12
          have h := ht q12
          refine ga_aload_n 0 dX11_mimic_70 rfl rfl ?_
          refine ga_getR (kI := 7) (r := 69) dX11_mimic_71 fX11_55 rfl rfl (by decide) rfl ?_
          refine ga_iload_n 3 dX11_mimic_74 rfl rfl ?_
          refine ga_iload 4 dX11_mimic_75 rfl ?_
          refine ga_callVi (z := mX9_tell) (As := [vI x3, vI x4]) (rest := []) dX11_mimic_77 wX11_156 qX11_mimic_X9_tell rfl ⟨_, rfl, rfl⟩ rfl rfl (Nat.le_of_ble_eq_true rfl) (gEi_mono h (fun v15 σ13 h r14 => ?_))
          replace h := h r14
          exact ga_iret dX11_mimic_80 rfl r14 h
        · replace q12 : ¬ x3 = (-1) := q12
          have h := hf q12
          refine ga_iload_n 3 dX11_mimic_53 rfl rfl ?_
          obtain ⟨ht, hf⟩ := h
          refine ga_if_lt (tgt := 68) dX11_mimic_54 (by decide) rx3 (fun q16 => ?_) (fun q16 => ?_)
          · replace q16 : x3 < 0 := q16
            have h := ht q16
            refine ga_iconst dX11_mimic_68 ?_
            exact ga_iret dX11_mimic_69 rfl (by decide) h
          · replace q16 : 0 ≤ x3 := (Int.not_lt.mp q16)
            have h := hf q16
            refine ga_iload_n 3 dX11_mimic_57 rfl rfl ?_
            refine ga_aload_n 0 dX11_mimic_58 rfl rfl ?_
            refine ga_getR (kI := 7) (r := 69) dX11_mimic_59 fX11_55 rfl rfl (by decide) rfl ?_
            refine ga_getI (kI := 0) dX11_mimic_62 fX11_153 rfl rfl rfl (fun r17 => ?_)
            obtain ⟨ht, hf⟩ := h
            refine ga_icmp_lt (tgt := 70) dX11_mimic_65 (by decide) rx3 r17 (fun q18 => ?_) (fun q18 => ?_)
            · replace q18 : x3 < (gI σ10 69 0) := q18
              have h := ht q18
              refine ga_aload_n 0 dX11_mimic_70 rfl rfl ?_
              refine ga_getR (kI := 7) (r := 69) dX11_mimic_71 fX11_55 rfl rfl (by decide) rfl ?_
              refine ga_iload_n 3 dX11_mimic_74 rfl rfl ?_
              refine ga_iload 4 dX11_mimic_75 rfl ?_
              refine ga_callVi (z := mX9_tell) (As := [vI x3, vI x4]) (rest := []) dX11_mimic_77 wX11_156 qX11_mimic_X9_tell rfl ⟨_, rfl, rfl⟩ rfl rfl (Nat.le_of_ble_eq_true rfl) (gEi_mono h (fun v21 σ19 h r20 => ?_))
              replace h := h r20
              exact ga_iret dX11_mimic_80 rfl r20 h
            · replace q18 : (gI σ10 69 0) ≤ x3 := (Int.not_lt.mp q18)
              have h := hf q18
              refine ga_iconst dX11_mimic_68 ?_
              exact ga_iret dX11_mimic_69 rfl (by decide) h
      · replace q6 : v5 = 0 := (Decidable.not_not.mp q6)
        have h := hf q6
        refine ga_iconst dX11_mimic_20 ?_
        exact ga_iret dX11_mimic_21 rfl (by decide) h
abbrev eX11_flow (l : Launch) (G : gG) (x1 : Int) (x2 : Int) (x3 : Int) (x4 : Int) (σ : gS) (Q : Int → gS → Prop) : Prop := gEi l G mX11_flow [.ref (G.2.1 0), vI x1, vI x2, vI x3, vI x4] σ Q
set_option maxRecDepth 100000 in
set_option maxHeartbeats 4000000 in
theorem vX11_flow {l : Launch} {G : gG} (x1 : Int) (x2 : Int) (x3 : Int) (x4 : Int) (rx1 : gR x1) (rx2 : gR x2) (rx3 : gR x3) (rx4 : gR x4) (σ : gS) (Q : Int → gS → Prop) (h : eX11_begins l G x1 x2 σ (fun v3 σ1 => (v3 = 0 ∨ v3 = 1) →
  (¬ v3 = 0 → eX8_follow l G x2 40 σ1 (fun v7 σ5 => gR v7 →
    eX5_gatherFlows l G  σ5 (fun σ8 =>
    eX5_tellFlow l G x3 x4 σ8 (fun v12 σ10 => gR v12 →
    Q v12 σ10)))) ∧
  (v3 = 0 → Q (-1) σ1))) : eX11_flow l G x1 x2 x3 x4 σ Q := by
  refine ga_entry rfl (Nat.le_of_ble_eq_true rfl) ?_
  show gAt l G mX11_flow (gQi G Q) 0 [(0, .ref (G.2.1 0)), (1, vI x1), (2, vI x2), (3, vI x3), (4, vI x4)] [] σ
  refine ga_aload_n 0 dX11_flow_0 rfl rfl ?_
  refine ga_iload_n 1 dX11_flow_1 rfl rfl ?_
  refine ga_iload_n 2 dX11_flow_2 rfl rfl ?_
  refine ga_callVz (z := mX11_begins) (As := [vI x1, vI x2]) (rest := []) dX11_flow_3 wX11_116 qX11_flow_X11_begins rfl ⟨_, rfl, rfl⟩ rfl rfl (Nat.le_of_ble_eq_true rfl) (gEz_mono h (fun v3 σ1 h r2 => ?_))
  replace h := h r2
  obtain ⟨ht, hf⟩ := h
  refine ga_if_ne (tgt := 11) dX11_flow_6 (by decide) (gR_01 r2) (fun q4 => ?_) (fun q4 => ?_)
  · replace q4 : ¬ v3 = 0 := q4
    have h := ht q4
    refine ga_aload_n 0 dX11_flow_11 rfl rfl ?_
    refine ga_getR (kI := 4) (r := 32) dX11_flow_12 fX11_34 rfl rfl (by decide) rfl ?_
    refine ga_aload_n 0 dX11_flow_15 rfl rfl ?_
    refine ga_getR (kI := 0) (r := 1) dX11_flow_16 fX11_12 rfl rfl (by decide) rfl ?_
    refine ga_iload_n 2 dX11_flow_19 rfl rfl ?_
    refine ga_bipush dX11_flow_20 (by decide) ?_
    refine ga_callVi (z := mX8_follow) (As := [.ref (G.2.1 1), vI x2, vI 40]) (rest := []) dX11_flow_22 wX11_119 qX11_flow_X8_follow rfl ⟨_, rfl, rfl⟩ rfl rfl (Nat.le_of_ble_eq_true rfl) (gEi_mono h (fun v7 σ5 h r6 => ?_))
    replace h := h r6
    refine ga_pop dX11_flow_25 rfl ?_
    refine ga_aload_n 0 dX11_flow_26 rfl rfl ?_
    refine ga_getR (kI := 8) (r := 81) dX11_flow_27 fX11_62 rfl rfl (by decide) rfl ?_
    refine ga_aload_n 0 dX11_flow_30 rfl rfl ?_
    refine ga_getR (kI := 4) (r := 32) dX11_flow_31 fX11_34 rfl rfl (by decide) rfl ?_
    refine ga_callVv (z := mX5_gatherFlows) (As := [.ref (G.2.1 32)]) (rest := []) dX11_flow_34 wX11_157 qX11_flow_X5_gatherFlows rfl ⟨_, rfl, rfl⟩ rfl rfl (Nat.le_of_ble_eq_true rfl) (gEv_mono h (fun σ8 h => ?_))
    refine ga_aload_n 0 dX11_flow_37 rfl rfl ?_
    refine ga_getR (kI := 8) (r := 81) dX11_flow_38 fX11_62 rfl rfl (by decide) rfl ?_
    refine ga_aload_n 0 dX11_flow_41 rfl rfl ?_
    refine ga_getR (kI := 4) (r := 32) dX11_flow_42 fX11_34 rfl rfl (by decide) rfl ?_
    refine ga_iload_n 3 dX11_flow_45 rfl rfl ?_
    refine ga_iload 4 dX11_flow_46 rfl ?_
    refine ga_callVi (z := mX5_tellFlow) (As := [.ref (G.2.1 32), vI x3, vI x4]) (rest := []) dX11_flow_48 wX11_161 qX11_flow_X5_tellFlow rfl ⟨_, rfl, rfl⟩ rfl rfl (Nat.le_of_ble_eq_true rfl) (gEi_mono h (fun v12 σ10 h r11 => ?_))
    replace h := h r11
    exact ga_iret dX11_flow_51 rfl r11 h
  · replace q4 : v3 = 0 := (Decidable.not_not.mp q4)
    have h := hf q4
    refine ga_iconst dX11_flow_9 ?_
    exact ga_iret dX11_flow_10 rfl (by decide) h
abbrev eX11_after (l : Launch) (G : gG) (x1 : Int) (x2 : Int) (x3 : Int) (σ : gS) (Q : Int → gS → Prop) : Prop := gEi l G mX11_after [.ref (G.2.1 0), vI x1, vI x2, vI x3] σ Q
set_option maxRecDepth 100000 in
set_option maxHeartbeats 4000000 in
theorem vX11_after {l : Launch} {G : gG} (x1 : Int) (x2 : Int) (x3 : Int) (rx1 : gR x1) (rx2 : gR x2) (rx3 : gR x3) (σ : gS) (Q : Int → gS → Prop) (h : eX11_begins l G x1 x2 σ (fun v3 σ1 => (v3 = 0 ∨ v3 = 1) →
  (¬ v3 = 0 → eX8_follow l G x2 40 σ1 (fun v7 σ5 => gR v7 →
    eX5_tell l G x3 σ5 (fun v10 σ8 => gR v10 →
    Q v10 σ8))) ∧
  (v3 = 0 → Q (-2) σ1))) : eX11_after l G x1 x2 x3 σ Q := by
  refine ga_entry rfl (Nat.le_of_ble_eq_true rfl) ?_
  show gAt l G mX11_after (gQi G Q) 0 [(0, .ref (G.2.1 0)), (1, vI x1), (2, vI x2), (3, vI x3)] [] σ
  refine ga_aload_n 0 dX11_after_0 rfl rfl ?_
  refine ga_iload_n 1 dX11_after_1 rfl rfl ?_
  refine ga_iload_n 2 dX11_after_2 rfl rfl ?_
  refine ga_callVz (z := mX11_begins) (As := [vI x1, vI x2]) (rest := []) dX11_after_3 wX11_116 qX11_after_X11_begins rfl ⟨_, rfl, rfl⟩ rfl rfl (Nat.le_of_ble_eq_true rfl) (gEz_mono h (fun v3 σ1 h r2 => ?_))
  replace h := h r2
  obtain ⟨ht, hf⟩ := h
  refine ga_if_ne (tgt := 12) dX11_after_6 (by decide) (gR_01 r2) (fun q4 => ?_) (fun q4 => ?_)
  · replace q4 : ¬ v3 = 0 := q4
    have h := ht q4
    refine ga_aload_n 0 dX11_after_12 rfl rfl ?_
    refine ga_getR (kI := 4) (r := 32) dX11_after_13 fX11_34 rfl rfl (by decide) rfl ?_
    refine ga_aload_n 0 dX11_after_16 rfl rfl ?_
    refine ga_getR (kI := 0) (r := 1) dX11_after_17 fX11_12 rfl rfl (by decide) rfl ?_
    refine ga_iload_n 2 dX11_after_20 rfl rfl ?_
    refine ga_bipush dX11_after_21 (by decide) ?_
    refine ga_callVi (z := mX8_follow) (As := [.ref (G.2.1 1), vI x2, vI 40]) (rest := []) dX11_after_23 wX11_119 qX11_after_X8_follow rfl ⟨_, rfl, rfl⟩ rfl rfl (Nat.le_of_ble_eq_true rfl) (gEi_mono h (fun v7 σ5 h r6 => ?_))
    replace h := h r6
    refine ga_pop dX11_after_26 rfl ?_
    refine ga_aload_n 0 dX11_after_27 rfl rfl ?_
    refine ga_getR (kI := 8) (r := 81) dX11_after_28 fX11_62 rfl rfl (by decide) rfl ?_
    refine ga_aload_n 0 dX11_after_31 rfl rfl ?_
    refine ga_getR (kI := 4) (r := 32) dX11_after_32 fX11_34 rfl rfl (by decide) rfl ?_
    refine ga_iload_n 3 dX11_after_35 rfl rfl ?_
    refine ga_callVi (z := mX5_tell) (As := [.ref (G.2.1 32), vI x3]) (rest := []) dX11_after_36 wX11_165 qX11_after_X5_tell rfl ⟨_, rfl, rfl⟩ rfl rfl (Nat.le_of_ble_eq_true rfl) (gEi_mono h (fun v10 σ8 h r9 => ?_))
    replace h := h r9
    exact ga_iret dX11_after_39 rfl r9 h
  · replace q4 : v3 = 0 := (Decidable.not_not.mp q4)
    have h := hf q4
    refine ga_bipush dX11_after_9 (by decide) ?_
    exact ga_iret dX11_after_11 rfl (by decide) h
abbrev eX11_fact (l : Launch) (G : gG) (x1 : Int) (x2 : Int) (x3 : Int) (σ : gS) (Q : Int → gS → Prop) : Prop := gEi l G mX11_fact [.ref (G.2.1 0), vI x1, vI x2, vI x3] σ Q
set_option maxRecDepth 100000 in
set_option maxHeartbeats 4000000 in
theorem vX11_fact {l : Launch} {G : gG} (x1 : Int) (x2 : Int) (x3 : Int) (rx1 : gR x1) (rx2 : gR x2) (rx3 : gR x3) (σ : gS) (Q : Int → gS → Prop) (h : eX11_tellLine l G 2 x1 x2 x3 3 σ (fun v3 σ1 => gR v3 →
  Q v3 σ1)) : eX11_fact l G x1 x2 x3 σ Q := by
  refine ga_entry rfl (Nat.le_of_ble_eq_true rfl) ?_
  show gAt l G mX11_fact (gQi G Q) 0 [(0, .ref (G.2.1 0)), (1, vI x1), (2, vI x2), (3, vI x3)] [] σ
  refine ga_aload_n 0 dX11_fact_0 rfl rfl ?_
  refine ga_iconst dX11_fact_1 ?_
  refine ga_iload_n 1 dX11_fact_2 rfl rfl ?_
  refine ga_iload_n 2 dX11_fact_3 rfl rfl ?_
  refine ga_iload_n 3 dX11_fact_4 rfl rfl ?_
  refine ga_iconst dX11_fact_5 ?_
  refine ga_callVi (z := mX11_tellLine) (As := [vI 2, vI x1, vI x2, vI x3, vI 3]) (rest := []) dX11_fact_6 wX11_112 qX11_fact_X11_tellLine rfl ⟨_, rfl, rfl⟩ rfl rfl (Nat.le_of_ble_eq_true rfl) (gEi_mono h (fun v3 σ1 h r2 => ?_))
  replace h := h r2
  exact ga_iret dX11_fact_9 rfl r2 h
abbrev eX11_fits (l : Launch) (G : gG) (x1 : Int) (x2 : Int) (x3 : Int) (x4 : Int) (σ : gS) (Q : Int → gS → Prop) : Prop := gEi l G mX11_fits [.ref (G.2.1 0), vI x1, vI x2, vI x3, vI x4] σ Q
abbrev kX11_fits_58 (l : Launch) (G : gG)  (x1 : Int) (x2 : Int) (x3 : Int) (x4 : Int) (x5 : Int) (σ : gS) (Q : Int → gS → Prop) : Prop := gAt l G mX11_fits (gQi G Q) 58 [(0, .ref (G.2.1 0)), (1, vI x1), (2, vI x2), (3, vI x3), (4, vI x4), (5, vI x5)] [] σ
abbrev kX11_fits_67 (l : Launch) (G : gG)  (x1 : Int) (x2 : Int) (x3 : Int) (x4 : Int) (x5 : Int) (x6 : Int) (σ : gS) (Q : Int → gS → Prop) : Prop := gAt l G mX11_fits (gQi G Q) 67 [(0, .ref (G.2.1 0)), (1, vI x1), (2, vI x2), (3, vI x3), (4, vI x4), (5, vI x5), (6, vI x6)] [] σ
set_option maxRecDepth 100000 in
set_option maxHeartbeats 4000000 in
theorem vX11_fits {l : Launch} {G : gG} (x1 : Int) (x2 : Int) (x3 : Int) (x4 : Int) (rx1 : gR x1) (rx2 : gR x2) (rx3 : gR x3) (rx4 : gR x4) (σ : gS) (Q : Int → gS → Prop) (h : eX10_has l G 0 x1 σ (fun v3 σ1 => (v3 = 0 ∨ v3 = 1) →
  (v3 = 0 → Q (-2) σ1) ∧
  (¬ v3 = 0 → eX10_has l G 1 x2 σ1 (fun v7 σ5 => (v7 = 0 ∨ v7 = 1) →
    (v7 = 0 → Q (-2) σ5) ∧
    (¬ v7 = 0 → eX10_has l G 2 x3 σ5 (fun v11 σ9 => (v11 = 0 ∨ v11 = 1) →
      (¬ v11 = 0 → eX10_bar l G x1 0 σ9 (fun v15 σ13 => gR v15 →
        eX1_begin l G v15 σ13 (fun σ16 =>
        kX11_fits_58 l G  x1 x2 x3 x4 1 σ16 Q))) ∧
      (v11 = 0 → Q (-2) σ9))))))) : eX11_fits l G x1 x2 x3 x4 σ Q := by
  refine ga_entry rfl (Nat.le_of_ble_eq_true rfl) ?_
  show gAt l G mX11_fits (gQi G Q) 0 [(0, .ref (G.2.1 0)), (1, vI x1), (2, vI x2), (3, vI x3), (4, vI x4)] [] σ
  refine ga_aload_n 0 dX11_fits_0 rfl rfl ?_
  refine ga_getR (kI := 0) (r := 1) dX11_fits_1 fX11_12 rfl rfl (by decide) rfl ?_
  refine ga_iconst dX11_fits_4 ?_
  refine ga_iload_n 1 dX11_fits_5 rfl rfl ?_
  refine ga_callVz (z := mX10_has) (As := [vI 0, vI x1]) (rest := []) dX11_fits_6 wX11_105 qX11_fits_X10_has rfl ⟨_, rfl, rfl⟩ rfl rfl (Nat.le_of_ble_eq_true rfl) (gEz_mono h (fun v3 σ1 h r2 => ?_))
  replace h := h r2
  obtain ⟨ht, hf⟩ := h
  refine ga_if_eq (tgt := 36) dX11_fits_9 (by decide) (gR_01 r2) (fun q4 => ?_) (fun q4 => ?_)
  · replace q4 : v3 = 0 := q4
    have h := ht q4
    refine ga_bipush dX11_fits_36 (by decide) ?_
    exact ga_iret dX11_fits_38 rfl (by decide) h
  · replace q4 : ¬ v3 = 0 := q4
    have h := hf q4
    refine ga_aload_n 0 dX11_fits_12 rfl rfl ?_
    refine ga_getR (kI := 0) (r := 1) dX11_fits_13 fX11_12 rfl rfl (by decide) rfl ?_
    refine ga_iconst dX11_fits_16 ?_
    refine ga_iload_n 2 dX11_fits_17 rfl rfl ?_
    refine ga_callVz (z := mX10_has) (As := [vI 1, vI x2]) (rest := []) dX11_fits_18 wX11_105 qX11_fits_X10_has rfl ⟨_, rfl, rfl⟩ rfl rfl (Nat.le_of_ble_eq_true rfl) (gEz_mono h (fun v7 σ5 h r6 => ?_))
    replace h := h r6
    obtain ⟨ht, hf⟩ := h
    refine ga_if_eq (tgt := 36) dX11_fits_21 (by decide) (gR_01 r6) (fun q8 => ?_) (fun q8 => ?_)
    · replace q8 : v7 = 0 := q8
      have h := ht q8
      refine ga_bipush dX11_fits_36 (by decide) ?_
      exact ga_iret dX11_fits_38 rfl (by decide) h
    · replace q8 : ¬ v7 = 0 := q8
      have h := hf q8
      refine ga_aload_n 0 dX11_fits_24 rfl rfl ?_
      refine ga_getR (kI := 0) (r := 1) dX11_fits_25 fX11_12 rfl rfl (by decide) rfl ?_
      refine ga_iconst dX11_fits_28 ?_
      refine ga_iload_n 3 dX11_fits_29 rfl rfl ?_
      refine ga_callVz (z := mX10_has) (As := [vI 2, vI x3]) (rest := []) dX11_fits_30 wX11_105 qX11_fits_X10_has rfl ⟨_, rfl, rfl⟩ rfl rfl (Nat.le_of_ble_eq_true rfl) (gEz_mono h (fun v11 σ9 h r10 => ?_))
      replace h := h r10
      obtain ⟨ht, hf⟩ := h
      refine ga_if_ne (tgt := 39) dX11_fits_33 (by decide) (gR_01 r10) (fun q12 => ?_) (fun q12 => ?_)
      · replace q12 : ¬ v11 = 0 := q12
        have h := ht q12
        refine ga_aload_n 0 dX11_fits_39 rfl rfl ?_
        refine ga_getR (kI := 9) (r := 84) dX11_fits_40 fX11_69 rfl rfl (by decide) rfl ?_
        refine ga_aload_n 0 dX11_fits_43 rfl rfl ?_
        refine ga_getR (kI := 0) (r := 1) dX11_fits_44 fX11_12 rfl rfl (by decide) rfl ?_
        refine ga_iload_n 1 dX11_fits_47 rfl rfl ?_
        refine ga_iconst dX11_fits_48 ?_
        refine ga_callVi (z := mX10_bar) (As := [vI x1, vI 0]) (rest := [.ref (G.2.1 84)]) dX11_fits_49 wX11_108 qX11_fits_X10_bar rfl ⟨_, rfl, rfl⟩ rfl rfl (Nat.le_of_ble_eq_true rfl) (gEi_mono h (fun v15 σ13 h r14 => ?_))
        replace h := h r14
        refine ga_callVv (z := mX1_begin) (As := [vI v15]) (rest := []) dX11_fits_52 wX11_166 qX11_fits_X1_begin rfl ⟨_, rfl, rfl⟩ rfl rfl (Nat.le_of_ble_eq_true rfl) (gEv_mono h (fun σ16 h => ?_))
        refine ga_iconst dX11_fits_55 ?_
        refine ga_istore (ls' := [(5, vI 1), (0, .ref (G.2.1 0)), (1, vI x1), (2, vI x2), (3, vI x3), (4, vI x4)]) dX11_fits_56 (by decide) rfl ?_
        exact ga_sub [1, 2, 3, 4, 5, 0] rfl h
      · replace q12 : v11 = 0 := (Decidable.not_not.mp q12)
        have h := hf q12
        refine ga_bipush dX11_fits_36 (by decide) ?_
        exact ga_iret dX11_fits_38 rfl (by decide) h
set_option maxRecDepth 100000 in
set_option maxHeartbeats 4000000 in
theorem vX11_fits_58 {l : Launch} {G : gG}  (x1 : Int) (x2 : Int) (x3 : Int) (x4 : Int) (x5 : Int) (rx1 : gR x1) (rx2 : gR x2) (rx3 : gR x3) (rx4 : gR x4) (rx5 : gR x5) (σ : gS) (Q : Int → gS → Prop) (h : (4 < x5 → eX1_tell l G x4 σ (fun v21 σ19 => gR v21 →
    Q v21 σ19)) ∧
  (x5 ≤ 4 → kX11_fits_67 l G  x1 x2 x3 x4 x5 0 σ Q)) : kX11_fits_58 l G  x1 x2 x3 x4 x5 σ Q := by
  refine ga_iload 5 dX11_fits_58 rfl ?_
  refine ga_iconst dX11_fits_60 ?_
  obtain ⟨ht, hf⟩ := h
  refine ga_icmp_gt (tgt := 149) dX11_fits_61 (by decide) rx5 (by decide) (fun q18 => ?_) (fun q18 => ?_)
  · replace q18 : 4 < x5 := q18
    have h := ht q18
    refine ga_aload_n 0 dX11_fits_149 rfl rfl ?_
    refine ga_getR (kI := 9) (r := 84) dX11_fits_150 fX11_69 rfl rfl (by decide) rfl ?_
    refine ga_iload 4 dX11_fits_153 rfl ?_
    refine ga_callVi (z := mX1_tell) (As := [vI x4]) (rest := []) dX11_fits_155 wX11_183 qX11_fits_X1_tell rfl ⟨_, rfl, rfl⟩ rfl rfl (Nat.le_of_ble_eq_true rfl) (gEi_mono h (fun v21 σ19 h r20 => ?_))
    replace h := h r20
    exact ga_iret dX11_fits_158 rfl r20 h
  · replace q18 : x5 ≤ 4 := (Int.not_lt.mp q18)
    have h := hf q18
    refine ga_iconst dX11_fits_64 ?_
    refine ga_istore (ls' := [(6, vI 0), (0, .ref (G.2.1 0)), (1, vI x1), (2, vI x2), (3, vI x3), (4, vI x4), (5, vI x5)]) dX11_fits_65 (by decide) rfl ?_
    exact ga_sub [1, 2, 3, 4, 5, 6, 0] rfl h
set_option maxRecDepth 100000 in
set_option maxHeartbeats 4000000 in
theorem vX11_fits_67 {l : Launch} {G : gG}  (x1 : Int) (x2 : Int) (x3 : Int) (x4 : Int) (x5 : Int) (x6 : Int) (rx1 : gR x1) (rx2 : gR x2) (rx3 : gR x3) (rx4 : gR x4) (rx5 : gR x5) (rx6 : gR x6) (σ : gS) (Q : Int → gS → Prop) (h : ((gI σ 84 0) ≤ x6 → kX11_fits_58 l G  x1 x2 x3 x4 (x5 + 1) σ Q) ∧
  (x6 < (gI σ 84 0) → eX8_begin_ l G x1 x5 x6 σ (fun σ24 =>
    eX8_follow l G x2 40 σ24 (fun v28 σ26 => gR v28 →
    eX1_keepIfSo l G x3 ((10 * x5) + x6) σ26 (fun σ29 =>
    kX11_fits_67 l G  x1 x2 x3 x4 x5 (x6 + 1) σ29 Q))))) : kX11_fits_67 l G  x1 x2 x3 x4 x5 x6 σ Q := by
  refine ga_iload 6 dX11_fits_67 rfl ?_
  refine ga_aload_n 0 dX11_fits_69 rfl rfl ?_
  refine ga_getR (kI := 9) (r := 84) dX11_fits_70 fX11_69 rfl rfl (by decide) rfl ?_
  refine ga_getI (kI := 0) dX11_fits_73 fX11_169 rfl rfl rfl (fun r22 => ?_)
  obtain ⟨ht, hf⟩ := h
  refine ga_icmp_ge (tgt := 143) dX11_fits_76 (by decide) rx6 r22 (fun q23 => ?_) (fun q23 => ?_)
  · replace q23 : (gI σ 84 0) ≤ x6 := q23
    have h := ht q23
    refine ga_iinc (ls' := [(5, vI (x5 + 1)), (0, .ref (G.2.1 0)), (1, vI x1), (2, vI x2), (3, vI x3), (4, vI x4), (6, vI x6)]) 5 dX11_fits_143 rfl (by decide) rfl ?_
    refine ga_goto (tgt := 58) dX11_fits_146 (by decide) ?_
    exact ga_sub [1, 2, 3, 4, 5, 0] rfl h
  · replace q23 : x6 < (gI σ 84 0) := (Int.not_le.mp q23)
    have h := hf q23
    refine ga_aload_n 0 dX11_fits_79 rfl rfl ?_
    refine ga_getR (kI := 4) (r := 32) dX11_fits_80 fX11_34 rfl rfl (by decide) rfl ?_
    refine ga_aload_n 0 dX11_fits_83 rfl rfl ?_
    refine ga_getR (kI := 0) (r := 1) dX11_fits_84 fX11_12 rfl rfl (by decide) rfl ?_
    refine ga_iload_n 1 dX11_fits_87 rfl rfl ?_
    refine ga_iload 5 dX11_fits_88 rfl ?_
    refine ga_iload 6 dX11_fits_90 rfl ?_
    refine ga_callVv (z := mX8_begin_) (As := [.ref (G.2.1 1), vI x1, vI x5, vI x6]) (rest := []) dX11_fits_92 wX11_172 qX11_fits_X8_begin_ rfl ⟨_, rfl, rfl⟩ rfl rfl (Nat.le_of_ble_eq_true rfl) (gEv_mono h (fun σ24 h => ?_))
    refine ga_aload_n 0 dX11_fits_95 rfl rfl ?_
    refine ga_getR (kI := 4) (r := 32) dX11_fits_96 fX11_34 rfl rfl (by decide) rfl ?_
    refine ga_aload_n 0 dX11_fits_99 rfl rfl ?_
    refine ga_getR (kI := 0) (r := 1) dX11_fits_100 fX11_12 rfl rfl (by decide) rfl ?_
    refine ga_iload_n 2 dX11_fits_103 rfl rfl ?_
    refine ga_bipush dX11_fits_104 (by decide) ?_
    refine ga_callVi (z := mX8_follow) (As := [.ref (G.2.1 1), vI x2, vI 40]) (rest := []) dX11_fits_106 wX11_119 qX11_fits_X8_follow rfl ⟨_, rfl, rfl⟩ rfl rfl (Nat.le_of_ble_eq_true rfl) (gEi_mono h (fun v28 σ26 h r27 => ?_))
    replace h := h r27
    refine ga_pop dX11_fits_109 rfl ?_
    refine ga_aload_n 0 dX11_fits_110 rfl rfl ?_
    refine ga_getR (kI := 9) (r := 84) dX11_fits_111 fX11_69 rfl rfl (by decide) rfl ?_
    refine ga_aload_n 0 dX11_fits_114 rfl rfl ?_
    refine ga_getR (kI := 0) (r := 1) dX11_fits_115 fX11_12 rfl rfl (by decide) rfl ?_
    refine ga_iload_n 3 dX11_fits_118 rfl rfl ?_
    refine ga_bipush dX11_fits_119 (by decide) ?_
    refine ga_iload 5 dX11_fits_121 rfl ?_
    refine ga_imul dX11_fits_123 ?_
    refine ga_iload 6 dX11_fits_124 rfl ?_
    refine ga_iadd dX11_fits_126 ?_
    refine ga_aload_n 0 dX11_fits_127 rfl rfl ?_
    refine ga_getR (kI := 4) (r := 32) dX11_fits_128 fX11_34 rfl rfl (by decide) rfl ?_
    refine ga_getR (kI := 1) (r := 41) dX11_fits_131 fX11_175 rfl rfl (by decide) rfl ?_
    refine ga_callVv (z := mX1_keepIfSo) (As := [.ref (G.2.1 1), vI x3, vI ((10 * x5) + x6), .ref (G.2.1 41)]) (rest := []) dX11_fits_134 wX11_179 qX11_fits_X1_keepIfSo rfl ⟨_, rfl, rfl⟩ rfl rfl (Nat.le_of_ble_eq_true rfl) (gEv_mono h (fun σ29 h => ?_))
    refine ga_iinc (ls' := [(6, vI (x6 + 1)), (0, .ref (G.2.1 0)), (1, vI x1), (2, vI x2), (3, vI x3), (4, vI x4), (5, vI x5)]) 6 dX11_fits_137 rfl (by decide) rfl ?_
    refine ga_goto (tgt := 67) dX11_fits_140 (by decide) ?_
    exact ga_sub [1, 2, 3, 4, 5, 6, 0] rfl h
abbrev eX11_drawn (l : Launch) (G : gG) (x1 : Int) (x2 : Int) (x3 : Int) (x4 : Int) (σ : gS) (Q : Int → gS → Prop) : Prop := gEi l G mX11_drawn [.ref (G.2.1 0), vI x1, vI x2, vI x3, vI x4] σ Q
set_option maxRecDepth 100000 in
set_option maxHeartbeats 4000000 in
theorem vX11_drawn {l : Launch} {G : gG} (x1 : Int) (x2 : Int) (x3 : Int) (x4 : Int) (rx1 : gR x1) (rx2 : gR x2) (rx3 : gR x3) (rx4 : gR x4) (σ : gS) (Q : Int → gS → Prop) (h : eX10_has l G 0 x1 σ (fun v3 σ1 => (v3 = 0 ∨ v3 = 1) →
  (v3 = 0 → Q (-2) σ1) ∧
  (¬ v3 = 0 → (x3 < 0 → Q (-2) σ1) ∧
    (0 ≤ x3 → (x3 ≤ 60 → eX8_begin l G x1 σ1 (fun σ7 =>
        eX8_draw l G x2 x3 σ7 (fun σ9 =>
        eX8_tell l G x4 σ9 (fun v13 σ11 => gR v13 →
        Q v13 σ11)))) ∧
      (60 < x3 → Q (-2) σ1))))) : eX11_drawn l G x1 x2 x3 x4 σ Q := by
  refine ga_entry rfl (Nat.le_of_ble_eq_true rfl) ?_
  show gAt l G mX11_drawn (gQi G Q) 0 [(0, .ref (G.2.1 0)), (1, vI x1), (2, vI x2), (3, vI x3), (4, vI x4)] [] σ
  refine ga_aload_n 0 dX11_drawn_0 rfl rfl ?_
  refine ga_getR (kI := 0) (r := 1) dX11_drawn_1 fX11_12 rfl rfl (by decide) rfl ?_
  refine ga_iconst dX11_drawn_4 ?_
  refine ga_iload_n 1 dX11_drawn_5 rfl rfl ?_
  refine ga_callVz (z := mX10_has) (As := [vI 0, vI x1]) (rest := []) dX11_drawn_6 wX11_105 qX11_drawn_X10_has rfl ⟨_, rfl, rfl⟩ rfl rfl (Nat.le_of_ble_eq_true rfl) (gEz_mono h (fun v3 σ1 h r2 => ?_))
  replace h := h r2
  obtain ⟨ht, hf⟩ := h
  refine ga_if_eq (tgt := 22) dX11_drawn_9 (by decide) (gR_01 r2) (fun q4 => ?_) (fun q4 => ?_)
  · replace q4 : v3 = 0 := q4
    have h := ht q4
    refine ga_bipush dX11_drawn_22 (by decide) ?_
    exact ga_iret dX11_drawn_24 rfl (by decide) h
  · replace q4 : ¬ v3 = 0 := q4
    have h := hf q4
    refine ga_iload_n 3 dX11_drawn_12 rfl rfl ?_
    obtain ⟨ht, hf⟩ := h
    refine ga_if_lt (tgt := 22) dX11_drawn_13 (by decide) rx3 (fun q5 => ?_) (fun q5 => ?_)
    · replace q5 : x3 < 0 := q5
      have h := ht q5
      refine ga_bipush dX11_drawn_22 (by decide) ?_
      exact ga_iret dX11_drawn_24 rfl (by decide) h
    · replace q5 : 0 ≤ x3 := (Int.not_lt.mp q5)
      have h := hf q5
      refine ga_iload_n 3 dX11_drawn_16 rfl rfl ?_
      refine ga_bipush dX11_drawn_17 (by decide) ?_
      obtain ⟨ht, hf⟩ := h
      refine ga_icmp_le (tgt := 25) dX11_drawn_19 (by decide) rx3 (by decide) (fun q6 => ?_) (fun q6 => ?_)
      · replace q6 : x3 ≤ 60 := q6
        have h := ht q6
        refine ga_aload_n 0 dX11_drawn_25 rfl rfl ?_
        refine ga_getR (kI := 4) (r := 32) dX11_drawn_26 fX11_34 rfl rfl (by decide) rfl ?_
        refine ga_aload_n 0 dX11_drawn_29 rfl rfl ?_
        refine ga_getR (kI := 0) (r := 1) dX11_drawn_30 fX11_12 rfl rfl (by decide) rfl ?_
        refine ga_iload_n 1 dX11_drawn_33 rfl rfl ?_
        refine ga_callVv (z := mX8_begin) (As := [.ref (G.2.1 1), vI x1]) (rest := []) dX11_drawn_34 wX11_184 qX11_drawn_X8_begin rfl ⟨_, rfl, rfl⟩ rfl rfl (Nat.le_of_ble_eq_true rfl) (gEv_mono h (fun σ7 h => ?_))
        refine ga_aload_n 0 dX11_drawn_37 rfl rfl ?_
        refine ga_getR (kI := 4) (r := 32) dX11_drawn_38 fX11_34 rfl rfl (by decide) rfl ?_
        refine ga_iload_n 2 dX11_drawn_41 rfl rfl ?_
        refine ga_iload_n 3 dX11_drawn_42 rfl rfl ?_
        refine ga_callVv (z := mX8_draw) (As := [vI x2, vI x3]) (rest := []) dX11_drawn_43 wX11_187 qX11_drawn_X8_draw rfl ⟨_, rfl, rfl⟩ rfl rfl (Nat.le_of_ble_eq_true rfl) (gEv_mono h (fun σ9 h => ?_))
        refine ga_aload_n 0 dX11_drawn_46 rfl rfl ?_
        refine ga_getR (kI := 4) (r := 32) dX11_drawn_47 fX11_34 rfl rfl (by decide) rfl ?_
        refine ga_iload 4 dX11_drawn_50 rfl ?_
        refine ga_callVi (z := mX8_tell) (As := [vI x4]) (rest := []) dX11_drawn_52 wX11_127 qX11_drawn_X8_tell rfl ⟨_, rfl, rfl⟩ rfl rfl (Nat.le_of_ble_eq_true rfl) (gEi_mono h (fun v13 σ11 h r12 => ?_))
        replace h := h r12
        exact ga_iret dX11_drawn_55 rfl r12 h
      · replace q6 : 60 < x3 := (Int.not_le.mp q6)
        have h := hf q6
        refine ga_bipush dX11_drawn_22 (by decide) ?_
        exact ga_iret dX11_drawn_24 rfl (by decide) h
abbrev eX11_count (l : Launch) (G : gG) (x1 : Int) (σ : gS) (Q : Int → gS → Prop) : Prop := gEi l G mX11_count [.ref (G.2.1 0), vI x1] σ Q
set_option maxRecDepth 100000 in
set_option maxHeartbeats 4000000 in
theorem vX11_count {l : Launch} {G : gG} (x1 : Int) (rx1 : gR x1) (σ : gS) (Q : Int → gS → Prop) (h : ((x1 < 0 → True) ∧
  (0 ≤ x1 → (x1 < 3 → (0 ≤ x1 ∧ x1 < 3) ∧ True) ∧
    (3 ≤ x1 → True))) ∧
  (∀ v6 : Int, v6 = (if x1 < 0 then (-2) else (if x1 < 3 then (gI σ 3 x1) else (-2))) →
  Q v6 σ)) : eX11_count l G x1 σ Q := by
  refine ga_entry rfl (Nat.le_of_ble_eq_true rfl) ?_
  show gAt l G mX11_count (gQi G Q) 0 [(0, .ref (G.2.1 0)), (1, vI x1)] [] σ
  refine ga_iload_n 1 dX11_count_0 rfl rfl ?_
  obtain ⟨hob, h⟩ := h
  have kJ1 : ∀ v6 : Int, gR v6 → v6 = (if x1 < 0 then (-2) else (if x1 < 3 then (gI σ 3 x1) else (-2))) → gAt l G mX11_count (gQi G Q) 23 [(0, .ref (G.2.1 0)), (1, vI x1)] [vI v6] σ := by
    intro v6 rv6 ev6
    replace h := h v6 ev6
    exact ga_iret dX11_count_23 rfl rv6 h
  replace h := hob
  obtain ⟨ht, hf⟩ := h
  refine ga_if_lt (tgt := 9) dX11_count_1 (by decide) rx1 (fun q2 => ?_) (fun q2 => ?_)
  · replace q2 : x1 < 0 := q2
    have h := ht q2
    refine ga_bipush dX11_count_9 (by decide) ?_
    refine ga_goto (tgt := 23) dX11_count_11 (by decide) ?_
    exact kJ1 (-2) (by decide) (by rw [if_pos q2])
  · replace q2 : 0 ≤ x1 := (Int.not_lt.mp q2)
    have h := hf q2
    refine ga_iload_n 1 dX11_count_4 rfl rfl ?_
    refine ga_iconst dX11_count_5 ?_
    obtain ⟨ht, hf⟩ := h
    refine ga_icmp_lt (tgt := 14) dX11_count_6 (by decide) rx1 (by decide) (fun q3 => ?_) (fun q3 => ?_)
    · replace q3 : x1 < 3 := q3
      have h := ht q3
      refine ga_aload_n 0 dX11_count_14 rfl rfl ?_
      refine ga_getR (kI := 0) (r := 1) dX11_count_15 fX11_12 rfl rfl (by decide) rfl ?_
      refine ga_getR (kI := 4) (r := 3) dX11_count_18 fX11_191 rfl rfl (by decide) rfl ?_
      refine ga_iload_n 1 dX11_count_21 rfl rfl ?_
      obtain ⟨i4, h⟩ := h
      refine ga_iald (nI := 3) dX11_count_22 rfl rfl i4 (fun r5 => ?_)
      exact kJ1 (gI σ 3 x1) r5 (by rw [if_neg (Int.not_lt.mpr q2), if_pos q3])
    · replace q3 : 3 ≤ x1 := (Int.not_lt.mp q3)
      have h := hf q3
      refine ga_bipush dX11_count_9 (by decide) ?_
      refine ga_goto (tgt := 23) dX11_count_11 (by decide) ?_
      exact kJ1 (-2) (by decide) (by rw [if_neg (Int.not_lt.mpr q2), if_neg (Int.not_lt.mpr q3)])
abbrev eX11_image (l : Launch) (G : gG) (x1 : Int) (σ : gS) (Q : Int → gS → Prop) : Prop := gEz l G mX11_image [.ref (G.2.1 0), vI x1] σ Q
set_option maxRecDepth 100000 in
set_option maxHeartbeats 4000000 in
theorem vX11_image {l : Launch} {G : gG} (x1 : Int) (rx1 : gR x1) (σ : gS) (Q : Int → gS → Prop) (h : (x1 < 0 → Q 0 σ) ∧
  (0 ≤ x1 → (x1 < 3 → (0 ≤ x1 ∧ x1 < 3) ∧ ∀ t4, gimg[(x1).toNat]? = some t4 →
      eX10_copy l G t4 1 σ (fun σ5 =>
      ∀ σ7, σ7 = sI σ5 26 x1 1 →
      Q 1 σ7)) ∧
    (3 ≤ x1 → Q 0 σ))) : eX11_image l G x1 σ Q := by
  refine ga_entry rfl (Nat.le_of_ble_eq_true rfl) ?_
  show gAt l G mX11_image (gQz G Q) 0 [(0, .ref (G.2.1 0)), (1, vI x1)] [] σ
  refine ga_iload_n 1 dX11_image_0 rfl rfl ?_
  obtain ⟨ht, hf⟩ := h
  refine ga_if_lt (tgt := 9) dX11_image_1 (by decide) rx1 (fun q1 => ?_) (fun q1 => ?_)
  · replace q1 : x1 < 0 := q1
    have h := ht q1
    refine ga_iconst dX11_image_9 ?_
    exact ga_bret dX11_image_10 rfl (Or.inl rfl) h
  · replace q1 : 0 ≤ x1 := (Int.not_lt.mp q1)
    have h := hf q1
    refine ga_iload_n 1 dX11_image_4 rfl rfl ?_
    refine ga_iconst dX11_image_5 ?_
    obtain ⟨ht, hf⟩ := h
    refine ga_icmp_lt (tgt := 11) dX11_image_6 (by decide) rx1 (by decide) (fun q2 => ?_) (fun q2 => ?_)
    · replace q2 : x1 < 3 := q2
      have h := ht q2
      refine ga_aload_n 0 dX11_image_11 rfl rfl ?_
      refine ga_getR (kI := 1) (r := 7) dX11_image_12 fX11_16 rfl rfl (by decide) rfl ?_
      refine ga_iload_n 1 dX11_image_15 rfl rfl ?_
      obtain ⟨i3, h⟩ := h
      refine ga_aald dX11_image_16 rfl i3 (fun t4 et4 => ?_)
      replace h := h t4 et4
      refine ga_aload_n 0 dX11_image_17 rfl rfl ?_
      refine ga_getR (kI := 0) (r := 1) dX11_image_18 fX11_12 rfl rfl (by decide) rfl ?_
      refine ga_callVv (z := mX10_copy) (As := [.ref (G.2.1 1)]) (rest := []) dX11_image_21 wX11_195 qX11_image_X10_copy (gimg_obj et4) ⟨_, rfl, rfl⟩ rfl rfl (Nat.le_of_ble_eq_true rfl) (gEv_mono h (fun σ5 h => ?_))
      refine ga_aload_n 0 dX11_image_24 rfl rfl ?_
      refine ga_getR (kI := 2) (r := 26) dX11_image_25 fX11_20 rfl rfl (by decide) rfl ?_
      refine ga_iload_n 1 dX11_image_28 rfl rfl ?_
      refine ga_iconst dX11_image_29 ?_
      obtain ⟨σ7, eσ7⟩ : ∃ z, z = sI σ5 26 x1 1 := ⟨_, rfl⟩
      replace h := h σ7 eσ7
      refine ga_zast (nI := 3) dX11_image_30 rfl rfl i3 (Or.inr rfl) eσ7 ?_
      refine ga_iconst dX11_image_31 ?_
      exact ga_bret dX11_image_32 rfl (Or.inr rfl) h
    · replace q2 : 3 ≤ x1 := (Int.not_lt.mp q2)
      have h := hf q2
      refine ga_iconst dX11_image_9 ?_
      exact ga_bret dX11_image_10 rfl (Or.inl rfl) h
abbrev eX11_again (l : Launch) (G : gG) (x1 : Int) (σ : gS) (Q : Int → gS → Prop) : Prop := gEz l G mX11_again [.ref (G.2.1 0), vI x1] σ Q
set_option maxRecDepth 100000 in
set_option maxHeartbeats 4000000 in
theorem vX11_again {l : Launch} {G : gG} (x1 : Int) (rx1 : gR x1) (σ : gS) (Q : Int → gS → Prop) (h : (x1 < 0 → Q 0 σ) ∧
  (0 ≤ x1 → (3 ≤ x1 → Q 0 σ) ∧
    (x1 < 3 → (0 ≤ x1 ∧ x1 < 3) ∧ (¬ (gI σ 26 x1) = 0 → ∀ t6, gimg[(x1).toNat]? = some t6 →
        eX10_copy l G 1 t6 σ (fun σ7 =>
        Q 1 σ7)) ∧
      ((gI σ 26 x1) = 0 → Q 0 σ)))) : eX11_again l G x1 σ Q := by
  refine ga_entry rfl (Nat.le_of_ble_eq_true rfl) ?_
  show gAt l G mX11_again (gQz G Q) 0 [(0, .ref (G.2.1 0)), (1, vI x1)] [] σ
  refine ga_iload_n 1 dX11_again_0 rfl rfl ?_
  obtain ⟨ht, hf⟩ := h
  refine ga_if_lt (tgt := 18) dX11_again_1 (by decide) rx1 (fun q1 => ?_) (fun q1 => ?_)
  · replace q1 : x1 < 0 := q1
    have h := ht q1
    refine ga_iconst dX11_again_18 ?_
    exact ga_bret dX11_again_19 rfl (Or.inl rfl) h
  · replace q1 : 0 ≤ x1 := (Int.not_lt.mp q1)
    have h := hf q1
    refine ga_iload_n 1 dX11_again_4 rfl rfl ?_
    refine ga_iconst dX11_again_5 ?_
    obtain ⟨ht, hf⟩ := h
    refine ga_icmp_ge (tgt := 18) dX11_again_6 (by decide) rx1 (by decide) (fun q2 => ?_) (fun q2 => ?_)
    · replace q2 : 3 ≤ x1 := q2
      have h := ht q2
      refine ga_iconst dX11_again_18 ?_
      exact ga_bret dX11_again_19 rfl (Or.inl rfl) h
    · replace q2 : x1 < 3 := (Int.not_le.mp q2)
      have h := hf q2
      refine ga_aload_n 0 dX11_again_9 rfl rfl ?_
      refine ga_getR (kI := 2) (r := 26) dX11_again_10 fX11_20 rfl rfl (by decide) rfl ?_
      refine ga_iload_n 1 dX11_again_13 rfl rfl ?_
      obtain ⟨i3, h⟩ := h
      refine ga_zald (nI := 3) dX11_again_14 rfl rfl i3 (fun r4 => ?_)
      obtain ⟨ht, hf⟩ := h
      refine ga_if_ne (tgt := 20) dX11_again_15 (by decide) r4 (fun q5 => ?_) (fun q5 => ?_)
      · replace q5 : ¬ (gI σ 26 x1) = 0 := q5
        have h := ht q5
        refine ga_aload_n 0 dX11_again_20 rfl rfl ?_
        refine ga_getR (kI := 0) (r := 1) dX11_again_21 fX11_12 rfl rfl (by decide) rfl ?_
        refine ga_aload_n 0 dX11_again_24 rfl rfl ?_
        refine ga_getR (kI := 1) (r := 7) dX11_again_25 fX11_16 rfl rfl (by decide) rfl ?_
        refine ga_iload_n 1 dX11_again_28 rfl rfl ?_
        refine ga_aald dX11_again_29 rfl i3 (fun t6 et6 => ?_)
        replace h := h t6 et6
        refine ga_callVv (z := mX10_copy) (As := [.ref (G.2.1 t6)]) (rest := []) dX11_again_30 wX11_195 qX11_again_X10_copy rfl ⟨_, rfl, rfl⟩ rfl rfl (Nat.le_of_ble_eq_true rfl) (gEv_mono h (fun σ7 h => ?_))
        refine ga_iconst dX11_again_33 ?_
        exact ga_bret dX11_again_34 rfl (Or.inr rfl) h
      · replace q5 : (gI σ 26 x1) = 0 := (Decidable.not_not.mp q5)
        have h := hf q5
        refine ga_iconst dX11_again_18 ?_
        exact ga_bret dX11_again_19 rfl (Or.inl rfl) h
abbrev eX12_isIn (l : Launch) (G : gG) (x0 : Int) (x1 : Int) (x2 : Int) (σ : gS) (Q : Int → gS → Prop) : Prop := gEz l G mX12_isIn [vI x0, vI x1, vI x2] σ Q
set_option maxRecDepth 100000 in
set_option maxHeartbeats 4000000 in
theorem vX12_isIn {l : Launch} {G : gG} (x0 : Int) (x1 : Int) (x2 : Int) (rx0 : gR x0) (rx1 : gR x1) (rx2 : gR x2) (σ : gS) (Q : Int → gS → Prop) (h : (∀ v4 : Int, v4 = (if x0 < x1 then 0 else (if x2 < x0 then 0 else 1)) →
  Q v4 σ)) : eX12_isIn l G x0 x1 x2 σ Q := by
  refine ga_entry rfl (Nat.le_of_ble_eq_true rfl) ?_
  show gAt l G mX12_isIn (gQz G Q) 0 [(0, vI x0), (1, vI x1), (2, vI x2)] [] σ
  refine ga_iload_n 0 dX12_isIn_0 rfl rfl ?_
  refine ga_iload_n 1 dX12_isIn_1 rfl rfl ?_
  have kJ1 : ∀ v4 : Int, gR v4 → (v4 = 0 ∨ v4 = 1) → v4 = (if x0 < x1 then 0 else (if x2 < x0 then 0 else 1)) → gAt l G mX12_isIn (gQz G Q) 15 [(0, vI x0), (1, vI x1), (2, vI x2)] [vI v4] σ := by
    intro v4 rv4 bv4 ev4
    replace h := h v4 ev4
    exact ga_bret dX12_isIn_15 rfl bv4 h
  replace h : (x0 < x1 → True) ∧
  (x1 ≤ x0 → (x2 < x0 → True) ∧
    (x0 ≤ x2 → True)) := by repeat (first | exact True.intro | apply And.intro | intro _)
  obtain ⟨ht, hf⟩ := h
  refine ga_icmp_lt (tgt := 14) dX12_isIn_2 (by decide) rx0 rx1 (fun q2 => ?_) (fun q2 => ?_)
  · replace q2 : x0 < x1 := q2
    have h := ht q2
    refine ga_iconst dX12_isIn_14 ?_
    exact kJ1 0 (by decide) (Or.inl rfl) (by rw [if_pos q2])
  · replace q2 : x1 ≤ x0 := (Int.not_lt.mp q2)
    have h := hf q2
    refine ga_iload_n 0 dX12_isIn_5 rfl rfl ?_
    refine ga_iload_n 2 dX12_isIn_6 rfl rfl ?_
    obtain ⟨ht, hf⟩ := h
    refine ga_icmp_gt (tgt := 14) dX12_isIn_7 (by decide) rx0 rx2 (fun q3 => ?_) (fun q3 => ?_)
    · replace q3 : x2 < x0 := q3
      have h := ht q3
      refine ga_iconst dX12_isIn_14 ?_
      exact kJ1 0 (by decide) (Or.inl rfl) (by rw [if_neg (Int.not_lt.mpr q2), if_pos q3])
    · replace q3 : x0 ≤ x2 := (Int.not_lt.mp q3)
      have h := hf q3
      refine ga_iconst dX12_isIn_10 ?_
      refine ga_goto (tgt := 15) dX12_isIn_11 (by decide) ?_
      exact kJ1 1 (by decide) (Or.inr rfl) (by rw [if_neg (Int.not_lt.mpr q2), if_neg (Int.not_lt.mpr q3)])
abbrev eX12_feed (l : Launch) (G : gG) (x1 : Int) (x2 : Int) (x3 : Int) (x4 : Int) (x5 : Int) (σ : gS) (Q : Int → gS → Prop) : Prop := gEi l G mX12_feed [.ref (G.2.1 88), vI x1, vI x2, vI x3, vI x4, vI x5] σ Q
abbrev kX12_feed_20 (l : Launch) (G : gG)  (x1 : Int) (x2 : Int) (x3 : Int) (x4 : Int) (x5 : Int) (x6 : Int) (σ : gS) (Q : Int → gS → Prop) : Prop := gAt l G mX12_feed (gQi G Q) 20 [(0, .ref (G.2.1 88)), (1, vI x1), (2, vI x2), (3, vI x3), (4, vI x4), (5, vI x5), (6, vI x6)] [] σ
set_option maxRecDepth 100000 in
set_option maxHeartbeats 4000000 in
theorem vX12_feed {l : Launch} {G : gG} (x1 : Int) (x2 : Int) (x3 : Int) (x4 : Int) (x5 : Int) (rx1 : gR x1) (rx2 : gR x2) (rx3 : gR x3) (rx4 : gR x4) (rx5 : gR x5) (σ : gS) (Q : Int → gS → Prop) (h : (gR ((gI σ 89 4) + 20)) ∧ (((gI σ 89 4) + 20) ≤ 600 → kX12_feed_20 l G  x1 x2 x3 x4 x5 0 σ Q) ∧
  (600 < ((gI σ 89 4) + 20) → Q (-1) σ)) : eX12_feed l G x1 x2 x3 x4 x5 σ Q := by
  refine ga_entry rfl (Nat.le_of_ble_eq_true rfl) ?_
  show gAt l G mX12_feed (gQi G Q) 0 [(0, .ref (G.2.1 88)), (1, vI x1), (2, vI x2), (3, vI x3), (4, vI x4), (5, vI x5)] [] σ
  refine ga_aload_n 0 dX12_feed_0 rfl rfl ?_
  refine ga_getR (kI := 0) (r := 89) dX12_feed_1 fX12_7 rfl rfl (by decide) rfl ?_
  refine ga_iconst dX12_feed_4 ?_
  refine ga_iald (nI := 3704) dX12_feed_5 rfl rfl (by decide) (fun r1 => ?_)
  refine ga_bipush dX12_feed_6 (by decide) ?_
  refine ga_iadd dX12_feed_8 ?_
  refine ga_sipush dX12_feed_9 (by decide) ?_
  obtain ⟨r2, h⟩ := h
  obtain ⟨ht, hf⟩ := h
  refine ga_icmp_le (tgt := 17) dX12_feed_12 (by decide) r2 (by decide) (fun q3 => ?_) (fun q3 => ?_)
  · replace q3 : ((gI σ 89 4) + 20) ≤ 600 := q3
    have h := ht q3
    refine ga_iconst dX12_feed_17 ?_
    refine ga_istore (ls' := [(6, vI 0), (0, .ref (G.2.1 88)), (1, vI x1), (2, vI x2), (3, vI x3), (4, vI x4), (5, vI x5)]) dX12_feed_18 (by decide) rfl ?_
    exact ga_sub [1, 2, 3, 4, 5, 6, 0] rfl h
  · replace q3 : 600 < ((gI σ 89 4) + 20) := (Int.not_le.mp q3)
    have h := hf q3
    refine ga_iconst dX12_feed_15 ?_
    exact ga_iret dX12_feed_16 rfl (by decide) h
set_option maxRecDepth 100000 in
set_option maxHeartbeats 4000000 in
theorem vX12_feed_20 {l : Launch} {G : gG}  (x1 : Int) (x2 : Int) (x3 : Int) (x4 : Int) (x5 : Int) (x6 : Int) (rx1 : gR x1) (rx2 : gR x2) (rx3 : gR x3) (rx4 : gR x4) (rx5 : gR x5) (rx6 : gR x6) (σ : gS) (Q : Int → gS → Prop) (h : (20 ≤ x6 → Q (gI σ 89 4) σ) ∧
  (x6 < 20 → (∀ v11 : Int, v11 = (if 4 ≤ x6 then (if 8 ≤ x6 then (if 12 ≤ x6 then (if 16 ≤ x6 then x5 else x4) else x3) else x2) else x1) →
    (0 ≤ (10 + (gI σ 89 4)) ∧ (10 + (gI σ 89 4)) < 3704) ∧ ∀ σ17, σ17 = sI σ 89 (10 + (gI σ 89 4)) (gand (gshr v11 (24 - (8 * (grem x6 4)))) 255) →
      (gR ((gI σ17 89 4) + 1)) ∧ ∀ σ19, σ19 = sI σ17 89 4 ((gI σ17 89 4) + 1) →
      kX12_feed_20 l G  x1 x2 x3 x4 x5 (x6 + 1) σ19 Q))) : kX12_feed_20 l G  x1 x2 x3 x4 x5 x6 σ Q := by
  refine ga_iload 6 dX12_feed_20 rfl ?_
  refine ga_bipush dX12_feed_22 (by decide) ?_
  obtain ⟨ht, hf⟩ := h
  refine ga_icmp_ge (tgt := 122) dX12_feed_24 (by decide) rx6 (by decide) (fun q4 => ?_) (fun q4 => ?_)
  · replace q4 : 20 ≤ x6 := q4
    have h := ht q4
    refine ga_aload_n 0 dX12_feed_122 rfl rfl ?_
    refine ga_getR (kI := 0) (r := 89) dX12_feed_123 fX12_7 rfl rfl (by decide) rfl ?_
    refine ga_iconst dX12_feed_126 ?_
    refine ga_iald (nI := 3704) dX12_feed_127 rfl rfl (by decide) (fun r5 => ?_)
    exact ga_iret dX12_feed_128 rfl r5 h
  · replace q4 : x6 < 20 := (Int.not_le.mp q4)
    have h := hf q4
    refine ga_iload 6 dX12_feed_27 rfl ?_
    refine ga_iconst dX12_feed_29 ?_
    have kJ6 : ∀ v11 : Int, gR v11 → v11 = (if 4 ≤ x6 then (if 8 ≤ x6 then (if 12 ≤ x6 then (if 16 ≤ x6 then x5 else x4) else x3) else x2) else x1) → gAt l G mX12_feed (gQi G Q) 73 [(0, .ref (G.2.1 88)), (1, vI x1), (2, vI x2), (3, vI x3), (4, vI x4), (5, vI x5), (6, vI x6)] [vI v11] σ := by
      intro v11 rv11 ev11
      replace h := h v11 ev11
      refine ga_istore (ls' := [(7, vI v11), (0, .ref (G.2.1 88)), (1, vI x1), (2, vI x2), (3, vI x3), (4, vI x4), (5, vI x5), (6, vI x6)]) dX12_feed_73 (by decide) rfl ?_
      refine ga_aload_n 1 dX12_feed_75 rfl rfl ?_
      refine ga_getR (kI := 0) (r := 89) dX12_feed_76 fX12_7 rfl rfl (by decide) rfl ?_
      refine ga_bipush dX12_feed_79 (by decide) ?_
      refine ga_aload_n 1 dX12_feed_81 rfl rfl ?_
      refine ga_getR (kI := 0) (r := 89) dX12_feed_82 fX12_7 rfl rfl (by decide) rfl ?_
      refine ga_iconst dX12_feed_85 ?_
      refine ga_iald (nI := 3704) dX12_feed_86 rfl rfl (by decide) (fun r12 => ?_)
      refine ga_iadd dX12_feed_87 ?_
      refine ga_iload 0 dX12_feed_88 rfl ?_
      refine ga_bipush dX12_feed_90 (by decide) ?_
      refine ga_bipush dX12_feed_92 (by decide) ?_
      refine ga_iload 7 dX12_feed_94 rfl ?_
      refine ga_iconst dX12_feed_96 ?_
      refine ga_irem dX12_feed_97 (by decide) (by decide) (fun r13 => ?_)
      refine ga_imul dX12_feed_98 ?_
      refine ga_isub dX12_feed_99 ?_
      refine ga_ishr dX12_feed_100 (fun r14 => ?_)
      refine ga_sipush dX12_feed_101 (by decide) ?_
      refine ga_iand dX12_feed_104 (fun r15 => ?_)
      obtain ⟨i16, h⟩ := h
      obtain ⟨σ17, eσ17⟩ : ∃ z, z = sI σ 89 (10 + (gI σ 89 4)) (gand (gshr v11 (24 - (8 * (grem x6 4)))) 255) := ⟨_, rfl⟩
      replace h := h σ17 eσ17
      refine ga_iast (nI := 3704) dX12_feed_105 rfl rfl i16 r15 eσ17 ?_
      refine ga_aload_n 1 dX12_feed_106 rfl rfl ?_
      refine ga_getR (kI := 0) (r := 89) dX12_feed_107 fX12_7 rfl rfl (by decide) rfl ?_
      refine ga_iconst dX12_feed_110 ?_
      refine ga_dup2 dX12_feed_111 rfl rfl ?_
      refine ga_iald (nI := 3704) dX12_feed_112 rfl rfl (by decide) (fun r18 => ?_)
      refine ga_iconst dX12_feed_113 ?_
      refine ga_iadd dX12_feed_114 ?_
      obtain ⟨r20, h⟩ := h
      obtain ⟨σ19, eσ19⟩ : ∃ z, z = sI σ17 89 4 ((gI σ17 89 4) + 1) := ⟨_, rfl⟩
      replace h := h σ19 eσ19
      refine ga_iast (nI := 3704) dX12_feed_115 rfl rfl (by decide) r20 eσ19 ?_
      refine ga_iinc (ls' := [(6, vI (x6 + 1)), (7, vI v11), (0, .ref (G.2.1 88)), (1, vI x1), (2, vI x2), (3, vI x3), (4, vI x4), (5, vI x5)]) 7 dX12_feed_116 rfl (by decide) rfl ?_
      refine ga_goto (tgt := 20) dX12_feed_119 (by decide) ?_
      exact ga_sub [2, 3, 4, 5, 6, 7, 0] rfl h
    replace h : (4 ≤ x6 → (8 ≤ x6 → (12 ≤ x6 → (16 ≤ x6 → True) ∧
          (x6 < 16 → True)) ∧
        (x6 < 12 → True)) ∧
      (x6 < 8 → True)) ∧
    (x6 < 4 → True) := by repeat (first | exact True.intro | apply And.intro | intro _)
    obtain ⟨ht, hf⟩ := h
    refine ga_icmp_ge (tgt := 37) dX12_feed_30 (by decide) rx6 (by decide) (fun q7 => ?_) (fun q7 => ?_)
    · replace q7 : 4 ≤ x6 := q7
      have h := ht q7
      refine ga_iload 6 dX12_feed_37 rfl ?_
      refine ga_bipush dX12_feed_39 (by decide) ?_
      obtain ⟨ht, hf⟩ := h
      refine ga_icmp_ge (tgt := 48) dX12_feed_41 (by decide) rx6 (by decide) (fun q8 => ?_) (fun q8 => ?_)
      · replace q8 : 8 ≤ x6 := q8
        have h := ht q8
        refine ga_iload 6 dX12_feed_48 rfl ?_
        refine ga_bipush dX12_feed_50 (by decide) ?_
        obtain ⟨ht, hf⟩ := h
        refine ga_icmp_ge (tgt := 59) dX12_feed_52 (by decide) rx6 (by decide) (fun q9 => ?_) (fun q9 => ?_)
        · replace q9 : 12 ≤ x6 := q9
          have h := ht q9
          refine ga_iload 6 dX12_feed_59 rfl ?_
          refine ga_bipush dX12_feed_61 (by decide) ?_
          obtain ⟨ht, hf⟩ := h
          refine ga_icmp_ge (tgt := 71) dX12_feed_63 (by decide) rx6 (by decide) (fun q10 => ?_) (fun q10 => ?_)
          · replace q10 : 16 ≤ x6 := q10
            have h := ht q10
            refine ga_iload 5 dX12_feed_71 rfl ?_
            exact kJ6 x5 rx5 (by rw [if_pos q7, if_pos q8, if_pos q9, if_pos q10])
          · replace q10 : x6 < 16 := (Int.not_le.mp q10)
            have h := hf q10
            refine ga_iload 4 dX12_feed_66 rfl ?_
            refine ga_goto (tgt := 73) dX12_feed_68 (by decide) ?_
            exact kJ6 x4 rx4 (by rw [if_pos q7, if_pos q8, if_pos q9, if_neg (Int.not_le.mpr q10)])
        · replace q9 : x6 < 12 := (Int.not_le.mp q9)
          have h := hf q9
          refine ga_iload_n 3 dX12_feed_55 rfl rfl ?_
          refine ga_goto (tgt := 73) dX12_feed_56 (by decide) ?_
          exact kJ6 x3 rx3 (by rw [if_pos q7, if_pos q8, if_neg (Int.not_le.mpr q9)])
      · replace q8 : x6 < 8 := (Int.not_le.mp q8)
        have h := hf q8
        refine ga_iload_n 2 dX12_feed_44 rfl rfl ?_
        refine ga_goto (tgt := 73) dX12_feed_45 (by decide) ?_
        exact kJ6 x2 rx2 (by rw [if_pos q7, if_neg (Int.not_le.mpr q8)])
    · replace q7 : x6 < 4 := (Int.not_le.mp q7)
      have h := hf q7
      refine ga_iload_n 1 dX12_feed_33 rfl rfl ?_
      refine ga_goto (tgt := 73) dX12_feed_34 (by decide) ?_
      exact kJ6 x1 rx1 (by rw [if_neg (Int.not_le.mpr q7)])
abbrev eX12_end (l : Launch) (G : gG) (x1 : Int) (σ : gS) (Q : Int → gS → Prop) : Prop := gEi l G mX12_end [.ref (G.2.1 88), vI x1] σ Q
set_option maxRecDepth 100000 in
set_option maxHeartbeats 4000000 in
theorem vX12_end {l : Launch} {G : gG} (x1 : Int) (rx1 : gR x1) (σ : gS) (Q : Int → gS → Prop) (h : (x1 < 0 → Q (-1) σ) ∧
  (0 ≤ x1 → (x1 ≤ (gI σ 89 4) → ∀ σ4, σ4 = sI σ 89 4 x1 →
      Q x1 σ4) ∧
    ((gI σ 89 4) < x1 → Q (-1) σ))) : eX12_end l G x1 σ Q := by
  refine ga_entry rfl (Nat.le_of_ble_eq_true rfl) ?_
  show gAt l G mX12_end (gQi G Q) 0 [(0, .ref (G.2.1 88)), (1, vI x1)] [] σ
  refine ga_iload_n 1 dX12_end_0 rfl rfl ?_
  obtain ⟨ht, hf⟩ := h
  refine ga_if_lt (tgt := 14) dX12_end_1 (by decide) rx1 (fun q1 => ?_) (fun q1 => ?_)
  · replace q1 : x1 < 0 := q1
    have h := ht q1
    refine ga_iconst dX12_end_14 ?_
    exact ga_iret dX12_end_15 rfl (by decide) h
  · replace q1 : 0 ≤ x1 := (Int.not_lt.mp q1)
    have h := hf q1
    refine ga_iload_n 1 dX12_end_4 rfl rfl ?_
    refine ga_aload_n 0 dX12_end_5 rfl rfl ?_
    refine ga_getR (kI := 0) (r := 89) dX12_end_6 fX12_7 rfl rfl (by decide) rfl ?_
    refine ga_iconst dX12_end_9 ?_
    refine ga_iald (nI := 3704) dX12_end_10 rfl rfl (by decide) (fun r2 => ?_)
    obtain ⟨ht, hf⟩ := h
    refine ga_icmp_le (tgt := 16) dX12_end_11 (by decide) rx1 r2 (fun q3 => ?_) (fun q3 => ?_)
    · replace q3 : x1 ≤ (gI σ 89 4) := q3
      have h := ht q3
      refine ga_aload_n 0 dX12_end_16 rfl rfl ?_
      refine ga_getR (kI := 0) (r := 89) dX12_end_17 fX12_7 rfl rfl (by decide) rfl ?_
      refine ga_iconst dX12_end_20 ?_
      refine ga_iload_n 1 dX12_end_21 rfl rfl ?_
      obtain ⟨σ4, eσ4⟩ : ∃ z, z = sI σ 89 4 x1 := ⟨_, rfl⟩
      replace h := h σ4 eσ4
      refine ga_iast (nI := 3704) dX12_end_22 rfl rfl (by decide) rx1 eσ4 ?_
      refine ga_iload_n 1 dX12_end_23 rfl rfl ?_
      exact ga_iret dX12_end_24 rfl rx1 h
    · replace q3 : (gI σ 89 4) < x1 := (Int.not_le.mp q3)
      have h := hf q3
      refine ga_iconst dX12_end_14 ?_
      exact ga_iret dX12_end_15 rfl (by decide) h
abbrev eX12_byteAt (l : Launch) (G : gG) (x1 : Int) (σ : gS) (Q : Int → gS → Prop) : Prop := gEi l G mX12_byteAt [.ref (G.2.1 88), vI x1] σ Q
set_option maxRecDepth 100000 in
set_option maxHeartbeats 4000000 in
theorem vX12_byteAt {l : Launch} {G : gG} (x1 : Int) (rx1 : gR x1) (σ : gS) (Q : Int → gS → Prop) (h : (((gI σ 88 2) ≤ x1 → True) ∧
  (x1 < (gI σ 88 2) → (0 ≤ (10 + x1) ∧ (10 + x1) < 3704) ∧ True)) ∧
  (∀ v6 : Int, v6 = (if (gI σ 88 2) ≤ x1 then (-1) else (gI σ 89 (10 + x1))) →
  Q v6 σ)) : eX12_byteAt l G x1 σ Q := by
  refine ga_entry rfl (Nat.le_of_ble_eq_true rfl) ?_
  show gAt l G mX12_byteAt (gQi G Q) 0 [(0, .ref (G.2.1 88)), (1, vI x1)] [] σ
  refine ga_iload_n 1 dX12_byteAt_0 rfl rfl ?_
  refine ga_aload_n 0 dX12_byteAt_1 rfl rfl ?_
  refine ga_getI (kI := 2) dX12_byteAt_2 fX12_141 rfl rfl rfl (fun r1 => ?_)
  obtain ⟨hob, h⟩ := h
  have kJ2 : ∀ v6 : Int, gR v6 → v6 = (if (gI σ 88 2) ≤ x1 then (-1) else (gI σ 89 (10 + x1))) → gAt l G mX12_byteAt (gQi G Q) 21 [(0, .ref (G.2.1 88)), (1, vI x1)] [vI v6] σ := by
    intro v6 rv6 ev6
    replace h := h v6 ev6
    exact ga_iret dX12_byteAt_21 rfl rv6 h
  replace h := hob
  obtain ⟨ht, hf⟩ := h
  refine ga_icmp_ge (tgt := 20) dX12_byteAt_5 (by decide) rx1 r1 (fun q3 => ?_) (fun q3 => ?_)
  · replace q3 : (gI σ 88 2) ≤ x1 := q3
    have h := ht q3
    refine ga_iconst dX12_byteAt_20 ?_
    exact kJ2 (-1) (by decide) (by rw [if_pos q3])
  · replace q3 : x1 < (gI σ 88 2) := (Int.not_le.mp q3)
    have h := hf q3
    refine ga_aload_n 0 dX12_byteAt_8 rfl rfl ?_
    refine ga_getR (kI := 0) (r := 89) dX12_byteAt_9 fX12_7 rfl rfl (by decide) rfl ?_
    refine ga_bipush dX12_byteAt_12 (by decide) ?_
    refine ga_iload_n 1 dX12_byteAt_14 rfl rfl ?_
    refine ga_iadd dX12_byteAt_15 ?_
    obtain ⟨i4, h⟩ := h
    refine ga_iald (nI := 3704) dX12_byteAt_16 rfl rfl i4 (fun r5 => ?_)
    refine ga_goto (tgt := 21) dX12_byteAt_17 (by decide) ?_
    exact kJ2 (gI σ 89 (10 + x1)) r5 (by rw [if_neg (Int.not_le.mpr q3)])
abbrev eX12_isLetter (l : Launch) (G : gG) (x0 : Int) (σ : gS) (Q : Int → gS → Prop) : Prop := gEz l G mX12_isLetter [vI x0] σ Q
set_option maxRecDepth 100000 in
set_option maxHeartbeats 4000000 in
theorem vX12_isLetter {l : Launch} {G : gG} (x0 : Int) (rx0 : gR x0) (σ : gS) (Q : Int → gS → Prop) (h : (∀ v4 : Int, v4 = (if x0 < 97 then 0 else (if 122 < x0 then 0 else 1)) →
  Q v4 σ)) : eX12_isLetter l G x0 σ Q := by
  refine ga_entry rfl (Nat.le_of_ble_eq_true rfl) ?_
  show gAt l G mX12_isLetter (gQz G Q) 0 [(0, vI x0)] [] σ
  refine ga_iload_n 0 dX12_isLetter_0 rfl rfl ?_
  refine ga_bipush dX12_isLetter_1 (by decide) ?_
  have kJ1 : ∀ v4 : Int, gR v4 → (v4 = 0 ∨ v4 = 1) → v4 = (if x0 < 97 then 0 else (if 122 < x0 then 0 else 1)) → gAt l G mX12_isLetter (gQz G Q) 17 [(0, vI x0)] [vI v4] σ := by
    intro v4 rv4 bv4 ev4
    replace h := h v4 ev4
    exact ga_bret dX12_isLetter_17 rfl bv4 h
  replace h : (x0 < 97 → True) ∧
  (97 ≤ x0 → (122 < x0 → True) ∧
    (x0 ≤ 122 → True)) := by repeat (first | exact True.intro | apply And.intro | intro _)
  obtain ⟨ht, hf⟩ := h
  refine ga_icmp_lt (tgt := 16) dX12_isLetter_3 (by decide) rx0 (by decide) (fun q2 => ?_) (fun q2 => ?_)
  · replace q2 : x0 < 97 := q2
    have h := ht q2
    refine ga_iconst dX12_isLetter_16 ?_
    exact kJ1 0 (by decide) (Or.inl rfl) (by rw [if_pos q2])
  · replace q2 : 97 ≤ x0 := (Int.not_lt.mp q2)
    have h := hf q2
    refine ga_iload_n 0 dX12_isLetter_6 rfl rfl ?_
    refine ga_bipush dX12_isLetter_7 (by decide) ?_
    obtain ⟨ht, hf⟩ := h
    refine ga_icmp_gt (tgt := 16) dX12_isLetter_9 (by decide) rx0 (by decide) (fun q3 => ?_) (fun q3 => ?_)
    · replace q3 : 122 < x0 := q3
      have h := ht q3
      refine ga_iconst dX12_isLetter_16 ?_
      exact kJ1 0 (by decide) (Or.inl rfl) (by rw [if_neg (Int.not_lt.mpr q2), if_pos q3])
    · replace q3 : x0 ≤ 122 := (Int.not_lt.mp q3)
      have h := hf q3
      refine ga_iconst dX12_isLetter_12 ?_
      refine ga_goto (tgt := 17) dX12_isLetter_13 (by decide) ?_
      exact kJ1 1 (by decide) (Or.inr rfl) (by rw [if_neg (Int.not_lt.mpr q2), if_neg (Int.not_lt.mpr q3)])
abbrev eX12_isDigit (l : Launch) (G : gG) (x0 : Int) (σ : gS) (Q : Int → gS → Prop) : Prop := gEz l G mX12_isDigit [vI x0] σ Q
set_option maxRecDepth 100000 in
set_option maxHeartbeats 4000000 in
theorem vX12_isDigit {l : Launch} {G : gG} (x0 : Int) (rx0 : gR x0) (σ : gS) (Q : Int → gS → Prop) (h : (∀ v4 : Int, v4 = (if x0 < 48 then 0 else (if 57 < x0 then 0 else 1)) →
  Q v4 σ)) : eX12_isDigit l G x0 σ Q := by
  refine ga_entry rfl (Nat.le_of_ble_eq_true rfl) ?_
  show gAt l G mX12_isDigit (gQz G Q) 0 [(0, vI x0)] [] σ
  refine ga_iload_n 0 dX12_isDigit_0 rfl rfl ?_
  refine ga_bipush dX12_isDigit_1 (by decide) ?_
  have kJ1 : ∀ v4 : Int, gR v4 → (v4 = 0 ∨ v4 = 1) → v4 = (if x0 < 48 then 0 else (if 57 < x0 then 0 else 1)) → gAt l G mX12_isDigit (gQz G Q) 17 [(0, vI x0)] [vI v4] σ := by
    intro v4 rv4 bv4 ev4
    replace h := h v4 ev4
    exact ga_bret dX12_isDigit_17 rfl bv4 h
  replace h : (x0 < 48 → True) ∧
  (48 ≤ x0 → (57 < x0 → True) ∧
    (x0 ≤ 57 → True)) := by repeat (first | exact True.intro | apply And.intro | intro _)
  obtain ⟨ht, hf⟩ := h
  refine ga_icmp_lt (tgt := 16) dX12_isDigit_3 (by decide) rx0 (by decide) (fun q2 => ?_) (fun q2 => ?_)
  · replace q2 : x0 < 48 := q2
    have h := ht q2
    refine ga_iconst dX12_isDigit_16 ?_
    exact kJ1 0 (by decide) (Or.inl rfl) (by rw [if_pos q2])
  · replace q2 : 48 ≤ x0 := (Int.not_lt.mp q2)
    have h := hf q2
    refine ga_iload_n 0 dX12_isDigit_6 rfl rfl ?_
    refine ga_bipush dX12_isDigit_7 (by decide) ?_
    obtain ⟨ht, hf⟩ := h
    refine ga_icmp_gt (tgt := 16) dX12_isDigit_9 (by decide) rx0 (by decide) (fun q3 => ?_) (fun q3 => ?_)
    · replace q3 : 57 < x0 := q3
      have h := ht q3
      refine ga_iconst dX12_isDigit_16 ?_
      exact kJ1 0 (by decide) (Or.inl rfl) (by rw [if_neg (Int.not_lt.mpr q2), if_pos q3])
    · replace q3 : x0 ≤ 57 := (Int.not_lt.mp q3)
      have h := hf q3
      refine ga_iconst dX12_isDigit_12 ?_
      refine ga_goto (tgt := 17) dX12_isDigit_13 (by decide) ?_
      exact kJ1 1 (by decide) (Or.inr rfl) (by rw [if_neg (Int.not_lt.mpr q2), if_neg (Int.not_lt.mpr q3)])
abbrev eX12_four (l : Launch) (G : gG) (x0 : Int) (x1 : Int) (x2 : Int) (x3 : Int) (σ : gS) (Q : Int → gS → Prop) : Prop := gEl l G mX12_four [vI x0, vI x1, vI x2, vI x3] σ Q
set_option maxRecDepth 100000 in
set_option maxHeartbeats 4000000 in
theorem vX12_four {l : Launch} {G : gG} (x0 : Int) (x1 : Int) (x2 : Int) (x3 : Int) (rx0 : gR x0) (rx1 : gR x1) (rx2 : gR x2) (rx3 : gR x3) (σ : gS) (Q : Int → gS → Prop) (h : (gR ((((((x0 * 32) + x1) * 32) + x2) * 32) + x3)) ∧ Q ((((((x0 * 32) + x1) * 32) + x2) * 32) + x3) σ) : eX12_four l G x0 x1 x2 x3 σ Q := by
  refine ga_entry rfl (Nat.le_of_ble_eq_true rfl) ?_
  show gAt l G mX12_four (gQl G Q) 0 [(0, vI x0), (1, vI x1), (2, vI x2), (3, vI x3)] [] σ
  refine ga_iload_n 0 dX12_four_0 rfl rfl ?_
  refine ga_bipush dX12_four_1 (by decide) ?_
  refine ga_imul dX12_four_3 ?_
  refine ga_iload_n 1 dX12_four_4 rfl rfl ?_
  refine ga_iadd dX12_four_5 ?_
  refine ga_bipush dX12_four_6 (by decide) ?_
  refine ga_imul dX12_four_8 ?_
  refine ga_iload_n 2 dX12_four_9 rfl rfl ?_
  refine ga_iadd dX12_four_10 ?_
  refine ga_bipush dX12_four_11 (by decide) ?_
  refine ga_imul dX12_four_13 ?_
  refine ga_iload_n 3 dX12_four_14 rfl rfl ?_
  refine ga_iadd dX12_four_15 ?_
  obtain ⟨r1, h⟩ := h
  refine ga_i2l dX12_four_16 r1 ?_
  exact ga_lret dX12_four_17 rfl (show gRl ((((((x0 * 32) + x1) * 32) + x2) * 32) + x3) from ⟨by have := (r1).1; omega, by have := (r1).2; omega⟩) h
abbrev eX12_eight (l : Launch) (G : gG) (x0 : Int) (x1 : Int) (x2 : Int) (x3 : Int) (x4 : Int) (x5 : Int) (x6 : Int) (x7 : Int) (σ : gS) (Q : Int → gS → Prop) : Prop := gEl l G mX12_eight [vI x0, vI x1, vI x2, vI x3, vI x4, vI x5, vI x6, vI x7] σ Q
set_option maxRecDepth 100000 in
set_option maxHeartbeats 4000000 in
theorem vX12_eight {l : Launch} {G : gG} (x0 : Int) (x1 : Int) (x2 : Int) (x3 : Int) (x4 : Int) (x5 : Int) (x6 : Int) (x7 : Int) (rx0 : gR x0) (rx1 : gR x1) (rx2 : gR x2) (rx3 : gR x3) (rx4 : gR x4) (rx5 : gR x5) (rx6 : gR x6) (rx7 : gR x7) (σ : gS) (Q : Int → gS → Prop) (h : eX12_four l G x0 x1 x2 x3 σ (fun v3 σ1 => gRl v3 →
  eX12_four l G x4 x5 x6 x7 σ1 (fun v6 σ4 => gRl v6 →
  (gRl ((v3 * 1048576) + v6)) ∧ Q ((v3 * 1048576) + v6) σ4))) : eX12_eight l G x0 x1 x2 x3 x4 x5 x6 x7 σ Q := by
  refine ga_entry rfl (Nat.le_of_ble_eq_true rfl) ?_
  show gAt l G mX12_eight (gQl G Q) 0 [(0, vI x0), (1, vI x1), (2, vI x2), (3, vI x3), (4, vI x4), (5, vI x5), (6, vI x6), (7, vI x7)] [] σ
  refine ga_iload_n 0 dX12_eight_0 rfl rfl ?_
  refine ga_iload_n 1 dX12_eight_1 rfl rfl ?_
  refine ga_iload_n 2 dX12_eight_2 rfl rfl ?_
  refine ga_iload_n 3 dX12_eight_3 rfl rfl ?_
  refine ga_callSl (z := mX12_four) (As := [vI x0, vI x1, vI x2, vI x3]) (rest := []) dX12_eight_4 wX12_145 qX12_eight_X12_four rfl rfl (Nat.le_of_ble_eq_true rfl) (gEl_mono h (fun v3 σ1 h r2 => ?_))
  replace h := h r2
  refine ga_ldc2 (n := 1048576) dX12_eight_7 wX12_149 (by decide) ?_
  refine ga_lmul dX12_eight_10 ?_
  refine ga_iload 4 dX12_eight_11 rfl ?_
  refine ga_iload 5 dX12_eight_13 rfl ?_
  refine ga_iload 6 dX12_eight_15 rfl ?_
  refine ga_iload 7 dX12_eight_17 rfl ?_
  refine ga_callSl (z := mX12_four) (As := [vI x4, vI x5, vI x6, vI x7]) (rest := [vL (v3 * 1048576)]) dX12_eight_19 wX12_145 qX12_eight_X12_four rfl rfl (Nat.le_of_ble_eq_true rfl) (gEl_mono h (fun v6 σ4 h r5 => ?_))
  replace h := h r5
  refine ga_ladd dX12_eight_22 ?_
  obtain ⟨r7, h⟩ := h
  exact ga_lret dX12_eight_23 rfl r7 h
abbrev eX12_wordOf (l : Launch) (G : gG) (x0 : Int) (σ : gS) (Q : Int → gS → Prop) : Prop := gEi l G mX12_wordOf [vL x0] σ Q
set_option maxRecDepth 100000 in
set_option maxHeartbeats 4000000 in
theorem vX12_wordOf {l : Launch} {G : gG} (x0 : Int) (rx0 : gRl x0) (σ : gS) (Q : Int → gS → Prop) (h : eX12_eight l G 0 0 0 16 15 18 20 19 σ (fun v3 σ1 => gRl v3 →
  (¬ (glcmp x0 v3) = 0 → eX12_eight l G 0 0 18 15 21 14 4 19 σ1 (fun v8 σ6 => gRl v8 →
    (¬ (glcmp x0 v8) = 0 → eX12_eight l G 0 0 0 4 5 16 20 8 σ6 (fun v13 σ11 => gRl v13 →
      (¬ (glcmp x0 v13) = 0 → eX12_eight l G 0 16 15 9 14 20 5 18 σ11 (fun v18 σ16 => gRl v18 →
        (¬ (glcmp x0 v18) = 0 → eX12_four l G 19 12 15 20 σ16 (fun v23 σ21 => gRl v23 →
          (¬ (glcmp x0 v23) = 0 → eX12_four l G 9 4 12 5 σ21 (fun v28 σ26 => gRl v28 →
            (¬ (glcmp x0 v28) = 0 → eX12_four l G 3 5 12 12 σ26 (fun v33 σ31 => gRl v33 →
              (¬ (glcmp x0 v33) = 0 → eX12_four l G 0 6 1 14 σ31 (fun v38 σ36 => gRl v38 →
                (¬ (glcmp x0 v38) = 0 → eX12_eight l G 0 0 0 2 21 18 19 20 σ36 (fun v43 σ41 => gRl v43 →
                  (¬ (glcmp x0 v43) = 0 → eX12_eight l G 0 0 0 13 1 20 3 8 σ41 (fun v48 σ46 => gRl v48 →
                    (¬ (glcmp x0 v48) = 0 → eX12_eight l G 0 0 0 1 16 1 18 20 σ46 (fun v53 σ51 => gRl v53 →
                      (∀ v57 : Int, v57 = (if (glcmp x0 v53) = 0 then 11 else 99) →
                      Q v57 σ51))) ∧
                    ((glcmp x0 v48) = 0 → Q 10 σ46))) ∧
                  ((glcmp x0 v43) = 0 → Q 9 σ41))) ∧
                ((glcmp x0 v38) = 0 → Q 8 σ36))) ∧
              ((glcmp x0 v33) = 0 → Q 7 σ31))) ∧
            ((glcmp x0 v28) = 0 → Q 6 σ26))) ∧
          ((glcmp x0 v23) = 0 → Q 5 σ21))) ∧
        ((glcmp x0 v18) = 0 → Q 4 σ16))) ∧
      ((glcmp x0 v13) = 0 → Q 3 σ11))) ∧
    ((glcmp x0 v8) = 0 → Q 2 σ6))) ∧
  ((glcmp x0 v3) = 0 → Q 1 σ1))) : eX12_wordOf l G x0 σ Q := by
  refine ga_entry rfl (Nat.le_of_ble_eq_true rfl) ?_
  show gAt l G mX12_wordOf (gQi G Q) 0 [(0, vL x0)] [] σ
  refine ga_lload_n 0 dX12_wordOf_0 rfl rfl ?_
  refine ga_iconst dX12_wordOf_1 ?_
  refine ga_iconst dX12_wordOf_2 ?_
  refine ga_iconst dX12_wordOf_3 ?_
  refine ga_bipush dX12_wordOf_4 (by decide) ?_
  refine ga_bipush dX12_wordOf_6 (by decide) ?_
  refine ga_bipush dX12_wordOf_8 (by decide) ?_
  refine ga_bipush dX12_wordOf_10 (by decide) ?_
  refine ga_bipush dX12_wordOf_12 (by decide) ?_
  refine ga_callSl (z := mX12_eight) (As := [vI 0, vI 0, vI 0, vI 16, vI 15, vI 18, vI 20, vI 19]) (rest := [vL x0]) dX12_wordOf_14 wX12_151 qX12_wordOf_X12_eight rfl rfl (Nat.le_of_ble_eq_true rfl) (gEl_mono h (fun v3 σ1 h r2 => ?_))
  replace h := h r2
  refine ga_lcmp dX12_wordOf_17 (fun r4 => ?_)
  obtain ⟨ht, hf⟩ := h
  refine ga_if_ne (tgt := 23) dX12_wordOf_18 (by decide) r4 (fun q5 => ?_) (fun q5 => ?_)
  · replace q5 : ¬ (glcmp x0 v3) = 0 := q5
    have h := ht q5
    refine ga_lload_n 0 dX12_wordOf_23 rfl rfl ?_
    refine ga_iconst dX12_wordOf_24 ?_
    refine ga_iconst dX12_wordOf_25 ?_
    refine ga_bipush dX12_wordOf_26 (by decide) ?_
    refine ga_bipush dX12_wordOf_28 (by decide) ?_
    refine ga_bipush dX12_wordOf_30 (by decide) ?_
    refine ga_bipush dX12_wordOf_32 (by decide) ?_
    refine ga_iconst dX12_wordOf_34 ?_
    refine ga_bipush dX12_wordOf_35 (by decide) ?_
    refine ga_callSl (z := mX12_eight) (As := [vI 0, vI 0, vI 18, vI 15, vI 21, vI 14, vI 4, vI 19]) (rest := [vL x0]) dX12_wordOf_37 wX12_151 qX12_wordOf_X12_eight rfl rfl (Nat.le_of_ble_eq_true rfl) (gEl_mono h (fun v8 σ6 h r7 => ?_))
    replace h := h r7
    refine ga_lcmp dX12_wordOf_40 (fun r9 => ?_)
    obtain ⟨ht, hf⟩ := h
    refine ga_if_ne (tgt := 46) dX12_wordOf_41 (by decide) r9 (fun q10 => ?_) (fun q10 => ?_)
    · replace q10 : ¬ (glcmp x0 v8) = 0 := q10
      have h := ht q10
      refine ga_lload_n 0 dX12_wordOf_46 rfl rfl ?_
      refine ga_iconst dX12_wordOf_47 ?_
      refine ga_iconst dX12_wordOf_48 ?_
      refine ga_iconst dX12_wordOf_49 ?_
      refine ga_iconst dX12_wordOf_50 ?_
      refine ga_iconst dX12_wordOf_51 ?_
      refine ga_bipush dX12_wordOf_52 (by decide) ?_
      refine ga_bipush dX12_wordOf_54 (by decide) ?_
      refine ga_bipush dX12_wordOf_56 (by decide) ?_
      refine ga_callSl (z := mX12_eight) (As := [vI 0, vI 0, vI 0, vI 4, vI 5, vI 16, vI 20, vI 8]) (rest := [vL x0]) dX12_wordOf_58 wX12_151 qX12_wordOf_X12_eight rfl rfl (Nat.le_of_ble_eq_true rfl) (gEl_mono h (fun v13 σ11 h r12 => ?_))
      replace h := h r12
      refine ga_lcmp dX12_wordOf_61 (fun r14 => ?_)
      obtain ⟨ht, hf⟩ := h
      refine ga_if_ne (tgt := 67) dX12_wordOf_62 (by decide) r14 (fun q15 => ?_) (fun q15 => ?_)
      · replace q15 : ¬ (glcmp x0 v13) = 0 := q15
        have h := ht q15
        refine ga_lload_n 0 dX12_wordOf_67 rfl rfl ?_
        refine ga_iconst dX12_wordOf_68 ?_
        refine ga_bipush dX12_wordOf_69 (by decide) ?_
        refine ga_bipush dX12_wordOf_71 (by decide) ?_
        refine ga_bipush dX12_wordOf_73 (by decide) ?_
        refine ga_bipush dX12_wordOf_75 (by decide) ?_
        refine ga_bipush dX12_wordOf_77 (by decide) ?_
        refine ga_iconst dX12_wordOf_79 ?_
        refine ga_bipush dX12_wordOf_80 (by decide) ?_
        refine ga_callSl (z := mX12_eight) (As := [vI 0, vI 16, vI 15, vI 9, vI 14, vI 20, vI 5, vI 18]) (rest := [vL x0]) dX12_wordOf_82 wX12_151 qX12_wordOf_X12_eight rfl rfl (Nat.le_of_ble_eq_true rfl) (gEl_mono h (fun v18 σ16 h r17 => ?_))
        replace h := h r17
        refine ga_lcmp dX12_wordOf_85 (fun r19 => ?_)
        obtain ⟨ht, hf⟩ := h
        refine ga_if_ne (tgt := 91) dX12_wordOf_86 (by decide) r19 (fun q20 => ?_) (fun q20 => ?_)
        · replace q20 : ¬ (glcmp x0 v18) = 0 := q20
          have h := ht q20
          refine ga_lload_n 0 dX12_wordOf_91 rfl rfl ?_
          refine ga_bipush dX12_wordOf_92 (by decide) ?_
          refine ga_bipush dX12_wordOf_94 (by decide) ?_
          refine ga_bipush dX12_wordOf_96 (by decide) ?_
          refine ga_bipush dX12_wordOf_98 (by decide) ?_
          refine ga_callSl (z := mX12_four) (As := [vI 19, vI 12, vI 15, vI 20]) (rest := [vL x0]) dX12_wordOf_100 wX12_145 qX12_wordOf_X12_four rfl rfl (Nat.le_of_ble_eq_true rfl) (gEl_mono h (fun v23 σ21 h r22 => ?_))
          replace h := h r22
          refine ga_lcmp dX12_wordOf_103 (fun r24 => ?_)
          obtain ⟨ht, hf⟩ := h
          refine ga_if_ne (tgt := 109) dX12_wordOf_104 (by decide) r24 (fun q25 => ?_) (fun q25 => ?_)
          · replace q25 : ¬ (glcmp x0 v23) = 0 := q25
            have h := ht q25
            refine ga_lload_n 0 dX12_wordOf_109 rfl rfl ?_
            refine ga_bipush dX12_wordOf_110 (by decide) ?_
            refine ga_iconst dX12_wordOf_112 ?_
            refine ga_bipush dX12_wordOf_113 (by decide) ?_
            refine ga_iconst dX12_wordOf_115 ?_
            refine ga_callSl (z := mX12_four) (As := [vI 9, vI 4, vI 12, vI 5]) (rest := [vL x0]) dX12_wordOf_116 wX12_145 qX12_wordOf_X12_four rfl rfl (Nat.le_of_ble_eq_true rfl) (gEl_mono h (fun v28 σ26 h r27 => ?_))
            replace h := h r27
            refine ga_lcmp dX12_wordOf_119 (fun r29 => ?_)
            obtain ⟨ht, hf⟩ := h
            refine ga_if_ne (tgt := 126) dX12_wordOf_120 (by decide) r29 (fun q30 => ?_) (fun q30 => ?_)
            · replace q30 : ¬ (glcmp x0 v28) = 0 := q30
              have h := ht q30
              refine ga_lload_n 0 dX12_wordOf_126 rfl rfl ?_
              refine ga_iconst dX12_wordOf_127 ?_
              refine ga_iconst dX12_wordOf_128 ?_
              refine ga_bipush dX12_wordOf_129 (by decide) ?_
              refine ga_bipush dX12_wordOf_131 (by decide) ?_
              refine ga_callSl (z := mX12_four) (As := [vI 3, vI 5, vI 12, vI 12]) (rest := [vL x0]) dX12_wordOf_133 wX12_145 qX12_wordOf_X12_four rfl rfl (Nat.le_of_ble_eq_true rfl) (gEl_mono h (fun v33 σ31 h r32 => ?_))
              replace h := h r32
              refine ga_lcmp dX12_wordOf_136 (fun r34 => ?_)
              obtain ⟨ht, hf⟩ := h
              refine ga_if_ne (tgt := 143) dX12_wordOf_137 (by decide) r34 (fun q35 => ?_) (fun q35 => ?_)
              · replace q35 : ¬ (glcmp x0 v33) = 0 := q35
                have h := ht q35
                refine ga_lload_n 0 dX12_wordOf_143 rfl rfl ?_
                refine ga_iconst dX12_wordOf_144 ?_
                refine ga_bipush dX12_wordOf_145 (by decide) ?_
                refine ga_iconst dX12_wordOf_147 ?_
                refine ga_bipush dX12_wordOf_148 (by decide) ?_
                refine ga_callSl (z := mX12_four) (As := [vI 0, vI 6, vI 1, vI 14]) (rest := [vL x0]) dX12_wordOf_150 wX12_145 qX12_wordOf_X12_four rfl rfl (Nat.le_of_ble_eq_true rfl) (gEl_mono h (fun v38 σ36 h r37 => ?_))
                replace h := h r37
                refine ga_lcmp dX12_wordOf_153 (fun r39 => ?_)
                obtain ⟨ht, hf⟩ := h
                refine ga_if_ne (tgt := 160) dX12_wordOf_154 (by decide) r39 (fun q40 => ?_) (fun q40 => ?_)
                · replace q40 : ¬ (glcmp x0 v38) = 0 := q40
                  have h := ht q40
                  refine ga_lload_n 0 dX12_wordOf_160 rfl rfl ?_
                  refine ga_iconst dX12_wordOf_161 ?_
                  refine ga_iconst dX12_wordOf_162 ?_
                  refine ga_iconst dX12_wordOf_163 ?_
                  refine ga_iconst dX12_wordOf_164 ?_
                  refine ga_bipush dX12_wordOf_165 (by decide) ?_
                  refine ga_bipush dX12_wordOf_167 (by decide) ?_
                  refine ga_bipush dX12_wordOf_169 (by decide) ?_
                  refine ga_bipush dX12_wordOf_171 (by decide) ?_
                  refine ga_callSl (z := mX12_eight) (As := [vI 0, vI 0, vI 0, vI 2, vI 21, vI 18, vI 19, vI 20]) (rest := [vL x0]) dX12_wordOf_173 wX12_151 qX12_wordOf_X12_eight rfl rfl (Nat.le_of_ble_eq_true rfl) (gEl_mono h (fun v43 σ41 h r42 => ?_))
                  replace h := h r42
                  refine ga_lcmp dX12_wordOf_176 (fun r44 => ?_)
                  obtain ⟨ht, hf⟩ := h
                  refine ga_if_ne (tgt := 183) dX12_wordOf_177 (by decide) r44 (fun q45 => ?_) (fun q45 => ?_)
                  · replace q45 : ¬ (glcmp x0 v43) = 0 := q45
                    have h := ht q45
                    refine ga_lload_n 0 dX12_wordOf_183 rfl rfl ?_
                    refine ga_iconst dX12_wordOf_184 ?_
                    refine ga_iconst dX12_wordOf_185 ?_
                    refine ga_iconst dX12_wordOf_186 ?_
                    refine ga_bipush dX12_wordOf_187 (by decide) ?_
                    refine ga_iconst dX12_wordOf_189 ?_
                    refine ga_bipush dX12_wordOf_190 (by decide) ?_
                    refine ga_iconst dX12_wordOf_192 ?_
                    refine ga_bipush dX12_wordOf_193 (by decide) ?_
                    refine ga_callSl (z := mX12_eight) (As := [vI 0, vI 0, vI 0, vI 13, vI 1, vI 20, vI 3, vI 8]) (rest := [vL x0]) dX12_wordOf_195 wX12_151 qX12_wordOf_X12_eight rfl rfl (Nat.le_of_ble_eq_true rfl) (gEl_mono h (fun v48 σ46 h r47 => ?_))
                    replace h := h r47
                    refine ga_lcmp dX12_wordOf_198 (fun r49 => ?_)
                    obtain ⟨ht, hf⟩ := h
                    refine ga_if_ne (tgt := 205) dX12_wordOf_199 (by decide) r49 (fun q50 => ?_) (fun q50 => ?_)
                    · replace q50 : ¬ (glcmp x0 v48) = 0 := q50
                      have h := ht q50
                      refine ga_lload_n 0 dX12_wordOf_205 rfl rfl ?_
                      refine ga_iconst dX12_wordOf_206 ?_
                      refine ga_iconst dX12_wordOf_207 ?_
                      refine ga_iconst dX12_wordOf_208 ?_
                      refine ga_iconst dX12_wordOf_209 ?_
                      refine ga_bipush dX12_wordOf_210 (by decide) ?_
                      refine ga_iconst dX12_wordOf_212 ?_
                      refine ga_bipush dX12_wordOf_213 (by decide) ?_
                      refine ga_bipush dX12_wordOf_215 (by decide) ?_
                      refine ga_callSl (z := mX12_eight) (As := [vI 0, vI 0, vI 0, vI 1, vI 16, vI 1, vI 18, vI 20]) (rest := [vL x0]) dX12_wordOf_217 wX12_151 qX12_wordOf_X12_eight rfl rfl (Nat.le_of_ble_eq_true rfl) (gEl_mono h (fun v53 σ51 h r52 => ?_))
                      replace h := h r52
                      refine ga_lcmp dX12_wordOf_220 (fun r54 => ?_)
                      have kJ55 : ∀ v57 : Int, gR v57 → v57 = (if (glcmp x0 v53) = 0 then 11 else 99) → gAt l G mX12_wordOf (gQi G Q) 231 [(0, vL x0)] [vI v57] σ51 := by
                        intro v57 rv57 ev57
                        replace h := h v57 ev57
                        exact ga_iret dX12_wordOf_231 rfl rv57 h
                      replace h : (¬ (glcmp x0 v53) = 0 → True) ∧
                      ((glcmp x0 v53) = 0 → True) := by repeat (first | exact True.intro | apply And.intro | intro _)
                      obtain ⟨ht, hf⟩ := h
                      refine ga_if_ne (tgt := 229) dX12_wordOf_221 (by decide) r54 (fun q56 => ?_) (fun q56 => ?_)
                      · replace q56 : ¬ (glcmp x0 v53) = 0 := q56
                        have h := ht q56
                        refine ga_bipush dX12_wordOf_229 (by decide) ?_
                        exact kJ55 99 (by decide) (by rw [if_neg q56])
                      · replace q56 : (glcmp x0 v53) = 0 := (Decidable.not_not.mp q56)
                        have h := hf q56
                        refine ga_bipush dX12_wordOf_224 (by decide) ?_
                        refine ga_goto (tgt := 231) dX12_wordOf_226 (by decide) ?_
                        exact kJ55 11 (by decide) (by rw [if_pos q56])
                    · replace q50 : (glcmp x0 v48) = 0 := (Decidable.not_not.mp q50)
                      have h := hf q50
                      refine ga_bipush dX12_wordOf_202 (by decide) ?_
                      exact ga_iret dX12_wordOf_204 rfl (by decide) h
                  · replace q45 : (glcmp x0 v43) = 0 := (Decidable.not_not.mp q45)
                    have h := hf q45
                    refine ga_bipush dX12_wordOf_180 (by decide) ?_
                    exact ga_iret dX12_wordOf_182 rfl (by decide) h
                · replace q40 : (glcmp x0 v38) = 0 := (Decidable.not_not.mp q40)
                  have h := hf q40
                  refine ga_bipush dX12_wordOf_157 (by decide) ?_
                  exact ga_iret dX12_wordOf_159 rfl (by decide) h
              · replace q35 : (glcmp x0 v33) = 0 := (Decidable.not_not.mp q35)
                have h := hf q35
                refine ga_bipush dX12_wordOf_140 (by decide) ?_
                exact ga_iret dX12_wordOf_142 rfl (by decide) h
            · replace q30 : (glcmp x0 v28) = 0 := (Decidable.not_not.mp q30)
              have h := hf q30
              refine ga_bipush dX12_wordOf_123 (by decide) ?_
              exact ga_iret dX12_wordOf_125 rfl (by decide) h
          · replace q25 : (glcmp x0 v23) = 0 := (Decidable.not_not.mp q25)
            have h := hf q25
            refine ga_iconst dX12_wordOf_107 ?_
            exact ga_iret dX12_wordOf_108 rfl (by decide) h
        · replace q20 : (glcmp x0 v18) = 0 := (Decidable.not_not.mp q20)
          have h := hf q20
          refine ga_iconst dX12_wordOf_89 ?_
          exact ga_iret dX12_wordOf_90 rfl (by decide) h
      · replace q15 : (glcmp x0 v13) = 0 := (Decidable.not_not.mp q15)
        have h := hf q15
        refine ga_iconst dX12_wordOf_65 ?_
        exact ga_iret dX12_wordOf_66 rfl (by decide) h
    · replace q10 : (glcmp x0 v8) = 0 := (Decidable.not_not.mp q10)
      have h := hf q10
      refine ga_iconst dX12_wordOf_44 ?_
      exact ga_iret dX12_wordOf_45 rfl (by decide) h
  · replace q5 : (glcmp x0 v3) = 0 := (Decidable.not_not.mp q5)
    have h := hf q5
    refine ga_iconst dX12_wordOf_21 ?_
    exact ga_iret dX12_wordOf_22 rfl (by decide) h
abbrev eX12_advance (l : Launch) (G : gG)  (σ : gS) (Q : gS → Prop) : Prop := gEv l G mX12_advance [.ref (G.2.1 88)] σ Q
abbrev kX12_advance_0 (l : Launch) (G : gG)   (σ : gS) (Q : gS → Prop) : Prop := gAt l G mX12_advance (gQv G Q) 0 [(0, .ref (G.2.1 88))] [] σ
abbrev kX12_advance_77 (l : Launch) (G : gG)  (x1 : Int) (x2 : Int) (σ : gS) (Q : gS → Prop) : Prop := gAt l G mX12_advance (gQv G Q) 77 [(0, .ref (G.2.1 88)), (1, vI x1), (2, vL x2)] [] σ
abbrev kX12_advance_198 (l : Launch) (G : gG)  (x1 : Int) (σ : gS) (Q : gS → Prop) : Prop := gAt l G mX12_advance (gQv G Q) 198 [(0, .ref (G.2.1 88)), (1, vI x1)] [] σ
set_option maxRecDepth 100000 in
set_option maxHeartbeats 4000000 in
theorem vX12_advance {l : Launch} {G : gG}  (σ : gS) (Q : gS → Prop) (h : kX12_advance_0 l G   σ Q) : eX12_advance l G  σ Q := by
  refine ga_entry rfl (Nat.le_of_ble_eq_true rfl) ?_
  show gAt l G mX12_advance (gQv G Q) 0 [(0, .ref (G.2.1 88))] [] σ
  exact ga_sub [0] rfl h
set_option maxRecDepth 100000 in
set_option maxHeartbeats 4000000 in
theorem vX12_advance_0 {l : Launch} {G : gG}   (σ : gS) (Q : gS → Prop) (h : eX12_byteAt l G (gI σ 88 3) σ (fun v4 σ2 => gR v4 →
  (v4 = 10 → (gR ((gI σ2 88 3) + 1)) ∧ ∀ σ7, σ7 = sI σ2 88 3 ((gI σ2 88 3) + 1) →
    kX12_advance_0 l G   σ7 Q) ∧
  (¬ v4 = 10 → eX12_byteAt l G (gI σ2 88 3) σ2 (fun v12 σ10 => gR v12 →
    (¬ v12 = 32 → ∀ σ15, σ15 = sI σ10 88 4 (gI σ10 88 3) →
      eX12_byteAt l G (gI σ15 88 3) σ15 (fun v19 σ17 => gR v19 →
      (0 ≤ v19 → eX12_isLetter l G v19 σ17 (fun v23 σ21 => (v23 = 0 ∨ v23 = 1) →
        (v23 = 0 → eX12_isDigit l G v19 σ21 (fun v27 σ25 => (v27 = 0 ∨ v27 = 1) →
          (v27 = 0 → (gR ((gI σ25 88 3) + 1)) ∧ ∀ σ30, σ30 = sI σ25 88 3 ((gI σ25 88 3) + 1) →
            (∀ v34 : Int, v34 = (if v19 = 59 then 2 else 4) →
            ∀ σ35, σ35 = sI σ30 88 5 v34 →
              Q σ35)) ∧
          (¬ v27 = 0 → ∀ σ36, σ36 = sI σ25 88 6 0 →
            kX12_advance_198 l G  v19 σ36 Q))) ∧
        (¬ v23 = 0 → kX12_advance_77 l G  v19 0 σ21 Q))) ∧
      (v19 < 0 → ∀ σ37, σ37 = sI σ17 88 5 0 →
        Q σ37))) ∧
    (v12 = 32 → (gR ((gI σ10 88 3) + 1)) ∧ ∀ σ39, σ39 = sI σ10 88 3 ((gI σ10 88 3) + 1) →
      kX12_advance_0 l G   σ39 Q))))) : kX12_advance_0 l G   σ Q := by
  refine ga_aload_n 0 dX12_advance_0 rfl rfl ?_
  refine ga_aload_n 0 dX12_advance_1 rfl rfl ?_
  refine ga_getI (kI := 3) dX12_advance_2 fX12_155 rfl rfl rfl (fun r1 => ?_)
  refine ga_callVi (z := mX12_byteAt) (As := [vI (gI σ 88 3)]) (rest := []) dX12_advance_5 wX12_158 qX12_advance_X12_byteAt rfl ⟨_, rfl, rfl⟩ rfl rfl (Nat.le_of_ble_eq_true rfl) (gEi_mono h (fun v4 σ2 h r3 => ?_))
  replace h := h r3
  refine ga_bipush dX12_advance_8 (by decide) ?_
  obtain ⟨ht, hf⟩ := h
  refine ga_icmp_eq (tgt := 26) dX12_advance_10 (by decide) r3 (by decide) (fun q5 => ?_) (fun q5 => ?_)
  · replace q5 : v4 = 10 := q5
    have h := ht q5
    refine ga_aload_n 0 dX12_advance_26 rfl rfl ?_
    refine ga_dup dX12_advance_27 rfl ?_
    refine ga_getI (kI := 3) dX12_advance_28 fX12_155 rfl rfl rfl (fun r6 => ?_)
    refine ga_iconst dX12_advance_31 ?_
    refine ga_iadd dX12_advance_32 ?_
    obtain ⟨r8, h⟩ := h
    obtain ⟨σ7, eσ7⟩ : ∃ z, z = sI σ2 88 3 ((gI σ2 88 3) + 1) := ⟨_, rfl⟩
    replace h := h σ7 eσ7
    refine ga_putI (kI := 3) dX12_advance_33 fX12_155 pX12_3 rfl rfl rfl r8 eσ7 ?_
    refine ga_goto (tgt := 0) dX12_advance_36 (by decide) ?_
    exact ga_sub [0] rfl h
  · replace q5 : ¬ v4 = 10 := q5
    have h := hf q5
    refine ga_aload_n 0 dX12_advance_13 rfl rfl ?_
    refine ga_aload_n 0 dX12_advance_14 rfl rfl ?_
    refine ga_getI (kI := 3) dX12_advance_15 fX12_155 rfl rfl rfl (fun r9 => ?_)
    refine ga_callVi (z := mX12_byteAt) (As := [vI (gI σ2 88 3)]) (rest := []) dX12_advance_18 wX12_158 qX12_advance_X12_byteAt rfl ⟨_, rfl, rfl⟩ rfl rfl (Nat.le_of_ble_eq_true rfl) (gEi_mono h (fun v12 σ10 h r11 => ?_))
    replace h := h r11
    refine ga_bipush dX12_advance_21 (by decide) ?_
    obtain ⟨ht, hf⟩ := h
    refine ga_icmp_ne (tgt := 39) dX12_advance_23 (by decide) r11 (by decide) (fun q13 => ?_) (fun q13 => ?_)
    · replace q13 : ¬ v12 = 32 := q13
      have h := ht q13
      refine ga_aload_n 0 dX12_advance_39 rfl rfl ?_
      refine ga_aload_n 0 dX12_advance_40 rfl rfl ?_
      refine ga_getI (kI := 3) dX12_advance_41 fX12_155 rfl rfl rfl (fun r14 => ?_)
      obtain ⟨σ15, eσ15⟩ : ∃ z, z = sI σ10 88 4 (gI σ10 88 3) := ⟨_, rfl⟩
      replace h := h σ15 eσ15
      refine ga_putI (kI := 4) dX12_advance_44 fX12_162 pX12_4 rfl rfl rfl r14 eσ15 ?_
      refine ga_aload_n 0 dX12_advance_47 rfl rfl ?_
      refine ga_aload_n 0 dX12_advance_48 rfl rfl ?_
      refine ga_getI (kI := 3) dX12_advance_49 fX12_155 rfl rfl rfl (fun r16 => ?_)
      refine ga_callVi (z := mX12_byteAt) (As := [vI (gI σ15 88 3)]) (rest := []) dX12_advance_52 wX12_158 qX12_advance_X12_byteAt rfl ⟨_, rfl, rfl⟩ rfl rfl (Nat.le_of_ble_eq_true rfl) (gEi_mono h (fun v19 σ17 h r18 => ?_))
      replace h := h r18
      refine ga_istore_n (ls' := [(1, vI v19), (0, .ref (G.2.1 88))]) dX12_advance_55 rfl (by decide) rfl ?_
      refine ga_iload_n 0 dX12_advance_56 rfl rfl ?_
      obtain ⟨ht, hf⟩ := h
      refine ga_if_ge (tgt := 68) dX12_advance_57 (by decide) r18 (fun q20 => ?_) (fun q20 => ?_)
      · replace q20 : 0 ≤ v19 := q20
        have h := ht q20
        refine ga_iload_n 0 dX12_advance_68 rfl rfl ?_
        refine ga_callSz (z := mX12_isLetter) (As := [vI v19]) (rest := []) dX12_advance_69 wX12_168 qX12_advance_X12_isLetter rfl rfl (Nat.le_of_ble_eq_true rfl) (gEz_mono h (fun v23 σ21 h r22 => ?_))
        replace h := h r22
        obtain ⟨ht, hf⟩ := h
        refine ga_if_eq (tgt := 186) dX12_advance_72 (by decide) (gR_01 r22) (fun q24 => ?_) (fun q24 => ?_)
        · replace q24 : v23 = 0 := q24
          have h := ht q24
          refine ga_iload_n 0 dX12_advance_186 rfl rfl ?_
          refine ga_callSz (z := mX12_isDigit) (As := [vI v19]) (rest := []) dX12_advance_187 wX12_183 qX12_advance_X12_isDigit rfl rfl (Nat.le_of_ble_eq_true rfl) (gEz_mono h (fun v27 σ25 h r26 => ?_))
          replace h := h r26
          obtain ⟨ht, hf⟩ := h
          refine ga_if_eq (tgt := 286) dX12_advance_190 (by decide) (gR_01 r26) (fun q28 => ?_) (fun q28 => ?_)
          · replace q28 : v27 = 0 := q28
            have h := ht q28
            refine ga_aload_n 1 dX12_advance_286 rfl rfl ?_
            refine ga_dup dX12_advance_287 rfl ?_
            refine ga_getI (kI := 3) dX12_advance_288 fX12_155 rfl rfl rfl (fun r29 => ?_)
            refine ga_iconst dX12_advance_291 ?_
            refine ga_iadd dX12_advance_292 ?_
            obtain ⟨r31, h⟩ := h
            obtain ⟨σ30, eσ30⟩ : ∃ z, z = sI σ25 88 3 ((gI σ25 88 3) + 1) := ⟨_, rfl⟩
            replace h := h σ30 eσ30
            refine ga_putI (kI := 3) dX12_advance_293 fX12_155 pX12_3 rfl rfl rfl r31 eσ30 ?_
            refine ga_aload_n 1 dX12_advance_296 rfl rfl ?_
            refine ga_iload_n 0 dX12_advance_297 rfl rfl ?_
            refine ga_bipush dX12_advance_298 (by decide) ?_
            have kJ32 : ∀ v34 : Int, gR v34 → v34 = (if v19 = 59 then 2 else 4) → gAt l G mX12_advance (gQv G Q) 308 [(1, vI v19), (0, .ref (G.2.1 88))] [vI v34, .ref (G.2.1 88)] σ30 := by
              intro v34 rv34 ev34
              replace h := h v34 ev34
              obtain ⟨σ35, eσ35⟩ : ∃ z, z = sI σ30 88 5 v34 := ⟨_, rfl⟩
              replace h := h σ35 eσ35
              refine ga_putI (kI := 5) dX12_advance_308 fX12_165 pX12_5 rfl rfl rfl rv34 eσ35 ?_
              exact ga_vret dX12_advance_311 rfl h
            replace h : (¬ v19 = 59 → True) ∧
            (v19 = 59 → True) := by repeat (first | exact True.intro | apply And.intro | intro _)
            obtain ⟨ht, hf⟩ := h
            refine ga_icmp_ne (tgt := 307) dX12_advance_300 (by decide) r18 (by decide) (fun q33 => ?_) (fun q33 => ?_)
            · replace q33 : ¬ v19 = 59 := q33
              have h := ht q33
              refine ga_iconst dX12_advance_307 ?_
              exact kJ32 4 (by decide) (by rw [if_neg q33])
            · replace q33 : v19 = 59 := (Decidable.not_not.mp q33)
              have h := hf q33
              refine ga_iconst dX12_advance_303 ?_
              refine ga_goto (tgt := 308) dX12_advance_304 (by decide) ?_
              exact kJ32 2 (by decide) (by rw [if_pos q33])
          · replace q28 : ¬ v27 = 0 := q28
            have h := hf q28
            refine ga_aload_n 1 dX12_advance_193 rfl rfl ?_
            refine ga_iconst dX12_advance_194 ?_
            obtain ⟨σ36, eσ36⟩ : ∃ z, z = sI σ25 88 6 0 := ⟨_, rfl⟩
            replace h := h σ36 eσ36
            refine ga_putI (kI := 6) dX12_advance_195 fX12_186 pX12_6 rfl rfl rfl (by decide) eσ36 ?_
            exact ga_sub [1, 0] rfl h
        · replace q24 : ¬ v23 = 0 := q24
          have h := hf q24
          refine ga_lconst (v := 0) dX12_advance_75 (by decide) ?_
          refine ga_lstore_n (ls' := [(2, vL 0), (1, vI v19), (0, .ref (G.2.1 88))]) dX12_advance_76 rfl (by decide) rfl ?_
          exact ga_sub [2, 1, 0] rfl h
      · replace q20 : v19 < 0 := (Int.not_le.mp q20)
        have h := hf q20
        refine ga_aload_n 1 dX12_advance_60 rfl rfl ?_
        refine ga_iconst dX12_advance_61 ?_
        obtain ⟨σ37, eσ37⟩ : ∃ z, z = sI σ17 88 5 0 := ⟨_, rfl⟩
        replace h := h σ37 eσ37
        refine ga_putI (kI := 5) dX12_advance_62 fX12_165 pX12_5 rfl rfl rfl (by decide) eσ37 ?_
        refine ga_goto (tgt := 311) dX12_advance_65 (by decide) ?_
        exact ga_vret dX12_advance_311 rfl h
    · replace q13 : v12 = 32 := (Decidable.not_not.mp q13)
      have h := hf q13
      refine ga_aload_n 0 dX12_advance_26 rfl rfl ?_
      refine ga_dup dX12_advance_27 rfl ?_
      refine ga_getI (kI := 3) dX12_advance_28 fX12_155 rfl rfl rfl (fun r38 => ?_)
      refine ga_iconst dX12_advance_31 ?_
      refine ga_iadd dX12_advance_32 ?_
      obtain ⟨r40, h⟩ := h
      obtain ⟨σ39, eσ39⟩ : ∃ z, z = sI σ10 88 3 ((gI σ10 88 3) + 1) := ⟨_, rfl⟩
      replace h := h σ39 eσ39
      refine ga_putI (kI := 3) dX12_advance_33 fX12_155 pX12_3 rfl rfl rfl r40 eσ39 ?_
      refine ga_goto (tgt := 0) dX12_advance_36 (by decide) ?_
      exact ga_sub [0] rfl h
set_option maxRecDepth 100000 in
set_option maxHeartbeats 4000000 in
theorem vX12_advance_77 {l : Launch} {G : gG}  (x1 : Int) (x2 : Int) (rx1 : gR x1) (rx2 : gRl x2) (σ : gS) (Q : gS → Prop) (h : eX12_byteAt l G (gI σ 88 3) σ (fun v44 σ42 => gR v44 →
  eX12_isLetter l G v44 σ42 (fun v47 σ45 => (v47 = 0 ∨ v47 = 1) →
  (v47 = 0 → (gR ((gI σ45 88 3) - (gI σ45 88 4))) ∧ (((gI σ45 88 3) - (gI σ45 88 4)) ≤ 8 → eX12_wordOf l G x2 σ45 (fun v55 σ53 => gR v55 →
      ∀ σ56, σ56 = sI σ53 88 7 v55 →
      (∀ v60 : Int, v60 = (if (gI σ56 88 7) = 99 then 4 else 3) →
      ∀ σ61, σ61 = sI σ56 88 5 v60 →
        Q σ61))) ∧
    (8 < ((gI σ45 88 3) - (gI σ45 88 4)) → ∀ σ62, σ62 = sI σ45 88 7 99 →
      (∀ v66 : Int, v66 = (if (gI σ62 88 7) = 99 then 4 else 3) →
      ∀ σ67, σ67 = sI σ62 88 5 v66 →
        Q σ67))) ∧
  (¬ v47 = 0 → (gR ((gI σ45 88 3) - (gI σ45 88 4))) ∧ (8 ≤ ((gI σ45 88 3) - (gI σ45 88 4)) → (gR ((gI σ45 88 3) + 1)) ∧ ∀ σ73, σ73 = sI σ45 88 3 ((gI σ45 88 3) + 1) →
      kX12_advance_77 l G  x1 x2 σ73 Q) ∧
    (((gI σ45 88 3) - (gI σ45 88 4)) < 8 → eX12_byteAt l G (gI σ45 88 3) σ45 (fun v78 σ76 => gR v78 →
      (gR ((gI σ76 88 3) + 1)) ∧ ∀ σ80, σ80 = sI σ76 88 3 ((gI σ76 88 3) + 1) →
      kX12_advance_77 l G  x1 (((32 * x2) + v78) - 96) σ80 Q)))))) : kX12_advance_77 l G  x1 x2 σ Q := by
  refine ga_aload_n 0 dX12_advance_77 rfl rfl ?_
  refine ga_aload_n 0 dX12_advance_78 rfl rfl ?_
  refine ga_getI (kI := 3) dX12_advance_79 fX12_155 rfl rfl rfl (fun r41 => ?_)
  refine ga_callVi (z := mX12_byteAt) (As := [vI (gI σ 88 3)]) (rest := []) dX12_advance_82 wX12_158 qX12_advance_X12_byteAt rfl ⟨_, rfl, rfl⟩ rfl rfl (Nat.le_of_ble_eq_true rfl) (gEi_mono h (fun v44 σ42 h r43 => ?_))
  replace h := h r43
  refine ga_callSz (z := mX12_isLetter) (As := [vI v44]) (rest := []) dX12_advance_85 wX12_168 qX12_advance_X12_isLetter rfl rfl (Nat.le_of_ble_eq_true rfl) (gEz_mono h (fun v47 σ45 h r46 => ?_))
  replace h := h r46
  obtain ⟨ht, hf⟩ := h
  refine ga_if_eq (tgt := 138) dX12_advance_88 (by decide) (gR_01 r46) (fun q48 => ?_) (fun q48 => ?_)
  · replace q48 : v47 = 0 := q48
    have h := ht q48
    refine ga_aload_n 0 dX12_advance_138 rfl rfl ?_
    refine ga_aload_n 0 dX12_advance_139 rfl rfl ?_
    refine ga_getI (kI := 3) dX12_advance_140 fX12_155 rfl rfl rfl (fun r49 => ?_)
    refine ga_aload_n 0 dX12_advance_143 rfl rfl ?_
    refine ga_getI (kI := 4) dX12_advance_144 fX12_162 rfl rfl rfl (fun r50 => ?_)
    refine ga_isub dX12_advance_147 ?_
    refine ga_bipush dX12_advance_148 (by decide) ?_
    obtain ⟨r51, h⟩ := h
    obtain ⟨ht, hf⟩ := h
    refine ga_icmp_le (tgt := 158) dX12_advance_150 (by decide) r51 (by decide) (fun q52 => ?_) (fun q52 => ?_)
    · replace q52 : ((gI σ45 88 3) - (gI σ45 88 4)) ≤ 8 := q52
      have h := ht q52
      refine ga_lload_n 2 dX12_advance_158 rfl rfl ?_
      refine ga_callSi (z := mX12_wordOf) (As := [vL x2]) (rest := [.ref (G.2.1 88)]) dX12_advance_159 wX12_176 qX12_advance_X12_wordOf rfl rfl (Nat.le_of_ble_eq_true rfl) (gEi_mono h (fun v55 σ53 h r54 => ?_))
      replace h := h r54
      obtain ⟨σ56, eσ56⟩ : ∃ z, z = sI σ53 88 7 v55 := ⟨_, rfl⟩
      replace h := h σ56 eσ56
      refine ga_putI (kI := 7) dX12_advance_162 fX12_180 pX12_7 rfl rfl rfl r54 eσ56 ?_
      refine ga_aload_n 0 dX12_advance_165 rfl rfl ?_
      refine ga_aload_n 0 dX12_advance_166 rfl rfl ?_
      refine ga_getI (kI := 7) dX12_advance_167 fX12_180 rfl rfl rfl (fun r57 => ?_)
      refine ga_bipush dX12_advance_170 (by decide) ?_
      have kJ58 : ∀ v60 : Int, gR v60 → v60 = (if (gI σ56 88 7) = 99 then 4 else 3) → gAt l G mX12_advance (gQv G Q) 180 [(0, .ref (G.2.1 88)), (1, vI x1), (2, vL x2)] [vI v60, .ref (G.2.1 88)] σ56 := by
        intro v60 rv60 ev60
        replace h := h v60 ev60
        obtain ⟨σ61, eσ61⟩ : ∃ z, z = sI σ56 88 5 v60 := ⟨_, rfl⟩
        replace h := h σ61 eσ61
        refine ga_putI (kI := 5) dX12_advance_180 fX12_165 pX12_5 rfl rfl rfl rv60 eσ61 ?_
        refine ga_goto (tgt := 311) dX12_advance_183 (by decide) ?_
        exact ga_vret dX12_advance_311 rfl h
      replace h : (¬ (gI σ56 88 7) = 99 → True) ∧
      ((gI σ56 88 7) = 99 → True) := by repeat (first | exact True.intro | apply And.intro | intro _)
      obtain ⟨ht, hf⟩ := h
      refine ga_icmp_ne (tgt := 179) dX12_advance_172 (by decide) r57 (by decide) (fun q59 => ?_) (fun q59 => ?_)
      · replace q59 : ¬ (gI σ56 88 7) = 99 := q59
        have h := ht q59
        refine ga_iconst dX12_advance_179 ?_
        exact kJ58 3 (by decide) (by rw [if_neg q59])
      · replace q59 : (gI σ56 88 7) = 99 := (Decidable.not_not.mp q59)
        have h := hf q59
        refine ga_iconst dX12_advance_175 ?_
        refine ga_goto (tgt := 180) dX12_advance_176 (by decide) ?_
        exact kJ58 4 (by decide) (by rw [if_pos q59])
    · replace q52 : 8 < ((gI σ45 88 3) - (gI σ45 88 4)) := (Int.not_le.mp q52)
      have h := hf q52
      refine ga_bipush dX12_advance_153 (by decide) ?_
      refine ga_goto (tgt := 162) dX12_advance_155 (by decide) ?_
      obtain ⟨σ62, eσ62⟩ : ∃ z, z = sI σ45 88 7 99 := ⟨_, rfl⟩
      replace h := h σ62 eσ62
      refine ga_putI (kI := 7) dX12_advance_162 fX12_180 pX12_7 rfl rfl rfl (by decide) eσ62 ?_
      refine ga_aload_n 0 dX12_advance_165 rfl rfl ?_
      refine ga_aload_n 0 dX12_advance_166 rfl rfl ?_
      refine ga_getI (kI := 7) dX12_advance_167 fX12_180 rfl rfl rfl (fun r63 => ?_)
      refine ga_bipush dX12_advance_170 (by decide) ?_
      have kJ64 : ∀ v66 : Int, gR v66 → v66 = (if (gI σ62 88 7) = 99 then 4 else 3) → gAt l G mX12_advance (gQv G Q) 180 [(0, .ref (G.2.1 88)), (1, vI x1), (2, vL x2)] [vI v66, .ref (G.2.1 88)] σ62 := by
        intro v66 rv66 ev66
        replace h := h v66 ev66
        obtain ⟨σ67, eσ67⟩ : ∃ z, z = sI σ62 88 5 v66 := ⟨_, rfl⟩
        replace h := h σ67 eσ67
        refine ga_putI (kI := 5) dX12_advance_180 fX12_165 pX12_5 rfl rfl rfl rv66 eσ67 ?_
        refine ga_goto (tgt := 311) dX12_advance_183 (by decide) ?_
        exact ga_vret dX12_advance_311 rfl h
      replace h : (¬ (gI σ62 88 7) = 99 → True) ∧
      ((gI σ62 88 7) = 99 → True) := by repeat (first | exact True.intro | apply And.intro | intro _)
      obtain ⟨ht, hf⟩ := h
      refine ga_icmp_ne (tgt := 179) dX12_advance_172 (by decide) r63 (by decide) (fun q65 => ?_) (fun q65 => ?_)
      · replace q65 : ¬ (gI σ62 88 7) = 99 := q65
        have h := ht q65
        refine ga_iconst dX12_advance_179 ?_
        exact kJ64 3 (by decide) (by rw [if_neg q65])
      · replace q65 : (gI σ62 88 7) = 99 := (Decidable.not_not.mp q65)
        have h := hf q65
        refine ga_iconst dX12_advance_175 ?_
        refine ga_goto (tgt := 180) dX12_advance_176 (by decide) ?_
        exact kJ64 4 (by decide) (by rw [if_pos q65])
  · replace q48 : ¬ v47 = 0 := q48
    have h := hf q48
    refine ga_aload_n 0 dX12_advance_91 rfl rfl ?_
    refine ga_getI (kI := 3) dX12_advance_92 fX12_155 rfl rfl rfl (fun r68 => ?_)
    refine ga_aload_n 0 dX12_advance_95 rfl rfl ?_
    refine ga_getI (kI := 4) dX12_advance_96 fX12_162 rfl rfl rfl (fun r69 => ?_)
    refine ga_isub dX12_advance_99 ?_
    refine ga_bipush dX12_advance_100 (by decide) ?_
    obtain ⟨r70, h⟩ := h
    obtain ⟨ht, hf⟩ := h
    refine ga_icmp_ge (tgt := 125) dX12_advance_102 (by decide) r70 (by decide) (fun q71 => ?_) (fun q71 => ?_)
    · replace q71 : 8 ≤ ((gI σ45 88 3) - (gI σ45 88 4)) := q71
      have h := ht q71
      refine ga_aload_n 0 dX12_advance_125 rfl rfl ?_
      refine ga_dup dX12_advance_126 rfl ?_
      refine ga_getI (kI := 3) dX12_advance_127 fX12_155 rfl rfl rfl (fun r72 => ?_)
      refine ga_iconst dX12_advance_130 ?_
      refine ga_iadd dX12_advance_131 ?_
      obtain ⟨r74, h⟩ := h
      obtain ⟨σ73, eσ73⟩ : ∃ z, z = sI σ45 88 3 ((gI σ45 88 3) + 1) := ⟨_, rfl⟩
      replace h := h σ73 eσ73
      refine ga_putI (kI := 3) dX12_advance_132 fX12_155 pX12_3 rfl rfl rfl r74 eσ73 ?_
      refine ga_goto (tgt := 77) dX12_advance_135 (by decide) ?_
      exact ga_sub [0, 1, 2] rfl h
    · replace q71 : ((gI σ45 88 3) - (gI σ45 88 4)) < 8 := (Int.not_le.mp q71)
      have h := hf q71
      refine ga_ldc2 (n := 32) dX12_advance_105 wX12_172 (by decide) ?_
      refine ga_lload_n 2 dX12_advance_108 rfl rfl ?_
      refine ga_lmul dX12_advance_109 ?_
      refine ga_aload_n 0 dX12_advance_110 rfl rfl ?_
      refine ga_aload_n 0 dX12_advance_111 rfl rfl ?_
      refine ga_getI (kI := 3) dX12_advance_112 fX12_155 rfl rfl rfl (fun r75 => ?_)
      refine ga_callVi (z := mX12_byteAt) (As := [vI (gI σ45 88 3)]) (rest := [vL (32 * x2)]) dX12_advance_115 wX12_158 qX12_advance_X12_byteAt rfl ⟨_, rfl, rfl⟩ rfl rfl (Nat.le_of_ble_eq_true rfl) (gEi_mono h (fun v78 σ76 h r77 => ?_))
      replace h := h r77
      refine ga_i2l dX12_advance_118 r77 ?_
      refine ga_ladd dX12_advance_119 ?_
      refine ga_ldc2 (n := 96) dX12_advance_120 wX12_174 (by decide) ?_
      refine ga_lsub dX12_advance_123 ?_
      refine ga_lstore_n (ls' := [(2, vL (((32 * x2) + v78) - 96)), (0, .ref (G.2.1 88)), (1, vI x1)]) dX12_advance_124 rfl (by decide) rfl ?_
      refine ga_aload_n 1 dX12_advance_125 rfl rfl ?_
      refine ga_dup dX12_advance_126 rfl ?_
      refine ga_getI (kI := 3) dX12_advance_127 fX12_155 rfl rfl rfl (fun r79 => ?_)
      refine ga_iconst dX12_advance_130 ?_
      refine ga_iadd dX12_advance_131 ?_
      obtain ⟨r81, h⟩ := h
      obtain ⟨σ80, eσ80⟩ : ∃ z, z = sI σ76 88 3 ((gI σ76 88 3) + 1) := ⟨_, rfl⟩
      replace h := h σ80 eσ80
      refine ga_putI (kI := 3) dX12_advance_132 fX12_155 pX12_3 rfl rfl rfl r81 eσ80 ?_
      refine ga_goto (tgt := 77) dX12_advance_135 (by decide) ?_
      exact ga_sub [1, 2, 0] rfl h
set_option maxRecDepth 100000 in
set_option maxHeartbeats 4000000 in
theorem vX12_advance_198 {l : Launch} {G : gG}  (x1 : Int) (rx1 : gR x1) (σ : gS) (Q : gS → Prop) (h : eX12_byteAt l G (gI σ 88 3) σ (fun v85 σ83 => gR v85 →
  eX12_isDigit l G v85 σ83 (fun v88 σ86 => (v88 = 0 ∨ v88 = 1) →
  (v88 = 0 → ((gR ((gI σ86 88 3) - (gI σ86 88 4))) ∧ (((gI σ86 88 3) - (gI σ86 88 4)) ≤ 2 → True) ∧
    (2 < ((gI σ86 88 3) - (gI σ86 88 4)) → True)) ∧
    (∀ v95 : Int, v95 = (if ((gI σ86 88 3) - (gI σ86 88 4)) ≤ 2 then 1 else 4) →
    ∀ σ96, σ96 = sI σ86 88 5 v95 →
      Q σ96)) ∧
  (¬ v88 = 0 → (gR ((gI σ86 88 3) - (gI σ86 88 4))) ∧ (2 ≤ ((gI σ86 88 3) - (gI σ86 88 4)) → (gR ((gI σ86 88 3) + 1)) ∧ ∀ σ102, σ102 = sI σ86 88 3 ((gI σ86 88 3) + 1) →
      kX12_advance_198 l G  x1 σ102 Q) ∧
    (((gI σ86 88 3) - (gI σ86 88 4)) < 2 → eX12_byteAt l G (gI σ86 88 3) σ86 (fun v108 σ106 => gR v108 →
      (gR (((10 * (gI σ86 88 6)) + v108) - 48)) ∧ ∀ σ109, σ109 = sI σ106 88 6 (((10 * (gI σ86 88 6)) + v108) - 48) →
      (gR ((gI σ109 88 3) + 1)) ∧ ∀ σ112, σ112 = sI σ109 88 3 ((gI σ109 88 3) + 1) →
      kX12_advance_198 l G  x1 σ112 Q)))))) : kX12_advance_198 l G  x1 σ Q := by
  refine ga_aload_n 0 dX12_advance_198 rfl rfl ?_
  refine ga_aload_n 0 dX12_advance_199 rfl rfl ?_
  refine ga_getI (kI := 3) dX12_advance_200 fX12_155 rfl rfl rfl (fun r82 => ?_)
  refine ga_callVi (z := mX12_byteAt) (As := [vI (gI σ 88 3)]) (rest := []) dX12_advance_203 wX12_158 qX12_advance_X12_byteAt rfl ⟨_, rfl, rfl⟩ rfl rfl (Nat.le_of_ble_eq_true rfl) (gEi_mono h (fun v85 σ83 h r84 => ?_))
  replace h := h r84
  refine ga_callSz (z := mX12_isDigit) (As := [vI v85]) (rest := []) dX12_advance_206 wX12_183 qX12_advance_X12_isDigit rfl rfl (Nat.le_of_ble_eq_true rfl) (gEz_mono h (fun v88 σ86 h r87 => ?_))
  replace h := h r87
  obtain ⟨ht, hf⟩ := h
  refine ga_if_eq (tgt := 261) dX12_advance_209 (by decide) (gR_01 r87) (fun q89 => ?_) (fun q89 => ?_)
  · replace q89 : v88 = 0 := q89
    have h := ht q89
    refine ga_aload_n 0 dX12_advance_261 rfl rfl ?_
    refine ga_aload_n 0 dX12_advance_262 rfl rfl ?_
    refine ga_getI (kI := 3) dX12_advance_263 fX12_155 rfl rfl rfl (fun r90 => ?_)
    refine ga_aload_n 0 dX12_advance_266 rfl rfl ?_
    refine ga_getI (kI := 4) dX12_advance_267 fX12_162 rfl rfl rfl (fun r91 => ?_)
    refine ga_isub dX12_advance_270 ?_
    refine ga_iconst dX12_advance_271 ?_
    obtain ⟨hob, h⟩ := h
    have kJ92 : ∀ v95 : Int, gR v95 → v95 = (if ((gI σ86 88 3) - (gI σ86 88 4)) ≤ 2 then 1 else 4) → gAt l G mX12_advance (gQv G Q) 280 [(0, .ref (G.2.1 88)), (1, vI x1)] [vI v95, .ref (G.2.1 88)] σ86 := by
      intro v95 rv95 ev95
      replace h := h v95 ev95
      obtain ⟨σ96, eσ96⟩ : ∃ z, z = sI σ86 88 5 v95 := ⟨_, rfl⟩
      replace h := h σ96 eσ96
      refine ga_putI (kI := 5) dX12_advance_280 fX12_165 pX12_5 rfl rfl rfl rv95 eσ96 ?_
      refine ga_goto (tgt := 311) dX12_advance_283 (by decide) ?_
      exact ga_vret dX12_advance_311 rfl h
    replace h := hob
    obtain ⟨r93, h⟩ := h
    obtain ⟨ht, hf⟩ := h
    refine ga_icmp_le (tgt := 279) dX12_advance_272 (by decide) r93 (by decide) (fun q94 => ?_) (fun q94 => ?_)
    · replace q94 : ((gI σ86 88 3) - (gI σ86 88 4)) ≤ 2 := q94
      have h := ht q94
      refine ga_iconst dX12_advance_279 ?_
      exact kJ92 1 (by decide) (by rw [if_pos q94])
    · replace q94 : 2 < ((gI σ86 88 3) - (gI σ86 88 4)) := (Int.not_le.mp q94)
      have h := hf q94
      refine ga_iconst dX12_advance_275 ?_
      refine ga_goto (tgt := 280) dX12_advance_276 (by decide) ?_
      exact kJ92 4 (by decide) (by rw [if_neg (Int.not_le.mpr q94)])
  · replace q89 : ¬ v88 = 0 := q89
    have h := hf q89
    refine ga_aload_n 0 dX12_advance_212 rfl rfl ?_
    refine ga_getI (kI := 3) dX12_advance_213 fX12_155 rfl rfl rfl (fun r97 => ?_)
    refine ga_aload_n 0 dX12_advance_216 rfl rfl ?_
    refine ga_getI (kI := 4) dX12_advance_217 fX12_162 rfl rfl rfl (fun r98 => ?_)
    refine ga_isub dX12_advance_220 ?_
    refine ga_iconst dX12_advance_221 ?_
    obtain ⟨r99, h⟩ := h
    obtain ⟨ht, hf⟩ := h
    refine ga_icmp_ge (tgt := 248) dX12_advance_222 (by decide) r99 (by decide) (fun q100 => ?_) (fun q100 => ?_)
    · replace q100 : 2 ≤ ((gI σ86 88 3) - (gI σ86 88 4)) := q100
      have h := ht q100
      refine ga_aload_n 0 dX12_advance_248 rfl rfl ?_
      refine ga_dup dX12_advance_249 rfl ?_
      refine ga_getI (kI := 3) dX12_advance_250 fX12_155 rfl rfl rfl (fun r101 => ?_)
      refine ga_iconst dX12_advance_253 ?_
      refine ga_iadd dX12_advance_254 ?_
      obtain ⟨r103, h⟩ := h
      obtain ⟨σ102, eσ102⟩ : ∃ z, z = sI σ86 88 3 ((gI σ86 88 3) + 1) := ⟨_, rfl⟩
      replace h := h σ102 eσ102
      refine ga_putI (kI := 3) dX12_advance_255 fX12_155 pX12_3 rfl rfl rfl r103 eσ102 ?_
      refine ga_goto (tgt := 198) dX12_advance_258 (by decide) ?_
      exact ga_sub [0, 1] rfl h
    · replace q100 : ((gI σ86 88 3) - (gI σ86 88 4)) < 2 := (Int.not_le.mp q100)
      have h := hf q100
      refine ga_aload_n 0 dX12_advance_225 rfl rfl ?_
      refine ga_bipush dX12_advance_226 (by decide) ?_
      refine ga_aload_n 0 dX12_advance_228 rfl rfl ?_
      refine ga_getI (kI := 6) dX12_advance_229 fX12_186 rfl rfl rfl (fun r104 => ?_)
      refine ga_imul dX12_advance_232 ?_
      refine ga_aload_n 0 dX12_advance_233 rfl rfl ?_
      refine ga_aload_n 0 dX12_advance_234 rfl rfl ?_
      refine ga_getI (kI := 3) dX12_advance_235 fX12_155 rfl rfl rfl (fun r105 => ?_)
      refine ga_callVi (z := mX12_byteAt) (As := [vI (gI σ86 88 3)]) (rest := [vI (10 * (gI σ86 88 6)), .ref (G.2.1 88)]) dX12_advance_238 wX12_158 qX12_advance_X12_byteAt rfl ⟨_, rfl, rfl⟩ rfl rfl (Nat.le_of_ble_eq_true rfl) (gEi_mono h (fun v108 σ106 h r107 => ?_))
      replace h := h r107
      refine ga_iadd dX12_advance_241 ?_
      refine ga_bipush dX12_advance_242 (by decide) ?_
      refine ga_isub dX12_advance_244 ?_
      obtain ⟨r110, h⟩ := h
      obtain ⟨σ109, eσ109⟩ : ∃ z, z = sI σ106 88 6 (((10 * (gI σ86 88 6)) + v108) - 48) := ⟨_, rfl⟩
      replace h := h σ109 eσ109
      refine ga_putI (kI := 6) dX12_advance_245 fX12_186 pX12_6 rfl rfl rfl r110 eσ109 ?_
      refine ga_aload_n 0 dX12_advance_248 rfl rfl ?_
      refine ga_dup dX12_advance_249 rfl ?_
      refine ga_getI (kI := 3) dX12_advance_250 fX12_155 rfl rfl rfl (fun r111 => ?_)
      refine ga_iconst dX12_advance_253 ?_
      refine ga_iadd dX12_advance_254 ?_
      obtain ⟨r113, h⟩ := h
      obtain ⟨σ112, eσ112⟩ : ∃ z, z = sI σ109 88 3 ((gI σ109 88 3) + 1) := ⟨_, rfl⟩
      replace h := h σ112 eσ112
      refine ga_putI (kI := 3) dX12_advance_255 fX12_155 pX12_3 rfl rfl rfl r113 eσ112 ?_
      refine ga_goto (tgt := 198) dX12_advance_258 (by decide) ?_
      exact ga_sub [0, 1] rfl h
abbrev eX12_ends (l : Launch) (G : gG)  (σ : gS) (Q : gS → Prop) : Prop := gEv l G mX12_ends [.ref (G.2.1 88)] σ Q
set_option maxRecDepth 100000 in
set_option maxHeartbeats 4000000 in
theorem vX12_ends {l : Launch} {G : gG}  (σ : gS) (Q : gS → Prop) (h : ((gI σ 88 8) = 0 → ∀ σ3, σ3 = sI σ 88 8 1 →
    ∀ σ4, σ4 = sI σ3 89 5 1 →
    ∀ σ6, σ6 = sI σ4 89 6 (gI σ4 88 4) →
    Q σ6) ∧
  (¬ (gI σ 88 8) = 0 → Q σ)) : eX12_ends l G  σ Q := by
  refine ga_entry rfl (Nat.le_of_ble_eq_true rfl) ?_
  show gAt l G mX12_ends (gQv G Q) 0 [(0, .ref (G.2.1 88))] [] σ
  refine ga_aload_n 0 dX12_ends_0 rfl rfl ?_
  refine ga_getI (kI := 8) dX12_ends_1 fX12_189 rfl rfl rfl (fun r1 => ?_)
  obtain ⟨ht, hf⟩ := h
  refine ga_if_eq (tgt := 8) dX12_ends_4 (by decide) r1 (fun q2 => ?_) (fun q2 => ?_)
  · replace q2 : (gI σ 88 8) = 0 := q2
    have h := ht q2
    refine ga_aload_n 0 dX12_ends_8 rfl rfl ?_
    refine ga_iconst dX12_ends_9 ?_
    obtain ⟨σ3, eσ3⟩ : ∃ z, z = sI σ 88 8 1 := ⟨_, rfl⟩
    replace h := h σ3 eσ3
    refine ga_putZ (kI := 8) dX12_ends_10 fX12_189 pX12_8 rfl rfl rfl (Or.inr rfl) eσ3 ?_
    refine ga_aload_n 0 dX12_ends_13 rfl rfl ?_
    refine ga_getR (kI := 0) (r := 89) dX12_ends_14 fX12_7 rfl rfl (by decide) rfl ?_
    refine ga_iconst dX12_ends_17 ?_
    refine ga_iconst dX12_ends_18 ?_
    obtain ⟨σ4, eσ4⟩ : ∃ z, z = sI σ3 89 5 1 := ⟨_, rfl⟩
    replace h := h σ4 eσ4
    refine ga_iast (nI := 3704) dX12_ends_19 rfl rfl (by decide) (by decide) eσ4 ?_
    refine ga_aload_n 0 dX12_ends_20 rfl rfl ?_
    refine ga_getR (kI := 0) (r := 89) dX12_ends_21 fX12_7 rfl rfl (by decide) rfl ?_
    refine ga_bipush dX12_ends_24 (by decide) ?_
    refine ga_aload_n 0 dX12_ends_26 rfl rfl ?_
    refine ga_getI (kI := 4) dX12_ends_27 fX12_162 rfl rfl rfl (fun r5 => ?_)
    obtain ⟨σ6, eσ6⟩ : ∃ z, z = sI σ4 89 6 (gI σ4 88 4) := ⟨_, rfl⟩
    replace h := h σ6 eσ6
    refine ga_iast (nI := 3704) dX12_ends_30 rfl rfl (by decide) r5 eσ6 ?_
    exact ga_vret dX12_ends_31 rfl h
  · replace q2 : ¬ (gI σ 88 8) = 0 := q2
    have h := hf q2
    exact ga_vret dX12_ends_7 rfl h
abbrev eX12_also (l : Launch) (G : gG) (x1 : Int) (x2 : Int) (σ : gS) (Q : gS → Prop) : Prop := gEv l G mX12_also [.ref (G.2.1 88), vI x1, vI x2] σ Q
set_option maxRecDepth 100000 in
set_option maxHeartbeats 4000000 in
theorem vX12_also {l : Launch} {G : gG} (x1 : Int) (x2 : Int) (rx1 : gR x1) (rx2 : gR x2) (σ : gS) (Q : gS → Prop) (h : (¬ (gI σ 88 8) = 0 → Q σ) ∧
  ((gI σ 88 8) = 0 → ((gI σ 89 5) = 0 → ∀ σ5, σ5 = sI σ 89 5 x1 →
      ∀ σ6, σ6 = sI σ5 89 6 x2 →
      Q σ6) ∧
    (¬ (gI σ 89 5) = 0 → ((gI σ 89 6) < x2 → Q σ) ∧
      (x2 ≤ (gI σ 89 6) → (¬ (gI σ 89 6) = x2 → ∀ σ11, σ11 = sI σ 89 5 x1 →
          ∀ σ12, σ12 = sI σ11 89 6 x2 →
          Q σ12) ∧
        ((gI σ 89 6) = x2 → (x1 < (gI σ 89 5) → ∀ σ15, σ15 = sI σ 89 5 x1 →
            ∀ σ16, σ16 = sI σ15 89 6 x2 →
            Q σ16) ∧
          ((gI σ 89 5) ≤ x1 → Q σ)))))) : eX12_also l G x1 x2 σ Q := by
  refine ga_entry rfl (Nat.le_of_ble_eq_true rfl) ?_
  show gAt l G mX12_also (gQv G Q) 0 [(0, .ref (G.2.1 88)), (1, vI x1), (2, vI x2)] [] σ
  refine ga_aload_n 0 dX12_also_0 rfl rfl ?_
  refine ga_getI (kI := 8) dX12_also_1 fX12_189 rfl rfl rfl (fun r1 => ?_)
  obtain ⟨ht, hf⟩ := h
  refine ga_if_ne (tgt := 48) dX12_also_4 (by decide) r1 (fun q2 => ?_) (fun q2 => ?_)
  · replace q2 : ¬ (gI σ 88 8) = 0 := q2
    have h := ht q2
    exact ga_vret dX12_also_48 rfl h
  · replace q2 : (gI σ 88 8) = 0 := (Decidable.not_not.mp q2)
    have h := hf q2
    refine ga_aload_n 0 dX12_also_7 rfl rfl ?_
    refine ga_getR (kI := 0) (r := 89) dX12_also_8 fX12_7 rfl rfl (by decide) rfl ?_
    refine ga_iconst dX12_also_11 ?_
    refine ga_iald (nI := 3704) dX12_also_12 rfl rfl (by decide) (fun r3 => ?_)
    obtain ⟨ht, hf⟩ := h
    refine ga_if_eq (tgt := 49) dX12_also_13 (by decide) r3 (fun q4 => ?_) (fun q4 => ?_)
    · replace q4 : (gI σ 89 5) = 0 := q4
      have h := ht q4
      refine ga_aload_n 0 dX12_also_49 rfl rfl ?_
      refine ga_getR (kI := 0) (r := 89) dX12_also_50 fX12_7 rfl rfl (by decide) rfl ?_
      refine ga_iconst dX12_also_53 ?_
      refine ga_iload_n 1 dX12_also_54 rfl rfl ?_
      obtain ⟨σ5, eσ5⟩ : ∃ z, z = sI σ 89 5 x1 := ⟨_, rfl⟩
      replace h := h σ5 eσ5
      refine ga_iast (nI := 3704) dX12_also_55 rfl rfl (by decide) rx1 eσ5 ?_
      refine ga_aload_n 0 dX12_also_56 rfl rfl ?_
      refine ga_getR (kI := 0) (r := 89) dX12_also_57 fX12_7 rfl rfl (by decide) rfl ?_
      refine ga_bipush dX12_also_60 (by decide) ?_
      refine ga_iload_n 2 dX12_also_62 rfl rfl ?_
      obtain ⟨σ6, eσ6⟩ : ∃ z, z = sI σ5 89 6 x2 := ⟨_, rfl⟩
      replace h := h σ6 eσ6
      refine ga_iast (nI := 3704) dX12_also_63 rfl rfl (by decide) rx2 eσ6 ?_
      exact ga_vret dX12_also_64 rfl h
    · replace q4 : ¬ (gI σ 89 5) = 0 := q4
      have h := hf q4
      refine ga_aload_n 0 dX12_also_16 rfl rfl ?_
      refine ga_getR (kI := 0) (r := 89) dX12_also_17 fX12_7 rfl rfl (by decide) rfl ?_
      refine ga_bipush dX12_also_20 (by decide) ?_
      refine ga_iald (nI := 3704) dX12_also_22 rfl rfl (by decide) (fun r7 => ?_)
      refine ga_iload_n 2 dX12_also_23 rfl rfl ?_
      obtain ⟨ht, hf⟩ := h
      refine ga_icmp_lt (tgt := 48) dX12_also_24 (by decide) r7 rx2 (fun q8 => ?_) (fun q8 => ?_)
      · replace q8 : (gI σ 89 6) < x2 := q8
        have h := ht q8
        exact ga_vret dX12_also_48 rfl h
      · replace q8 : x2 ≤ (gI σ 89 6) := (Int.not_lt.mp q8)
        have h := hf q8
        refine ga_aload_n 0 dX12_also_27 rfl rfl ?_
        refine ga_getR (kI := 0) (r := 89) dX12_also_28 fX12_7 rfl rfl (by decide) rfl ?_
        refine ga_bipush dX12_also_31 (by decide) ?_
        refine ga_iald (nI := 3704) dX12_also_33 rfl rfl (by decide) (fun r9 => ?_)
        refine ga_iload_n 2 dX12_also_34 rfl rfl ?_
        obtain ⟨ht, hf⟩ := h
        refine ga_icmp_ne (tgt := 49) dX12_also_35 (by decide) r9 rx2 (fun q10 => ?_) (fun q10 => ?_)
        · replace q10 : ¬ (gI σ 89 6) = x2 := q10
          have h := ht q10
          refine ga_aload_n 0 dX12_also_49 rfl rfl ?_
          refine ga_getR (kI := 0) (r := 89) dX12_also_50 fX12_7 rfl rfl (by decide) rfl ?_
          refine ga_iconst dX12_also_53 ?_
          refine ga_iload_n 1 dX12_also_54 rfl rfl ?_
          obtain ⟨σ11, eσ11⟩ : ∃ z, z = sI σ 89 5 x1 := ⟨_, rfl⟩
          replace h := h σ11 eσ11
          refine ga_iast (nI := 3704) dX12_also_55 rfl rfl (by decide) rx1 eσ11 ?_
          refine ga_aload_n 0 dX12_also_56 rfl rfl ?_
          refine ga_getR (kI := 0) (r := 89) dX12_also_57 fX12_7 rfl rfl (by decide) rfl ?_
          refine ga_bipush dX12_also_60 (by decide) ?_
          refine ga_iload_n 2 dX12_also_62 rfl rfl ?_
          obtain ⟨σ12, eσ12⟩ : ∃ z, z = sI σ11 89 6 x2 := ⟨_, rfl⟩
          replace h := h σ12 eσ12
          refine ga_iast (nI := 3704) dX12_also_63 rfl rfl (by decide) rx2 eσ12 ?_
          exact ga_vret dX12_also_64 rfl h
        · replace q10 : (gI σ 89 6) = x2 := (Decidable.not_not.mp q10)
          have h := hf q10
          refine ga_aload_n 0 dX12_also_38 rfl rfl ?_
          refine ga_getR (kI := 0) (r := 89) dX12_also_39 fX12_7 rfl rfl (by decide) rfl ?_
          refine ga_iconst dX12_also_42 ?_
          refine ga_iald (nI := 3704) dX12_also_43 rfl rfl (by decide) (fun r13 => ?_)
          refine ga_iload_n 1 dX12_also_44 rfl rfl ?_
          obtain ⟨ht, hf⟩ := h
          refine ga_icmp_gt (tgt := 49) dX12_also_45 (by decide) r13 rx1 (fun q14 => ?_) (fun q14 => ?_)
          · replace q14 : x1 < (gI σ 89 5) := q14
            have h := ht q14
            refine ga_aload_n 0 dX12_also_49 rfl rfl ?_
            refine ga_getR (kI := 0) (r := 89) dX12_also_50 fX12_7 rfl rfl (by decide) rfl ?_
            refine ga_iconst dX12_also_53 ?_
            refine ga_iload_n 1 dX12_also_54 rfl rfl ?_
            obtain ⟨σ15, eσ15⟩ : ∃ z, z = sI σ 89 5 x1 := ⟨_, rfl⟩
            replace h := h σ15 eσ15
            refine ga_iast (nI := 3704) dX12_also_55 rfl rfl (by decide) rx1 eσ15 ?_
            refine ga_aload_n 0 dX12_also_56 rfl rfl ?_
            refine ga_getR (kI := 0) (r := 89) dX12_also_57 fX12_7 rfl rfl (by decide) rfl ?_
            refine ga_bipush dX12_also_60 (by decide) ?_
            refine ga_iload_n 2 dX12_also_62 rfl rfl ?_
            obtain ⟨σ16, eσ16⟩ : ∃ z, z = sI σ15 89 6 x2 := ⟨_, rfl⟩
            replace h := h σ16 eσ16
            refine ga_iast (nI := 3704) dX12_also_63 rfl rfl (by decide) rx2 eσ16 ?_
            exact ga_vret dX12_also_64 rfl h
          · replace q14 : (gI σ 89 5) ≤ x1 := (Int.not_lt.mp q14)
            have h := hf q14
            exact ga_vret dX12_also_48 rfl h
abbrev eX12_numbered (l : Launch) (G : gG) (x1 : Int) (x2 : Int) (σ : gS) (Q : Int → gS → Prop) : Prop := gEi l G mX12_numbered [.ref (G.2.1 88), vI x1, vI x2] σ Q
set_option maxRecDepth 100000 in
set_option maxHeartbeats 4000000 in
theorem vX12_numbered {l : Launch} {G : gG} (x1 : Int) (x2 : Int) (rx1 : gR x1) (rx2 : gR x2) (σ : gS) (Q : Int → gS → Prop) (h : (¬ (gI σ 88 8) = 0 → eX12_ends l G  σ (fun σ3 =>
    Q x1 σ3)) ∧
  ((gI σ 88 8) = 0 → ((gI σ 88 5) = 1 → eX12_isIn l G (gI σ 88 6) x1 x2 σ (fun v10 σ8 => (v10 = 0 ∨ v10 = 1) →
      (¬ v10 = 0 → eX12_advance l G  σ8 (fun σ12 =>
        eX12_isIn l G (gI σ 88 6) x1 x2 σ12 (fun v16 σ14 => (v16 = 0 ∨ v16 = 1) →
        (∀ v19 : Int, v19 = (if v16 = 0 then x1 else (gI σ 88 6)) →
        Q v19 σ14)))) ∧
      (v10 = 0 → eX12_also l G 2 (gI σ8 88 4) σ8 (fun σ21 =>
        eX12_advance l G  σ21 (fun σ23 =>
        eX12_isIn l G (gI σ 88 6) x1 x2 σ23 (fun v27 σ25 => (v27 = 0 ∨ v27 = 1) →
        (∀ v30 : Int, v30 = (if v27 = 0 then x1 else (gI σ 88 6)) →
        Q v30 σ25))))))) ∧
    (¬ (gI σ 88 5) = 1 → eX12_ends l G  σ (fun σ31 =>
      Q x1 σ31)))) : eX12_numbered l G x1 x2 σ Q := by
  refine ga_entry rfl (Nat.le_of_ble_eq_true rfl) ?_
  show gAt l G mX12_numbered (gQi G Q) 0 [(0, .ref (G.2.1 88)), (1, vI x1), (2, vI x2)] [] σ
  refine ga_aload_n 0 dX12_numbered_0 rfl rfl ?_
  refine ga_getI (kI := 8) dX12_numbered_1 fX12_189 rfl rfl rfl (fun r1 => ?_)
  obtain ⟨ht, hf⟩ := h
  refine ga_if_ne (tgt := 15) dX12_numbered_4 (by decide) r1 (fun q2 => ?_) (fun q2 => ?_)
  · replace q2 : ¬ (gI σ 88 8) = 0 := q2
    have h := ht q2
    refine ga_aload_n 0 dX12_numbered_15 rfl rfl ?_
    refine ga_callVv (z := mX12_ends) (As := []) (rest := []) dX12_numbered_16 wX12_193 qX12_numbered_X12_ends rfl ⟨_, rfl, rfl⟩ rfl rfl (Nat.le_of_ble_eq_true rfl) (gEv_mono h (fun σ3 h => ?_))
    refine ga_iload_n 1 dX12_numbered_19 rfl rfl ?_
    exact ga_iret dX12_numbered_20 rfl rx1 h
  · replace q2 : (gI σ 88 8) = 0 := (Decidable.not_not.mp q2)
    have h := hf q2
    refine ga_aload_n 0 dX12_numbered_7 rfl rfl ?_
    refine ga_getI (kI := 5) dX12_numbered_8 fX12_165 rfl rfl rfl (fun r5 => ?_)
    refine ga_iconst dX12_numbered_11 ?_
    obtain ⟨ht, hf⟩ := h
    refine ga_icmp_eq (tgt := 21) dX12_numbered_12 (by decide) r5 (by decide) (fun q6 => ?_) (fun q6 => ?_)
    · replace q6 : (gI σ 88 5) = 1 := q6
      have h := ht q6
      refine ga_aload_n 0 dX12_numbered_21 rfl rfl ?_
      refine ga_getI (kI := 6) dX12_numbered_22 fX12_186 rfl rfl rfl (fun r7 => ?_)
      refine ga_istore_n (ls' := [(3, vI (gI σ 88 6)), (0, .ref (G.2.1 88)), (1, vI x1), (2, vI x2)]) dX12_numbered_25 rfl (by decide) rfl ?_
      refine ga_iload_n 0 dX12_numbered_26 rfl rfl ?_
      refine ga_iload_n 2 dX12_numbered_27 rfl rfl ?_
      refine ga_iload_n 3 dX12_numbered_28 rfl rfl ?_
      refine ga_callSz (z := mX12_isIn) (As := [vI (gI σ 88 6), vI x1, vI x2]) (rest := []) dX12_numbered_29 wX12_196 qX12_numbered_X12_isIn rfl rfl (Nat.le_of_ble_eq_true rfl) (gEz_mono h (fun v10 σ8 h r9 => ?_))
      replace h := h r9
      obtain ⟨ht, hf⟩ := h
      refine ga_if_ne (tgt := 44) dX12_numbered_32 (by decide) (gR_01 r9) (fun q11 => ?_) (fun q11 => ?_)
      · replace q11 : ¬ v10 = 0 := q11
        have h := ht q11
        refine ga_aload_n 1 dX12_numbered_44 rfl rfl ?_
        refine ga_callVv (z := mX12_advance) (As := []) (rest := []) dX12_numbered_45 wX12_204 qX12_numbered_X12_advance rfl ⟨_, rfl, rfl⟩ rfl rfl (Nat.le_of_ble_eq_true rfl) (gEv_mono h (fun σ12 h => ?_))
        refine ga_iload_n 0 dX12_numbered_48 rfl rfl ?_
        refine ga_iload_n 2 dX12_numbered_49 rfl rfl ?_
        refine ga_iload_n 3 dX12_numbered_50 rfl rfl ?_
        refine ga_callSz (z := mX12_isIn) (As := [vI (gI σ 88 6), vI x1, vI x2]) (rest := []) dX12_numbered_51 wX12_196 qX12_numbered_X12_isIn rfl rfl (Nat.le_of_ble_eq_true rfl) (gEz_mono h (fun v16 σ14 h r15 => ?_))
        replace h := h r15
        have kJ17 : ∀ v19 : Int, gR v19 → v19 = (if v16 = 0 then x1 else (gI σ 88 6)) → gAt l G mX12_numbered (gQi G Q) 62 [(3, vI (gI σ 88 6)), (0, .ref (G.2.1 88)), (1, vI x1), (2, vI x2)] [vI v19] σ14 := by
          intro v19 rv19 ev19
          replace h := h v19 ev19
          exact ga_iret dX12_numbered_62 rfl rv19 h
        replace h : (v16 = 0 → True) ∧
        (¬ v16 = 0 → True) := by repeat (first | exact True.intro | apply And.intro | intro _)
        obtain ⟨ht, hf⟩ := h
        refine ga_if_eq (tgt := 61) dX12_numbered_54 (by decide) (gR_01 r15) (fun q18 => ?_) (fun q18 => ?_)
        · replace q18 : v16 = 0 := q18
          have h := ht q18
          refine ga_iload_n 2 dX12_numbered_61 rfl rfl ?_
          exact kJ17 x1 rx1 (by rw [if_pos q18])
        · replace q18 : ¬ v16 = 0 := q18
          have h := hf q18
          refine ga_iload_n 0 dX12_numbered_57 rfl rfl ?_
          refine ga_goto (tgt := 62) dX12_numbered_58 (by decide) ?_
          exact kJ17 (gI σ 88 6) r7 (by rw [if_neg q18])
      · replace q11 : v10 = 0 := (Decidable.not_not.mp q11)
        have h := hf q11
        refine ga_aload_n 1 dX12_numbered_35 rfl rfl ?_
        refine ga_iconst dX12_numbered_36 ?_
        refine ga_aload_n 1 dX12_numbered_37 rfl rfl ?_
        refine ga_getI (kI := 4) dX12_numbered_38 fX12_162 rfl rfl rfl (fun r20 => ?_)
        refine ga_callVv (z := mX12_also) (As := [vI 2, vI (gI σ8 88 4)]) (rest := []) dX12_numbered_41 wX12_200 qX12_numbered_X12_also rfl ⟨_, rfl, rfl⟩ rfl rfl (Nat.le_of_ble_eq_true rfl) (gEv_mono h (fun σ21 h => ?_))
        refine ga_aload_n 1 dX12_numbered_44 rfl rfl ?_
        refine ga_callVv (z := mX12_advance) (As := []) (rest := []) dX12_numbered_45 wX12_204 qX12_numbered_X12_advance rfl ⟨_, rfl, rfl⟩ rfl rfl (Nat.le_of_ble_eq_true rfl) (gEv_mono h (fun σ23 h => ?_))
        refine ga_iload_n 0 dX12_numbered_48 rfl rfl ?_
        refine ga_iload_n 2 dX12_numbered_49 rfl rfl ?_
        refine ga_iload_n 3 dX12_numbered_50 rfl rfl ?_
        refine ga_callSz (z := mX12_isIn) (As := [vI (gI σ 88 6), vI x1, vI x2]) (rest := []) dX12_numbered_51 wX12_196 qX12_numbered_X12_isIn rfl rfl (Nat.le_of_ble_eq_true rfl) (gEz_mono h (fun v27 σ25 h r26 => ?_))
        replace h := h r26
        have kJ28 : ∀ v30 : Int, gR v30 → v30 = (if v27 = 0 then x1 else (gI σ 88 6)) → gAt l G mX12_numbered (gQi G Q) 62 [(3, vI (gI σ 88 6)), (0, .ref (G.2.1 88)), (1, vI x1), (2, vI x2)] [vI v30] σ25 := by
          intro v30 rv30 ev30
          replace h := h v30 ev30
          exact ga_iret dX12_numbered_62 rfl rv30 h
        replace h : (v27 = 0 → True) ∧
        (¬ v27 = 0 → True) := by repeat (first | exact True.intro | apply And.intro | intro _)
        obtain ⟨ht, hf⟩ := h
        refine ga_if_eq (tgt := 61) dX12_numbered_54 (by decide) (gR_01 r26) (fun q29 => ?_) (fun q29 => ?_)
        · replace q29 : v27 = 0 := q29
          have h := ht q29
          refine ga_iload_n 2 dX12_numbered_61 rfl rfl ?_
          exact kJ28 x1 rx1 (by rw [if_pos q29])
        · replace q29 : ¬ v27 = 0 := q29
          have h := hf q29
          refine ga_iload_n 0 dX12_numbered_57 rfl rfl ?_
          refine ga_goto (tgt := 62) dX12_numbered_58 (by decide) ?_
          exact kJ28 (gI σ 88 6) r7 (by rw [if_neg q29])
    · replace q6 : ¬ (gI σ 88 5) = 1 := q6
      have h := hf q6
      refine ga_aload_n 0 dX12_numbered_15 rfl rfl ?_
      refine ga_callVv (z := mX12_ends) (As := []) (rest := []) dX12_numbered_16 wX12_193 qX12_numbered_X12_ends rfl ⟨_, rfl, rfl⟩ rfl rfl (Nat.le_of_ble_eq_true rfl) (gEv_mono h (fun σ31 h => ?_))
      refine ga_iload_n 1 dX12_numbered_19 rfl rfl ?_
      exact ga_iret dX12_numbered_20 rfl rx1 h
abbrev eX12_wordIn (l : Launch) (G : gG) (x1 : Int) (x2 : Int) (σ : gS) (Q : Int → gS → Prop) : Prop := gEi l G mX12_wordIn [.ref (G.2.1 88), vI x1, vI x2] σ Q
set_option maxRecDepth 100000 in
set_option maxHeartbeats 4000000 in
theorem vX12_wordIn {l : Launch} {G : gG} (x1 : Int) (x2 : Int) (rx1 : gR x1) (rx2 : gR x2) (σ : gS) (Q : Int → gS → Prop) (h : (¬ (gI σ 88 8) = 0 → eX12_ends l G  σ (fun σ3 =>
    Q 0 σ3)) ∧
  ((gI σ 88 8) = 0 → (¬ (gI σ 88 5) = 3 → eX12_ends l G  σ (fun σ7 =>
      Q 0 σ7)) ∧
    ((gI σ 88 5) = 3 → eX12_isIn l G (gI σ 88 7) x1 x2 σ (fun v12 σ10 => (v12 = 0 ∨ v12 = 1) →
      (¬ v12 = 0 → eX12_advance l G  σ10 (fun σ15 =>
        Q (gI σ10 88 7) σ15)) ∧
      (v12 = 0 → eX12_ends l G  σ10 (fun σ17 =>
        Q 0 σ17)))))) : eX12_wordIn l G x1 x2 σ Q := by
  refine ga_entry rfl (Nat.le_of_ble_eq_true rfl) ?_
  show gAt l G mX12_wordIn (gQi G Q) 0 [(0, .ref (G.2.1 88)), (1, vI x1), (2, vI x2)] [] σ
  refine ga_aload_n 0 dX12_wordIn_0 rfl rfl ?_
  refine ga_getI (kI := 8) dX12_wordIn_1 fX12_189 rfl rfl rfl (fun r1 => ?_)
  obtain ⟨ht, hf⟩ := h
  refine ga_if_ne (tgt := 27) dX12_wordIn_4 (by decide) r1 (fun q2 => ?_) (fun q2 => ?_)
  · replace q2 : ¬ (gI σ 88 8) = 0 := q2
    have h := ht q2
    refine ga_aload_n 0 dX12_wordIn_27 rfl rfl ?_
    refine ga_callVv (z := mX12_ends) (As := []) (rest := []) dX12_wordIn_28 wX12_193 qX12_wordIn_X12_ends rfl ⟨_, rfl, rfl⟩ rfl rfl (Nat.le_of_ble_eq_true rfl) (gEv_mono h (fun σ3 h => ?_))
    refine ga_iconst dX12_wordIn_31 ?_
    exact ga_iret dX12_wordIn_32 rfl (by decide) h
  · replace q2 : (gI σ 88 8) = 0 := (Decidable.not_not.mp q2)
    have h := hf q2
    refine ga_aload_n 0 dX12_wordIn_7 rfl rfl ?_
    refine ga_getI (kI := 5) dX12_wordIn_8 fX12_165 rfl rfl rfl (fun r5 => ?_)
    refine ga_iconst dX12_wordIn_11 ?_
    obtain ⟨ht, hf⟩ := h
    refine ga_icmp_ne (tgt := 27) dX12_wordIn_12 (by decide) r5 (by decide) (fun q6 => ?_) (fun q6 => ?_)
    · replace q6 : ¬ (gI σ 88 5) = 3 := q6
      have h := ht q6
      refine ga_aload_n 0 dX12_wordIn_27 rfl rfl ?_
      refine ga_callVv (z := mX12_ends) (As := []) (rest := []) dX12_wordIn_28 wX12_193 qX12_wordIn_X12_ends rfl ⟨_, rfl, rfl⟩ rfl rfl (Nat.le_of_ble_eq_true rfl) (gEv_mono h (fun σ7 h => ?_))
      refine ga_iconst dX12_wordIn_31 ?_
      exact ga_iret dX12_wordIn_32 rfl (by decide) h
    · replace q6 : (gI σ 88 5) = 3 := (Decidable.not_not.mp q6)
      have h := hf q6
      refine ga_aload_n 0 dX12_wordIn_15 rfl rfl ?_
      refine ga_getI (kI := 7) dX12_wordIn_16 fX12_180 rfl rfl rfl (fun r9 => ?_)
      refine ga_iload_n 1 dX12_wordIn_19 rfl rfl ?_
      refine ga_iload_n 2 dX12_wordIn_20 rfl rfl ?_
      refine ga_callSz (z := mX12_isIn) (As := [vI (gI σ 88 7), vI x1, vI x2]) (rest := []) dX12_wordIn_21 wX12_196 qX12_wordIn_X12_isIn rfl rfl (Nat.le_of_ble_eq_true rfl) (gEz_mono h (fun v12 σ10 h r11 => ?_))
      replace h := h r11
      obtain ⟨ht, hf⟩ := h
      refine ga_if_ne (tgt := 33) dX12_wordIn_24 (by decide) (gR_01 r11) (fun q13 => ?_) (fun q13 => ?_)
      · replace q13 : ¬ v12 = 0 := q13
        have h := ht q13
        refine ga_aload_n 0 dX12_wordIn_33 rfl rfl ?_
        refine ga_getI (kI := 7) dX12_wordIn_34 fX12_180 rfl rfl rfl (fun r14 => ?_)
        refine ga_istore_n (ls' := [(3, vI (gI σ10 88 7)), (0, .ref (G.2.1 88)), (1, vI x1), (2, vI x2)]) dX12_wordIn_37 rfl (by decide) rfl ?_
        refine ga_aload_n 1 dX12_wordIn_38 rfl rfl ?_
        refine ga_callVv (z := mX12_advance) (As := []) (rest := []) dX12_wordIn_39 wX12_204 qX12_wordIn_X12_advance rfl ⟨_, rfl, rfl⟩ rfl rfl (Nat.le_of_ble_eq_true rfl) (gEv_mono h (fun σ15 h => ?_))
        refine ga_iload_n 0 dX12_wordIn_42 rfl rfl ?_
        exact ga_iret dX12_wordIn_43 rfl r14 h
      · replace q13 : v12 = 0 := (Decidable.not_not.mp q13)
        have h := hf q13
        refine ga_aload_n 0 dX12_wordIn_27 rfl rfl ?_
        refine ga_callVv (z := mX12_ends) (As := []) (rest := []) dX12_wordIn_28 wX12_193 qX12_wordIn_X12_ends rfl ⟨_, rfl, rfl⟩ rfl rfl (Nat.le_of_ble_eq_true rfl) (gEv_mono h (fun σ17 h => ?_))
        refine ga_iconst dX12_wordIn_31 ?_
        exact ga_iret dX12_wordIn_32 rfl (by decide) h
abbrev eX12_endsLine (l : Launch) (G : gG)  (σ : gS) (Q : gS → Prop) : Prop := gEv l G mX12_endsLine [.ref (G.2.1 88)] σ Q
set_option maxRecDepth 100000 in
set_option maxHeartbeats 4000000 in
theorem vX12_endsLine {l : Launch} {G : gG}  (σ : gS) (Q : gS → Prop) (h : (¬ (gI σ 88 8) = 0 → eX12_ends l G  σ (fun σ3 =>
    Q σ3)) ∧
  ((gI σ 88 8) = 0 → (¬ (gI σ 88 5) = 2 → eX12_ends l G  σ (fun σ7 =>
      Q σ7)) ∧
    ((gI σ 88 5) = 2 → eX12_advance l G  σ (fun σ9 =>
      Q σ9)))) : eX12_endsLine l G  σ Q := by
  refine ga_entry rfl (Nat.le_of_ble_eq_true rfl) ?_
  show gAt l G mX12_endsLine (gQv G Q) 0 [(0, .ref (G.2.1 88))] [] σ
  refine ga_aload_n 0 dX12_endsLine_0 rfl rfl ?_
  refine ga_getI (kI := 8) dX12_endsLine_1 fX12_189 rfl rfl rfl (fun r1 => ?_)
  obtain ⟨ht, hf⟩ := h
  refine ga_if_ne (tgt := 22) dX12_endsLine_4 (by decide) r1 (fun q2 => ?_) (fun q2 => ?_)
  · replace q2 : ¬ (gI σ 88 8) = 0 := q2
    have h := ht q2
    refine ga_aload_n 0 dX12_endsLine_22 rfl rfl ?_
    refine ga_callVv (z := mX12_ends) (As := []) (rest := []) dX12_endsLine_23 wX12_193 qX12_endsLine_X12_ends rfl ⟨_, rfl, rfl⟩ rfl rfl (Nat.le_of_ble_eq_true rfl) (gEv_mono h (fun σ3 h => ?_))
    exact ga_vret dX12_endsLine_26 rfl h
  · replace q2 : (gI σ 88 8) = 0 := (Decidable.not_not.mp q2)
    have h := hf q2
    refine ga_aload_n 0 dX12_endsLine_7 rfl rfl ?_
    refine ga_getI (kI := 5) dX12_endsLine_8 fX12_165 rfl rfl rfl (fun r5 => ?_)
    refine ga_iconst dX12_endsLine_11 ?_
    obtain ⟨ht, hf⟩ := h
    refine ga_icmp_ne (tgt := 22) dX12_endsLine_12 (by decide) r5 (by decide) (fun q6 => ?_) (fun q6 => ?_)
    · replace q6 : ¬ (gI σ 88 5) = 2 := q6
      have h := ht q6
      refine ga_aload_n 0 dX12_endsLine_22 rfl rfl ?_
      refine ga_callVv (z := mX12_ends) (As := []) (rest := []) dX12_endsLine_23 wX12_193 qX12_endsLine_X12_ends rfl ⟨_, rfl, rfl⟩ rfl rfl (Nat.le_of_ble_eq_true rfl) (gEv_mono h (fun σ7 h => ?_))
      exact ga_vret dX12_endsLine_26 rfl h
    · replace q6 : (gI σ 88 5) = 2 := (Decidable.not_not.mp q6)
      have h := hf q6
      refine ga_aload_n 0 dX12_endsLine_15 rfl rfl ?_
      refine ga_callVv (z := mX12_advance) (As := []) (rest := []) dX12_endsLine_16 wX12_204 qX12_endsLine_X12_advance rfl ⟨_, rfl, rfl⟩ rfl rfl (Nat.le_of_ble_eq_true rfl) (gEv_mono h (fun σ9 h => ?_))
      refine ga_goto (tgt := 26) dX12_endsLine_19 (by decide) ?_
      exact ga_vret dX12_endsLine_26 rfl h
abbrev eX12_crossbarLine (l : Launch) (G : gG)  (σ : gS) (Q : gS → Prop) : Prop := gEv l G mX12_crossbarLine [.ref (G.2.1 88)] σ Q
set_option maxRecDepth 100000 in
set_option maxHeartbeats 4000000 in
theorem vX12_crossbarLine {l : Launch} {G : gG}  (σ : gS) (Q : gS → Prop) (h : eX12_wordIn l G 1 4 σ (fun v3 σ1 => gR v3 →
  (∀ v7 : Int, v7 = (if (gI σ1 88 8) = 0 then v3 else 0) →
  (v7 = 1 → eX12_numbered l G 1 6 σ1 (fun v10 σ8 => gR v10 →
      ∀ σ11, σ11 = sI σ8 91 0 v10 →
      eX12_endsLine l G  σ11 (fun σ12 =>
      Q σ12))) ∧
    (v7 = 2 → eX12_numbered l G 1 4 σ1 (fun v16 σ14 => gR v16 →
      ∀ σ17, σ17 = sI σ14 91 1 v16 →
      eX12_endsLine l G  σ17 (fun σ18 =>
      Q σ18))) ∧
    (v7 = 3 → eX12_numbered l G 1 9 σ1 (fun v22 σ20 => gR v22 →
      ∀ σ23, σ23 = sI σ20 91 2 v22 →
      eX12_endsLine l G  σ23 (fun σ24 =>
      Q σ24))) ∧
    (v7 = 4 → eX12_numbered l G 0 5 σ1 (fun v28 σ26 => gR v28 →
      ∀ σ29, σ29 = sI σ26 91 3 v28 →
      eX12_endsLine l G  σ29 (fun σ30 =>
      Q σ30))) ∧
    ((v7 < 1 ∨ 4 < v7) → eX12_endsLine l G  σ1 (fun σ32 =>
      Q σ32))))) : eX12_crossbarLine l G  σ Q := by
  refine ga_entry rfl (Nat.le_of_ble_eq_true rfl) ?_
  show gAt l G mX12_crossbarLine (gQv G Q) 0 [(0, .ref (G.2.1 88))] [] σ
  refine ga_aload_n 0 dX12_crossbarLine_0 rfl rfl ?_
  refine ga_iconst dX12_crossbarLine_1 ?_
  refine ga_iconst dX12_crossbarLine_2 ?_
  refine ga_callVi (z := mX12_wordIn) (As := [vI 1, vI 4]) (rest := []) dX12_crossbarLine_3 wX12_207 qX12_crossbarLine_X12_wordIn rfl ⟨_, rfl, rfl⟩ rfl rfl (Nat.le_of_ble_eq_true rfl) (gEi_mono h (fun v3 σ1 h r2 => ?_))
  replace h := h r2
  refine ga_istore_n (ls' := [(1, vI v3), (0, .ref (G.2.1 88))]) dX12_crossbarLine_6 rfl (by decide) rfl ?_
  refine ga_aload_n 1 dX12_crossbarLine_7 rfl rfl ?_
  refine ga_getI (kI := 8) dX12_crossbarLine_8 fX12_189 rfl rfl rfl (fun r4 => ?_)
  have kJ5 : ∀ v7 : Int, gR v7 → v7 = (if (gI σ1 88 8) = 0 then v3 else 0) → gAt l G mX12_crossbarLine (gQv G Q) 19 [(1, vI v3), (0, .ref (G.2.1 88))] [vI v7] σ1 := by
    intro v7 rv7 ev7
    replace h := h v7 ev7
    obtain ⟨hc34, hc35, hc36, hc37, hd⟩ := h
    by_cases q38 : v7 = 1
    · refine ga_tableIn (tgt := 48) (v := 1) dX12_crossbarLine_19 q38 (by decide) rfl (by decide) ?_
      have h := hc34 q38
      refine ga_aload_n 1 dX12_crossbarLine_48 rfl rfl ?_
      refine ga_getR (kI := 9) (r := 91) dX12_crossbarLine_49 fX12_17 rfl rfl (by decide) rfl ?_
      refine ga_iconst dX12_crossbarLine_52 ?_
      refine ga_aload_n 1 dX12_crossbarLine_53 rfl rfl ?_
      refine ga_iconst dX12_crossbarLine_54 ?_
      refine ga_bipush dX12_crossbarLine_55 (by decide) ?_
      refine ga_callVi (z := mX12_numbered) (As := [vI 1, vI 6]) (rest := [vI 0, .ref (G.2.1 91)]) dX12_crossbarLine_57 wX12_211 qX12_crossbarLine_X12_numbered rfl ⟨_, rfl, rfl⟩ rfl rfl (Nat.le_of_ble_eq_true rfl) (gEi_mono h (fun v10 σ8 h r9 => ?_))
      replace h := h r9
      obtain ⟨σ11, eσ11⟩ : ∃ z, z = sI σ8 91 0 v10 := ⟨_, rfl⟩
      replace h := h σ11 eσ11
      refine ga_iast (nI := 121) dX12_crossbarLine_60 rfl rfl (by decide) r9 eσ11 ?_
      refine ga_goto (tgt := 110) dX12_crossbarLine_61 (by decide) ?_
      refine ga_aload_n 1 dX12_crossbarLine_110 rfl rfl ?_
      refine ga_callVv (z := mX12_endsLine) (As := []) (rest := []) dX12_crossbarLine_111 wX12_214 qX12_crossbarLine_X12_endsLine rfl ⟨_, rfl, rfl⟩ rfl rfl (Nat.le_of_ble_eq_true rfl) (gEv_mono h (fun σ12 h => ?_))
      exact ga_vret dX12_crossbarLine_114 rfl h
    by_cases q39 : v7 = 2
    · refine ga_tableIn (tgt := 64) (v := 2) dX12_crossbarLine_19 q39 (by decide) rfl (by decide) ?_
      have h := hc35 q39
      refine ga_aload_n 1 dX12_crossbarLine_64 rfl rfl ?_
      refine ga_getR (kI := 9) (r := 91) dX12_crossbarLine_65 fX12_17 rfl rfl (by decide) rfl ?_
      refine ga_iconst dX12_crossbarLine_68 ?_
      refine ga_aload_n 1 dX12_crossbarLine_69 rfl rfl ?_
      refine ga_iconst dX12_crossbarLine_70 ?_
      refine ga_iconst dX12_crossbarLine_71 ?_
      refine ga_callVi (z := mX12_numbered) (As := [vI 1, vI 4]) (rest := [vI 1, .ref (G.2.1 91)]) dX12_crossbarLine_72 wX12_211 qX12_crossbarLine_X12_numbered rfl ⟨_, rfl, rfl⟩ rfl rfl (Nat.le_of_ble_eq_true rfl) (gEi_mono h (fun v16 σ14 h r15 => ?_))
      replace h := h r15
      obtain ⟨σ17, eσ17⟩ : ∃ z, z = sI σ14 91 1 v16 := ⟨_, rfl⟩
      replace h := h σ17 eσ17
      refine ga_iast (nI := 121) dX12_crossbarLine_75 rfl rfl (by decide) r15 eσ17 ?_
      refine ga_goto (tgt := 110) dX12_crossbarLine_76 (by decide) ?_
      refine ga_aload_n 1 dX12_crossbarLine_110 rfl rfl ?_
      refine ga_callVv (z := mX12_endsLine) (As := []) (rest := []) dX12_crossbarLine_111 wX12_214 qX12_crossbarLine_X12_endsLine rfl ⟨_, rfl, rfl⟩ rfl rfl (Nat.le_of_ble_eq_true rfl) (gEv_mono h (fun σ18 h => ?_))
      exact ga_vret dX12_crossbarLine_114 rfl h
    by_cases q40 : v7 = 3
    · refine ga_tableIn (tgt := 79) (v := 3) dX12_crossbarLine_19 q40 (by decide) rfl (by decide) ?_
      have h := hc36 q40
      refine ga_aload_n 1 dX12_crossbarLine_79 rfl rfl ?_
      refine ga_getR (kI := 9) (r := 91) dX12_crossbarLine_80 fX12_17 rfl rfl (by decide) rfl ?_
      refine ga_iconst dX12_crossbarLine_83 ?_
      refine ga_aload_n 1 dX12_crossbarLine_84 rfl rfl ?_
      refine ga_iconst dX12_crossbarLine_85 ?_
      refine ga_bipush dX12_crossbarLine_86 (by decide) ?_
      refine ga_callVi (z := mX12_numbered) (As := [vI 1, vI 9]) (rest := [vI 2, .ref (G.2.1 91)]) dX12_crossbarLine_88 wX12_211 qX12_crossbarLine_X12_numbered rfl ⟨_, rfl, rfl⟩ rfl rfl (Nat.le_of_ble_eq_true rfl) (gEi_mono h (fun v22 σ20 h r21 => ?_))
      replace h := h r21
      obtain ⟨σ23, eσ23⟩ : ∃ z, z = sI σ20 91 2 v22 := ⟨_, rfl⟩
      replace h := h σ23 eσ23
      refine ga_iast (nI := 121) dX12_crossbarLine_91 rfl rfl (by decide) r21 eσ23 ?_
      refine ga_goto (tgt := 110) dX12_crossbarLine_92 (by decide) ?_
      refine ga_aload_n 1 dX12_crossbarLine_110 rfl rfl ?_
      refine ga_callVv (z := mX12_endsLine) (As := []) (rest := []) dX12_crossbarLine_111 wX12_214 qX12_crossbarLine_X12_endsLine rfl ⟨_, rfl, rfl⟩ rfl rfl (Nat.le_of_ble_eq_true rfl) (gEv_mono h (fun σ24 h => ?_))
      exact ga_vret dX12_crossbarLine_114 rfl h
    by_cases q41 : v7 = 4
    · refine ga_tableIn (tgt := 95) (v := 4) dX12_crossbarLine_19 q41 (by decide) rfl (by decide) ?_
      have h := hc37 q41
      refine ga_aload_n 1 dX12_crossbarLine_95 rfl rfl ?_
      refine ga_getR (kI := 9) (r := 91) dX12_crossbarLine_96 fX12_17 rfl rfl (by decide) rfl ?_
      refine ga_iconst dX12_crossbarLine_99 ?_
      refine ga_aload_n 1 dX12_crossbarLine_100 rfl rfl ?_
      refine ga_iconst dX12_crossbarLine_101 ?_
      refine ga_iconst dX12_crossbarLine_102 ?_
      refine ga_callVi (z := mX12_numbered) (As := [vI 0, vI 5]) (rest := [vI 3, .ref (G.2.1 91)]) dX12_crossbarLine_103 wX12_211 qX12_crossbarLine_X12_numbered rfl ⟨_, rfl, rfl⟩ rfl rfl (Nat.le_of_ble_eq_true rfl) (gEi_mono h (fun v28 σ26 h r27 => ?_))
      replace h := h r27
      obtain ⟨σ29, eσ29⟩ : ∃ z, z = sI σ26 91 3 v28 := ⟨_, rfl⟩
      replace h := h σ29 eσ29
      refine ga_iast (nI := 121) dX12_crossbarLine_106 rfl rfl (by decide) r27 eσ29 ?_
      refine ga_goto (tgt := 110) dX12_crossbarLine_107 (by decide) ?_
      refine ga_aload_n 1 dX12_crossbarLine_110 rfl rfl ?_
      refine ga_callVv (z := mX12_endsLine) (As := []) (rest := []) dX12_crossbarLine_111 wX12_214 qX12_crossbarLine_X12_endsLine rfl ⟨_, rfl, rfl⟩ rfl rfl (Nat.le_of_ble_eq_true rfl) (gEv_mono h (fun σ30 h => ?_))
      exact ga_vret dX12_crossbarLine_114 rfl h
    have hdc : (v7 < 1 ∨ 4 < v7) := by omega
    have h := hd hdc
    refine ga_tableOut (tgt := 110) dX12_crossbarLine_19 rv7 hdc (by decide) ?_
    refine ga_aload_n 1 dX12_crossbarLine_110 rfl rfl ?_
    refine ga_callVv (z := mX12_endsLine) (As := []) (rest := []) dX12_crossbarLine_111 wX12_214 qX12_crossbarLine_X12_endsLine rfl ⟨_, rfl, rfl⟩ rfl rfl (Nat.le_of_ble_eq_true rfl) (gEv_mono h (fun σ32 h => ?_))
    exact ga_vret dX12_crossbarLine_114 rfl h
  replace h : ((gI σ1 88 8) = 0 → True) ∧
  (¬ (gI σ1 88 8) = 0 → True) := by repeat (first | exact True.intro | apply And.intro | intro _)
  obtain ⟨ht, hf⟩ := h
  refine ga_if_eq (tgt := 18) dX12_crossbarLine_11 (by decide) r4 (fun q6 => ?_) (fun q6 => ?_)
  · replace q6 : (gI σ1 88 8) = 0 := q6
    have h := ht q6
    refine ga_iload_n 0 dX12_crossbarLine_18 rfl rfl ?_
    exact kJ5 v3 r2 (by rw [if_pos q6])
  · replace q6 : ¬ (gI σ1 88 8) = 0 := q6
    have h := hf q6
    refine ga_iconst dX12_crossbarLine_14 ?_
    refine ga_goto (tgt := 19) dX12_crossbarLine_15 (by decide) ?_
    exact kJ5 0 (by decide) (by rw [if_neg q6])
abbrev eX12_trafficLine (l : Launch) (G : gG)  (σ : gS) (Q : gS → Prop) : Prop := gEv l G mX12_trafficLine [.ref (G.2.1 88)] σ Q
abbrev kX12_trafficLine_39 (l : Launch) (G : gG)  (x1 : Int) (x2 : Int) (σ : gS) (Q : gS → Prop) : Prop := gAt l G mX12_trafficLine (gQv G Q) 39 [(0, .ref (G.2.1 88)), (1, vI x1), (2, vI x2)] [] σ
abbrev kX12_trafficLine_69 (l : Launch) (G : gG)  (x1 : Int) (x2 : Int) (y0 : Int) (σ : gS) (Q : gS → Prop) : Prop := gAt l G mX12_trafficLine (gQv G Q) 69 [(0, .ref (G.2.1 88)), (1, vI x1), (2, vI x2)] [vI y0] σ
abbrev kX12_trafficLine_100 (l : Launch) (G : gG)  (x1 : Int) (x2 : Int) (x3 : Int) (y0 : Int) (σ : gS) (Q : gS → Prop) : Prop := gAt l G mX12_trafficLine (gQv G Q) 100 [(0, .ref (G.2.1 88)), (1, vI x1), (2, vI x2), (3, vI x3)] [vI y0] σ
set_option maxRecDepth 100000 in
set_option maxHeartbeats 4000000 in
theorem vX12_trafficLine {l : Launch} {G : gG}  (σ : gS) (Q : gS → Prop) (h : eX12_wordIn l G 5 9 σ (fun v4 σ2 => gR v4 →
  (¬ (gI σ2 88 8) = 0 → kX12_trafficLine_39 l G  (gI σ 88 4) (v4 - 5) σ2 Q) ∧
  ((gI σ2 88 8) = 0 → ((gI σ2 91 0) < 40 → kX12_trafficLine_39 l G  (gI σ 88 4) (v4 - 5) σ2 Q) ∧
    (40 ≤ (gI σ2 91 0) → eX12_also l G 3 (gI σ 88 4) σ2 (fun σ9 =>
      kX12_trafficLine_39 l G  (gI σ 88 4) (v4 - 5) σ9 Q))))) : eX12_trafficLine l G  σ Q := by
  refine ga_entry rfl (Nat.le_of_ble_eq_true rfl) ?_
  show gAt l G mX12_trafficLine (gQv G Q) 0 [(0, .ref (G.2.1 88))] [] σ
  refine ga_aload_n 0 dX12_trafficLine_0 rfl rfl ?_
  refine ga_getI (kI := 4) dX12_trafficLine_1 fX12_162 rfl rfl rfl (fun r1 => ?_)
  refine ga_istore_n (ls' := [(1, vI (gI σ 88 4)), (0, .ref (G.2.1 88))]) dX12_trafficLine_4 rfl (by decide) rfl ?_
  refine ga_aload_n 1 dX12_trafficLine_5 rfl rfl ?_
  refine ga_iconst dX12_trafficLine_6 ?_
  refine ga_bipush dX12_trafficLine_7 (by decide) ?_
  refine ga_callVi (z := mX12_wordIn) (As := [vI 5, vI 9]) (rest := []) dX12_trafficLine_9 wX12_207 qX12_trafficLine_X12_wordIn rfl ⟨_, rfl, rfl⟩ rfl rfl (Nat.le_of_ble_eq_true rfl) (gEi_mono h (fun v4 σ2 h r3 => ?_))
  replace h := h r3
  refine ga_iconst dX12_trafficLine_12 ?_
  refine ga_isub dX12_trafficLine_13 ?_
  refine ga_istore_n (ls' := [(2, vI (v4 - 5)), (1, vI (gI σ 88 4)), (0, .ref (G.2.1 88))]) dX12_trafficLine_14 rfl (by decide) rfl ?_
  refine ga_aload_n 2 dX12_trafficLine_15 rfl rfl ?_
  refine ga_getI (kI := 8) dX12_trafficLine_16 fX12_189 rfl rfl rfl (fun r5 => ?_)
  obtain ⟨ht, hf⟩ := h
  refine ga_if_ne (tgt := 39) dX12_trafficLine_19 (by decide) r5 (fun q6 => ?_) (fun q6 => ?_)
  · replace q6 : ¬ (gI σ2 88 8) = 0 := q6
    have h := ht q6
    exact ga_sub [2, 1, 0] rfl h
  · replace q6 : (gI σ2 88 8) = 0 := (Decidable.not_not.mp q6)
    have h := hf q6
    refine ga_aload_n 2 dX12_trafficLine_22 rfl rfl ?_
    refine ga_getR (kI := 9) (r := 91) dX12_trafficLine_23 fX12_17 rfl rfl (by decide) rfl ?_
    refine ga_iconst dX12_trafficLine_26 ?_
    refine ga_iald (nI := 121) dX12_trafficLine_27 rfl rfl (by decide) (fun r7 => ?_)
    refine ga_bipush dX12_trafficLine_28 (by decide) ?_
    obtain ⟨ht, hf⟩ := h
    refine ga_icmp_lt (tgt := 39) dX12_trafficLine_30 (by decide) r7 (by decide) (fun q8 => ?_) (fun q8 => ?_)
    · replace q8 : (gI σ2 91 0) < 40 := q8
      have h := ht q8
      exact ga_sub [2, 1, 0] rfl h
    · replace q8 : 40 ≤ (gI σ2 91 0) := (Int.not_lt.mp q8)
      have h := hf q8
      refine ga_aload_n 2 dX12_trafficLine_33 rfl rfl ?_
      refine ga_iconst dX12_trafficLine_34 ?_
      refine ga_iload_n 1 dX12_trafficLine_35 rfl rfl ?_
      refine ga_callVv (z := mX12_also) (As := [vI 3, vI (gI σ 88 4)]) (rest := []) dX12_trafficLine_36 wX12_200 qX12_trafficLine_X12_also rfl ⟨_, rfl, rfl⟩ rfl rfl (Nat.le_of_ble_eq_true rfl) (gEv_mono h (fun σ9 h => ?_))
      exact ga_sub [2, 1, 0] rfl h
set_option maxRecDepth 100000 in
set_option maxHeartbeats 4000000 in
theorem vX12_trafficLine_39 {l : Launch} {G : gG}  (x1 : Int) (x2 : Int) (rx1 : gR x1) (rx2 : gR x2) (σ : gS) (Q : gS → Prop) (h : (¬ x2 = 1 → (x2 ≤ 1 → kX12_trafficLine_69 l G  x1 x2 (-1) σ Q) ∧
    (1 < x2 → eX12_numbered l G 0 5 σ (fun v15 σ13 => gR v15 →
      kX12_trafficLine_69 l G  x1 x2 v15 σ13 Q))) ∧
  (x2 = 1 → eX12_numbered l G 1 9 σ (fun v18 σ16 => gR v18 →
    kX12_trafficLine_69 l G  x1 x2 v18 σ16 Q))) : kX12_trafficLine_39 l G  x1 x2 σ Q := by
  refine ga_iload_n 2 dX12_trafficLine_39 rfl rfl ?_
  refine ga_iconst dX12_trafficLine_40 ?_
  obtain ⟨ht, hf⟩ := h
  refine ga_icmp_ne (tgt := 54) dX12_trafficLine_41 (by decide) rx2 (by decide) (fun q11 => ?_) (fun q11 => ?_)
  · replace q11 : ¬ x2 = 1 := q11
    have h := ht q11
    refine ga_iload_n 2 dX12_trafficLine_54 rfl rfl ?_
    refine ga_iconst dX12_trafficLine_55 ?_
    obtain ⟨ht, hf⟩ := h
    refine ga_icmp_le (tgt := 68) dX12_trafficLine_56 (by decide) rx2 (by decide) (fun q12 => ?_) (fun q12 => ?_)
    · replace q12 : x2 ≤ 1 := q12
      have h := ht q12
      refine ga_iconst dX12_trafficLine_68 ?_
      exact ga_sub [0, 1, 2] rfl h
    · replace q12 : 1 < x2 := (Int.not_le.mp q12)
      have h := hf q12
      refine ga_aload_n 0 dX12_trafficLine_59 rfl rfl ?_
      refine ga_iconst dX12_trafficLine_60 ?_
      refine ga_iconst dX12_trafficLine_61 ?_
      refine ga_callVi (z := mX12_numbered) (As := [vI 0, vI 5]) (rest := []) dX12_trafficLine_62 wX12_211 qX12_trafficLine_X12_numbered rfl ⟨_, rfl, rfl⟩ rfl rfl (Nat.le_of_ble_eq_true rfl) (gEi_mono h (fun v15 σ13 h r14 => ?_))
      replace h := h r14
      refine ga_goto (tgt := 69) dX12_trafficLine_65 (by decide) ?_
      exact ga_sub [0, 1, 2] rfl h
  · replace q11 : x2 = 1 := (Decidable.not_not.mp q11)
    have h := hf q11
    refine ga_aload_n 0 dX12_trafficLine_44 rfl rfl ?_
    refine ga_iconst dX12_trafficLine_45 ?_
    refine ga_bipush dX12_trafficLine_46 (by decide) ?_
    refine ga_callVi (z := mX12_numbered) (As := [vI 1, vI 9]) (rest := []) dX12_trafficLine_48 wX12_211 qX12_trafficLine_X12_numbered rfl ⟨_, rfl, rfl⟩ rfl rfl (Nat.le_of_ble_eq_true rfl) (gEi_mono h (fun v18 σ16 h r17 => ?_))
    replace h := h r17
    refine ga_goto (tgt := 69) dX12_trafficLine_51 (by decide) ?_
    exact ga_sub [0, 1, 2] rfl h
set_option maxRecDepth 100000 in
set_option maxHeartbeats 4000000 in
theorem vX12_trafficLine_69 {l : Launch} {G : gG}  (x1 : Int) (x2 : Int) (y0 : Int) (rx1 : gR x1) (rx2 : gR x2) (ry0 : gR y0) (σ : gS) (Q : gS → Prop) (h : (¬ x2 = 2 → (x2 ≤ 2 → kX12_trafficLine_100 l G  x1 x2 y0 (-1) σ Q) ∧
    (2 < x2 → eX12_numbered l G 1 63 σ (fun v23 σ21 => gR v23 →
      kX12_trafficLine_100 l G  x1 x2 y0 v23 σ21 Q))) ∧
  (x2 = 2 → eX12_numbered l G 0 5 σ (fun v26 σ24 => gR v26 →
    kX12_trafficLine_100 l G  x1 x2 y0 v26 σ24 Q))) : kX12_trafficLine_69 l G  x1 x2 y0 σ Q := by
  refine ga_istore_n (ls' := [(3, vI y0), (0, .ref (G.2.1 88)), (1, vI x1), (2, vI x2)]) dX12_trafficLine_69 rfl (by decide) rfl ?_
  refine ga_iload_n 3 dX12_trafficLine_70 rfl rfl ?_
  refine ga_iconst dX12_trafficLine_71 ?_
  obtain ⟨ht, hf⟩ := h
  refine ga_icmp_ne (tgt := 84) dX12_trafficLine_72 (by decide) rx2 (by decide) (fun q19 => ?_) (fun q19 => ?_)
  · replace q19 : ¬ x2 = 2 := q19
    have h := ht q19
    refine ga_iload_n 3 dX12_trafficLine_84 rfl rfl ?_
    refine ga_iconst dX12_trafficLine_85 ?_
    obtain ⟨ht, hf⟩ := h
    refine ga_icmp_le (tgt := 99) dX12_trafficLine_86 (by decide) rx2 (by decide) (fun q20 => ?_) (fun q20 => ?_)
    · replace q20 : x2 ≤ 2 := q20
      have h := ht q20
      refine ga_iconst dX12_trafficLine_99 ?_
      exact ga_sub [1, 2, 3, 0] rfl h
    · replace q20 : 2 < x2 := (Int.not_le.mp q20)
      have h := hf q20
      refine ga_aload_n 1 dX12_trafficLine_89 rfl rfl ?_
      refine ga_iconst dX12_trafficLine_90 ?_
      refine ga_bipush dX12_trafficLine_91 (by decide) ?_
      refine ga_callVi (z := mX12_numbered) (As := [vI 1, vI 63]) (rest := []) dX12_trafficLine_93 wX12_211 qX12_trafficLine_X12_numbered rfl ⟨_, rfl, rfl⟩ rfl rfl (Nat.le_of_ble_eq_true rfl) (gEi_mono h (fun v23 σ21 h r22 => ?_))
      replace h := h r22
      refine ga_goto (tgt := 100) dX12_trafficLine_96 (by decide) ?_
      exact ga_sub [1, 2, 3, 0] rfl h
  · replace q19 : x2 = 2 := (Decidable.not_not.mp q19)
    have h := hf q19
    refine ga_aload_n 1 dX12_trafficLine_75 rfl rfl ?_
    refine ga_iconst dX12_trafficLine_76 ?_
    refine ga_iconst dX12_trafficLine_77 ?_
    refine ga_callVi (z := mX12_numbered) (As := [vI 0, vI 5]) (rest := []) dX12_trafficLine_78 wX12_211 qX12_trafficLine_X12_numbered rfl ⟨_, rfl, rfl⟩ rfl rfl (Nat.le_of_ble_eq_true rfl) (gEi_mono h (fun v26 σ24 h r25 => ?_))
    replace h := h r25
    refine ga_goto (tgt := 100) dX12_trafficLine_81 (by decide) ?_
    exact ga_sub [1, 2, 3, 0] rfl h
set_option maxRecDepth 100000 in
set_option maxHeartbeats 4000000 in
theorem vX12_trafficLine_100 {l : Launch} {G : gG}  (x1 : Int) (x2 : Int) (x3 : Int) (y0 : Int) (rx1 : gR x1) (rx2 : gR x2) (rx3 : gR x3) (ry0 : gR y0) (σ : gS) (Q : gS → Prop) (h : (40 ≤ (gI σ 91 0) → eX12_endsLine l G  σ (fun σ29 =>
    Q σ29)) ∧
  ((gI σ 91 0) < 40 → (0 ≤ (1 + (3 * (gI σ 91 0))) ∧ (1 + (3 * (gI σ 91 0))) < 121) ∧ ∀ σ33, σ33 = sI σ 91 (1 + (3 * (gI σ 91 0))) x2 →
    (0 ≤ ((1 + (3 * (gI σ 91 0))) + 1) ∧ ((1 + (3 * (gI σ 91 0))) + 1) < 121) ∧ ∀ σ35, σ35 = sI σ33 91 ((1 + (3 * (gI σ 91 0))) + 1) x3 →
    (0 ≤ ((1 + (3 * (gI σ 91 0))) + 2) ∧ ((1 + (3 * (gI σ 91 0))) + 2) < 121) ∧ ∀ σ37, σ37 = sI σ35 91 ((1 + (3 * (gI σ 91 0))) + 2) y0 →
    (gR ((gI σ37 91 0) + 1)) ∧ ∀ σ39, σ39 = sI σ37 91 0 ((gI σ37 91 0) + 1) →
    eX12_endsLine l G  σ39 (fun σ41 =>
    Q σ41))) : kX12_trafficLine_100 l G  x1 x2 x3 y0 σ Q := by
  refine ga_istore (ls' := [(4, vI y0), (0, .ref (G.2.1 88)), (1, vI x1), (2, vI x2), (3, vI x3)]) dX12_trafficLine_100 (by decide) rfl ?_
  refine ga_aload_n 1 dX12_trafficLine_102 rfl rfl ?_
  refine ga_getR (kI := 9) (r := 91) dX12_trafficLine_103 fX12_17 rfl rfl (by decide) rfl ?_
  refine ga_iconst dX12_trafficLine_106 ?_
  refine ga_iald (nI := 121) dX12_trafficLine_107 rfl rfl (by decide) (fun r27 => ?_)
  refine ga_bipush dX12_trafficLine_108 (by decide) ?_
  obtain ⟨ht, hf⟩ := h
  refine ga_icmp_ge (tgt := 164) dX12_trafficLine_110 (by decide) r27 (by decide) (fun q28 => ?_) (fun q28 => ?_)
  · replace q28 : 40 ≤ (gI σ 91 0) := q28
    have h := ht q28
    refine ga_aload_n 1 dX12_trafficLine_164 rfl rfl ?_
    refine ga_callVv (z := mX12_endsLine) (As := []) (rest := []) dX12_trafficLine_165 wX12_214 qX12_trafficLine_X12_endsLine rfl ⟨_, rfl, rfl⟩ rfl rfl (Nat.le_of_ble_eq_true rfl) (gEv_mono h (fun σ29 h => ?_))
    exact ga_vret dX12_trafficLine_168 rfl h
  · replace q28 : (gI σ 91 0) < 40 := (Int.not_le.mp q28)
    have h := hf q28
    refine ga_iconst dX12_trafficLine_113 ?_
    refine ga_iconst dX12_trafficLine_114 ?_
    refine ga_aload_n 1 dX12_trafficLine_115 rfl rfl ?_
    refine ga_getR (kI := 9) (r := 91) dX12_trafficLine_116 fX12_17 rfl rfl (by decide) rfl ?_
    refine ga_iconst dX12_trafficLine_119 ?_
    refine ga_iald (nI := 121) dX12_trafficLine_120 rfl rfl (by decide) (fun r31 => ?_)
    refine ga_imul dX12_trafficLine_121 ?_
    refine ga_iadd dX12_trafficLine_122 ?_
    refine ga_istore (ls' := [(5, vI (1 + (3 * (gI σ 91 0)))), (4, vI y0), (0, .ref (G.2.1 88)), (1, vI x1), (2, vI x2), (3, vI x3)]) dX12_trafficLine_123 (by decide) rfl ?_
    refine ga_aload_n 2 dX12_trafficLine_125 rfl rfl ?_
    refine ga_getR (kI := 9) (r := 91) dX12_trafficLine_126 fX12_17 rfl rfl (by decide) rfl ?_
    refine ga_iload 0 dX12_trafficLine_129 rfl ?_
    refine ga_iload_n 4 dX12_trafficLine_131 rfl rfl ?_
    obtain ⟨i32, h⟩ := h
    obtain ⟨σ33, eσ33⟩ : ∃ z, z = sI σ 91 (1 + (3 * (gI σ 91 0))) x2 := ⟨_, rfl⟩
    replace h := h σ33 eσ33
    refine ga_iast (nI := 121) dX12_trafficLine_132 rfl rfl i32 rx2 eσ33 ?_
    refine ga_aload_n 2 dX12_trafficLine_133 rfl rfl ?_
    refine ga_getR (kI := 9) (r := 91) dX12_trafficLine_134 fX12_17 rfl rfl (by decide) rfl ?_
    refine ga_iload 0 dX12_trafficLine_137 rfl ?_
    refine ga_iconst dX12_trafficLine_139 ?_
    refine ga_iadd dX12_trafficLine_140 ?_
    refine ga_iload_n 5 dX12_trafficLine_141 rfl rfl ?_
    obtain ⟨i34, h⟩ := h
    obtain ⟨σ35, eσ35⟩ : ∃ z, z = sI σ33 91 ((1 + (3 * (gI σ 91 0))) + 1) x3 := ⟨_, rfl⟩
    replace h := h σ35 eσ35
    refine ga_iast (nI := 121) dX12_trafficLine_142 rfl rfl i34 rx3 eσ35 ?_
    refine ga_aload_n 2 dX12_trafficLine_143 rfl rfl ?_
    refine ga_getR (kI := 9) (r := 91) dX12_trafficLine_144 fX12_17 rfl rfl (by decide) rfl ?_
    refine ga_iload 0 dX12_trafficLine_147 rfl ?_
    refine ga_iconst dX12_trafficLine_149 ?_
    refine ga_iadd dX12_trafficLine_150 ?_
    refine ga_iload 1 dX12_trafficLine_151 rfl ?_
    obtain ⟨i36, h⟩ := h
    obtain ⟨σ37, eσ37⟩ : ∃ z, z = sI σ35 91 ((1 + (3 * (gI σ 91 0))) + 2) y0 := ⟨_, rfl⟩
    replace h := h σ37 eσ37
    refine ga_iast (nI := 121) dX12_trafficLine_153 rfl rfl i36 ry0 eσ37 ?_
    refine ga_aload_n 2 dX12_trafficLine_154 rfl rfl ?_
    refine ga_getR (kI := 9) (r := 91) dX12_trafficLine_155 fX12_17 rfl rfl (by decide) rfl ?_
    refine ga_iconst dX12_trafficLine_158 ?_
    refine ga_dup2 dX12_trafficLine_159 rfl rfl ?_
    refine ga_iald (nI := 121) dX12_trafficLine_160 rfl rfl (by decide) (fun r38 => ?_)
    refine ga_iconst dX12_trafficLine_161 ?_
    refine ga_iadd dX12_trafficLine_162 ?_
    obtain ⟨r40, h⟩ := h
    obtain ⟨σ39, eσ39⟩ : ∃ z, z = sI σ37 91 0 ((gI σ37 91 0) + 1) := ⟨_, rfl⟩
    replace h := h σ39 eσ39
    refine ga_iast (nI := 121) dX12_trafficLine_163 rfl rfl (by decide) r40 eσ39 ?_
    refine ga_aload_n 2 dX12_trafficLine_164 rfl rfl ?_
    refine ga_callVv (z := mX12_endsLine) (As := []) (rest := []) dX12_trafficLine_165 wX12_214 qX12_trafficLine_X12_endsLine rfl ⟨_, rfl, rfl⟩ rfl rfl (Nat.le_of_ble_eq_true rfl) (gEv_mono h (fun σ41 h => ?_))
    exact ga_vret dX12_trafficLine_168 rfl h
abbrev eX12_logLine (l : Launch) (G : gG)  (σ : gS) (Q : gS → Prop) : Prop := gEv l G mX12_logLine [.ref (G.2.1 88)] σ Q
set_option maxRecDepth 100000 in
set_option maxHeartbeats 4000000 in
theorem vX12_logLine {l : Launch} {G : gG}  (σ : gS) (Q : gS → Prop) (h : eX12_wordIn l G 10 11 σ (fun v4 σ2 => gR v4 →
  (¬ (gI σ2 88 8) = 0 → eX12_numbered l G 0 60 σ2 (fun v9 σ7 => gR v9 →
    eX12_numbered l G 0 5 σ7 (fun v12 σ10 => gR v12 →
    eX12_numbered l G 0 5 σ10 (fun v15 σ13 => gR v15 →
    (8 ≤ (gI σ13 91 0) → eX12_endsLine l G  σ13 (fun σ18 =>
      Q σ18)) ∧
    ((gI σ13 91 0) < 8 → (∀ v23 : Int, v23 = (if v4 = 11 then 0 else 1) →
      (0 ≤ (1 + (4 * (gI σ13 91 0))) ∧ (1 + (4 * (gI σ13 91 0))) < 121) ∧ ∀ σ25, σ25 = sI σ13 91 (1 + (4 * (gI σ13 91 0))) v23 →
        (0 ≤ ((1 + (4 * (gI σ13 91 0))) + 1) ∧ ((1 + (4 * (gI σ13 91 0))) + 1) < 121) ∧ ∀ σ27, σ27 = sI σ25 91 ((1 + (4 * (gI σ13 91 0))) + 1) v9 →
        (0 ≤ ((1 + (4 * (gI σ13 91 0))) + 2) ∧ ((1 + (4 * (gI σ13 91 0))) + 2) < 121) ∧ ∀ σ29, σ29 = sI σ27 91 ((1 + (4 * (gI σ13 91 0))) + 2) v12 →
        (0 ≤ ((1 + (4 * (gI σ13 91 0))) + 3) ∧ ((1 + (4 * (gI σ13 91 0))) + 3) < 121) ∧ ∀ σ31, σ31 = sI σ29 91 ((1 + (4 * (gI σ13 91 0))) + 3) v15 →
        (gR ((gI σ31 91 0) + 1)) ∧ ∀ σ33, σ33 = sI σ31 91 0 ((gI σ31 91 0) + 1) →
        eX12_endsLine l G  σ33 (fun σ35 =>
        Q σ35))))))) ∧
  ((gI σ2 88 8) = 0 → ((gI σ2 91 0) < 8 → eX12_numbered l G 0 60 σ2 (fun v41 σ39 => gR v41 →
      eX12_numbered l G 0 5 σ39 (fun v44 σ42 => gR v44 →
      eX12_numbered l G 0 5 σ42 (fun v47 σ45 => gR v47 →
      (8 ≤ (gI σ45 91 0) → eX12_endsLine l G  σ45 (fun σ50 =>
        Q σ50)) ∧
      ((gI σ45 91 0) < 8 → (∀ v55 : Int, v55 = (if v4 = 11 then 0 else 1) →
        (0 ≤ (1 + (4 * (gI σ45 91 0))) ∧ (1 + (4 * (gI σ45 91 0))) < 121) ∧ ∀ σ57, σ57 = sI σ45 91 (1 + (4 * (gI σ45 91 0))) v55 →
          (0 ≤ ((1 + (4 * (gI σ45 91 0))) + 1) ∧ ((1 + (4 * (gI σ45 91 0))) + 1) < 121) ∧ ∀ σ59, σ59 = sI σ57 91 ((1 + (4 * (gI σ45 91 0))) + 1) v41 →
          (0 ≤ ((1 + (4 * (gI σ45 91 0))) + 2) ∧ ((1 + (4 * (gI σ45 91 0))) + 2) < 121) ∧ ∀ σ61, σ61 = sI σ59 91 ((1 + (4 * (gI σ45 91 0))) + 2) v44 →
          (0 ≤ ((1 + (4 * (gI σ45 91 0))) + 3) ∧ ((1 + (4 * (gI σ45 91 0))) + 3) < 121) ∧ ∀ σ63, σ63 = sI σ61 91 ((1 + (4 * (gI σ45 91 0))) + 3) v47 →
          (gR ((gI σ63 91 0) + 1)) ∧ ∀ σ65, σ65 = sI σ63 91 0 ((gI σ63 91 0) + 1) →
          eX12_endsLine l G  σ65 (fun σ67 =>
          Q σ67))))))) ∧
    (8 ≤ (gI σ2 91 0) → eX12_also l G 3 (gI σ 88 4) σ2 (fun σ69 =>
      eX12_numbered l G 0 60 σ69 (fun v73 σ71 => gR v73 →
      eX12_numbered l G 0 5 σ71 (fun v76 σ74 => gR v76 →
      eX12_numbered l G 0 5 σ74 (fun v79 σ77 => gR v79 →
      (8 ≤ (gI σ77 91 0) → eX12_endsLine l G  σ77 (fun σ82 =>
        Q σ82)) ∧
      ((gI σ77 91 0) < 8 → (∀ v87 : Int, v87 = (if v4 = 11 then 0 else 1) →
        (0 ≤ (1 + (4 * (gI σ77 91 0))) ∧ (1 + (4 * (gI σ77 91 0))) < 121) ∧ ∀ σ89, σ89 = sI σ77 91 (1 + (4 * (gI σ77 91 0))) v87 →
          (0 ≤ ((1 + (4 * (gI σ77 91 0))) + 1) ∧ ((1 + (4 * (gI σ77 91 0))) + 1) < 121) ∧ ∀ σ91, σ91 = sI σ89 91 ((1 + (4 * (gI σ77 91 0))) + 1) v73 →
          (0 ≤ ((1 + (4 * (gI σ77 91 0))) + 2) ∧ ((1 + (4 * (gI σ77 91 0))) + 2) < 121) ∧ ∀ σ93, σ93 = sI σ91 91 ((1 + (4 * (gI σ77 91 0))) + 2) v76 →
          (0 ≤ ((1 + (4 * (gI σ77 91 0))) + 3) ∧ ((1 + (4 * (gI σ77 91 0))) + 3) < 121) ∧ ∀ σ95, σ95 = sI σ93 91 ((1 + (4 * (gI σ77 91 0))) + 3) v79 →
          (gR ((gI σ95 91 0) + 1)) ∧ ∀ σ97, σ97 = sI σ95 91 0 ((gI σ95 91 0) + 1) →
          eX12_endsLine l G  σ97 (fun σ99 =>
          Q σ99))))))))))) : eX12_logLine l G  σ Q := by
  refine ga_entry rfl (Nat.le_of_ble_eq_true rfl) ?_
  show gAt l G mX12_logLine (gQv G Q) 0 [(0, .ref (G.2.1 88))] [] σ
  refine ga_aload_n 0 dX12_logLine_0 rfl rfl ?_
  refine ga_getI (kI := 4) dX12_logLine_1 fX12_162 rfl rfl rfl (fun r1 => ?_)
  refine ga_istore_n (ls' := [(1, vI (gI σ 88 4)), (0, .ref (G.2.1 88))]) dX12_logLine_4 rfl (by decide) rfl ?_
  refine ga_aload_n 1 dX12_logLine_5 rfl rfl ?_
  refine ga_bipush dX12_logLine_6 (by decide) ?_
  refine ga_bipush dX12_logLine_8 (by decide) ?_
  refine ga_callVi (z := mX12_wordIn) (As := [vI 10, vI 11]) (rest := []) dX12_logLine_10 wX12_207 qX12_logLine_X12_wordIn rfl ⟨_, rfl, rfl⟩ rfl rfl (Nat.le_of_ble_eq_true rfl) (gEi_mono h (fun v4 σ2 h r3 => ?_))
  replace h := h r3
  refine ga_istore_n (ls' := [(2, vI v4), (1, vI (gI σ 88 4)), (0, .ref (G.2.1 88))]) dX12_logLine_13 rfl (by decide) rfl ?_
  refine ga_aload_n 2 dX12_logLine_14 rfl rfl ?_
  refine ga_getI (kI := 8) dX12_logLine_15 fX12_189 rfl rfl rfl (fun r5 => ?_)
  obtain ⟨ht, hf⟩ := h
  refine ga_if_ne (tgt := 38) dX12_logLine_18 (by decide) r5 (fun q6 => ?_) (fun q6 => ?_)
  · replace q6 : ¬ (gI σ2 88 8) = 0 := q6
    have h := ht q6
    refine ga_aload_n 2 dX12_logLine_38 rfl rfl ?_
    refine ga_iconst dX12_logLine_39 ?_
    refine ga_bipush dX12_logLine_40 (by decide) ?_
    refine ga_callVi (z := mX12_numbered) (As := [vI 0, vI 60]) (rest := []) dX12_logLine_42 wX12_211 qX12_logLine_X12_numbered rfl ⟨_, rfl, rfl⟩ rfl rfl (Nat.le_of_ble_eq_true rfl) (gEi_mono h (fun v9 σ7 h r8 => ?_))
    replace h := h r8
    refine ga_istore_n (ls' := [(3, vI v9), (2, vI v4), (1, vI (gI σ 88 4)), (0, .ref (G.2.1 88))]) dX12_logLine_45 rfl (by decide) rfl ?_
    refine ga_aload_n 3 dX12_logLine_46 rfl rfl ?_
    refine ga_iconst dX12_logLine_47 ?_
    refine ga_iconst dX12_logLine_48 ?_
    refine ga_callVi (z := mX12_numbered) (As := [vI 0, vI 5]) (rest := []) dX12_logLine_49 wX12_211 qX12_logLine_X12_numbered rfl ⟨_, rfl, rfl⟩ rfl rfl (Nat.le_of_ble_eq_true rfl) (gEi_mono h (fun v12 σ10 h r11 => ?_))
    replace h := h r11
    refine ga_istore (ls' := [(4, vI v12), (3, vI v9), (2, vI v4), (1, vI (gI σ 88 4)), (0, .ref (G.2.1 88))]) dX12_logLine_52 (by decide) rfl ?_
    refine ga_aload_n 4 dX12_logLine_54 rfl rfl ?_
    refine ga_iconst dX12_logLine_55 ?_
    refine ga_iconst dX12_logLine_56 ?_
    refine ga_callVi (z := mX12_numbered) (As := [vI 0, vI 5]) (rest := []) dX12_logLine_57 wX12_211 qX12_logLine_X12_numbered rfl ⟨_, rfl, rfl⟩ rfl rfl (Nat.le_of_ble_eq_true rfl) (gEi_mono h (fun v15 σ13 h r14 => ?_))
    replace h := h r14
    refine ga_istore (ls' := [(5, vI v15), (4, vI v12), (3, vI v9), (2, vI v4), (1, vI (gI σ 88 4)), (0, .ref (G.2.1 88))]) dX12_logLine_60 (by decide) rfl ?_
    refine ga_aload_n 5 dX12_logLine_62 rfl rfl ?_
    refine ga_getR (kI := 9) (r := 91) dX12_logLine_63 fX12_17 rfl rfl (by decide) rfl ?_
    refine ga_iconst dX12_logLine_66 ?_
    refine ga_iald (nI := 121) dX12_logLine_67 rfl rfl (by decide) (fun r16 => ?_)
    refine ga_bipush dX12_logLine_68 (by decide) ?_
    obtain ⟨ht, hf⟩ := h
    refine ga_icmp_ge (tgt := 145) dX12_logLine_70 (by decide) r16 (by decide) (fun q17 => ?_) (fun q17 => ?_)
    · replace q17 : 8 ≤ (gI σ13 91 0) := q17
      have h := ht q17
      refine ga_aload_n 5 dX12_logLine_145 rfl rfl ?_
      refine ga_callVv (z := mX12_endsLine) (As := []) (rest := []) dX12_logLine_146 wX12_214 qX12_logLine_X12_endsLine rfl ⟨_, rfl, rfl⟩ rfl rfl (Nat.le_of_ble_eq_true rfl) (gEv_mono h (fun σ18 h => ?_))
      exact ga_vret dX12_logLine_149 rfl h
    · replace q17 : (gI σ13 91 0) < 8 := (Int.not_le.mp q17)
      have h := hf q17
      refine ga_iconst dX12_logLine_73 ?_
      refine ga_iconst dX12_logLine_74 ?_
      refine ga_aload_n 5 dX12_logLine_75 rfl rfl ?_
      refine ga_getR (kI := 9) (r := 91) dX12_logLine_76 fX12_17 rfl rfl (by decide) rfl ?_
      refine ga_iconst dX12_logLine_79 ?_
      refine ga_iald (nI := 121) dX12_logLine_80 rfl rfl (by decide) (fun r20 => ?_)
      refine ga_imul dX12_logLine_81 ?_
      refine ga_iadd dX12_logLine_82 ?_
      refine ga_istore (ls' := [(6, vI (1 + (4 * (gI σ13 91 0)))), (5, vI v15), (4, vI v12), (3, vI v9), (2, vI v4), (1, vI (gI σ 88 4)), (0, .ref (G.2.1 88))]) dX12_logLine_83 (by decide) rfl ?_
      refine ga_aload_n 6 dX12_logLine_85 rfl rfl ?_
      refine ga_getR (kI := 9) (r := 91) dX12_logLine_86 fX12_17 rfl rfl (by decide) rfl ?_
      refine ga_iload 0 dX12_logLine_89 rfl ?_
      refine ga_iload_n 4 dX12_logLine_91 rfl rfl ?_
      refine ga_bipush dX12_logLine_92 (by decide) ?_
      have kJ21 : ∀ v23 : Int, gR v23 → (v23 = 0 ∨ v23 = 1) → v23 = (if v4 = 11 then 0 else 1) → gAt l G mX12_logLine (gQv G Q) 102 [(6, vI (1 + (4 * (gI σ13 91 0)))), (5, vI v15), (4, vI v12), (3, vI v9), (2, vI v4), (1, vI (gI σ 88 4)), (0, .ref (G.2.1 88))] [vI v23, vI (1 + (4 * (gI σ13 91 0))), .ref (G.2.1 91)] σ13 := by
        intro v23 rv23 bv23 ev23
        replace h := h v23 ev23
        obtain ⟨i24, h⟩ := h
        obtain ⟨σ25, eσ25⟩ : ∃ z, z = sI σ13 91 (1 + (4 * (gI σ13 91 0))) v23 := ⟨_, rfl⟩
        replace h := h σ25 eσ25
        refine ga_iast (nI := 121) dX12_logLine_102 rfl rfl i24 rv23 eσ25 ?_
        refine ga_aload_n 6 dX12_logLine_103 rfl rfl ?_
        refine ga_getR (kI := 9) (r := 91) dX12_logLine_104 fX12_17 rfl rfl (by decide) rfl ?_
        refine ga_iload 0 dX12_logLine_107 rfl ?_
        refine ga_iconst dX12_logLine_109 ?_
        refine ga_iadd dX12_logLine_110 ?_
        refine ga_iload_n 3 dX12_logLine_111 rfl rfl ?_
        obtain ⟨i26, h⟩ := h
        obtain ⟨σ27, eσ27⟩ : ∃ z, z = sI σ25 91 ((1 + (4 * (gI σ13 91 0))) + 1) v9 := ⟨_, rfl⟩
        replace h := h σ27 eσ27
        refine ga_iast (nI := 121) dX12_logLine_112 rfl rfl i26 r8 eσ27 ?_
        refine ga_aload_n 6 dX12_logLine_113 rfl rfl ?_
        refine ga_getR (kI := 9) (r := 91) dX12_logLine_114 fX12_17 rfl rfl (by decide) rfl ?_
        refine ga_iload 0 dX12_logLine_117 rfl ?_
        refine ga_iconst dX12_logLine_119 ?_
        refine ga_iadd dX12_logLine_120 ?_
        refine ga_iload 2 dX12_logLine_121 rfl ?_
        obtain ⟨i28, h⟩ := h
        obtain ⟨σ29, eσ29⟩ : ∃ z, z = sI σ27 91 ((1 + (4 * (gI σ13 91 0))) + 2) v12 := ⟨_, rfl⟩
        replace h := h σ29 eσ29
        refine ga_iast (nI := 121) dX12_logLine_123 rfl rfl i28 r11 eσ29 ?_
        refine ga_aload_n 6 dX12_logLine_124 rfl rfl ?_
        refine ga_getR (kI := 9) (r := 91) dX12_logLine_125 fX12_17 rfl rfl (by decide) rfl ?_
        refine ga_iload 0 dX12_logLine_128 rfl ?_
        refine ga_iconst dX12_logLine_130 ?_
        refine ga_iadd dX12_logLine_131 ?_
        refine ga_iload 1 dX12_logLine_132 rfl ?_
        obtain ⟨i30, h⟩ := h
        obtain ⟨σ31, eσ31⟩ : ∃ z, z = sI σ29 91 ((1 + (4 * (gI σ13 91 0))) + 3) v15 := ⟨_, rfl⟩
        replace h := h σ31 eσ31
        refine ga_iast (nI := 121) dX12_logLine_134 rfl rfl i30 r14 eσ31 ?_
        refine ga_aload_n 6 dX12_logLine_135 rfl rfl ?_
        refine ga_getR (kI := 9) (r := 91) dX12_logLine_136 fX12_17 rfl rfl (by decide) rfl ?_
        refine ga_iconst dX12_logLine_139 ?_
        refine ga_dup2 dX12_logLine_140 rfl rfl ?_
        refine ga_iald (nI := 121) dX12_logLine_141 rfl rfl (by decide) (fun r32 => ?_)
        refine ga_iconst dX12_logLine_142 ?_
        refine ga_iadd dX12_logLine_143 ?_
        obtain ⟨r34, h⟩ := h
        obtain ⟨σ33, eσ33⟩ : ∃ z, z = sI σ31 91 0 ((gI σ31 91 0) + 1) := ⟨_, rfl⟩
        replace h := h σ33 eσ33
        refine ga_iast (nI := 121) dX12_logLine_144 rfl rfl (by decide) r34 eσ33 ?_
        refine ga_aload_n 6 dX12_logLine_145 rfl rfl ?_
        refine ga_callVv (z := mX12_endsLine) (As := []) (rest := []) dX12_logLine_146 wX12_214 qX12_logLine_X12_endsLine rfl ⟨_, rfl, rfl⟩ rfl rfl (Nat.le_of_ble_eq_true rfl) (gEv_mono h (fun σ35 h => ?_))
        exact ga_vret dX12_logLine_149 rfl h
      replace h : (¬ v4 = 11 → True) ∧
      (v4 = 11 → True) := by repeat (first | exact True.intro | apply And.intro | intro _)
      obtain ⟨ht, hf⟩ := h
      refine ga_icmp_ne (tgt := 101) dX12_logLine_94 (by decide) r3 (by decide) (fun q22 => ?_) (fun q22 => ?_)
      · replace q22 : ¬ v4 = 11 := q22
        have h := ht q22
        refine ga_iconst dX12_logLine_101 ?_
        exact kJ21 1 (by decide) (Or.inr rfl) (by rw [if_neg q22])
      · replace q22 : v4 = 11 := (Decidable.not_not.mp q22)
        have h := hf q22
        refine ga_iconst dX12_logLine_97 ?_
        refine ga_goto (tgt := 102) dX12_logLine_98 (by decide) ?_
        exact kJ21 0 (by decide) (Or.inl rfl) (by rw [if_pos q22])
  · replace q6 : (gI σ2 88 8) = 0 := (Decidable.not_not.mp q6)
    have h := hf q6
    refine ga_aload_n 2 dX12_logLine_21 rfl rfl ?_
    refine ga_getR (kI := 9) (r := 91) dX12_logLine_22 fX12_17 rfl rfl (by decide) rfl ?_
    refine ga_iconst dX12_logLine_25 ?_
    refine ga_iald (nI := 121) dX12_logLine_26 rfl rfl (by decide) (fun r37 => ?_)
    refine ga_bipush dX12_logLine_27 (by decide) ?_
    obtain ⟨ht, hf⟩ := h
    refine ga_icmp_lt (tgt := 38) dX12_logLine_29 (by decide) r37 (by decide) (fun q38 => ?_) (fun q38 => ?_)
    · replace q38 : (gI σ2 91 0) < 8 := q38
      have h := ht q38
      refine ga_aload_n 2 dX12_logLine_38 rfl rfl ?_
      refine ga_iconst dX12_logLine_39 ?_
      refine ga_bipush dX12_logLine_40 (by decide) ?_
      refine ga_callVi (z := mX12_numbered) (As := [vI 0, vI 60]) (rest := []) dX12_logLine_42 wX12_211 qX12_logLine_X12_numbered rfl ⟨_, rfl, rfl⟩ rfl rfl (Nat.le_of_ble_eq_true rfl) (gEi_mono h (fun v41 σ39 h r40 => ?_))
      replace h := h r40
      refine ga_istore_n (ls' := [(3, vI v41), (2, vI v4), (1, vI (gI σ 88 4)), (0, .ref (G.2.1 88))]) dX12_logLine_45 rfl (by decide) rfl ?_
      refine ga_aload_n 3 dX12_logLine_46 rfl rfl ?_
      refine ga_iconst dX12_logLine_47 ?_
      refine ga_iconst dX12_logLine_48 ?_
      refine ga_callVi (z := mX12_numbered) (As := [vI 0, vI 5]) (rest := []) dX12_logLine_49 wX12_211 qX12_logLine_X12_numbered rfl ⟨_, rfl, rfl⟩ rfl rfl (Nat.le_of_ble_eq_true rfl) (gEi_mono h (fun v44 σ42 h r43 => ?_))
      replace h := h r43
      refine ga_istore (ls' := [(4, vI v44), (3, vI v41), (2, vI v4), (1, vI (gI σ 88 4)), (0, .ref (G.2.1 88))]) dX12_logLine_52 (by decide) rfl ?_
      refine ga_aload_n 4 dX12_logLine_54 rfl rfl ?_
      refine ga_iconst dX12_logLine_55 ?_
      refine ga_iconst dX12_logLine_56 ?_
      refine ga_callVi (z := mX12_numbered) (As := [vI 0, vI 5]) (rest := []) dX12_logLine_57 wX12_211 qX12_logLine_X12_numbered rfl ⟨_, rfl, rfl⟩ rfl rfl (Nat.le_of_ble_eq_true rfl) (gEi_mono h (fun v47 σ45 h r46 => ?_))
      replace h := h r46
      refine ga_istore (ls' := [(5, vI v47), (4, vI v44), (3, vI v41), (2, vI v4), (1, vI (gI σ 88 4)), (0, .ref (G.2.1 88))]) dX12_logLine_60 (by decide) rfl ?_
      refine ga_aload_n 5 dX12_logLine_62 rfl rfl ?_
      refine ga_getR (kI := 9) (r := 91) dX12_logLine_63 fX12_17 rfl rfl (by decide) rfl ?_
      refine ga_iconst dX12_logLine_66 ?_
      refine ga_iald (nI := 121) dX12_logLine_67 rfl rfl (by decide) (fun r48 => ?_)
      refine ga_bipush dX12_logLine_68 (by decide) ?_
      obtain ⟨ht, hf⟩ := h
      refine ga_icmp_ge (tgt := 145) dX12_logLine_70 (by decide) r48 (by decide) (fun q49 => ?_) (fun q49 => ?_)
      · replace q49 : 8 ≤ (gI σ45 91 0) := q49
        have h := ht q49
        refine ga_aload_n 5 dX12_logLine_145 rfl rfl ?_
        refine ga_callVv (z := mX12_endsLine) (As := []) (rest := []) dX12_logLine_146 wX12_214 qX12_logLine_X12_endsLine rfl ⟨_, rfl, rfl⟩ rfl rfl (Nat.le_of_ble_eq_true rfl) (gEv_mono h (fun σ50 h => ?_))
        exact ga_vret dX12_logLine_149 rfl h
      · replace q49 : (gI σ45 91 0) < 8 := (Int.not_le.mp q49)
        have h := hf q49
        refine ga_iconst dX12_logLine_73 ?_
        refine ga_iconst dX12_logLine_74 ?_
        refine ga_aload_n 5 dX12_logLine_75 rfl rfl ?_
        refine ga_getR (kI := 9) (r := 91) dX12_logLine_76 fX12_17 rfl rfl (by decide) rfl ?_
        refine ga_iconst dX12_logLine_79 ?_
        refine ga_iald (nI := 121) dX12_logLine_80 rfl rfl (by decide) (fun r52 => ?_)
        refine ga_imul dX12_logLine_81 ?_
        refine ga_iadd dX12_logLine_82 ?_
        refine ga_istore (ls' := [(6, vI (1 + (4 * (gI σ45 91 0)))), (5, vI v47), (4, vI v44), (3, vI v41), (2, vI v4), (1, vI (gI σ 88 4)), (0, .ref (G.2.1 88))]) dX12_logLine_83 (by decide) rfl ?_
        refine ga_aload_n 6 dX12_logLine_85 rfl rfl ?_
        refine ga_getR (kI := 9) (r := 91) dX12_logLine_86 fX12_17 rfl rfl (by decide) rfl ?_
        refine ga_iload 0 dX12_logLine_89 rfl ?_
        refine ga_iload_n 4 dX12_logLine_91 rfl rfl ?_
        refine ga_bipush dX12_logLine_92 (by decide) ?_
        have kJ53 : ∀ v55 : Int, gR v55 → (v55 = 0 ∨ v55 = 1) → v55 = (if v4 = 11 then 0 else 1) → gAt l G mX12_logLine (gQv G Q) 102 [(6, vI (1 + (4 * (gI σ45 91 0)))), (5, vI v47), (4, vI v44), (3, vI v41), (2, vI v4), (1, vI (gI σ 88 4)), (0, .ref (G.2.1 88))] [vI v55, vI (1 + (4 * (gI σ45 91 0))), .ref (G.2.1 91)] σ45 := by
          intro v55 rv55 bv55 ev55
          replace h := h v55 ev55
          obtain ⟨i56, h⟩ := h
          obtain ⟨σ57, eσ57⟩ : ∃ z, z = sI σ45 91 (1 + (4 * (gI σ45 91 0))) v55 := ⟨_, rfl⟩
          replace h := h σ57 eσ57
          refine ga_iast (nI := 121) dX12_logLine_102 rfl rfl i56 rv55 eσ57 ?_
          refine ga_aload_n 6 dX12_logLine_103 rfl rfl ?_
          refine ga_getR (kI := 9) (r := 91) dX12_logLine_104 fX12_17 rfl rfl (by decide) rfl ?_
          refine ga_iload 0 dX12_logLine_107 rfl ?_
          refine ga_iconst dX12_logLine_109 ?_
          refine ga_iadd dX12_logLine_110 ?_
          refine ga_iload_n 3 dX12_logLine_111 rfl rfl ?_
          obtain ⟨i58, h⟩ := h
          obtain ⟨σ59, eσ59⟩ : ∃ z, z = sI σ57 91 ((1 + (4 * (gI σ45 91 0))) + 1) v41 := ⟨_, rfl⟩
          replace h := h σ59 eσ59
          refine ga_iast (nI := 121) dX12_logLine_112 rfl rfl i58 r40 eσ59 ?_
          refine ga_aload_n 6 dX12_logLine_113 rfl rfl ?_
          refine ga_getR (kI := 9) (r := 91) dX12_logLine_114 fX12_17 rfl rfl (by decide) rfl ?_
          refine ga_iload 0 dX12_logLine_117 rfl ?_
          refine ga_iconst dX12_logLine_119 ?_
          refine ga_iadd dX12_logLine_120 ?_
          refine ga_iload 2 dX12_logLine_121 rfl ?_
          obtain ⟨i60, h⟩ := h
          obtain ⟨σ61, eσ61⟩ : ∃ z, z = sI σ59 91 ((1 + (4 * (gI σ45 91 0))) + 2) v44 := ⟨_, rfl⟩
          replace h := h σ61 eσ61
          refine ga_iast (nI := 121) dX12_logLine_123 rfl rfl i60 r43 eσ61 ?_
          refine ga_aload_n 6 dX12_logLine_124 rfl rfl ?_
          refine ga_getR (kI := 9) (r := 91) dX12_logLine_125 fX12_17 rfl rfl (by decide) rfl ?_
          refine ga_iload 0 dX12_logLine_128 rfl ?_
          refine ga_iconst dX12_logLine_130 ?_
          refine ga_iadd dX12_logLine_131 ?_
          refine ga_iload 1 dX12_logLine_132 rfl ?_
          obtain ⟨i62, h⟩ := h
          obtain ⟨σ63, eσ63⟩ : ∃ z, z = sI σ61 91 ((1 + (4 * (gI σ45 91 0))) + 3) v47 := ⟨_, rfl⟩
          replace h := h σ63 eσ63
          refine ga_iast (nI := 121) dX12_logLine_134 rfl rfl i62 r46 eσ63 ?_
          refine ga_aload_n 6 dX12_logLine_135 rfl rfl ?_
          refine ga_getR (kI := 9) (r := 91) dX12_logLine_136 fX12_17 rfl rfl (by decide) rfl ?_
          refine ga_iconst dX12_logLine_139 ?_
          refine ga_dup2 dX12_logLine_140 rfl rfl ?_
          refine ga_iald (nI := 121) dX12_logLine_141 rfl rfl (by decide) (fun r64 => ?_)
          refine ga_iconst dX12_logLine_142 ?_
          refine ga_iadd dX12_logLine_143 ?_
          obtain ⟨r66, h⟩ := h
          obtain ⟨σ65, eσ65⟩ : ∃ z, z = sI σ63 91 0 ((gI σ63 91 0) + 1) := ⟨_, rfl⟩
          replace h := h σ65 eσ65
          refine ga_iast (nI := 121) dX12_logLine_144 rfl rfl (by decide) r66 eσ65 ?_
          refine ga_aload_n 6 dX12_logLine_145 rfl rfl ?_
          refine ga_callVv (z := mX12_endsLine) (As := []) (rest := []) dX12_logLine_146 wX12_214 qX12_logLine_X12_endsLine rfl ⟨_, rfl, rfl⟩ rfl rfl (Nat.le_of_ble_eq_true rfl) (gEv_mono h (fun σ67 h => ?_))
          exact ga_vret dX12_logLine_149 rfl h
        replace h : (¬ v4 = 11 → True) ∧
        (v4 = 11 → True) := by repeat (first | exact True.intro | apply And.intro | intro _)
        obtain ⟨ht, hf⟩ := h
        refine ga_icmp_ne (tgt := 101) dX12_logLine_94 (by decide) r3 (by decide) (fun q54 => ?_) (fun q54 => ?_)
        · replace q54 : ¬ v4 = 11 := q54
          have h := ht q54
          refine ga_iconst dX12_logLine_101 ?_
          exact kJ53 1 (by decide) (Or.inr rfl) (by rw [if_neg q54])
        · replace q54 : v4 = 11 := (Decidable.not_not.mp q54)
          have h := hf q54
          refine ga_iconst dX12_logLine_97 ?_
          refine ga_goto (tgt := 102) dX12_logLine_98 (by decide) ?_
          exact kJ53 0 (by decide) (Or.inl rfl) (by rw [if_pos q54])
    · replace q38 : 8 ≤ (gI σ2 91 0) := (Int.not_lt.mp q38)
      have h := hf q38
      refine ga_aload_n 2 dX12_logLine_32 rfl rfl ?_
      refine ga_iconst dX12_logLine_33 ?_
      refine ga_iload_n 1 dX12_logLine_34 rfl rfl ?_
      refine ga_callVv (z := mX12_also) (As := [vI 3, vI (gI σ 88 4)]) (rest := []) dX12_logLine_35 wX12_200 qX12_logLine_X12_also rfl ⟨_, rfl, rfl⟩ rfl rfl (Nat.le_of_ble_eq_true rfl) (gEv_mono h (fun σ69 h => ?_))
      refine ga_aload_n 2 dX12_logLine_38 rfl rfl ?_
      refine ga_iconst dX12_logLine_39 ?_
      refine ga_bipush dX12_logLine_40 (by decide) ?_
      refine ga_callVi (z := mX12_numbered) (As := [vI 0, vI 60]) (rest := []) dX12_logLine_42 wX12_211 qX12_logLine_X12_numbered rfl ⟨_, rfl, rfl⟩ rfl rfl (Nat.le_of_ble_eq_true rfl) (gEi_mono h (fun v73 σ71 h r72 => ?_))
      replace h := h r72
      refine ga_istore_n (ls' := [(3, vI v73), (2, vI v4), (1, vI (gI σ 88 4)), (0, .ref (G.2.1 88))]) dX12_logLine_45 rfl (by decide) rfl ?_
      refine ga_aload_n 3 dX12_logLine_46 rfl rfl ?_
      refine ga_iconst dX12_logLine_47 ?_
      refine ga_iconst dX12_logLine_48 ?_
      refine ga_callVi (z := mX12_numbered) (As := [vI 0, vI 5]) (rest := []) dX12_logLine_49 wX12_211 qX12_logLine_X12_numbered rfl ⟨_, rfl, rfl⟩ rfl rfl (Nat.le_of_ble_eq_true rfl) (gEi_mono h (fun v76 σ74 h r75 => ?_))
      replace h := h r75
      refine ga_istore (ls' := [(4, vI v76), (3, vI v73), (2, vI v4), (1, vI (gI σ 88 4)), (0, .ref (G.2.1 88))]) dX12_logLine_52 (by decide) rfl ?_
      refine ga_aload_n 4 dX12_logLine_54 rfl rfl ?_
      refine ga_iconst dX12_logLine_55 ?_
      refine ga_iconst dX12_logLine_56 ?_
      refine ga_callVi (z := mX12_numbered) (As := [vI 0, vI 5]) (rest := []) dX12_logLine_57 wX12_211 qX12_logLine_X12_numbered rfl ⟨_, rfl, rfl⟩ rfl rfl (Nat.le_of_ble_eq_true rfl) (gEi_mono h (fun v79 σ77 h r78 => ?_))
      replace h := h r78
      refine ga_istore (ls' := [(5, vI v79), (4, vI v76), (3, vI v73), (2, vI v4), (1, vI (gI σ 88 4)), (0, .ref (G.2.1 88))]) dX12_logLine_60 (by decide) rfl ?_
      refine ga_aload_n 5 dX12_logLine_62 rfl rfl ?_
      refine ga_getR (kI := 9) (r := 91) dX12_logLine_63 fX12_17 rfl rfl (by decide) rfl ?_
      refine ga_iconst dX12_logLine_66 ?_
      refine ga_iald (nI := 121) dX12_logLine_67 rfl rfl (by decide) (fun r80 => ?_)
      refine ga_bipush dX12_logLine_68 (by decide) ?_
      obtain ⟨ht, hf⟩ := h
      refine ga_icmp_ge (tgt := 145) dX12_logLine_70 (by decide) r80 (by decide) (fun q81 => ?_) (fun q81 => ?_)
      · replace q81 : 8 ≤ (gI σ77 91 0) := q81
        have h := ht q81
        refine ga_aload_n 5 dX12_logLine_145 rfl rfl ?_
        refine ga_callVv (z := mX12_endsLine) (As := []) (rest := []) dX12_logLine_146 wX12_214 qX12_logLine_X12_endsLine rfl ⟨_, rfl, rfl⟩ rfl rfl (Nat.le_of_ble_eq_true rfl) (gEv_mono h (fun σ82 h => ?_))
        exact ga_vret dX12_logLine_149 rfl h
      · replace q81 : (gI σ77 91 0) < 8 := (Int.not_le.mp q81)
        have h := hf q81
        refine ga_iconst dX12_logLine_73 ?_
        refine ga_iconst dX12_logLine_74 ?_
        refine ga_aload_n 5 dX12_logLine_75 rfl rfl ?_
        refine ga_getR (kI := 9) (r := 91) dX12_logLine_76 fX12_17 rfl rfl (by decide) rfl ?_
        refine ga_iconst dX12_logLine_79 ?_
        refine ga_iald (nI := 121) dX12_logLine_80 rfl rfl (by decide) (fun r84 => ?_)
        refine ga_imul dX12_logLine_81 ?_
        refine ga_iadd dX12_logLine_82 ?_
        refine ga_istore (ls' := [(6, vI (1 + (4 * (gI σ77 91 0)))), (5, vI v79), (4, vI v76), (3, vI v73), (2, vI v4), (1, vI (gI σ 88 4)), (0, .ref (G.2.1 88))]) dX12_logLine_83 (by decide) rfl ?_
        refine ga_aload_n 6 dX12_logLine_85 rfl rfl ?_
        refine ga_getR (kI := 9) (r := 91) dX12_logLine_86 fX12_17 rfl rfl (by decide) rfl ?_
        refine ga_iload 0 dX12_logLine_89 rfl ?_
        refine ga_iload_n 4 dX12_logLine_91 rfl rfl ?_
        refine ga_bipush dX12_logLine_92 (by decide) ?_
        have kJ85 : ∀ v87 : Int, gR v87 → (v87 = 0 ∨ v87 = 1) → v87 = (if v4 = 11 then 0 else 1) → gAt l G mX12_logLine (gQv G Q) 102 [(6, vI (1 + (4 * (gI σ77 91 0)))), (5, vI v79), (4, vI v76), (3, vI v73), (2, vI v4), (1, vI (gI σ 88 4)), (0, .ref (G.2.1 88))] [vI v87, vI (1 + (4 * (gI σ77 91 0))), .ref (G.2.1 91)] σ77 := by
          intro v87 rv87 bv87 ev87
          replace h := h v87 ev87
          obtain ⟨i88, h⟩ := h
          obtain ⟨σ89, eσ89⟩ : ∃ z, z = sI σ77 91 (1 + (4 * (gI σ77 91 0))) v87 := ⟨_, rfl⟩
          replace h := h σ89 eσ89
          refine ga_iast (nI := 121) dX12_logLine_102 rfl rfl i88 rv87 eσ89 ?_
          refine ga_aload_n 6 dX12_logLine_103 rfl rfl ?_
          refine ga_getR (kI := 9) (r := 91) dX12_logLine_104 fX12_17 rfl rfl (by decide) rfl ?_
          refine ga_iload 0 dX12_logLine_107 rfl ?_
          refine ga_iconst dX12_logLine_109 ?_
          refine ga_iadd dX12_logLine_110 ?_
          refine ga_iload_n 3 dX12_logLine_111 rfl rfl ?_
          obtain ⟨i90, h⟩ := h
          obtain ⟨σ91, eσ91⟩ : ∃ z, z = sI σ89 91 ((1 + (4 * (gI σ77 91 0))) + 1) v73 := ⟨_, rfl⟩
          replace h := h σ91 eσ91
          refine ga_iast (nI := 121) dX12_logLine_112 rfl rfl i90 r72 eσ91 ?_
          refine ga_aload_n 6 dX12_logLine_113 rfl rfl ?_
          refine ga_getR (kI := 9) (r := 91) dX12_logLine_114 fX12_17 rfl rfl (by decide) rfl ?_
          refine ga_iload 0 dX12_logLine_117 rfl ?_
          refine ga_iconst dX12_logLine_119 ?_
          refine ga_iadd dX12_logLine_120 ?_
          refine ga_iload 2 dX12_logLine_121 rfl ?_
          obtain ⟨i92, h⟩ := h
          obtain ⟨σ93, eσ93⟩ : ∃ z, z = sI σ91 91 ((1 + (4 * (gI σ77 91 0))) + 2) v76 := ⟨_, rfl⟩
          replace h := h σ93 eσ93
          refine ga_iast (nI := 121) dX12_logLine_123 rfl rfl i92 r75 eσ93 ?_
          refine ga_aload_n 6 dX12_logLine_124 rfl rfl ?_
          refine ga_getR (kI := 9) (r := 91) dX12_logLine_125 fX12_17 rfl rfl (by decide) rfl ?_
          refine ga_iload 0 dX12_logLine_128 rfl ?_
          refine ga_iconst dX12_logLine_130 ?_
          refine ga_iadd dX12_logLine_131 ?_
          refine ga_iload 1 dX12_logLine_132 rfl ?_
          obtain ⟨i94, h⟩ := h
          obtain ⟨σ95, eσ95⟩ : ∃ z, z = sI σ93 91 ((1 + (4 * (gI σ77 91 0))) + 3) v79 := ⟨_, rfl⟩
          replace h := h σ95 eσ95
          refine ga_iast (nI := 121) dX12_logLine_134 rfl rfl i94 r78 eσ95 ?_
          refine ga_aload_n 6 dX12_logLine_135 rfl rfl ?_
          refine ga_getR (kI := 9) (r := 91) dX12_logLine_136 fX12_17 rfl rfl (by decide) rfl ?_
          refine ga_iconst dX12_logLine_139 ?_
          refine ga_dup2 dX12_logLine_140 rfl rfl ?_
          refine ga_iald (nI := 121) dX12_logLine_141 rfl rfl (by decide) (fun r96 => ?_)
          refine ga_iconst dX12_logLine_142 ?_
          refine ga_iadd dX12_logLine_143 ?_
          obtain ⟨r98, h⟩ := h
          obtain ⟨σ97, eσ97⟩ : ∃ z, z = sI σ95 91 0 ((gI σ95 91 0) + 1) := ⟨_, rfl⟩
          replace h := h σ97 eσ97
          refine ga_iast (nI := 121) dX12_logLine_144 rfl rfl (by decide) r98 eσ97 ?_
          refine ga_aload_n 6 dX12_logLine_145 rfl rfl ?_
          refine ga_callVv (z := mX12_endsLine) (As := []) (rest := []) dX12_logLine_146 wX12_214 qX12_logLine_X12_endsLine rfl ⟨_, rfl, rfl⟩ rfl rfl (Nat.le_of_ble_eq_true rfl) (gEv_mono h (fun σ99 h => ?_))
          exact ga_vret dX12_logLine_149 rfl h
        replace h : (¬ v4 = 11 → True) ∧
        (v4 = 11 → True) := by repeat (first | exact True.intro | apply And.intro | intro _)
        obtain ⟨ht, hf⟩ := h
        refine ga_icmp_ne (tgt := 101) dX12_logLine_94 (by decide) r3 (by decide) (fun q86 => ?_) (fun q86 => ?_)
        · replace q86 : ¬ v4 = 11 := q86
          have h := ht q86
          refine ga_iconst dX12_logLine_101 ?_
          exact kJ85 1 (by decide) (Or.inr rfl) (by rw [if_neg q86])
        · replace q86 : v4 = 11 := (Decidable.not_not.mp q86)
          have h := hf q86
          refine ga_iconst dX12_logLine_97 ?_
          refine ga_goto (tgt := 102) dX12_logLine_98 (by decide) ?_
          exact kJ85 0 (by decide) (Or.inl rfl) (by rw [if_pos q86])
abbrev eX12_placeOf (l : Launch) (G : gG) (x0 : Int) (x1 : Int) (σ : gS) (Q : Int → gS → Prop) : Prop := gEi l G mX12_placeOf [vI x0, vI x1] σ Q
set_option maxRecDepth 100000 in
set_option maxHeartbeats 4000000 in
theorem vX12_placeOf {l : Launch} {G : gG} (x0 : Int) (x1 : Int) (rx0 : gR x0) (rx1 : gR x1) (σ : gS) (Q : Int → gS → Prop) (h : ((¬ x0 = 0 → (¬ x0 = 1 → (gR (860 + (33 * x1))) ∧ True) ∧
    (x0 = 1 → (gR (618 + (121 * x1))) ∧ True)) ∧
  (x0 = 0 → (gR (610 + (4 * x1))) ∧ True)) ∧
  (∀ v7 : Int, v7 = (if x0 = 0 then (610 + (4 * x1)) else (if x0 = 1 then (618 + (121 * x1)) else (860 + (33 * x1)))) →
  Q v7 σ)) : eX12_placeOf l G x0 x1 σ Q := by
  refine ga_entry rfl (Nat.le_of_ble_eq_true rfl) ?_
  show gAt l G mX12_placeOf (gQi G Q) 0 [(0, vI x0), (1, vI x1)] [] σ
  refine ga_iload_n 0 dX12_placeOf_0 rfl rfl ?_
  obtain ⟨hob, h⟩ := h
  have kJ1 : ∀ v7 : Int, gR v7 → v7 = (if x0 = 0 then (610 + (4 * x1)) else (if x0 = 1 then (618 + (121 * x1)) else (860 + (33 * x1)))) → gAt l G mX12_placeOf (gQi G Q) 38 [(0, vI x0), (1, vI x1)] [vI v7] σ := by
    intro v7 rv7 ev7
    replace h := h v7 ev7
    exact ga_iret dX12_placeOf_38 rfl rv7 h
  replace h := hob
  obtain ⟨ht, hf⟩ := h
  refine ga_if_ne (tgt := 14) dX12_placeOf_1 (by decide) rx0 (fun q2 => ?_) (fun q2 => ?_)
  · replace q2 : ¬ x0 = 0 := q2
    have h := ht q2
    refine ga_iload_n 0 dX12_placeOf_14 rfl rfl ?_
    refine ga_iconst dX12_placeOf_15 ?_
    obtain ⟨ht, hf⟩ := h
    refine ga_icmp_ne (tgt := 30) dX12_placeOf_16 (by decide) rx0 (by decide) (fun q3 => ?_) (fun q3 => ?_)
    · replace q3 : ¬ x0 = 1 := q3
      have h := ht q3
      refine ga_sipush dX12_placeOf_30 (by decide) ?_
      refine ga_bipush dX12_placeOf_33 (by decide) ?_
      refine ga_iload_n 1 dX12_placeOf_35 rfl rfl ?_
      refine ga_imul dX12_placeOf_36 ?_
      refine ga_iadd dX12_placeOf_37 ?_
      obtain ⟨r4, h⟩ := h
      exact kJ1 (860 + (33 * x1)) r4 (by rw [if_neg q2, if_neg q3])
    · replace q3 : x0 = 1 := (Decidable.not_not.mp q3)
      have h := hf q3
      refine ga_sipush dX12_placeOf_19 (by decide) ?_
      refine ga_bipush dX12_placeOf_22 (by decide) ?_
      refine ga_iload_n 1 dX12_placeOf_24 rfl rfl ?_
      refine ga_imul dX12_placeOf_25 ?_
      refine ga_iadd dX12_placeOf_26 ?_
      refine ga_goto (tgt := 38) dX12_placeOf_27 (by decide) ?_
      obtain ⟨r5, h⟩ := h
      exact kJ1 (618 + (121 * x1)) r5 (by rw [if_neg q2, if_pos q3])
  · replace q2 : x0 = 0 := (Decidable.not_not.mp q2)
    have h := hf q2
    refine ga_sipush dX12_placeOf_4 (by decide) ?_
    refine ga_iconst dX12_placeOf_7 ?_
    refine ga_iload_n 1 dX12_placeOf_8 rfl rfl ?_
    refine ga_imul dX12_placeOf_9 ?_
    refine ga_iadd dX12_placeOf_10 ?_
    refine ga_goto (tgt := 38) dX12_placeOf_11 (by decide) ?_
    obtain ⟨r6, h⟩ := h
    exact kJ1 (610 + (4 * x1)) r6 (by rw [if_pos q2])
abbrev eX12_sizeOf (l : Launch) (G : gG) (x0 : Int) (σ : gS) (Q : Int → gS → Prop) : Prop := gEi l G mX12_sizeOf [vI x0] σ Q
set_option maxRecDepth 100000 in
set_option maxHeartbeats 4000000 in
theorem vX12_sizeOf {l : Launch} {G : gG} (x0 : Int) (rx0 : gR x0) (σ : gS) (Q : Int → gS → Prop) (h : (∀ v4 : Int, v4 = (if x0 = 0 then 4 else (if x0 = 1 then 121 else 33)) →
  Q v4 σ)) : eX12_sizeOf l G x0 σ Q := by
  refine ga_entry rfl (Nat.le_of_ble_eq_true rfl) ?_
  show gAt l G mX12_sizeOf (gQi G Q) 0 [(0, vI x0)] [] σ
  refine ga_iload_n 0 dX12_sizeOf_0 rfl rfl ?_
  have kJ1 : ∀ v4 : Int, gR v4 → v4 = (if x0 = 0 then 4 else (if x0 = 1 then 121 else 33)) → gAt l G mX12_sizeOf (gQi G Q) 20 [(0, vI x0)] [vI v4] σ := by
    intro v4 rv4 ev4
    replace h := h v4 ev4
    exact ga_iret dX12_sizeOf_20 rfl rv4 h
  replace h : (¬ x0 = 0 → (¬ x0 = 1 → True) ∧
    (x0 = 1 → True)) ∧
  (x0 = 0 → True) := by repeat (first | exact True.intro | apply And.intro | intro _)
  obtain ⟨ht, hf⟩ := h
  refine ga_if_ne (tgt := 8) dX12_sizeOf_1 (by decide) rx0 (fun q2 => ?_) (fun q2 => ?_)
  · replace q2 : ¬ x0 = 0 := q2
    have h := ht q2
    refine ga_iload_n 0 dX12_sizeOf_8 rfl rfl ?_
    refine ga_iconst dX12_sizeOf_9 ?_
    obtain ⟨ht, hf⟩ := h
    refine ga_icmp_ne (tgt := 18) dX12_sizeOf_10 (by decide) rx0 (by decide) (fun q3 => ?_) (fun q3 => ?_)
    · replace q3 : ¬ x0 = 1 := q3
      have h := ht q3
      refine ga_bipush dX12_sizeOf_18 (by decide) ?_
      exact kJ1 33 (by decide) (by rw [if_neg q2, if_neg q3])
    · replace q3 : x0 = 1 := (Decidable.not_not.mp q3)
      have h := hf q3
      refine ga_bipush dX12_sizeOf_13 (by decide) ?_
      refine ga_goto (tgt := 20) dX12_sizeOf_15 (by decide) ?_
      exact kJ1 121 (by decide) (by rw [if_neg q2, if_pos q3])
  · replace q2 : x0 = 0 := (Decidable.not_not.mp q2)
    have h := hf q2
    refine ga_iconst dX12_sizeOf_4 ?_
    refine ga_goto (tgt := 20) dX12_sizeOf_5 (by decide) ?_
    exact kJ1 4 (by decide) (by rw [if_pos q2])
abbrev eX12_isOf (l : Launch) (G : gG) (x1 : Int) (x2 : Int) (σ : gS) (Q : Int → gS → Prop) : Prop := gEz l G mX12_isOf [.ref (G.2.1 88), vI x1, vI x2] σ Q
set_option maxRecDepth 100000 in
set_option maxHeartbeats 4000000 in
theorem vX12_isOf {l : Launch} {G : gG} (x1 : Int) (x2 : Int) (rx1 : gR x1) (rx2 : gR x2) (σ : gS) (Q : Int → gS → Prop) (h : (0 ≤ x1 ∧ x1 < 3704) ∧ eX12_isIn l G x2 0 ((gI σ 89 x1) - 1) σ (fun v5 σ3 => (v5 = 0 ∨ v5 = 1) →
  Q v5 σ3)) : eX12_isOf l G x1 x2 σ Q := by
  refine ga_entry rfl (Nat.le_of_ble_eq_true rfl) ?_
  show gAt l G mX12_isOf (gQz G Q) 0 [(0, .ref (G.2.1 88)), (1, vI x1), (2, vI x2)] [] σ
  refine ga_iload_n 2 dX12_isOf_0 rfl rfl ?_
  refine ga_iconst dX12_isOf_1 ?_
  refine ga_aload_n 0 dX12_isOf_2 rfl rfl ?_
  refine ga_getR (kI := 0) (r := 89) dX12_isOf_3 fX12_7 rfl rfl (by decide) rfl ?_
  refine ga_iload_n 1 dX12_isOf_6 rfl rfl ?_
  obtain ⟨i1, h⟩ := h
  refine ga_iald (nI := 3704) dX12_isOf_7 rfl rfl i1 (fun r2 => ?_)
  refine ga_iconst dX12_isOf_8 ?_
  refine ga_isub dX12_isOf_9 ?_
  refine ga_callSz (z := mX12_isIn) (As := [vI x2, vI 0, vI ((gI σ 89 x1) - 1)]) (rest := []) dX12_isOf_10 wX12_196 qX12_isOf_X12_isIn rfl rfl (Nat.le_of_ble_eq_true rfl) (gEz_mono h (fun v5 σ3 h r4 => ?_))
  replace h := h r4
  exact ga_bret dX12_isOf_13 rfl r4 h
abbrev eX12_text (l : Launch) (G : gG) (x1 : Int) (x2 : Int) (σ : gS) (Q : Int → gS → Prop) : Prop := gEi l G mX12_text [.ref (G.2.1 88), vI x1, vI x2] σ Q
abbrev kX12_text_83 (l : Launch) (G : gG)  (x1 : Int) (x2 : Int) (x3 : Int) (σ : gS) (Q : Int → gS → Prop) : Prop := gAt l G mX12_text (gQi G Q) 83 [(0, .ref (G.2.1 88)), (1, vI x1), (2, vI x2), (3, vI x3)] [] σ
abbrev kX12_text_132 (l : Launch) (G : gG)  (x1 : Int) (x2 : Int) (x3 : Int) (σ : gS) (Q : Int → gS → Prop) : Prop := gAt l G mX12_text (gQi G Q) 132 [(0, .ref (G.2.1 88)), (1, vI x1), (2, vI x2), (3, vI x3)] [] σ
abbrev kX12_text_238 (l : Launch) (G : gG)  (x1 : Int) (x2 : Int) (x3 : Int) (x4 : Int) (σ : gS) (Q : Int → gS → Prop) : Prop := gAt l G mX12_text (gQi G Q) 238 [(0, .ref (G.2.1 88)), (1, vI x1), (2, vI x2), (3, vI x3), (4, vI x4)] [] σ
set_option maxRecDepth 100000 in
set_option maxHeartbeats 4000000 in
theorem vX12_text {l : Launch} {G : gG} (x1 : Int) (x2 : Int) (rx1 : gR x1) (rx2 : gR x2) (σ : gS) (Q : Int → gS → Prop) (h : ∀ σ2, σ2 = sI σ 88 2 (gI σ 89 4) →
  ∀ σ3, σ3 = sI σ2 89 4 0 →
  ∀ σ4, σ4 = sI σ3 89 5 0 →
  ∀ σ5, σ5 = sI σ4 89 6 (-1) →
  eX12_isIn l G x1 0 2 σ5 (fun v8 σ6 => (v8 = 0 ∨ v8 = 1) →
  (v8 = 0 → Q (-2) σ6) ∧
  (¬ v8 = 0 → (¬ x2 = (-1) → eX12_isOf l G x1 x2 σ6 (fun v13 σ11 => (v13 = 0 ∨ v13 = 1) →
      (¬ v13 = 0 → ∀ σ15, σ15 = sI σ11 88 3 0 →
        ∀ σ16, σ16 = sI σ15 88 8 0 →
        kX12_text_83 l G  x1 x2 0 σ16 Q) ∧
      (v13 = 0 → Q (-2) σ11))) ∧
    (x2 = (-1) → (0 ≤ x1 ∧ x1 < 3704) ∧ ((gI σ6 89 x1) < 2 → ∀ σ20, σ20 = sI σ6 88 3 0 →
        ∀ σ21, σ21 = sI σ20 88 8 0 →
        kX12_text_83 l G  x1 x2 0 σ21 Q) ∧
      (2 ≤ (gI σ6 89 x1) → Q (-2) σ6))))) : eX12_text l G x1 x2 σ Q := by
  refine ga_entry rfl (Nat.le_of_ble_eq_true rfl) ?_
  show gAt l G mX12_text (gQi G Q) 0 [(0, .ref (G.2.1 88)), (1, vI x1), (2, vI x2)] [] σ
  refine ga_aload_n 0 dX12_text_0 rfl rfl ?_
  refine ga_aload_n 0 dX12_text_1 rfl rfl ?_
  refine ga_getR (kI := 0) (r := 89) dX12_text_2 fX12_7 rfl rfl (by decide) rfl ?_
  refine ga_iconst dX12_text_5 ?_
  refine ga_iald (nI := 3704) dX12_text_6 rfl rfl (by decide) (fun r1 => ?_)
  obtain ⟨σ2, eσ2⟩ : ∃ z, z = sI σ 88 2 (gI σ 89 4) := ⟨_, rfl⟩
  replace h := h σ2 eσ2
  refine ga_putI (kI := 2) dX12_text_7 fX12_141 pX12_2 rfl rfl rfl r1 eσ2 ?_
  refine ga_aload_n 0 dX12_text_10 rfl rfl ?_
  refine ga_getR (kI := 0) (r := 89) dX12_text_11 fX12_7 rfl rfl (by decide) rfl ?_
  refine ga_iconst dX12_text_14 ?_
  refine ga_iconst dX12_text_15 ?_
  obtain ⟨σ3, eσ3⟩ : ∃ z, z = sI σ2 89 4 0 := ⟨_, rfl⟩
  replace h := h σ3 eσ3
  refine ga_iast (nI := 3704) dX12_text_16 rfl rfl (by decide) (by decide) eσ3 ?_
  refine ga_aload_n 0 dX12_text_17 rfl rfl ?_
  refine ga_getR (kI := 0) (r := 89) dX12_text_18 fX12_7 rfl rfl (by decide) rfl ?_
  refine ga_iconst dX12_text_21 ?_
  refine ga_iconst dX12_text_22 ?_
  obtain ⟨σ4, eσ4⟩ : ∃ z, z = sI σ3 89 5 0 := ⟨_, rfl⟩
  replace h := h σ4 eσ4
  refine ga_iast (nI := 3704) dX12_text_23 rfl rfl (by decide) (by decide) eσ4 ?_
  refine ga_aload_n 0 dX12_text_24 rfl rfl ?_
  refine ga_getR (kI := 0) (r := 89) dX12_text_25 fX12_7 rfl rfl (by decide) rfl ?_
  refine ga_bipush dX12_text_28 (by decide) ?_
  refine ga_iconst dX12_text_30 ?_
  obtain ⟨σ5, eσ5⟩ : ∃ z, z = sI σ4 89 6 (-1) := ⟨_, rfl⟩
  replace h := h σ5 eσ5
  refine ga_iast (nI := 3704) dX12_text_31 rfl rfl (by decide) (by decide) eσ5 ?_
  refine ga_iload_n 1 dX12_text_32 rfl rfl ?_
  refine ga_iconst dX12_text_33 ?_
  refine ga_iconst dX12_text_34 ?_
  refine ga_callSz (z := mX12_isIn) (As := [vI x1, vI 0, vI 2]) (rest := []) dX12_text_35 wX12_196 qX12_text_X12_isIn rfl rfl (Nat.le_of_ble_eq_true rfl) (gEz_mono h (fun v8 σ6 h r7 => ?_))
  replace h := h r7
  obtain ⟨ht, hf⟩ := h
  refine ga_if_eq (tgt := 68) dX12_text_38 (by decide) (gR_01 r7) (fun q9 => ?_) (fun q9 => ?_)
  · replace q9 : v8 = 0 := q9
    have h := ht q9
    refine ga_bipush dX12_text_68 (by decide) ?_
    exact ga_iret dX12_text_70 rfl (by decide) h
  · replace q9 : ¬ v8 = 0 := q9
    have h := hf q9
    refine ga_iload_n 2 dX12_text_41 rfl rfl ?_
    refine ga_iconst dX12_text_42 ?_
    obtain ⟨ht, hf⟩ := h
    refine ga_icmp_ne (tgt := 59) dX12_text_43 (by decide) rx2 (by decide) (fun q10 => ?_) (fun q10 => ?_)
    · replace q10 : ¬ x2 = (-1) := q10
      have h := ht q10
      refine ga_aload_n 0 dX12_text_59 rfl rfl ?_
      refine ga_iload_n 1 dX12_text_60 rfl rfl ?_
      refine ga_iload_n 2 dX12_text_61 rfl rfl ?_
      refine ga_callVz (z := mX12_isOf) (As := [vI x1, vI x2]) (rest := []) dX12_text_62 wX12_217 qX12_text_X12_isOf rfl ⟨_, rfl, rfl⟩ rfl rfl (Nat.le_of_ble_eq_true rfl) (gEz_mono h (fun v13 σ11 h r12 => ?_))
      replace h := h r12
      obtain ⟨ht, hf⟩ := h
      refine ga_if_ne (tgt := 71) dX12_text_65 (by decide) (gR_01 r12) (fun q14 => ?_) (fun q14 => ?_)
      · replace q14 : ¬ v13 = 0 := q14
        have h := ht q14
        refine ga_aload_n 0 dX12_text_71 rfl rfl ?_
        refine ga_iconst dX12_text_72 ?_
        obtain ⟨σ15, eσ15⟩ : ∃ z, z = sI σ11 88 3 0 := ⟨_, rfl⟩
        replace h := h σ15 eσ15
        refine ga_putI (kI := 3) dX12_text_73 fX12_155 pX12_3 rfl rfl rfl (by decide) eσ15 ?_
        refine ga_aload_n 0 dX12_text_76 rfl rfl ?_
        refine ga_iconst dX12_text_77 ?_
        obtain ⟨σ16, eσ16⟩ : ∃ z, z = sI σ15 88 8 0 := ⟨_, rfl⟩
        replace h := h σ16 eσ16
        refine ga_putZ (kI := 8) dX12_text_78 fX12_189 pX12_8 rfl rfl rfl (Or.inl rfl) eσ16 ?_
        refine ga_iconst dX12_text_81 ?_
        refine ga_istore_n (ls' := [(3, vI 0), (0, .ref (G.2.1 88)), (1, vI x1), (2, vI x2)]) dX12_text_82 rfl (by decide) rfl ?_
        exact ga_sub [1, 2, 3, 0] rfl h
      · replace q14 : v13 = 0 := (Decidable.not_not.mp q14)
        have h := hf q14
        refine ga_bipush dX12_text_68 (by decide) ?_
        exact ga_iret dX12_text_70 rfl (by decide) h
    · replace q10 : x2 = (-1) := (Decidable.not_not.mp q10)
      have h := hf q10
      refine ga_aload_n 0 dX12_text_46 rfl rfl ?_
      refine ga_getR (kI := 0) (r := 89) dX12_text_47 fX12_7 rfl rfl (by decide) rfl ?_
      refine ga_iload_n 1 dX12_text_50 rfl rfl ?_
      obtain ⟨i17, h⟩ := h
      refine ga_iald (nI := 3704) dX12_text_51 rfl rfl i17 (fun r18 => ?_)
      refine ga_iconst dX12_text_52 ?_
      obtain ⟨ht, hf⟩ := h
      refine ga_icmp_lt (tgt := 71) dX12_text_53 (by decide) r18 (by decide) (fun q19 => ?_) (fun q19 => ?_)
      · replace q19 : (gI σ6 89 x1) < 2 := q19
        have h := ht q19
        refine ga_aload_n 0 dX12_text_71 rfl rfl ?_
        refine ga_iconst dX12_text_72 ?_
        obtain ⟨σ20, eσ20⟩ : ∃ z, z = sI σ6 88 3 0 := ⟨_, rfl⟩
        replace h := h σ20 eσ20
        refine ga_putI (kI := 3) dX12_text_73 fX12_155 pX12_3 rfl rfl rfl (by decide) eσ20 ?_
        refine ga_aload_n 0 dX12_text_76 rfl rfl ?_
        refine ga_iconst dX12_text_77 ?_
        obtain ⟨σ21, eσ21⟩ : ∃ z, z = sI σ20 88 8 0 := ⟨_, rfl⟩
        replace h := h σ21 eσ21
        refine ga_putZ (kI := 8) dX12_text_78 fX12_189 pX12_8 rfl rfl rfl (Or.inl rfl) eσ21 ?_
        refine ga_iconst dX12_text_81 ?_
        refine ga_istore_n (ls' := [(3, vI 0), (0, .ref (G.2.1 88)), (1, vI x1), (2, vI x2)]) dX12_text_82 rfl (by decide) rfl ?_
        exact ga_sub [1, 2, 3, 0] rfl h
      · replace q19 : 2 ≤ (gI σ6 89 x1) := (Int.not_lt.mp q19)
        have h := hf q19
        refine ga_goto (tgt := 68) dX12_text_56 (by decide) ?_
        refine ga_bipush dX12_text_68 (by decide) ?_
        exact ga_iret dX12_text_70 rfl (by decide) h
set_option maxRecDepth 100000 in
set_option maxHeartbeats 4000000 in
theorem vX12_text_83 {l : Launch} {G : gG}  (x1 : Int) (x2 : Int) (x3 : Int) (rx1 : gR x1) (rx2 : gR x2) (rx3 : gR x3) (σ : gS) (Q : Int → gS → Prop) (h : (121 ≤ x3 → (¬ x1 = 0 → eX12_advance l G  σ (fun σ24 =>
      kX12_text_132 l G  x1 x2 x3 σ24 Q)) ∧
    (x1 = 0 → ∀ σ26, σ26 = sI σ 91 0 4 →
      ∀ σ27, σ27 = sI σ26 91 1 2 →
      ∀ σ28, σ28 = sI σ27 91 2 9 →
      eX12_advance l G  σ28 (fun σ29 =>
      kX12_text_132 l G  x1 x2 x3 σ29 Q))) ∧
  (x3 < 121 → (0 ≤ x3 ∧ x3 < 121) ∧ ∀ σ32, σ32 = sI σ 91 x3 0 →
    kX12_text_83 l G  x1 x2 (x3 + 1) σ32 Q)) : kX12_text_83 l G  x1 x2 x3 σ Q := by
  refine ga_iload_n 3 dX12_text_83 rfl rfl ?_
  refine ga_bipush dX12_text_84 (by decide) ?_
  obtain ⟨ht, hf⟩ := h
  refine ga_icmp_ge (tgt := 102) dX12_text_86 (by decide) rx3 (by decide) (fun q22 => ?_) (fun q22 => ?_)
  · replace q22 : 121 ≤ x3 := q22
    have h := ht q22
    refine ga_iload_n 1 dX12_text_102 rfl rfl ?_
    obtain ⟨ht, hf⟩ := h
    refine ga_if_ne (tgt := 128) dX12_text_103 (by decide) rx1 (fun q23 => ?_) (fun q23 => ?_)
    · replace q23 : ¬ x1 = 0 := q23
      have h := ht q23
      refine ga_aload_n 0 dX12_text_128 rfl rfl ?_
      refine ga_callVv (z := mX12_advance) (As := []) (rest := []) dX12_text_129 wX12_204 qX12_text_X12_advance rfl ⟨_, rfl, rfl⟩ rfl rfl (Nat.le_of_ble_eq_true rfl) (gEv_mono h (fun σ24 h => ?_))
      exact ga_sub [0, 1, 2, 3] rfl h
    · replace q23 : x1 = 0 := (Decidable.not_not.mp q23)
      have h := hf q23
      refine ga_aload_n 0 dX12_text_106 rfl rfl ?_
      refine ga_getR (kI := 9) (r := 91) dX12_text_107 fX12_17 rfl rfl (by decide) rfl ?_
      refine ga_iconst dX12_text_110 ?_
      refine ga_iconst dX12_text_111 ?_
      obtain ⟨σ26, eσ26⟩ : ∃ z, z = sI σ 91 0 4 := ⟨_, rfl⟩
      replace h := h σ26 eσ26
      refine ga_iast (nI := 121) dX12_text_112 rfl rfl (by decide) (by decide) eσ26 ?_
      refine ga_aload_n 0 dX12_text_113 rfl rfl ?_
      refine ga_getR (kI := 9) (r := 91) dX12_text_114 fX12_17 rfl rfl (by decide) rfl ?_
      refine ga_iconst dX12_text_117 ?_
      refine ga_iconst dX12_text_118 ?_
      obtain ⟨σ27, eσ27⟩ : ∃ z, z = sI σ26 91 1 2 := ⟨_, rfl⟩
      replace h := h σ27 eσ27
      refine ga_iast (nI := 121) dX12_text_119 rfl rfl (by decide) (by decide) eσ27 ?_
      refine ga_aload_n 0 dX12_text_120 rfl rfl ?_
      refine ga_getR (kI := 9) (r := 91) dX12_text_121 fX12_17 rfl rfl (by decide) rfl ?_
      refine ga_iconst dX12_text_124 ?_
      refine ga_bipush dX12_text_125 (by decide) ?_
      obtain ⟨σ28, eσ28⟩ : ∃ z, z = sI σ27 91 2 9 := ⟨_, rfl⟩
      replace h := h σ28 eσ28
      refine ga_iast (nI := 121) dX12_text_127 rfl rfl (by decide) (by decide) eσ28 ?_
      refine ga_aload_n 0 dX12_text_128 rfl rfl ?_
      refine ga_callVv (z := mX12_advance) (As := []) (rest := []) dX12_text_129 wX12_204 qX12_text_X12_advance rfl ⟨_, rfl, rfl⟩ rfl rfl (Nat.le_of_ble_eq_true rfl) (gEv_mono h (fun σ29 h => ?_))
      exact ga_sub [0, 1, 2, 3] rfl h
  · replace q22 : x3 < 121 := (Int.not_le.mp q22)
    have h := hf q22
    refine ga_aload_n 0 dX12_text_89 rfl rfl ?_
    refine ga_getR (kI := 9) (r := 91) dX12_text_90 fX12_17 rfl rfl (by decide) rfl ?_
    refine ga_iload_n 3 dX12_text_93 rfl rfl ?_
    refine ga_iconst dX12_text_94 ?_
    obtain ⟨i31, h⟩ := h
    obtain ⟨σ32, eσ32⟩ : ∃ z, z = sI σ 91 x3 0 := ⟨_, rfl⟩
    replace h := h σ32 eσ32
    refine ga_iast (nI := 121) dX12_text_95 rfl rfl i31 (by decide) eσ32 ?_
    refine ga_iinc (ls' := [(3, vI (x3 + 1)), (0, .ref (G.2.1 88)), (1, vI x1), (2, vI x2)]) 3 dX12_text_96 rfl (by decide) rfl ?_
    refine ga_goto (tgt := 83) dX12_text_99 (by decide) ?_
    exact ga_sub [1, 2, 3, 0] rfl h
set_option maxRecDepth 100000 in
set_option maxHeartbeats 4000000 in
theorem vX12_text_132 {l : Launch} {G : gG}  (x1 : Int) (x2 : Int) (x3 : Int) (rx1 : gR x1) (rx2 : gR x2) (rx3 : gR x3) (σ : gS) (Q : Int → gS → Prop) (h : (¬ (gI σ 88 8) = 0 → ((gI σ 89 5) = 0 → ((¬ x2 = (-1) → True) ∧
      (x2 = (-1) → (0 ≤ x1 ∧ x1 < 3704) ∧ True)) ∧
      (∀ v41 : Int, v41 = (if x2 = (-1) then (gI σ 89 x1) else x2) →
      (¬ x2 = (-1) → kX12_text_238 l G  x1 x2 v41 0 σ Q) ∧
        (x2 = (-1) → (0 ≤ x1 ∧ x1 < 3704) ∧ (gR ((gI σ 89 x1) + 1)) ∧ ∀ σ45, σ45 = sI σ 89 x1 ((gI σ 89 x1) + 1) →
          kX12_text_238 l G  x1 x2 v41 0 σ45 Q))) ∧
    (¬ (gI σ 89 5) = 0 → Q (-1) σ)) ∧
  ((gI σ 88 8) = 0 → ((gI σ 88 5) = 0 → ((gI σ 89 5) = 0 → ((¬ x2 = (-1) → True) ∧
        (x2 = (-1) → (0 ≤ x1 ∧ x1 < 3704) ∧ True)) ∧
        (∀ v55 : Int, v55 = (if x2 = (-1) then (gI σ 89 x1) else x2) →
        (¬ x2 = (-1) → kX12_text_238 l G  x1 x2 v55 0 σ Q) ∧
          (x2 = (-1) → (0 ≤ x1 ∧ x1 < 3704) ∧ (gR ((gI σ 89 x1) + 1)) ∧ ∀ σ59, σ59 = sI σ 89 x1 ((gI σ 89 x1) + 1) →
            kX12_text_238 l G  x1 x2 v55 0 σ59 Q))) ∧
      (¬ (gI σ 89 5) = 0 → Q (-1) σ)) ∧
    (¬ (gI σ 88 5) = 0 → (x1 = 0 → eX12_crossbarLine l G  σ (fun σ61 =>
        kX12_text_132 l G  x1 x2 x3 σ61 Q)) ∧
      (x1 = 1 → eX12_trafficLine l G  σ (fun σ63 =>
        kX12_text_132 l G  x1 x2 x3 σ63 Q)) ∧
      ((¬ x1 = 0 ∧ ¬ x1 = 1) → eX12_logLine l G  σ (fun σ65 =>
        kX12_text_132 l G  x1 x2 x3 σ65 Q))))) : kX12_text_132 l G  x1 x2 x3 σ Q := by
  refine ga_aload_n 0 dX12_text_132 rfl rfl ?_
  refine ga_getI (kI := 8) dX12_text_133 fX12_189 rfl rfl rfl (fun r33 => ?_)
  obtain ⟨ht, hf⟩ := h
  refine ga_if_ne (tgt := 193) dX12_text_136 (by decide) r33 (fun q34 => ?_) (fun q34 => ?_)
  · replace q34 : ¬ (gI σ 88 8) = 0 := q34
    have h := ht q34
    refine ga_aload_n 0 dX12_text_193 rfl rfl ?_
    refine ga_getR (kI := 0) (r := 89) dX12_text_194 fX12_7 rfl rfl (by decide) rfl ?_
    refine ga_iconst dX12_text_197 ?_
    refine ga_iald (nI := 3704) dX12_text_198 rfl rfl (by decide) (fun r35 => ?_)
    obtain ⟨ht, hf⟩ := h
    refine ga_if_eq (tgt := 204) dX12_text_199 (by decide) r35 (fun q36 => ?_) (fun q36 => ?_)
    · replace q36 : (gI σ 89 5) = 0 := q36
      have h := ht q36
      refine ga_iload_n 2 dX12_text_204 rfl rfl ?_
      refine ga_iconst dX12_text_205 ?_
      obtain ⟨hob, h⟩ := h
      have kJ37 : ∀ v41 : Int, gR v41 → v41 = (if x2 = (-1) then (gI σ 89 x1) else x2) → gAt l G mX12_text (gQi G Q) 219 [(0, .ref (G.2.1 88)), (1, vI x1), (2, vI x2), (3, vI x3)] [vI v41] σ := by
        intro v41 rv41 ev41
        replace h := h v41 ev41
        refine ga_istore_n (ls' := [(3, vI v41), (0, .ref (G.2.1 88)), (1, vI x1), (2, vI x2)]) dX12_text_219 rfl (by decide) rfl ?_
        refine ga_iload_n 3 dX12_text_220 rfl rfl ?_
        refine ga_iconst dX12_text_221 ?_
        obtain ⟨ht, hf⟩ := h
        refine ga_icmp_ne (tgt := 235) dX12_text_222 (by decide) rx2 (by decide) (fun q42 => ?_) (fun q42 => ?_)
        · replace q42 : ¬ x2 = (-1) := q42
          have h := ht q42
          refine ga_iconst dX12_text_235 ?_
          refine ga_istore (ls' := [(4, vI 0), (3, vI v41), (0, .ref (G.2.1 88)), (1, vI x1), (2, vI x2)]) dX12_text_236 (by decide) rfl ?_
          exact ga_sub [2, 3, 4, 1, 0] rfl h
        · replace q42 : x2 = (-1) := (Decidable.not_not.mp q42)
          have h := hf q42
          refine ga_aload_n 1 dX12_text_225 rfl rfl ?_
          refine ga_getR (kI := 0) (r := 89) dX12_text_226 fX12_7 rfl rfl (by decide) rfl ?_
          refine ga_iload_n 2 dX12_text_229 rfl rfl ?_
          refine ga_dup2 dX12_text_230 rfl rfl ?_
          obtain ⟨i43, h⟩ := h
          refine ga_iald (nI := 3704) dX12_text_231 rfl rfl i43 (fun r44 => ?_)
          refine ga_iconst dX12_text_232 ?_
          refine ga_iadd dX12_text_233 ?_
          obtain ⟨r46, h⟩ := h
          obtain ⟨σ45, eσ45⟩ : ∃ z, z = sI σ 89 x1 ((gI σ 89 x1) + 1) := ⟨_, rfl⟩
          replace h := h σ45 eσ45
          refine ga_iast (nI := 3704) dX12_text_234 rfl rfl i43 r46 eσ45 ?_
          refine ga_iconst dX12_text_235 ?_
          refine ga_istore (ls' := [(4, vI 0), (3, vI v41), (0, .ref (G.2.1 88)), (1, vI x1), (2, vI x2)]) dX12_text_236 (by decide) rfl ?_
          exact ga_sub [2, 3, 4, 1, 0] rfl h
      replace h := hob
      obtain ⟨ht, hf⟩ := h
      refine ga_icmp_ne (tgt := 218) dX12_text_206 (by decide) rx2 (by decide) (fun q38 => ?_) (fun q38 => ?_)
      · replace q38 : ¬ x2 = (-1) := q38
        have h := ht q38
        refine ga_iload_n 2 dX12_text_218 rfl rfl ?_
        exact kJ37 x2 rx2 (by rw [if_neg q38])
      · replace q38 : x2 = (-1) := (Decidable.not_not.mp q38)
        have h := hf q38
        refine ga_aload_n 0 dX12_text_209 rfl rfl ?_
        refine ga_getR (kI := 0) (r := 89) dX12_text_210 fX12_7 rfl rfl (by decide) rfl ?_
        refine ga_iload_n 1 dX12_text_213 rfl rfl ?_
        obtain ⟨i39, h⟩ := h
        refine ga_iald (nI := 3704) dX12_text_214 rfl rfl i39 (fun r40 => ?_)
        refine ga_goto (tgt := 219) dX12_text_215 (by decide) ?_
        exact kJ37 (gI σ 89 x1) r40 (by rw [if_pos q38])
    · replace q36 : ¬ (gI σ 89 5) = 0 := q36
      have h := hf q36
      refine ga_iconst dX12_text_202 ?_
      exact ga_iret dX12_text_203 rfl (by decide) h
  · replace q34 : (gI σ 88 8) = 0 := (Decidable.not_not.mp q34)
    have h := hf q34
    refine ga_aload_n 0 dX12_text_139 rfl rfl ?_
    refine ga_getI (kI := 5) dX12_text_140 fX12_165 rfl rfl rfl (fun r47 => ?_)
    obtain ⟨ht, hf⟩ := h
    refine ga_if_eq (tgt := 193) dX12_text_143 (by decide) r47 (fun q48 => ?_) (fun q48 => ?_)
    · replace q48 : (gI σ 88 5) = 0 := q48
      have h := ht q48
      refine ga_aload_n 0 dX12_text_193 rfl rfl ?_
      refine ga_getR (kI := 0) (r := 89) dX12_text_194 fX12_7 rfl rfl (by decide) rfl ?_
      refine ga_iconst dX12_text_197 ?_
      refine ga_iald (nI := 3704) dX12_text_198 rfl rfl (by decide) (fun r49 => ?_)
      obtain ⟨ht, hf⟩ := h
      refine ga_if_eq (tgt := 204) dX12_text_199 (by decide) r49 (fun q50 => ?_) (fun q50 => ?_)
      · replace q50 : (gI σ 89 5) = 0 := q50
        have h := ht q50
        refine ga_iload_n 2 dX12_text_204 rfl rfl ?_
        refine ga_iconst dX12_text_205 ?_
        obtain ⟨hob, h⟩ := h
        have kJ51 : ∀ v55 : Int, gR v55 → v55 = (if x2 = (-1) then (gI σ 89 x1) else x2) → gAt l G mX12_text (gQi G Q) 219 [(0, .ref (G.2.1 88)), (1, vI x1), (2, vI x2), (3, vI x3)] [vI v55] σ := by
          intro v55 rv55 ev55
          replace h := h v55 ev55
          refine ga_istore_n (ls' := [(3, vI v55), (0, .ref (G.2.1 88)), (1, vI x1), (2, vI x2)]) dX12_text_219 rfl (by decide) rfl ?_
          refine ga_iload_n 3 dX12_text_220 rfl rfl ?_
          refine ga_iconst dX12_text_221 ?_
          obtain ⟨ht, hf⟩ := h
          refine ga_icmp_ne (tgt := 235) dX12_text_222 (by decide) rx2 (by decide) (fun q56 => ?_) (fun q56 => ?_)
          · replace q56 : ¬ x2 = (-1) := q56
            have h := ht q56
            refine ga_iconst dX12_text_235 ?_
            refine ga_istore (ls' := [(4, vI 0), (3, vI v55), (0, .ref (G.2.1 88)), (1, vI x1), (2, vI x2)]) dX12_text_236 (by decide) rfl ?_
            exact ga_sub [2, 3, 4, 1, 0] rfl h
          · replace q56 : x2 = (-1) := (Decidable.not_not.mp q56)
            have h := hf q56
            refine ga_aload_n 1 dX12_text_225 rfl rfl ?_
            refine ga_getR (kI := 0) (r := 89) dX12_text_226 fX12_7 rfl rfl (by decide) rfl ?_
            refine ga_iload_n 2 dX12_text_229 rfl rfl ?_
            refine ga_dup2 dX12_text_230 rfl rfl ?_
            obtain ⟨i57, h⟩ := h
            refine ga_iald (nI := 3704) dX12_text_231 rfl rfl i57 (fun r58 => ?_)
            refine ga_iconst dX12_text_232 ?_
            refine ga_iadd dX12_text_233 ?_
            obtain ⟨r60, h⟩ := h
            obtain ⟨σ59, eσ59⟩ : ∃ z, z = sI σ 89 x1 ((gI σ 89 x1) + 1) := ⟨_, rfl⟩
            replace h := h σ59 eσ59
            refine ga_iast (nI := 3704) dX12_text_234 rfl rfl i57 r60 eσ59 ?_
            refine ga_iconst dX12_text_235 ?_
            refine ga_istore (ls' := [(4, vI 0), (3, vI v55), (0, .ref (G.2.1 88)), (1, vI x1), (2, vI x2)]) dX12_text_236 (by decide) rfl ?_
            exact ga_sub [2, 3, 4, 1, 0] rfl h
        replace h := hob
        obtain ⟨ht, hf⟩ := h
        refine ga_icmp_ne (tgt := 218) dX12_text_206 (by decide) rx2 (by decide) (fun q52 => ?_) (fun q52 => ?_)
        · replace q52 : ¬ x2 = (-1) := q52
          have h := ht q52
          refine ga_iload_n 2 dX12_text_218 rfl rfl ?_
          exact kJ51 x2 rx2 (by rw [if_neg q52])
        · replace q52 : x2 = (-1) := (Decidable.not_not.mp q52)
          have h := hf q52
          refine ga_aload_n 0 dX12_text_209 rfl rfl ?_
          refine ga_getR (kI := 0) (r := 89) dX12_text_210 fX12_7 rfl rfl (by decide) rfl ?_
          refine ga_iload_n 1 dX12_text_213 rfl rfl ?_
          obtain ⟨i53, h⟩ := h
          refine ga_iald (nI := 3704) dX12_text_214 rfl rfl i53 (fun r54 => ?_)
          refine ga_goto (tgt := 219) dX12_text_215 (by decide) ?_
          exact kJ51 (gI σ 89 x1) r54 (by rw [if_pos q52])
      · replace q50 : ¬ (gI σ 89 5) = 0 := q50
        have h := hf q50
        refine ga_iconst dX12_text_202 ?_
        exact ga_iret dX12_text_203 rfl (by decide) h
    · replace q48 : ¬ (gI σ 88 5) = 0 := q48
      have h := hf q48
      refine ga_iload_n 1 dX12_text_146 rfl rfl ?_
      obtain ⟨hc67, hc68, hd⟩ := h
      by_cases q69 : x1 = 0
      · refine ga_lookup (off := 25) (tgt := 172) dX12_text_147 rx1 rfl (by rw [q69]; first | done | rfl) (by decide) ?_
        have h := hc67 q69
        refine ga_aload_n 0 dX12_text_172 rfl rfl ?_
        refine ga_callVv (z := mX12_crossbarLine) (As := []) (rest := []) dX12_text_173 wX12_221 qX12_text_X12_crossbarLine rfl ⟨_, rfl, rfl⟩ rfl rfl (Nat.le_of_ble_eq_true rfl) (gEv_mono h (fun σ61 h => ?_))
        refine ga_goto (tgt := 132) dX12_text_176 (by decide) ?_
        exact ga_sub [0, 1, 2, 3] rfl h
      by_cases q70 : x1 = 1
      · refine ga_lookup (off := 32) (tgt := 179) dX12_text_147 rx1 rfl (by rw [q70]; first | done | rfl) (by decide) ?_
        have h := hc68 q70
        refine ga_aload_n 0 dX12_text_179 rfl rfl ?_
        refine ga_callVv (z := mX12_trafficLine) (As := []) (rest := []) dX12_text_180 wX12_224 qX12_text_X12_trafficLine rfl ⟨_, rfl, rfl⟩ rfl rfl (Nat.le_of_ble_eq_true rfl) (gEv_mono h (fun σ63 h => ?_))
        refine ga_goto (tgt := 132) dX12_text_183 (by decide) ?_
        exact ga_sub [0, 1, 2, 3] rfl h
      have hdc : (¬ x1 = 0 ∧ ¬ x1 = 1) := by omega
      have h := hd hdc
      refine ga_lookup (off := 39) (tgt := 186) dX12_text_147 rx1 rfl (glook2 hdc.1 hdc.2) (by decide) ?_
      refine ga_aload_n 0 dX12_text_186 rfl rfl ?_
      refine ga_callVv (z := mX12_logLine) (As := []) (rest := []) dX12_text_187 wX12_227 qX12_text_X12_logLine rfl ⟨_, rfl, rfl⟩ rfl rfl (Nat.le_of_ble_eq_true rfl) (gEv_mono h (fun σ65 h => ?_))
      refine ga_goto (tgt := 132) dX12_text_190 (by decide) ?_
      exact ga_sub [0, 1, 2, 3] rfl h
set_option maxRecDepth 100000 in
set_option maxHeartbeats 4000000 in
theorem vX12_text_238 {l : Launch} {G : gG}  (x1 : Int) (x2 : Int) (x3 : Int) (x4 : Int) (rx1 : gR x1) (rx2 : gR x2) (rx3 : gR x3) (rx4 : gR x4) (σ : gS) (Q : Int → gS → Prop) (h : eX12_sizeOf l G x1 σ (fun v73 σ71 => gR v73 →
  (v73 ≤ x4 → Q x3 σ71) ∧
  (x4 < v73 → eX12_placeOf l G x1 x3 σ71 (fun v77 σ75 => gR v77 →
    (0 ≤ x4 ∧ x4 < 121) ∧ (0 ≤ (v77 + x4) ∧ (v77 + x4) < 3704) ∧ ∀ σ81, σ81 = sI σ75 89 (v77 + x4) (gI σ75 91 x4) →
    kX12_text_238 l G  x1 x2 x3 (x4 + 1) σ81 Q)))) : kX12_text_238 l G  x1 x2 x3 x4 σ Q := by
  refine ga_iload 4 dX12_text_238 rfl ?_
  refine ga_iload_n 1 dX12_text_240 rfl rfl ?_
  refine ga_callSi (z := mX12_sizeOf) (As := [vI x1]) (rest := [vI x4]) dX12_text_241 wX12_230 qX12_text_X12_sizeOf rfl rfl (Nat.le_of_ble_eq_true rfl) (gEi_mono h (fun v73 σ71 h r72 => ?_))
  replace h := h r72
  obtain ⟨ht, hf⟩ := h
  refine ga_icmp_ge (tgt := 273) dX12_text_244 (by decide) rx4 r72 (fun q74 => ?_) (fun q74 => ?_)
  · replace q74 : v73 ≤ x4 := q74
    have h := ht q74
    refine ga_iload_n 3 dX12_text_273 rfl rfl ?_
    exact ga_iret dX12_text_274 rfl rx3 h
  · replace q74 : x4 < v73 := (Int.not_le.mp q74)
    have h := hf q74
    refine ga_aload_n 0 dX12_text_247 rfl rfl ?_
    refine ga_getR (kI := 0) (r := 89) dX12_text_248 fX12_7 rfl rfl (by decide) rfl ?_
    refine ga_iload_n 1 dX12_text_251 rfl rfl ?_
    refine ga_iload_n 3 dX12_text_252 rfl rfl ?_
    refine ga_callSi (z := mX12_placeOf) (As := [vI x1, vI x3]) (rest := [.ref (G.2.1 89)]) dX12_text_253 wX12_233 qX12_text_X12_placeOf rfl rfl (Nat.le_of_ble_eq_true rfl) (gEi_mono h (fun v77 σ75 h r76 => ?_))
    replace h := h r76
    refine ga_iload 4 dX12_text_256 rfl ?_
    refine ga_iadd dX12_text_258 ?_
    refine ga_aload_n 0 dX12_text_259 rfl rfl ?_
    refine ga_getR (kI := 9) (r := 91) dX12_text_260 fX12_17 rfl rfl (by decide) rfl ?_
    refine ga_iload 4 dX12_text_263 rfl ?_
    obtain ⟨i78, h⟩ := h
    refine ga_iald (nI := 121) dX12_text_265 rfl rfl i78 (fun r79 => ?_)
    obtain ⟨i80, h⟩ := h
    obtain ⟨σ81, eσ81⟩ : ∃ z, z = sI σ75 89 (v77 + x4) (gI σ75 91 x4) := ⟨_, rfl⟩
    replace h := h σ81 eσ81
    refine ga_iast (nI := 3704) dX12_text_266 rfl rfl i80 r79 eσ81 ?_
    refine ga_iinc (ls' := [(4, vI (x4 + 1)), (0, .ref (G.2.1 88)), (1, vI x1), (2, vI x2), (3, vI x3)]) 4 dX12_text_267 rfl (by decide) rfl ?_
    refine ga_goto (tgt := 238) dX12_text_270 (by decide) ?_
    exact ga_sub [1, 2, 3, 4, 0] rfl h
abbrev eX12_fault (l : Launch) (G : gG) (x1 : Int) (σ : gS) (Q : Int → gS → Prop) : Prop := gEi l G mX12_fault [.ref (G.2.1 88), vI x1] σ Q
set_option maxRecDepth 100000 in
set_option maxHeartbeats 4000000 in
theorem vX12_fault {l : Launch} {G : gG} (x1 : Int) (rx1 : gR x1) (σ : gS) (Q : Int → gS → Prop) (h : (∀ v6 : Int, v6 = (if x1 = 0 then (gI σ 89 5) else (if x1 = 1 then (gI σ 89 6) else (-1))) →
  Q v6 σ)) : eX12_fault l G x1 σ Q := by
  refine ga_entry rfl (Nat.le_of_ble_eq_true rfl) ?_
  show gAt l G mX12_fault (gQi G Q) 0 [(0, .ref (G.2.1 88)), (1, vI x1)] [] σ
  refine ga_iload_n 1 dX12_fault_0 rfl rfl ?_
  have kJ1 : ∀ v6 : Int, gR v6 → v6 = (if x1 = 0 then (gI σ 89 5) else (if x1 = 1 then (gI σ 89 6) else (-1))) → gAt l G mX12_fault (gQi G Q) 29 [(0, .ref (G.2.1 88)), (1, vI x1)] [vI v6] σ := by
    intro v6 rv6 ev6
    replace h := h v6 ev6
    exact ga_iret dX12_fault_29 rfl rv6 h
  replace h : (¬ x1 = 0 → (¬ x1 = 1 → True) ∧
    (x1 = 1 → True)) ∧
  (x1 = 0 → True) := by repeat (first | exact True.intro | apply And.intro | intro _)
  obtain ⟨ht, hf⟩ := h
  refine ga_if_ne (tgt := 13) dX12_fault_1 (by decide) rx1 (fun q2 => ?_) (fun q2 => ?_)
  · replace q2 : ¬ x1 = 0 := q2
    have h := ht q2
    refine ga_iload_n 1 dX12_fault_13 rfl rfl ?_
    refine ga_iconst dX12_fault_14 ?_
    obtain ⟨ht, hf⟩ := h
    refine ga_icmp_ne (tgt := 28) dX12_fault_15 (by decide) rx1 (by decide) (fun q3 => ?_) (fun q3 => ?_)
    · replace q3 : ¬ x1 = 1 := q3
      have h := ht q3
      refine ga_iconst dX12_fault_28 ?_
      exact kJ1 (-1) (by decide) (by rw [if_neg q2, if_neg q3])
    · replace q3 : x1 = 1 := (Decidable.not_not.mp q3)
      have h := hf q3
      refine ga_aload_n 0 dX12_fault_18 rfl rfl ?_
      refine ga_getR (kI := 0) (r := 89) dX12_fault_19 fX12_7 rfl rfl (by decide) rfl ?_
      refine ga_bipush dX12_fault_22 (by decide) ?_
      refine ga_iald (nI := 3704) dX12_fault_24 rfl rfl (by decide) (fun r4 => ?_)
      refine ga_goto (tgt := 29) dX12_fault_25 (by decide) ?_
      exact kJ1 (gI σ 89 6) r4 (by rw [if_neg q2, if_pos q3])
  · replace q2 : x1 = 0 := (Decidable.not_not.mp q2)
    have h := hf q2
    refine ga_aload_n 0 dX12_fault_4 rfl rfl ?_
    refine ga_getR (kI := 0) (r := 89) dX12_fault_5 fX12_7 rfl rfl (by decide) rfl ?_
    refine ga_iconst dX12_fault_8 ?_
    refine ga_iald (nI := 3704) dX12_fault_9 rfl rfl (by decide) (fun r5 => ?_)
    refine ga_goto (tgt := 29) dX12_fault_10 (by decide) ?_
    exact kJ1 (gI σ 89 5) r5 (by rw [if_pos q2])
abbrev eX12_isCrossbar (l : Launch) (G : gG) (x1 : Int) (σ : gS) (Q : Int → gS → Prop) : Prop := gEz l G mX12_isCrossbar [.ref (G.2.1 88), vI x1] σ Q
set_option maxRecDepth 100000 in
set_option maxHeartbeats 4000000 in
theorem vX12_isCrossbar {l : Launch} {G : gG} (x1 : Int) (rx1 : gR x1) (σ : gS) (Q : Int → gS → Prop) (h : eX12_isOf l G 0 x1 σ (fun v3 σ1 => (v3 = 0 ∨ v3 = 1) →
  (¬ v3 = 0 → eX12_placeOf l G 0 x1 σ1 (fun v7 σ5 => gR v7 →
    (0 ≤ v7 ∧ v7 < 3704) ∧ ∀ σ10, σ10 = sI σ5 88 10 (gI σ5 89 v7) →
    (0 ≤ (v7 + 1) ∧ (v7 + 1) < 3704) ∧ ∀ σ13, σ13 = sI σ10 88 11 (gI σ10 89 (v7 + 1)) →
    (0 ≤ (v7 + 2) ∧ (v7 + 2) < 3704) ∧ ∀ σ16, σ16 = sI σ13 88 12 (gI σ13 89 (v7 + 2)) →
    (0 ≤ (v7 + 3) ∧ (v7 + 3) < 3704) ∧ ∀ σ19, σ19 = sI σ16 88 13 (gI σ16 89 (v7 + 3)) →
    Q 1 σ19)) ∧
  (v3 = 0 → Q 0 σ1))) : eX12_isCrossbar l G x1 σ Q := by
  refine ga_entry rfl (Nat.le_of_ble_eq_true rfl) ?_
  show gAt l G mX12_isCrossbar (gQz G Q) 0 [(0, .ref (G.2.1 88)), (1, vI x1)] [] σ
  refine ga_aload_n 0 dX12_isCrossbar_0 rfl rfl ?_
  refine ga_iconst dX12_isCrossbar_1 ?_
  refine ga_iload_n 1 dX12_isCrossbar_2 rfl rfl ?_
  refine ga_callVz (z := mX12_isOf) (As := [vI 0, vI x1]) (rest := []) dX12_isCrossbar_3 wX12_217 qX12_isCrossbar_X12_isOf rfl ⟨_, rfl, rfl⟩ rfl rfl (Nat.le_of_ble_eq_true rfl) (gEz_mono h (fun v3 σ1 h r2 => ?_))
  replace h := h r2
  obtain ⟨ht, hf⟩ := h
  refine ga_if_ne (tgt := 11) dX12_isCrossbar_6 (by decide) (gR_01 r2) (fun q4 => ?_) (fun q4 => ?_)
  · replace q4 : ¬ v3 = 0 := q4
    have h := ht q4
    refine ga_iconst dX12_isCrossbar_11 ?_
    refine ga_iload_n 1 dX12_isCrossbar_12 rfl rfl ?_
    refine ga_callSi (z := mX12_placeOf) (As := [vI 0, vI x1]) (rest := []) dX12_isCrossbar_13 wX12_233 qX12_isCrossbar_X12_placeOf rfl rfl (Nat.le_of_ble_eq_true rfl) (gEi_mono h (fun v7 σ5 h r6 => ?_))
    replace h := h r6
    refine ga_istore_n (ls' := [(2, vI v7), (0, .ref (G.2.1 88)), (1, vI x1)]) dX12_isCrossbar_16 rfl (by decide) rfl ?_
    refine ga_aload_n 1 dX12_isCrossbar_17 rfl rfl ?_
    refine ga_aload_n 1 dX12_isCrossbar_18 rfl rfl ?_
    refine ga_getR (kI := 0) (r := 89) dX12_isCrossbar_19 fX12_7 rfl rfl (by decide) rfl ?_
    refine ga_iload_n 0 dX12_isCrossbar_22 rfl rfl ?_
    obtain ⟨i8, h⟩ := h
    refine ga_iald (nI := 3704) dX12_isCrossbar_23 rfl rfl i8 (fun r9 => ?_)
    obtain ⟨σ10, eσ10⟩ : ∃ z, z = sI σ5 88 10 (gI σ5 89 v7) := ⟨_, rfl⟩
    replace h := h σ10 eσ10
    refine ga_putI (kI := 10) dX12_isCrossbar_24 fX12_236 pX12_10 rfl rfl rfl r9 eσ10 ?_
    refine ga_aload_n 1 dX12_isCrossbar_27 rfl rfl ?_
    refine ga_aload_n 1 dX12_isCrossbar_28 rfl rfl ?_
    refine ga_getR (kI := 0) (r := 89) dX12_isCrossbar_29 fX12_7 rfl rfl (by decide) rfl ?_
    refine ga_iload_n 0 dX12_isCrossbar_32 rfl rfl ?_
    refine ga_iconst dX12_isCrossbar_33 ?_
    refine ga_iadd dX12_isCrossbar_34 ?_
    obtain ⟨i11, h⟩ := h
    refine ga_iald (nI := 3704) dX12_isCrossbar_35 rfl rfl i11 (fun r12 => ?_)
    obtain ⟨σ13, eσ13⟩ : ∃ z, z = sI σ10 88 11 (gI σ10 89 (v7 + 1)) := ⟨_, rfl⟩
    replace h := h σ13 eσ13
    refine ga_putI (kI := 11) dX12_isCrossbar_36 fX12_239 pX12_11 rfl rfl rfl r12 eσ13 ?_
    refine ga_aload_n 1 dX12_isCrossbar_39 rfl rfl ?_
    refine ga_aload_n 1 dX12_isCrossbar_40 rfl rfl ?_
    refine ga_getR (kI := 0) (r := 89) dX12_isCrossbar_41 fX12_7 rfl rfl (by decide) rfl ?_
    refine ga_iload_n 0 dX12_isCrossbar_44 rfl rfl ?_
    refine ga_iconst dX12_isCrossbar_45 ?_
    refine ga_iadd dX12_isCrossbar_46 ?_
    obtain ⟨i14, h⟩ := h
    refine ga_iald (nI := 3704) dX12_isCrossbar_47 rfl rfl i14 (fun r15 => ?_)
    obtain ⟨σ16, eσ16⟩ : ∃ z, z = sI σ13 88 12 (gI σ13 89 (v7 + 2)) := ⟨_, rfl⟩
    replace h := h σ16 eσ16
    refine ga_putI (kI := 12) dX12_isCrossbar_48 fX12_242 pX12_12 rfl rfl rfl r15 eσ16 ?_
    refine ga_aload_n 1 dX12_isCrossbar_51 rfl rfl ?_
    refine ga_aload_n 1 dX12_isCrossbar_52 rfl rfl ?_
    refine ga_getR (kI := 0) (r := 89) dX12_isCrossbar_53 fX12_7 rfl rfl (by decide) rfl ?_
    refine ga_iload_n 0 dX12_isCrossbar_56 rfl rfl ?_
    refine ga_iconst dX12_isCrossbar_57 ?_
    refine ga_iadd dX12_isCrossbar_58 ?_
    obtain ⟨i17, h⟩ := h
    refine ga_iald (nI := 3704) dX12_isCrossbar_59 rfl rfl i17 (fun r18 => ?_)
    obtain ⟨σ19, eσ19⟩ : ∃ z, z = sI σ16 88 13 (gI σ16 89 (v7 + 3)) := ⟨_, rfl⟩
    replace h := h σ19 eσ19
    refine ga_putI (kI := 13) dX12_isCrossbar_60 fX12_245 pX12_13 rfl rfl rfl r18 eσ19 ?_
    refine ga_iconst dX12_isCrossbar_63 ?_
    exact ga_bret dX12_isCrossbar_64 rfl (Or.inr rfl) h
  · replace q4 : v3 = 0 := (Decidable.not_not.mp q4)
    have h := hf q4
    refine ga_iconst dX12_isCrossbar_9 ?_
    exact ga_bret dX12_isCrossbar_10 rfl (Or.inl rfl) h
abbrev eX12_isPort (l : Launch) (G : gG) (x1 : Int) (σ : gS) (Q : Int → gS → Prop) : Prop := gEz l G mX12_isPort [.ref (G.2.1 88), vI x1] σ Q
set_option maxRecDepth 100000 in
set_option maxHeartbeats 4000000 in
theorem vX12_isPort {l : Launch} {G : gG} (x1 : Int) (rx1 : gR x1) (σ : gS) (Q : Int → gS → Prop) (h : eX12_isIn l G x1 0 ((gI σ 88 10) - 1) σ (fun v4 σ2 => (v4 = 0 ∨ v4 = 1) →
  Q v4 σ2)) : eX12_isPort l G x1 σ Q := by
  refine ga_entry rfl (Nat.le_of_ble_eq_true rfl) ?_
  show gAt l G mX12_isPort (gQz G Q) 0 [(0, .ref (G.2.1 88)), (1, vI x1)] [] σ
  refine ga_iload_n 1 dX12_isPort_0 rfl rfl ?_
  refine ga_iconst dX12_isPort_1 ?_
  refine ga_aload_n 0 dX12_isPort_2 rfl rfl ?_
  refine ga_getI (kI := 10) dX12_isPort_3 fX12_236 rfl rfl rfl (fun r1 => ?_)
  refine ga_iconst dX12_isPort_6 ?_
  refine ga_isub dX12_isPort_7 ?_
  refine ga_callSz (z := mX12_isIn) (As := [vI x1, vI 0, vI ((gI σ 88 10) - 1)]) (rest := []) dX12_isPort_8 wX12_196 qX12_isPort_X12_isIn rfl rfl (Nat.le_of_ble_eq_true rfl) (gEz_mono h (fun v4 σ2 h r3 => ?_))
  replace h := h r3
  exact ga_bret dX12_isPort_11 rfl r3 h
abbrev eX12_crossbar (l : Launch) (G : gG) (x1 : Int) (x2 : Int) (σ : gS) (Q : Int → gS → Prop) : Prop := gEi l G mX12_crossbar [.ref (G.2.1 88), vI x1, vI x2] σ Q
set_option maxRecDepth 100000 in
set_option maxHeartbeats 4000000 in
theorem vX12_crossbar {l : Launch} {G : gG} (x1 : Int) (x2 : Int) (rx1 : gR x1) (rx2 : gR x2) (σ : gS) (Q : Int → gS → Prop) (h : eX12_isOf l G 0 x1 σ (fun v3 σ1 => (v3 = 0 ∨ v3 = 1) →
  (v3 = 0 → Q (-1) σ1) ∧
  (¬ v3 = 0 → eX12_isIn l G x2 0 3 σ1 (fun v7 σ5 => (v7 = 0 ∨ v7 = 1) →
    (v7 = 0 → Q (-1) σ5) ∧
    (¬ v7 = 0 → eX12_placeOf l G 0 x1 σ5 (fun v11 σ9 => gR v11 →
      (0 ≤ (v11 + x2) ∧ (v11 + x2) < 3704) ∧ Q (gI σ9 89 (v11 + x2)) σ9)))))) : eX12_crossbar l G x1 x2 σ Q := by
  refine ga_entry rfl (Nat.le_of_ble_eq_true rfl) ?_
  show gAt l G mX12_crossbar (gQi G Q) 0 [(0, .ref (G.2.1 88)), (1, vI x1), (2, vI x2)] [] σ
  refine ga_aload_n 0 dX12_crossbar_0 rfl rfl ?_
  refine ga_iconst dX12_crossbar_1 ?_
  refine ga_iload_n 1 dX12_crossbar_2 rfl rfl ?_
  refine ga_callVz (z := mX12_isOf) (As := [vI 0, vI x1]) (rest := []) dX12_crossbar_3 wX12_217 qX12_crossbar_X12_isOf rfl ⟨_, rfl, rfl⟩ rfl rfl (Nat.le_of_ble_eq_true rfl) (gEz_mono h (fun v3 σ1 h r2 => ?_))
  replace h := h r2
  obtain ⟨ht, hf⟩ := h
  refine ga_if_eq (tgt := 33) dX12_crossbar_6 (by decide) (gR_01 r2) (fun q4 => ?_) (fun q4 => ?_)
  · replace q4 : v3 = 0 := q4
    have h := ht q4
    refine ga_iconst dX12_crossbar_33 ?_
    exact ga_iret dX12_crossbar_34 rfl (by decide) h
  · replace q4 : ¬ v3 = 0 := q4
    have h := hf q4
    refine ga_iload_n 2 dX12_crossbar_9 rfl rfl ?_
    refine ga_iconst dX12_crossbar_10 ?_
    refine ga_iconst dX12_crossbar_11 ?_
    refine ga_callSz (z := mX12_isIn) (As := [vI x2, vI 0, vI 3]) (rest := []) dX12_crossbar_12 wX12_196 qX12_crossbar_X12_isIn rfl rfl (Nat.le_of_ble_eq_true rfl) (gEz_mono h (fun v7 σ5 h r6 => ?_))
    replace h := h r6
    obtain ⟨ht, hf⟩ := h
    refine ga_if_eq (tgt := 33) dX12_crossbar_15 (by decide) (gR_01 r6) (fun q8 => ?_) (fun q8 => ?_)
    · replace q8 : v7 = 0 := q8
      have h := ht q8
      refine ga_iconst dX12_crossbar_33 ?_
      exact ga_iret dX12_crossbar_34 rfl (by decide) h
    · replace q8 : ¬ v7 = 0 := q8
      have h := hf q8
      refine ga_aload_n 0 dX12_crossbar_18 rfl rfl ?_
      refine ga_getR (kI := 0) (r := 89) dX12_crossbar_19 fX12_7 rfl rfl (by decide) rfl ?_
      refine ga_iconst dX12_crossbar_22 ?_
      refine ga_iload_n 1 dX12_crossbar_23 rfl rfl ?_
      refine ga_callSi (z := mX12_placeOf) (As := [vI 0, vI x1]) (rest := [.ref (G.2.1 89)]) dX12_crossbar_24 wX12_233 qX12_crossbar_X12_placeOf rfl rfl (Nat.le_of_ble_eq_true rfl) (gEi_mono h (fun v11 σ9 h r10 => ?_))
      replace h := h r10
      refine ga_iload_n 2 dX12_crossbar_27 rfl rfl ?_
      refine ga_iadd dX12_crossbar_28 ?_
      obtain ⟨i12, h⟩ := h
      refine ga_iald (nI := 3704) dX12_crossbar_29 rfl rfl i12 (fun r13 => ?_)
      refine ga_goto (tgt := 34) dX12_crossbar_30 (by decide) ?_
      exact ga_iret dX12_crossbar_34 rfl r13 h
abbrev eX12_isTraffic (l : Launch) (G : gG) (x1 : Int) (σ : gS) (Q : Int → gS → Prop) : Prop := gEz l G mX12_isTraffic [.ref (G.2.1 88), vI x1] σ Q
set_option maxRecDepth 100000 in
set_option maxHeartbeats 4000000 in
theorem vX12_isTraffic {l : Launch} {G : gG} (x1 : Int) (rx1 : gR x1) (σ : gS) (Q : Int → gS → Prop) (h : eX12_isOf l G 1 x1 σ (fun v3 σ1 => (v3 = 0 ∨ v3 = 1) →
  (¬ v3 = 0 → eX12_placeOf l G 1 x1 σ1 (fun v7 σ5 => gR v7 →
    ∀ σ8, σ8 = sI σ5 88 14 v7 →
    Q 1 σ8)) ∧
  (v3 = 0 → Q 0 σ1))) : eX12_isTraffic l G x1 σ Q := by
  refine ga_entry rfl (Nat.le_of_ble_eq_true rfl) ?_
  show gAt l G mX12_isTraffic (gQz G Q) 0 [(0, .ref (G.2.1 88)), (1, vI x1)] [] σ
  refine ga_aload_n 0 dX12_isTraffic_0 rfl rfl ?_
  refine ga_iconst dX12_isTraffic_1 ?_
  refine ga_iload_n 1 dX12_isTraffic_2 rfl rfl ?_
  refine ga_callVz (z := mX12_isOf) (As := [vI 1, vI x1]) (rest := []) dX12_isTraffic_3 wX12_217 qX12_isTraffic_X12_isOf rfl ⟨_, rfl, rfl⟩ rfl rfl (Nat.le_of_ble_eq_true rfl) (gEz_mono h (fun v3 σ1 h r2 => ?_))
  replace h := h r2
  obtain ⟨ht, hf⟩ := h
  refine ga_if_ne (tgt := 11) dX12_isTraffic_6 (by decide) (gR_01 r2) (fun q4 => ?_) (fun q4 => ?_)
  · replace q4 : ¬ v3 = 0 := q4
    have h := ht q4
    refine ga_aload_n 0 dX12_isTraffic_11 rfl rfl ?_
    refine ga_iconst dX12_isTraffic_12 ?_
    refine ga_iload_n 1 dX12_isTraffic_13 rfl rfl ?_
    refine ga_callSi (z := mX12_placeOf) (As := [vI 1, vI x1]) (rest := [.ref (G.2.1 88)]) dX12_isTraffic_14 wX12_233 qX12_isTraffic_X12_placeOf rfl rfl (Nat.le_of_ble_eq_true rfl) (gEi_mono h (fun v7 σ5 h r6 => ?_))
    replace h := h r6
    obtain ⟨σ8, eσ8⟩ : ∃ z, z = sI σ5 88 14 v7 := ⟨_, rfl⟩
    replace h := h σ8 eσ8
    refine ga_putI (kI := 14) dX12_isTraffic_17 fX12_248 pX12_14 rfl rfl rfl r6 eσ8 ?_
    refine ga_iconst dX12_isTraffic_20 ?_
    exact ga_bret dX12_isTraffic_21 rfl (Or.inr rfl) h
  · replace q4 : v3 = 0 := (Decidable.not_not.mp q4)
    have h := hf q4
    refine ga_iconst dX12_isTraffic_9 ?_
    exact ga_bret dX12_isTraffic_10 rfl (Or.inl rfl) h
abbrev eX12_deed (l : Launch) (G : gG) (x1 : Int) (x2 : Int) (x3 : Int) (σ : gS) (Q : Int → gS → Prop) : Prop := gEi l G mX12_deed [.ref (G.2.1 88), vI x1, vI x2, vI x3] σ Q
set_option maxRecDepth 100000 in
set_option maxHeartbeats 4000000 in
theorem vX12_deed {l : Launch} {G : gG} (x1 : Int) (x2 : Int) (x3 : Int) (rx1 : gR x1) (rx2 : gR x2) (rx3 : gR x3) (σ : gS) (Q : Int → gS → Prop) (h : eX12_isTraffic l G x1 σ (fun v3 σ1 => (v3 = 0 ∨ v3 = 1) →
  (¬ v3 = 0 → (¬ x2 = (-1) → (0 ≤ (gI σ1 88 14) ∧ (gI σ1 88 14) < 3704) ∧ eX12_isIn l G x2 0 ((gI σ1 89 (gI σ1 88 14)) - 1) σ1 (fun v11 σ9 => (v11 = 0 ∨ v11 = 1) →
      (v11 = 0 → Q (-2) σ9) ∧
      (¬ v11 = 0 → eX12_isIn l G x3 0 2 σ9 (fun v15 σ13 => (v15 = 0 ∨ v15 = 1) →
        ((v15 = 0 → True) ∧
        (¬ v15 = 0 → (0 ≤ ((((gI σ13 88 14) + 1) + (3 * x2)) + x3) ∧ ((((gI σ13 88 14) + 1) + (3 * x2)) + x3) < 3704) ∧ True)) ∧
        (∀ v21 : Int, v21 = (if v15 = 0 then (-2) else (gI σ13 89 ((((gI σ13 88 14) + 1) + (3 * x2)) + x3))) →
        Q v21 σ13))))) ∧
    (x2 = (-1) → ((¬ x3 = 0 → True) ∧
      (x3 = 0 → (0 ≤ (gI σ1 88 14) ∧ (gI σ1 88 14) < 3704) ∧ True)) ∧
      (∀ v27 : Int, v27 = (if x3 = 0 then (gI σ1 89 (gI σ1 88 14)) else (-2)) →
      Q v27 σ1))) ∧
  (v3 = 0 → Q (-2) σ1))) : eX12_deed l G x1 x2 x3 σ Q := by
  refine ga_entry rfl (Nat.le_of_ble_eq_true rfl) ?_
  show gAt l G mX12_deed (gQi G Q) 0 [(0, .ref (G.2.1 88)), (1, vI x1), (2, vI x2), (3, vI x3)] [] σ
  refine ga_aload_n 0 dX12_deed_0 rfl rfl ?_
  refine ga_iload_n 1 dX12_deed_1 rfl rfl ?_
  refine ga_callVz (z := mX12_isTraffic) (As := [vI x1]) (rest := []) dX12_deed_2 wX12_251 qX12_deed_X12_isTraffic rfl ⟨_, rfl, rfl⟩ rfl rfl (Nat.le_of_ble_eq_true rfl) (gEz_mono h (fun v3 σ1 h r2 => ?_))
  replace h := h r2
  obtain ⟨ht, hf⟩ := h
  refine ga_if_ne (tgt := 11) dX12_deed_5 (by decide) (gR_01 r2) (fun q4 => ?_) (fun q4 => ?_)
  · replace q4 : ¬ v3 = 0 := q4
    have h := ht q4
    refine ga_iload_n 2 dX12_deed_11 rfl rfl ?_
    refine ga_iconst dX12_deed_12 ?_
    obtain ⟨ht, hf⟩ := h
    refine ga_icmp_ne (tgt := 35) dX12_deed_13 (by decide) rx2 (by decide) (fun q5 => ?_) (fun q5 => ?_)
    · replace q5 : ¬ x2 = (-1) := q5
      have h := ht q5
      refine ga_iload_n 2 dX12_deed_35 rfl rfl ?_
      refine ga_iconst dX12_deed_36 ?_
      refine ga_aload_n 0 dX12_deed_37 rfl rfl ?_
      refine ga_getR (kI := 0) (r := 89) dX12_deed_38 fX12_7 rfl rfl (by decide) rfl ?_
      refine ga_aload_n 0 dX12_deed_41 rfl rfl ?_
      refine ga_getI (kI := 14) dX12_deed_42 fX12_248 rfl rfl rfl (fun r6 => ?_)
      obtain ⟨i7, h⟩ := h
      refine ga_iald (nI := 3704) dX12_deed_45 rfl rfl i7 (fun r8 => ?_)
      refine ga_iconst dX12_deed_46 ?_
      refine ga_isub dX12_deed_47 ?_
      refine ga_callSz (z := mX12_isIn) (As := [vI x2, vI 0, vI ((gI σ1 89 (gI σ1 88 14)) - 1)]) (rest := []) dX12_deed_48 wX12_196 qX12_deed_X12_isIn rfl rfl (Nat.le_of_ble_eq_true rfl) (gEz_mono h (fun v11 σ9 h r10 => ?_))
      replace h := h r10
      obtain ⟨ht, hf⟩ := h
      refine ga_if_eq (tgt := 83) dX12_deed_51 (by decide) (gR_01 r10) (fun q12 => ?_) (fun q12 => ?_)
      · replace q12 : v11 = 0 := q12
        have h := ht q12
        refine ga_bipush dX12_deed_83 (by decide) ?_
        exact ga_iret dX12_deed_85 rfl (by decide) h
      · replace q12 : ¬ v11 = 0 := q12
        have h := hf q12
        refine ga_iload_n 3 dX12_deed_54 rfl rfl ?_
        refine ga_iconst dX12_deed_55 ?_
        refine ga_iconst dX12_deed_56 ?_
        refine ga_callSz (z := mX12_isIn) (As := [vI x3, vI 0, vI 2]) (rest := []) dX12_deed_57 wX12_196 qX12_deed_X12_isIn rfl rfl (Nat.le_of_ble_eq_true rfl) (gEz_mono h (fun v15 σ13 h r14 => ?_))
        replace h := h r14
        obtain ⟨hob, h⟩ := h
        have kJ16 : ∀ v21 : Int, gR v21 → v21 = (if v15 = 0 then (-2) else (gI σ13 89 ((((gI σ13 88 14) + 1) + (3 * x2)) + x3))) → gAt l G mX12_deed (gQi G Q) 85 [(0, .ref (G.2.1 88)), (1, vI x1), (2, vI x2), (3, vI x3)] [vI v21] σ13 := by
          intro v21 rv21 ev21
          replace h := h v21 ev21
          exact ga_iret dX12_deed_85 rfl rv21 h
        replace h := hob
        obtain ⟨ht, hf⟩ := h
        refine ga_if_eq (tgt := 83) dX12_deed_60 (by decide) (gR_01 r14) (fun q17 => ?_) (fun q17 => ?_)
        · replace q17 : v15 = 0 := q17
          have h := ht q17
          refine ga_bipush dX12_deed_83 (by decide) ?_
          exact kJ16 (-2) (by decide) (by rw [if_pos q17])
        · replace q17 : ¬ v15 = 0 := q17
          have h := hf q17
          refine ga_aload_n 0 dX12_deed_63 rfl rfl ?_
          refine ga_getR (kI := 0) (r := 89) dX12_deed_64 fX12_7 rfl rfl (by decide) rfl ?_
          refine ga_aload_n 0 dX12_deed_67 rfl rfl ?_
          refine ga_getI (kI := 14) dX12_deed_68 fX12_248 rfl rfl rfl (fun r18 => ?_)
          refine ga_iconst dX12_deed_71 ?_
          refine ga_iadd dX12_deed_72 ?_
          refine ga_iconst dX12_deed_73 ?_
          refine ga_iload_n 2 dX12_deed_74 rfl rfl ?_
          refine ga_imul dX12_deed_75 ?_
          refine ga_iadd dX12_deed_76 ?_
          refine ga_iload_n 3 dX12_deed_77 rfl rfl ?_
          refine ga_iadd dX12_deed_78 ?_
          obtain ⟨i19, h⟩ := h
          refine ga_iald (nI := 3704) dX12_deed_79 rfl rfl i19 (fun r20 => ?_)
          refine ga_goto (tgt := 85) dX12_deed_80 (by decide) ?_
          exact kJ16 (gI σ13 89 ((((gI σ13 88 14) + 1) + (3 * x2)) + x3)) r20 (by rw [if_neg q17])
    · replace q5 : x2 = (-1) := (Decidable.not_not.mp q5)
      have h := hf q5
      refine ga_iload_n 3 dX12_deed_16 rfl rfl ?_
      obtain ⟨hob, h⟩ := h
      have kJ22 : ∀ v27 : Int, gR v27 → v27 = (if x3 = 0 then (gI σ1 89 (gI σ1 88 14)) else (-2)) → gAt l G mX12_deed (gQi G Q) 34 [(0, .ref (G.2.1 88)), (1, vI x1), (2, vI x2), (3, vI x3)] [vI v27] σ1 := by
        intro v27 rv27 ev27
        replace h := h v27 ev27
        exact ga_iret dX12_deed_34 rfl rv27 h
      replace h := hob
      obtain ⟨ht, hf⟩ := h
      refine ga_if_ne (tgt := 32) dX12_deed_17 (by decide) rx3 (fun q23 => ?_) (fun q23 => ?_)
      · replace q23 : ¬ x3 = 0 := q23
        have h := ht q23
        refine ga_bipush dX12_deed_32 (by decide) ?_
        exact kJ22 (-2) (by decide) (by rw [if_neg q23])
      · replace q23 : x3 = 0 := (Decidable.not_not.mp q23)
        have h := hf q23
        refine ga_aload_n 0 dX12_deed_20 rfl rfl ?_
        refine ga_getR (kI := 0) (r := 89) dX12_deed_21 fX12_7 rfl rfl (by decide) rfl ?_
        refine ga_aload_n 0 dX12_deed_24 rfl rfl ?_
        refine ga_getI (kI := 14) dX12_deed_25 fX12_248 rfl rfl rfl (fun r24 => ?_)
        obtain ⟨i25, h⟩ := h
        refine ga_iald (nI := 3704) dX12_deed_28 rfl rfl i25 (fun r26 => ?_)
        refine ga_goto (tgt := 34) dX12_deed_29 (by decide) ?_
        exact kJ22 (gI σ1 89 (gI σ1 88 14)) r26 (by rw [if_pos q23])
  · replace q4 : v3 = 0 := (Decidable.not_not.mp q4)
    have h := hf q4
    refine ga_bipush dX12_deed_8 (by decide) ?_
    exact ga_iret dX12_deed_10 rfl (by decide) h
