abbrev eX5_longestWait (l : Launch) (G : gG)  (σ : gS) (Q : Int → gS → Prop) : Prop := gEi l G mX5_longestWait [.ref (G.2.1 33)] σ Q
set_option maxRecDepth 100000 in
set_option maxHeartbeats 4000000 in
theorem vX5_longestWait {l : Launch} {G : gG}  (σ : gS) (Q : Int → gS → Prop) (h : eX5_worst l G  σ (fun v3 σ1 => gR v3 →
  (¬ v3 = (-1) → eX0_waitOf l G v3 σ1 (fun v7 σ5 => gR v7 →
    Q v7 σ5)) ∧
  (v3 = (-1) → Q 0 σ1))) : eX5_longestWait l G  σ Q := by
  refine ga_entry rfl (Nat.le_of_ble_eq_true rfl) ?_
  show gAt l G mX5_longestWait (gQi G Q) 0 [(0, .ref (G.2.1 33))] [] σ
  refine ga_aload_n 0 dX5_longestWait_0 rfl rfl ?_
  refine ga_callSi (z := mX5_worst) (As := [.ref (G.2.1 33)]) (rest := []) dX5_longestWait_1 wX5_65 qX5_longestWait_X5_worst rfl rfl (Nat.le_of_ble_eq_true rfl) (gEi_mono h (fun v3 σ1 h r2 => ?_))
  replace h := h r2
  refine ga_istore_n (ls' := [(1, vI v3), (0, .ref (G.2.1 33))]) dX5_longestWait_4 rfl (by decide) rfl ?_
  refine ga_iload_n 0 dX5_longestWait_5 rfl rfl ?_
  refine ga_iconst dX5_longestWait_6 ?_
  obtain ⟨ht, hf⟩ := h
  refine ga_icmp_ne (tgt := 14) dX5_longestWait_7 (by decide) r2 (by decide) (fun q4 => ?_) (fun q4 => ?_)
  · replace q4 : ¬ v3 = (-1) := q4
    have h := ht q4
    refine ga_aload_n 1 dX5_longestWait_14 rfl rfl ?_
    refine ga_iload_n 0 dX5_longestWait_15 rfl rfl ?_
    refine ga_callVi (z := mX0_waitOf) (As := [vI v3]) (rest := []) dX5_longestWait_16 wX5_103 qX5_longestWait_X0_waitOf rfl ⟨_, rfl, rfl⟩ rfl rfl (Nat.le_of_ble_eq_true rfl) (gEi_mono h (fun v7 σ5 h r6 => ?_))
    replace h := h r6
    exact ga_iret dX5_longestWait_19 rfl r6 h
  · replace q4 : v3 = (-1) := (Decidable.not_not.mp q4)
    have h := hf q4
    refine ga_iconst dX5_longestWait_10 ?_
    refine ga_goto (tgt := 19) dX5_longestWait_11 (by decide) ?_
    exact ga_iret dX5_longestWait_19 rfl (by decide) h
abbrev eX5_sumOfWaits (l : Launch) (G : gG)  (σ : gS) (Q : Int → gS → Prop) : Prop := gEi l G mX5_sumOfWaits [.ref (G.2.1 33)] σ Q
abbrev kX5_sumOfWaits_4 (l : Launch) (G : gG)  (x1 : Int) (x2 : Int) (σ : gS) (Q : Int → gS → Prop) : Prop := gAt l G mX5_sumOfWaits (gQi G Q) 4 [(0, .ref (G.2.1 33)), (1, vI x1), (2, vI x2)] [] σ
set_option maxRecDepth 100000 in
set_option maxHeartbeats 4000000 in
theorem vX5_sumOfWaits {l : Launch} {G : gG}  (σ : gS) (Q : Int → gS → Prop) (h : kX5_sumOfWaits_4 l G  0 0 σ Q) : eX5_sumOfWaits l G  σ Q := by
  refine ga_entry rfl (Nat.le_of_ble_eq_true rfl) ?_
  show gAt l G mX5_sumOfWaits (gQi G Q) 0 [(0, .ref (G.2.1 33))] [] σ
  refine ga_iconst dX5_sumOfWaits_0 ?_
  refine ga_istore_n (ls' := [(1, vI 0), (0, .ref (G.2.1 33))]) dX5_sumOfWaits_1 rfl (by decide) rfl ?_
  refine ga_iconst dX5_sumOfWaits_2 ?_
  refine ga_istore_n (ls' := [(2, vI 0), (1, vI 0), (0, .ref (G.2.1 33))]) dX5_sumOfWaits_3 rfl (by decide) rfl ?_
  exact ga_sub [2, 1, 0] rfl h
set_option maxRecDepth 100000 in
set_option maxHeartbeats 4000000 in
theorem vX5_sumOfWaits_4 {l : Launch} {G : gG}  (x1 : Int) (x2 : Int) (rx1 : gR x1) (rx2 : gR x2) (σ : gS) (Q : Int → gS → Prop) (h : ((gI σ 33 0) ≤ x2 → Q x1 σ) ∧
  (x2 < (gI σ 33 0) → (0 ≤ x2 ∧ x2 < 360) ∧ ((gI σ 38 x2) = (-1) → kX5_sumOfWaits_4 l G  x1 (x2 + 1) σ Q) ∧
    (¬ (gI σ 38 x2) = (-1) → eX0_waitOf l G x2 σ (fun v8 σ6 => gR v8 →
      kX5_sumOfWaits_4 l G  (x1 + v8) (x2 + 1) σ6 Q)))) : kX5_sumOfWaits_4 l G  x1 x2 σ Q := by
  refine ga_iload_n 2 dX5_sumOfWaits_4 rfl rfl ?_
  refine ga_aload_n 0 dX5_sumOfWaits_5 rfl rfl ?_
  refine ga_getI (kI := 0) dX5_sumOfWaits_6 fX5_95 rfl rfl rfl (fun r1 => ?_)
  obtain ⟨ht, hf⟩ := h
  refine ga_icmp_ge (tgt := 36) dX5_sumOfWaits_9 (by decide) rx2 r1 (fun q2 => ?_) (fun q2 => ?_)
  · replace q2 : (gI σ 33 0) ≤ x2 := q2
    have h := ht q2
    refine ga_iload_n 1 dX5_sumOfWaits_36 rfl rfl ?_
    exact ga_iret dX5_sumOfWaits_37 rfl rx1 h
  · replace q2 : x2 < (gI σ 33 0) := (Int.not_le.mp q2)
    have h := hf q2
    refine ga_aload_n 0 dX5_sumOfWaits_12 rfl rfl ?_
    refine ga_getR (kI := 5) (r := 38) dX5_sumOfWaits_13 fX5_100 rfl rfl (by decide) rfl ?_
    refine ga_iload_n 2 dX5_sumOfWaits_16 rfl rfl ?_
    obtain ⟨i3, h⟩ := h
    refine ga_iald (nI := 360) dX5_sumOfWaits_17 rfl rfl i3 (fun r4 => ?_)
    refine ga_iconst dX5_sumOfWaits_18 ?_
    obtain ⟨ht, hf⟩ := h
    refine ga_icmp_eq (tgt := 30) dX5_sumOfWaits_19 (by decide) r4 (by decide) (fun q5 => ?_) (fun q5 => ?_)
    · replace q5 : (gI σ 38 x2) = (-1) := q5
      have h := ht q5
      refine ga_iinc (ls' := [(2, vI (x2 + 1)), (0, .ref (G.2.1 33)), (1, vI x1)]) 2 dX5_sumOfWaits_30 rfl (by decide) rfl ?_
      refine ga_goto (tgt := 4) dX5_sumOfWaits_33 (by decide) ?_
      exact ga_sub [1, 2, 0] rfl h
    · replace q5 : ¬ (gI σ 38 x2) = (-1) := q5
      have h := hf q5
      refine ga_iload_n 1 dX5_sumOfWaits_22 rfl rfl ?_
      refine ga_aload_n 0 dX5_sumOfWaits_23 rfl rfl ?_
      refine ga_iload_n 2 dX5_sumOfWaits_24 rfl rfl ?_
      refine ga_callVi (z := mX0_waitOf) (As := [vI x2]) (rest := [vI x1]) dX5_sumOfWaits_25 wX5_103 qX5_sumOfWaits_X0_waitOf rfl ⟨_, rfl, rfl⟩ rfl rfl (Nat.le_of_ble_eq_true rfl) (gEi_mono h (fun v8 σ6 h r7 => ?_))
      replace h := h r7
      refine ga_iadd dX5_sumOfWaits_28 ?_
      refine ga_istore_n (ls' := [(1, vI (x1 + v8)), (0, .ref (G.2.1 33)), (2, vI x2)]) dX5_sumOfWaits_29 rfl (by decide) rfl ?_
      refine ga_iinc (ls' := [(2, vI (x2 + 1)), (1, vI (x1 + v8)), (0, .ref (G.2.1 33))]) 2 dX5_sumOfWaits_30 rfl (by decide) rfl ?_
      refine ga_goto (tgt := 4) dX5_sumOfWaits_33 (by decide) ?_
      exact ga_sub [2, 1, 0] rfl h
abbrev eX5_splits (l : Launch) (G : gG)  (σ : gS) (Q : Int → gS → Prop) : Prop := gEi l G mX5_splits [.ref (G.2.1 33)] σ Q
abbrev kX5_splits_4 (l : Launch) (G : gG)  (x1 : Int) (x2 : Int) (σ : gS) (Q : Int → gS → Prop) : Prop := gAt l G mX5_splits (gQi G Q) 4 [(0, .ref (G.2.1 33)), (1, vI x1), (2, vI x2)] [] σ
set_option maxRecDepth 100000 in
set_option maxHeartbeats 4000000 in
theorem vX5_splits {l : Launch} {G : gG}  (σ : gS) (Q : Int → gS → Prop) (h : kX5_splits_4 l G  0 0 σ Q) : eX5_splits l G  σ Q := by
  refine ga_entry rfl (Nat.le_of_ble_eq_true rfl) ?_
  show gAt l G mX5_splits (gQi G Q) 0 [(0, .ref (G.2.1 33))] [] σ
  refine ga_iconst dX5_splits_0 ?_
  refine ga_istore_n (ls' := [(1, vI 0), (0, .ref (G.2.1 33))]) dX5_splits_1 rfl (by decide) rfl ?_
  refine ga_iconst dX5_splits_2 ?_
  refine ga_istore_n (ls' := [(2, vI 0), (1, vI 0), (0, .ref (G.2.1 33))]) dX5_splits_3 rfl (by decide) rfl ?_
  exact ga_sub [2, 1, 0] rfl h
set_option maxRecDepth 100000 in
set_option maxHeartbeats 4000000 in
theorem vX5_splits_4 {l : Launch} {G : gG}  (x1 : Int) (x2 : Int) (rx1 : gR x1) (rx2 : gR x2) (σ : gS) (Q : Int → gS → Prop) (h : ((gI σ 33 0) ≤ x2 → Q x1 σ) ∧
  (x2 < (gI σ 33 0) → (0 ≤ x2 ∧ x2 < 360) ∧ ((gI σ 40 x2) ≤ 1 → kX5_splits_4 l G  x1 (x2 + 1) σ Q) ∧
    (1 < (gI σ 40 x2) → kX5_splits_4 l G  (x1 + 1) (x2 + 1) σ Q))) : kX5_splits_4 l G  x1 x2 σ Q := by
  refine ga_iload_n 2 dX5_splits_4 rfl rfl ?_
  refine ga_aload_n 0 dX5_splits_5 rfl rfl ?_
  refine ga_getI (kI := 0) dX5_splits_6 fX5_95 rfl rfl rfl (fun r1 => ?_)
  obtain ⟨ht, hf⟩ := h
  refine ga_icmp_ge (tgt := 31) dX5_splits_9 (by decide) rx2 r1 (fun q2 => ?_) (fun q2 => ?_)
  · replace q2 : (gI σ 33 0) ≤ x2 := q2
    have h := ht q2
    refine ga_iload_n 1 dX5_splits_31 rfl rfl ?_
    exact ga_iret dX5_splits_32 rfl rx1 h
  · replace q2 : x2 < (gI σ 33 0) := (Int.not_le.mp q2)
    have h := hf q2
    refine ga_aload_n 0 dX5_splits_12 rfl rfl ?_
    refine ga_getR (kI := 7) (r := 40) dX5_splits_13 fX5_106 rfl rfl (by decide) rfl ?_
    refine ga_iload_n 2 dX5_splits_16 rfl rfl ?_
    obtain ⟨i3, h⟩ := h
    refine ga_iald (nI := 360) dX5_splits_17 rfl rfl i3 (fun r4 => ?_)
    refine ga_iconst dX5_splits_18 ?_
    obtain ⟨ht, hf⟩ := h
    refine ga_icmp_le (tgt := 25) dX5_splits_19 (by decide) r4 (by decide) (fun q5 => ?_) (fun q5 => ?_)
    · replace q5 : (gI σ 40 x2) ≤ 1 := q5
      have h := ht q5
      refine ga_iinc (ls' := [(2, vI (x2 + 1)), (0, .ref (G.2.1 33)), (1, vI x1)]) 2 dX5_splits_25 rfl (by decide) rfl ?_
      refine ga_goto (tgt := 4) dX5_splits_28 (by decide) ?_
      exact ga_sub [1, 2, 0] rfl h
    · replace q5 : 1 < (gI σ 40 x2) := (Int.not_le.mp q5)
      have h := hf q5
      refine ga_iinc (ls' := [(1, vI (x1 + 1)), (0, .ref (G.2.1 33)), (2, vI x2)]) 1 dX5_splits_22 rfl (by decide) rfl ?_
      refine ga_iinc (ls' := [(2, vI (x2 + 1)), (1, vI (x1 + 1)), (0, .ref (G.2.1 33))]) 2 dX5_splits_25 rfl (by decide) rfl ?_
      refine ga_goto (tgt := 4) dX5_splits_28 (by decide) ?_
      exact ga_sub [2, 1, 0] rfl h
abbrev eX5_idleSlots (l : Launch) (G : gG)  (σ : gS) (Q : Int → gS → Prop) : Prop := gEi l G mX5_idleSlots [.ref (G.2.1 41)] σ Q
abbrev kX5_idleSlots_4 (l : Launch) (G : gG)  (x1 : Int) (x2 : Int) (σ : gS) (Q : Int → gS → Prop) : Prop := gAt l G mX5_idleSlots (gQi G Q) 4 [(0, .ref (G.2.1 41)), (1, vI x1), (2, vI x2)] [] σ
set_option maxRecDepth 100000 in
set_option maxHeartbeats 4000000 in
theorem vX5_idleSlots {l : Launch} {G : gG}  (σ : gS) (Q : Int → gS → Prop) (h : kX5_idleSlots_4 l G  0 0 σ Q) : eX5_idleSlots l G  σ Q := by
  refine ga_entry rfl (Nat.le_of_ble_eq_true rfl) ?_
  show gAt l G mX5_idleSlots (gQi G Q) 0 [(0, .ref (G.2.1 41))] [] σ
  refine ga_iconst dX5_idleSlots_0 ?_
  refine ga_istore_n (ls' := [(1, vI 0), (0, .ref (G.2.1 41))]) dX5_idleSlots_1 rfl (by decide) rfl ?_
  refine ga_iconst dX5_idleSlots_2 ?_
  refine ga_istore_n (ls' := [(2, vI 0), (1, vI 0), (0, .ref (G.2.1 41))]) dX5_idleSlots_3 rfl (by decide) rfl ?_
  exact ga_sub [2, 1, 0] rfl h
set_option maxRecDepth 100000 in
set_option maxHeartbeats 4000000 in
theorem vX5_idleSlots_4 {l : Launch} {G : gG}  (x1 : Int) (x2 : Int) (rx1 : gR x1) (rx2 : gR x2) (σ : gS) (Q : Int → gS → Prop) (h : ((gI σ 41 0) ≤ x2 → Q x1 σ) ∧
  (x2 < (gI σ 41 0) → (0 ≤ x2 ∧ x2 < 360) ∧ (¬ (gI σ 44 x2) = 0 → kX5_idleSlots_4 l G  x1 (x2 + 1) σ Q) ∧
    ((gI σ 44 x2) = 0 → kX5_idleSlots_4 l G  (x1 + 1) (x2 + 1) σ Q))) : kX5_idleSlots_4 l G  x1 x2 σ Q := by
  refine ga_iload_n 2 dX5_idleSlots_4 rfl rfl ?_
  refine ga_aload_n 0 dX5_idleSlots_5 rfl rfl ?_
  refine ga_getI (kI := 0) dX5_idleSlots_6 fX5_28 rfl rfl rfl (fun r1 => ?_)
  obtain ⟨ht, hf⟩ := h
  refine ga_icmp_ge (tgt := 30) dX5_idleSlots_9 (by decide) rx2 r1 (fun q2 => ?_) (fun q2 => ?_)
  · replace q2 : (gI σ 41 0) ≤ x2 := q2
    have h := ht q2
    refine ga_iload_n 1 dX5_idleSlots_30 rfl rfl ?_
    exact ga_iret dX5_idleSlots_31 rfl rx1 h
  · replace q2 : x2 < (gI σ 41 0) := (Int.not_le.mp q2)
    have h := hf q2
    refine ga_aload_n 0 dX5_idleSlots_12 rfl rfl ?_
    refine ga_getR (kI := 3) (r := 44) dX5_idleSlots_13 fX5_109 rfl rfl (by decide) rfl ?_
    refine ga_iload_n 2 dX5_idleSlots_16 rfl rfl ?_
    obtain ⟨i3, h⟩ := h
    refine ga_iald (nI := 360) dX5_idleSlots_17 rfl rfl i3 (fun r4 => ?_)
    obtain ⟨ht, hf⟩ := h
    refine ga_if_ne (tgt := 24) dX5_idleSlots_18 (by decide) r4 (fun q5 => ?_) (fun q5 => ?_)
    · replace q5 : ¬ (gI σ 44 x2) = 0 := q5
      have h := ht q5
      refine ga_iinc (ls' := [(2, vI (x2 + 1)), (0, .ref (G.2.1 41)), (1, vI x1)]) 2 dX5_idleSlots_24 rfl (by decide) rfl ?_
      refine ga_goto (tgt := 4) dX5_idleSlots_27 (by decide) ?_
      exact ga_sub [1, 2, 0] rfl h
    · replace q5 : (gI σ 44 x2) = 0 := (Decidable.not_not.mp q5)
      have h := hf q5
      refine ga_iinc (ls' := [(1, vI (x1 + 1)), (0, .ref (G.2.1 41)), (2, vI x2)]) 1 dX5_idleSlots_21 rfl (by decide) rfl ?_
      refine ga_iinc (ls' := [(2, vI (x2 + 1)), (1, vI (x1 + 1)), (0, .ref (G.2.1 41))]) 2 dX5_idleSlots_24 rfl (by decide) rfl ?_
      refine ga_goto (tgt := 4) dX5_idleSlots_27 (by decide) ?_
      exact ga_sub [2, 1, 0] rfl h
abbrev eX5_bestSlot (l : Launch) (G : gG)  (σ : gS) (Q : Int → gS → Prop) : Prop := gEi l G mX5_bestSlot [.ref (G.2.1 41)] σ Q
abbrev kX5_bestSlot_6 (l : Launch) (G : gG)  (x1 : Int) (x2 : Int) (x3 : Int) (σ : gS) (Q : Int → gS → Prop) : Prop := gAt l G mX5_bestSlot (gQi G Q) 6 [(0, .ref (G.2.1 41)), (1, vI x1), (2, vI x2), (3, vI x3)] [] σ
set_option maxRecDepth 100000 in
set_option maxHeartbeats 4000000 in
theorem vX5_bestSlot {l : Launch} {G : gG}  (σ : gS) (Q : Int → gS → Prop) (h : kX5_bestSlot_6 l G  (-1) (-1) 0 σ Q) : eX5_bestSlot l G  σ Q := by
  refine ga_entry rfl (Nat.le_of_ble_eq_true rfl) ?_
  show gAt l G mX5_bestSlot (gQi G Q) 0 [(0, .ref (G.2.1 41))] [] σ
  refine ga_iconst dX5_bestSlot_0 ?_
  refine ga_istore_n (ls' := [(1, vI (-1)), (0, .ref (G.2.1 41))]) dX5_bestSlot_1 rfl (by decide) rfl ?_
  refine ga_iconst dX5_bestSlot_2 ?_
  refine ga_istore_n (ls' := [(2, vI (-1)), (1, vI (-1)), (0, .ref (G.2.1 41))]) dX5_bestSlot_3 rfl (by decide) rfl ?_
  refine ga_iconst dX5_bestSlot_4 ?_
  refine ga_istore_n (ls' := [(3, vI 0), (2, vI (-1)), (1, vI (-1)), (0, .ref (G.2.1 41))]) dX5_bestSlot_5 rfl (by decide) rfl ?_
  exact ga_sub [3, 2, 1, 0] rfl h
set_option maxRecDepth 100000 in
set_option maxHeartbeats 4000000 in
theorem vX5_bestSlot_6 {l : Launch} {G : gG}  (x1 : Int) (x2 : Int) (x3 : Int) (rx1 : gR x1) (rx2 : gR x2) (rx3 : gR x3) (σ : gS) (Q : Int → gS → Prop) (h : ((gI σ 41 0) ≤ x3 → Q x1 σ) ∧
  (x3 < (gI σ 41 0) → (0 ≤ x3 ∧ x3 < 360) ∧ eJ6_bitCount_0f7a4 l G (gI σ 44 x3) σ (fun v7 σ5 => gR v7 →
    (v7 ≤ x2 → kX5_bestSlot_6 l G  x1 x2 (x3 + 1) σ5 Q) ∧
    (x2 < v7 → kX5_bestSlot_6 l G  x3 v7 (x3 + 1) σ5 Q)))) : kX5_bestSlot_6 l G  x1 x2 x3 σ Q := by
  refine ga_iload_n 3 dX5_bestSlot_6 rfl rfl ?_
  refine ga_aload_n 0 dX5_bestSlot_7 rfl rfl ?_
  refine ga_getI (kI := 0) dX5_bestSlot_8 fX5_28 rfl rfl rfl (fun r1 => ?_)
  obtain ⟨ht, hf⟩ := h
  refine ga_icmp_ge (tgt := 42) dX5_bestSlot_11 (by decide) rx3 r1 (fun q2 => ?_) (fun q2 => ?_)
  · replace q2 : (gI σ 41 0) ≤ x3 := q2
    have h := ht q2
    refine ga_iload_n 1 dX5_bestSlot_42 rfl rfl ?_
    exact ga_iret dX5_bestSlot_43 rfl rx1 h
  · replace q2 : x3 < (gI σ 41 0) := (Int.not_le.mp q2)
    have h := hf q2
    refine ga_aload_n 0 dX5_bestSlot_14 rfl rfl ?_
    refine ga_getR (kI := 3) (r := 44) dX5_bestSlot_15 fX5_109 rfl rfl (by decide) rfl ?_
    refine ga_iload_n 3 dX5_bestSlot_18 rfl rfl ?_
    obtain ⟨i3, h⟩ := h
    refine ga_iald (nI := 360) dX5_bestSlot_19 rfl rfl i3 (fun r4 => ?_)
    refine ga_callSi (z := mJ6_bitCount_0f7a4) (As := [vI (gI σ 44 x3)]) (rest := []) dX5_bestSlot_20 wX5_112 qX5_bestSlot_J6_bitCount_0f7a4 rfl rfl (Nat.le_of_ble_eq_true rfl) (gEi_mono h (fun v7 σ5 h r6 => ?_))
    replace h := h r6
    refine ga_istore (ls' := [(4, vI v7), (0, .ref (G.2.1 41)), (1, vI x1), (2, vI x2), (3, vI x3)]) dX5_bestSlot_23 (by decide) rfl ?_
    refine ga_iload 0 dX5_bestSlot_25 rfl ?_
    refine ga_iload_n 3 dX5_bestSlot_27 rfl rfl ?_
    obtain ⟨ht, hf⟩ := h
    refine ga_icmp_le (tgt := 36) dX5_bestSlot_28 (by decide) r6 rx2 (fun q8 => ?_) (fun q8 => ?_)
    · replace q8 : v7 ≤ x2 := q8
      have h := ht q8
      refine ga_iinc (ls' := [(3, vI (x3 + 1)), (4, vI v7), (0, .ref (G.2.1 41)), (1, vI x1), (2, vI x2)]) 4 dX5_bestSlot_36 rfl (by decide) rfl ?_
      refine ga_goto (tgt := 6) dX5_bestSlot_39 (by decide) ?_
      exact ga_sub [2, 3, 4, 0] rfl h
    · replace q8 : x2 < v7 := (Int.not_le.mp q8)
      have h := hf q8
      refine ga_iload 0 dX5_bestSlot_31 rfl ?_
      refine ga_istore_n (ls' := [(2, vI v7), (4, vI v7), (0, .ref (G.2.1 41)), (1, vI x1), (3, vI x3)]) dX5_bestSlot_33 rfl (by decide) rfl ?_
      refine ga_iload_n 4 dX5_bestSlot_34 rfl rfl ?_
      refine ga_istore_n (ls' := [(1, vI x3), (2, vI v7), (4, vI v7), (0, .ref (G.2.1 41)), (3, vI x3)]) dX5_bestSlot_35 rfl (by decide) rfl ?_
      refine ga_iinc (ls' := [(3, vI (x3 + 1)), (1, vI x3), (2, vI v7), (4, vI v7), (0, .ref (G.2.1 41))]) 4 dX5_bestSlot_36 rfl (by decide) rfl ?_
      refine ga_goto (tgt := 6) dX5_bestSlot_39 (by decide) ?_
      exact ga_sub [4, 1, 2, 0] rfl h
abbrev eX5_fairest (l : Launch) (G : gG)  (σ : gS) (Q : Int → gS → Prop) : Prop := gEi l G mX5_fairest [.ref (G.2.1 81), .ref (G.2.1 32)] σ Q
abbrev kX5_fairest_9 (l : Launch) (G : gG)  (x2 : Int) (x3 : Int) (σ : gS) (Q : Int → gS → Prop) : Prop := gAt l G mX5_fairest (gQi G Q) 9 [(0, .ref (G.2.1 81)), (1, .ref (G.2.1 32)), (2, vI x2), (3, vI x3)] [] σ
set_option maxRecDepth 100000 in
set_option maxHeartbeats 4000000 in
theorem vX5_fairest {l : Launch} {G : gG}  (σ : gS) (Q : Int → gS → Prop) (h : eX5_gatherFlows l G  σ (fun σ1 =>
  kX5_fairest_9 l G  (-1) 0 σ1 Q)) : eX5_fairest l G  σ Q := by
  refine ga_entry rfl (Nat.le_of_ble_eq_true rfl) ?_
  show gAt l G mX5_fairest (gQi G Q) 0 [(0, .ref (G.2.1 81)), (1, .ref (G.2.1 32))] [] σ
  refine ga_aload_n 0 dX5_fairest_0 rfl rfl ?_
  refine ga_aload_n 1 dX5_fairest_1 rfl rfl ?_
  refine ga_callVv (z := mX5_gatherFlows) (As := [.ref (G.2.1 32)]) (rest := []) dX5_fairest_2 wX5_117 qX5_fairest_X5_gatherFlows rfl ⟨_, rfl, rfl⟩ rfl rfl (Nat.le_of_ble_eq_true rfl) (gEv_mono h (fun σ1 h => ?_))
  refine ga_iconst dX5_fairest_5 ?_
  refine ga_istore_n (ls' := [(2, vI (-1)), (0, .ref (G.2.1 81)), (1, .ref (G.2.1 32))]) dX5_fairest_6 rfl (by decide) rfl ?_
  refine ga_iconst dX5_fairest_7 ?_
  refine ga_istore_n (ls' := [(3, vI 0), (2, vI (-1)), (0, .ref (G.2.1 81)), (1, .ref (G.2.1 32))]) dX5_fairest_8 rfl (by decide) rfl ?_
  exact ga_sub [2, 3, 1, 0] rfl h
set_option maxRecDepth 100000 in
set_option maxHeartbeats 4000000 in
theorem vX5_fairest_9 {l : Launch} {G : gG}  (x2 : Int) (x3 : Int) (rx2 : gR x2) (rx3 : gR x3) (σ : gS) (Q : Int → gS → Prop) (h : ((gI σ 81 0) ≤ x3 → Q x2 σ) ∧
  (x3 < (gI σ 81 0) → (x2 = (-1) → (0 ≤ x3 ∧ x3 < 36) ∧ kX5_fairest_9 l G  (gI σ 82 x3) (x3 + 1) σ Q) ∧
    (¬ x2 = (-1) → (0 ≤ x3 ∧ x3 < 36) ∧ eX5_queueOf l G (gI σ 82 x3) σ (fun v12 σ10 => gR v12 →
      (0 ≤ v12 ∧ v12 < 36) ∧ eX5_queueOf l G x2 σ10 (fun v17 σ15 => gR v17 →
      (0 ≤ v17 ∧ v17 < 36) ∧ ((gI σ15 83 v17) ≤ (gI σ10 83 v12) → kX5_fairest_9 l G  x2 (x3 + 1) σ15 Q) ∧
      ((gI σ10 83 v12) < (gI σ15 83 v17) → kX5_fairest_9 l G  (gI σ15 82 x3) (x3 + 1) σ15 Q)))))) : kX5_fairest_9 l G  x2 x3 σ Q := by
  refine ga_iload_n 3 dX5_fairest_9 rfl rfl ?_
  refine ga_aload_n 0 dX5_fairest_10 rfl rfl ?_
  refine ga_getI (kI := 0) dX5_fairest_11 fX5_18 rfl rfl rfl (fun r3 => ?_)
  obtain ⟨ht, hf⟩ := h
  refine ga_icmp_ge (tgt := 61) dX5_fairest_14 (by decide) rx3 r3 (fun q4 => ?_) (fun q4 => ?_)
  · replace q4 : (gI σ 81 0) ≤ x3 := q4
    have h := ht q4
    refine ga_iload_n 2 dX5_fairest_61 rfl rfl ?_
    exact ga_iret dX5_fairest_62 rfl rx2 h
  · replace q4 : x3 < (gI σ 81 0) := (Int.not_le.mp q4)
    have h := hf q4
    refine ga_iload_n 2 dX5_fairest_17 rfl rfl ?_
    refine ga_iconst dX5_fairest_18 ?_
    obtain ⟨ht, hf⟩ := h
    refine ga_icmp_eq (tgt := 48) dX5_fairest_19 (by decide) rx2 (by decide) (fun q5 => ?_) (fun q5 => ?_)
    · replace q5 : x2 = (-1) := q5
      have h := ht q5
      refine ga_aload_n 0 dX5_fairest_48 rfl rfl ?_
      refine ga_getR (kI := 1) (r := 82) dX5_fairest_49 fX5_9 rfl rfl (by decide) rfl ?_
      refine ga_iload_n 3 dX5_fairest_52 rfl rfl ?_
      obtain ⟨i6, h⟩ := h
      refine ga_iald (nI := 36) dX5_fairest_53 rfl rfl i6 (fun r7 => ?_)
      refine ga_istore_n (ls' := [(2, vI (gI σ 82 x3)), (0, .ref (G.2.1 81)), (1, .ref (G.2.1 32)), (3, vI x3)]) dX5_fairest_54 rfl (by decide) rfl ?_
      refine ga_iinc (ls' := [(3, vI (x3 + 1)), (2, vI (gI σ 82 x3)), (0, .ref (G.2.1 81)), (1, .ref (G.2.1 32))]) 3 dX5_fairest_55 rfl (by decide) rfl ?_
      refine ga_goto (tgt := 9) dX5_fairest_58 (by decide) ?_
      exact ga_sub [2, 3, 1, 0] rfl h
    · replace q5 : ¬ x2 = (-1) := q5
      have h := hf q5
      refine ga_aload_n 0 dX5_fairest_22 rfl rfl ?_
      refine ga_getR (kI := 2) (r := 83) dX5_fairest_23 fX5_15 rfl rfl (by decide) rfl ?_
      refine ga_aload_n 0 dX5_fairest_26 rfl rfl ?_
      refine ga_getR (kI := 1) (r := 82) dX5_fairest_27 fX5_9 rfl rfl (by decide) rfl ?_
      refine ga_iload_n 3 dX5_fairest_30 rfl rfl ?_
      obtain ⟨i8, h⟩ := h
      refine ga_iald (nI := 36) dX5_fairest_31 rfl rfl i8 (fun r9 => ?_)
      refine ga_callSi (z := mX5_queueOf) (As := [vI (gI σ 82 x3)]) (rest := [.ref (G.2.1 83)]) dX5_fairest_32 wX5_47 qX5_fairest_X5_queueOf rfl rfl (Nat.le_of_ble_eq_true rfl) (gEi_mono h (fun v12 σ10 h r11 => ?_))
      replace h := h r11
      obtain ⟨i13, h⟩ := h
      refine ga_iald (nI := 36) dX5_fairest_35 rfl rfl i13 (fun r14 => ?_)
      refine ga_aload_n 0 dX5_fairest_36 rfl rfl ?_
      refine ga_getR (kI := 2) (r := 83) dX5_fairest_37 fX5_15 rfl rfl (by decide) rfl ?_
      refine ga_iload_n 2 dX5_fairest_40 rfl rfl ?_
      refine ga_callSi (z := mX5_queueOf) (As := [vI x2]) (rest := [.ref (G.2.1 83), vI (gI σ10 83 v12)]) dX5_fairest_41 wX5_47 qX5_fairest_X5_queueOf rfl rfl (Nat.le_of_ble_eq_true rfl) (gEi_mono h (fun v17 σ15 h r16 => ?_))
      replace h := h r16
      obtain ⟨i18, h⟩ := h
      refine ga_iald (nI := 36) dX5_fairest_44 rfl rfl i18 (fun r19 => ?_)
      obtain ⟨ht, hf⟩ := h
      refine ga_icmp_ge (tgt := 55) dX5_fairest_45 (by decide) r14 r19 (fun q20 => ?_) (fun q20 => ?_)
      · replace q20 : (gI σ15 83 v17) ≤ (gI σ10 83 v12) := q20
        have h := ht q20
        refine ga_iinc (ls' := [(3, vI (x3 + 1)), (0, .ref (G.2.1 81)), (1, .ref (G.2.1 32)), (2, vI x2)]) 3 dX5_fairest_55 rfl (by decide) rfl ?_
        refine ga_goto (tgt := 9) dX5_fairest_58 (by decide) ?_
        exact ga_sub [1, 2, 3, 0] rfl h
      · replace q20 : (gI σ10 83 v12) < (gI σ15 83 v17) := (Int.not_le.mp q20)
        have h := hf q20
        refine ga_aload_n 0 dX5_fairest_48 rfl rfl ?_
        refine ga_getR (kI := 1) (r := 82) dX5_fairest_49 fX5_9 rfl rfl (by decide) rfl ?_
        refine ga_iload_n 3 dX5_fairest_52 rfl rfl ?_
        refine ga_iald (nI := 36) dX5_fairest_53 rfl rfl i8 (fun r21 => ?_)
        refine ga_istore_n (ls' := [(2, vI (gI σ15 82 x3)), (0, .ref (G.2.1 81)), (1, .ref (G.2.1 32)), (3, vI x3)]) dX5_fairest_54 rfl (by decide) rfl ?_
        refine ga_iinc (ls' := [(3, vI (x3 + 1)), (2, vI (gI σ15 82 x3)), (0, .ref (G.2.1 81)), (1, .ref (G.2.1 32))]) 3 dX5_fairest_55 rfl (by decide) rfl ?_
        refine ga_goto (tgt := 9) dX5_fairest_58 (by decide) ?_
        exact ga_sub [2, 3, 1, 0] rfl h
abbrev eX5_meets (l : Launch) (G : gG)  (σ : gS) (Q : Int → gS → Prop) : Prop := gEi l G mX5_meets [.ref (G.2.1 41)] σ Q
abbrev kX5_meets_4 (l : Launch) (G : gG)  (x1 : Int) (x2 : Int) (σ : gS) (Q : Int → gS → Prop) : Prop := gAt l G mX5_meets (gQi G Q) 4 [(0, .ref (G.2.1 41)), (1, vI x1), (2, vI x2)] [] σ
abbrev kX5_meets_25 (l : Launch) (G : gG)  (x1 : Int) (x2 : Int) (x3 : Int) (σ : gS) (Q : Int → gS → Prop) : Prop := gAt l G mX5_meets (gQi G Q) 25 [(0, .ref (G.2.1 41)), (1, vI x1), (2, vI x2), (3, vI x3)] [] σ
set_option maxRecDepth 100000 in
set_option maxHeartbeats 4000000 in
theorem vX5_meets {l : Launch} {G : gG}  (σ : gS) (Q : Int → gS → Prop) (h : kX5_meets_4 l G  0 0 σ Q) : eX5_meets l G  σ Q := by
  refine ga_entry rfl (Nat.le_of_ble_eq_true rfl) ?_
  show gAt l G mX5_meets (gQi G Q) 0 [(0, .ref (G.2.1 41))] [] σ
  refine ga_iconst dX5_meets_0 ?_
  refine ga_istore_n (ls' := [(1, vI 0), (0, .ref (G.2.1 41))]) dX5_meets_1 rfl (by decide) rfl ?_
  refine ga_iconst dX5_meets_2 ?_
  refine ga_istore_n (ls' := [(2, vI 0), (1, vI 0), (0, .ref (G.2.1 41))]) dX5_meets_3 rfl (by decide) rfl ?_
  exact ga_sub [2, 1, 0] rfl h
set_option maxRecDepth 100000 in
set_option maxHeartbeats 4000000 in
theorem vX5_meets_4 {l : Launch} {G : gG}  (x1 : Int) (x2 : Int) (rx1 : gR x1) (rx2 : gR x2) (σ : gS) (Q : Int → gS → Prop) (h : ((gI σ 41 0) ≤ x2 → Q x1 σ) ∧
  (x2 < (gI σ 41 0) → (0 ≤ x2 ∧ x2 < 360) ∧ ((gI σ 42 x2) = 0 → kX5_meets_4 l G  x1 (x2 + 1) σ Q) ∧
    (¬ (gI σ 42 x2) = 0 → kX5_meets_25 l G  x1 x2 (x2 + 1) σ Q))) : kX5_meets_4 l G  x1 x2 σ Q := by
  refine ga_iload_n 2 dX5_meets_4 rfl rfl ?_
  refine ga_aload_n 0 dX5_meets_5 rfl rfl ?_
  refine ga_getI (kI := 0) dX5_meets_6 fX5_28 rfl rfl rfl (fun r1 => ?_)
  obtain ⟨ht, hf⟩ := h
  refine ga_icmp_ge (tgt := 63) dX5_meets_9 (by decide) rx2 r1 (fun q2 => ?_) (fun q2 => ?_)
  · replace q2 : (gI σ 41 0) ≤ x2 := q2
    have h := ht q2
    refine ga_iload_n 1 dX5_meets_63 rfl rfl ?_
    exact ga_iret dX5_meets_64 rfl rx1 h
  · replace q2 : x2 < (gI σ 41 0) := (Int.not_le.mp q2)
    have h := hf q2
    refine ga_aload_n 0 dX5_meets_12 rfl rfl ?_
    refine ga_getR (kI := 1) (r := 42) dX5_meets_13 fX5_36 rfl rfl (by decide) rfl ?_
    refine ga_iload_n 2 dX5_meets_16 rfl rfl ?_
    obtain ⟨i3, h⟩ := h
    refine ga_iald (nI := 360) dX5_meets_17 rfl rfl i3 (fun r4 => ?_)
    obtain ⟨ht, hf⟩ := h
    refine ga_if_eq (tgt := 57) dX5_meets_18 (by decide) r4 (fun q5 => ?_) (fun q5 => ?_)
    · replace q5 : (gI σ 42 x2) = 0 := q5
      have h := ht q5
      refine ga_iinc (ls' := [(2, vI (x2 + 1)), (0, .ref (G.2.1 41)), (1, vI x1)]) 2 dX5_meets_57 rfl (by decide) rfl ?_
      refine ga_goto (tgt := 4) dX5_meets_60 (by decide) ?_
      exact ga_sub [1, 2, 0] rfl h
    · replace q5 : ¬ (gI σ 42 x2) = 0 := q5
      have h := hf q5
      refine ga_iload_n 2 dX5_meets_21 rfl rfl ?_
      refine ga_iconst dX5_meets_22 ?_
      refine ga_iadd dX5_meets_23 ?_
      refine ga_istore_n (ls' := [(3, vI (x2 + 1)), (0, .ref (G.2.1 41)), (1, vI x1), (2, vI x2)]) dX5_meets_24 rfl (by decide) rfl ?_
      exact ga_sub [1, 2, 3, 0] rfl h
set_option maxRecDepth 100000 in
set_option maxHeartbeats 4000000 in
theorem vX5_meets_25 {l : Launch} {G : gG}  (x1 : Int) (x2 : Int) (x3 : Int) (rx1 : gR x1) (rx2 : gR x2) (rx3 : gR x3) (σ : gS) (Q : Int → gS → Prop) (h : ((gI σ 41 0) ≤ x3 → kX5_meets_4 l G  x1 (x2 + 1) σ Q) ∧
  (x3 < (gI σ 41 0) → (0 ≤ x3 ∧ x3 < 360) ∧ (0 ≤ x2 ∧ x2 < 360) ∧ (¬ (gI σ 42 x3) = (gI σ 42 x2) → kX5_meets_25 l G  x1 x2 (x3 + 1) σ Q) ∧
    ((gI σ 42 x3) = (gI σ 42 x2) → kX5_meets_25 l G  (x1 + 1) x2 (x3 + 1) σ Q))) : kX5_meets_25 l G  x1 x2 x3 σ Q := by
  refine ga_iload_n 3 dX5_meets_25 rfl rfl ?_
  refine ga_aload_n 0 dX5_meets_26 rfl rfl ?_
  refine ga_getI (kI := 0) dX5_meets_27 fX5_28 rfl rfl rfl (fun r6 => ?_)
  obtain ⟨ht, hf⟩ := h
  refine ga_icmp_ge (tgt := 57) dX5_meets_30 (by decide) rx3 r6 (fun q7 => ?_) (fun q7 => ?_)
  · replace q7 : (gI σ 41 0) ≤ x3 := q7
    have h := ht q7
    refine ga_iinc (ls' := [(2, vI (x2 + 1)), (0, .ref (G.2.1 41)), (1, vI x1), (3, vI x3)]) 2 dX5_meets_57 rfl (by decide) rfl ?_
    refine ga_goto (tgt := 4) dX5_meets_60 (by decide) ?_
    exact ga_sub [1, 2, 0] rfl h
  · replace q7 : x3 < (gI σ 41 0) := (Int.not_le.mp q7)
    have h := hf q7
    refine ga_aload_n 0 dX5_meets_33 rfl rfl ?_
    refine ga_getR (kI := 1) (r := 42) dX5_meets_34 fX5_36 rfl rfl (by decide) rfl ?_
    refine ga_iload_n 3 dX5_meets_37 rfl rfl ?_
    obtain ⟨i8, h⟩ := h
    refine ga_iald (nI := 360) dX5_meets_38 rfl rfl i8 (fun r9 => ?_)
    refine ga_aload_n 0 dX5_meets_39 rfl rfl ?_
    refine ga_getR (kI := 1) (r := 42) dX5_meets_40 fX5_36 rfl rfl (by decide) rfl ?_
    refine ga_iload_n 2 dX5_meets_43 rfl rfl ?_
    obtain ⟨i10, h⟩ := h
    refine ga_iald (nI := 360) dX5_meets_44 rfl rfl i10 (fun r11 => ?_)
    obtain ⟨ht, hf⟩ := h
    refine ga_icmp_ne (tgt := 51) dX5_meets_45 (by decide) r9 r11 (fun q12 => ?_) (fun q12 => ?_)
    · replace q12 : ¬ (gI σ 42 x3) = (gI σ 42 x2) := q12
      have h := ht q12
      refine ga_iinc (ls' := [(3, vI (x3 + 1)), (0, .ref (G.2.1 41)), (1, vI x1), (2, vI x2)]) 3 dX5_meets_51 rfl (by decide) rfl ?_
      refine ga_goto (tgt := 25) dX5_meets_54 (by decide) ?_
      exact ga_sub [1, 2, 3, 0] rfl h
    · replace q12 : (gI σ 42 x3) = (gI σ 42 x2) := (Decidable.not_not.mp q12)
      have h := hf q12
      refine ga_iinc (ls' := [(1, vI (x1 + 1)), (0, .ref (G.2.1 41)), (2, vI x2), (3, vI x3)]) 1 dX5_meets_48 rfl (by decide) rfl ?_
      refine ga_iinc (ls' := [(3, vI (x3 + 1)), (1, vI (x1 + 1)), (0, .ref (G.2.1 41)), (2, vI x2)]) 3 dX5_meets_51 rfl (by decide) rfl ?_
      refine ga_goto (tgt := 25) dX5_meets_54 (by decide) ?_
      exact ga_sub [2, 1, 3, 0] rfl h
abbrev eX5_hasSomething (l : Launch) (G : gG) (x1 : Int) (σ : gS) (Q : Int → gS → Prop) : Prop := gEz l G mX5_hasSomething [.ref (G.2.1 32), vI x1] σ Q
abbrev kX5_hasSomething_17 (l : Launch) (G : gG)  (x1 : Int) (x2 : Int) (x3 : Int) (σ : gS) (Q : Int → gS → Prop) : Prop := gAt l G mX5_hasSomething (gQz G Q) 17 [(0, .ref (G.2.1 32)), (1, vI x1), (2, vI x2), (3, vI x3)] [] σ
set_option maxRecDepth 100000 in
set_option maxHeartbeats 4000000 in
theorem vX5_hasSomething {l : Launch} {G : gG} (x1 : Int) (rx1 : gR x1) (σ : gS) (Q : Int → gS → Prop) (h : (0 ≤ x1 ∧ x1 < 6) ∧ (∀ v5 : Int, v5 = (if (gI σ 55 x1) ≤ 0 then 0 else 1) →
  kX5_hasSomething_17 l G  x1 v5 0 σ Q)) : eX5_hasSomething l G x1 σ Q := by
  refine ga_entry rfl (Nat.le_of_ble_eq_true rfl) ?_
  show gAt l G mX5_hasSomething (gQz G Q) 0 [(0, .ref (G.2.1 32)), (1, vI x1)] [] σ
  refine ga_aload_n 0 dX5_hasSomething_0 rfl rfl ?_
  refine ga_getR (kI := 15) (r := 55) dX5_hasSomething_1 fX5_128 rfl rfl (by decide) rfl ?_
  refine ga_iload_n 1 dX5_hasSomething_4 rfl rfl ?_
  obtain ⟨i1, h⟩ := h
  refine ga_iald (nI := 6) dX5_hasSomething_5 rfl rfl i1 (fun r2 => ?_)
  have kJ3 : ∀ v5 : Int, gR v5 → (v5 = 0 ∨ v5 = 1) → v5 = (if (gI σ 55 x1) ≤ 0 then 0 else 1) → gAt l G mX5_hasSomething (gQz G Q) 14 [(0, .ref (G.2.1 32)), (1, vI x1)] [vI v5] σ := by
    intro v5 rv5 bv5 ev5
    replace h := h v5 ev5
    refine ga_istore_n (ls' := [(2, vI v5), (0, .ref (G.2.1 32)), (1, vI x1)]) dX5_hasSomething_14 rfl (by decide) rfl ?_
    refine ga_iconst dX5_hasSomething_15 ?_
    refine ga_istore_n (ls' := [(3, vI 0), (2, vI v5), (0, .ref (G.2.1 32)), (1, vI x1)]) dX5_hasSomething_16 rfl (by decide) rfl ?_
    exact ga_sub [2, 3, 1, 0] rfl h
  replace h : ((gI σ 55 x1) ≤ 0 → True) ∧
  (0 < (gI σ 55 x1) → True) := by repeat (first | exact True.intro | apply And.intro | intro _)
  obtain ⟨ht, hf⟩ := h
  refine ga_if_le (tgt := 13) dX5_hasSomething_6 (by decide) r2 (fun q4 => ?_) (fun q4 => ?_)
  · replace q4 : (gI σ 55 x1) ≤ 0 := q4
    have h := ht q4
    refine ga_iconst dX5_hasSomething_13 ?_
    exact kJ3 0 (by decide) (Or.inl rfl) (by rw [if_pos q4])
  · replace q4 : 0 < (gI σ 55 x1) := (Int.not_le.mp q4)
    have h := hf q4
    refine ga_iconst dX5_hasSomething_9 ?_
    refine ga_goto (tgt := 14) dX5_hasSomething_10 (by decide) ?_
    exact kJ3 1 (by decide) (Or.inr rfl) (by rw [if_neg (Int.not_le.mpr q4)])
set_option maxRecDepth 100000 in
set_option maxHeartbeats 4000000 in
theorem vX5_hasSomething_17 {l : Launch} {G : gG}  (x1 : Int) (x2 : Int) (x3 : Int) (rx1 : gR x1) (rx2 : gR x2) (rx3 : gR x3) (σ : gS) (Q : Int → gS → Prop) (h : ((gI σ 32 3) ≤ x3 → (x2 = 0 ∨ x2 = 1) ∧ Q x2 σ) ∧
  (x3 < (gI σ 32 3) → ((¬ x2 = 0 → True) ∧
    (x2 = 0 → (0 ≤ ((x1 * 6) + x3) ∧ ((x1 * 6) + x3) < 36) ∧ ((gI σ 53 ((x1 * 6) + x3)) ≤ 0 → True) ∧
      (0 < (gI σ 53 ((x1 * 6) + x3)) → True))) ∧
    (∀ v14 : Int, v14 = (if x2 = 0 then (if (gI σ 53 ((x1 * 6) + x3)) ≤ 0 then 0 else 1) else 1) →
    kX5_hasSomething_17 l G  x1 v14 (x3 + 1) σ Q))) : kX5_hasSomething_17 l G  x1 x2 x3 σ Q := by
  refine ga_iload_n 3 dX5_hasSomething_17 rfl rfl ?_
  refine ga_aload_n 0 dX5_hasSomething_18 rfl rfl ?_
  refine ga_getI (kI := 3) dX5_hasSomething_19 fX5_33 rfl rfl rfl (fun r6 => ?_)
  obtain ⟨ht, hf⟩ := h
  refine ga_icmp_ge (tgt := 55) dX5_hasSomething_22 (by decide) rx3 r6 (fun q7 => ?_) (fun q7 => ?_)
  · replace q7 : (gI σ 32 3) ≤ x3 := q7
    have h := ht q7
    refine ga_iload_n 2 dX5_hasSomething_55 rfl rfl ?_
    obtain ⟨o8, h⟩ := h
    exact ga_bret dX5_hasSomething_56 rfl o8 h
  · replace q7 : x3 < (gI σ 32 3) := (Int.not_le.mp q7)
    have h := hf q7
    refine ga_iload_n 2 dX5_hasSomething_25 rfl rfl ?_
    obtain ⟨hob, h⟩ := h
    have kJ9 : ∀ v14 : Int, gR v14 → (v14 = 0 ∨ v14 = 1) → v14 = (if x2 = 0 then (if (gI σ 53 ((x1 * 6) + x3)) ≤ 0 then 0 else 1) else 1) → gAt l G mX5_hasSomething (gQz G Q) 48 [(0, .ref (G.2.1 32)), (1, vI x1), (2, vI x2), (3, vI x3)] [vI v14] σ := by
      intro v14 rv14 bv14 ev14
      replace h := h v14 ev14
      refine ga_istore_n (ls' := [(2, vI v14), (0, .ref (G.2.1 32)), (1, vI x1), (3, vI x3)]) dX5_hasSomething_48 rfl (by decide) rfl ?_
      refine ga_iinc (ls' := [(3, vI (x3 + 1)), (2, vI v14), (0, .ref (G.2.1 32)), (1, vI x1)]) 3 dX5_hasSomething_49 rfl (by decide) rfl ?_
      refine ga_goto (tgt := 17) dX5_hasSomething_52 (by decide) ?_
      exact ga_sub [2, 3, 1, 0] rfl h
    replace h := hob
    obtain ⟨ht, hf⟩ := h
    refine ga_if_ne (tgt := 43) dX5_hasSomething_26 (by decide) rx2 (fun q10 => ?_) (fun q10 => ?_)
    · replace q10 : ¬ x2 = 0 := q10
      have h := ht q10
      refine ga_iconst dX5_hasSomething_43 ?_
      refine ga_goto (tgt := 48) dX5_hasSomething_44 (by decide) ?_
      exact kJ9 1 (by decide) (Or.inr rfl) (by rw [if_neg q10])
    · replace q10 : x2 = 0 := (Decidable.not_not.mp q10)
      have h := hf q10
      refine ga_aload_n 0 dX5_hasSomething_29 rfl rfl ?_
      refine ga_getR (kI := 13) (r := 53) dX5_hasSomething_30 fX5_51 rfl rfl (by decide) rfl ?_
      refine ga_iload_n 1 dX5_hasSomething_33 rfl rfl ?_
      refine ga_bipush dX5_hasSomething_34 (by decide) ?_
      refine ga_imul dX5_hasSomething_36 ?_
      refine ga_iload_n 3 dX5_hasSomething_37 rfl rfl ?_
      refine ga_iadd dX5_hasSomething_38 ?_
      obtain ⟨i11, h⟩ := h
      refine ga_iald (nI := 36) dX5_hasSomething_39 rfl rfl i11 (fun r12 => ?_)
      obtain ⟨ht, hf⟩ := h
      refine ga_if_le (tgt := 47) dX5_hasSomething_40 (by decide) r12 (fun q13 => ?_) (fun q13 => ?_)
      · replace q13 : (gI σ 53 ((x1 * 6) + x3)) ≤ 0 := q13
        have h := ht q13
        refine ga_iconst dX5_hasSomething_47 ?_
        exact kJ9 0 (by decide) (Or.inl rfl) (by rw [if_pos q10, if_pos q13])
      · replace q13 : 0 < (gI σ 53 ((x1 * 6) + x3)) := (Int.not_le.mp q13)
        have h := hf q13
        refine ga_iconst dX5_hasSomething_43 ?_
        refine ga_goto (tgt := 48) dX5_hasSomething_44 (by decide) ?_
        exact kJ9 1 (by decide) (Or.inr rfl) (by rw [if_pos q10, if_neg (Int.not_le.mpr q13)])
abbrev eX5_starved (l : Launch) (G : gG)  (σ : gS) (Q : Int → gS → Prop) : Prop := gEi l G mX5_starved [.ref (G.2.1 32)] σ Q
abbrev kX5_starved_23 (l : Launch) (G : gG)  (x1 : Int) (x2 : Int) (x3 : Int) (σ : gS) (Q : Int → gS → Prop) : Prop := gAt l G mX5_starved (gQi G Q) 23 [(0, .ref (G.2.1 32)), (1, vI x1), (2, vI x2), (3, vI x3)] [] σ
abbrev kX5_starved_53 (l : Launch) (G : gG)  (x1 : Int) (x2 : Int) (x3 : Int) (σ : gS) (Q : Int → gS → Prop) : Prop := gAt l G mX5_starved (gQi G Q) 53 [(0, .ref (G.2.1 32)), (1, vI x1), (2, vI x2), (3, vI x3)] [] σ
set_option maxRecDepth 100000 in
set_option maxHeartbeats 4000000 in
theorem vX5_starved {l : Launch} {G : gG}  (σ : gS) (Q : Int → gS → Prop) (h : (gR ((gI σ 41 0) - (gI σ 32 3))) ∧ (0 ≤ ((gI σ 41 0) - (gI σ 32 3)) → kX5_starved_23 l G  ((gI σ 41 0) - (gI σ 32 3)) 0 0 σ Q) ∧
  (((gI σ 41 0) - (gI σ 32 3)) < 0 → Q 0 σ)) : eX5_starved l G  σ Q := by
  refine ga_entry rfl (Nat.le_of_ble_eq_true rfl) ?_
  show gAt l G mX5_starved (gQi G Q) 0 [(0, .ref (G.2.1 32))] [] σ
  refine ga_aload_n 0 dX5_starved_0 rfl rfl ?_
  refine ga_getR (kI := 1) (r := 41) dX5_starved_1 fX5_22 rfl rfl (by decide) rfl ?_
  refine ga_getI (kI := 0) dX5_starved_4 fX5_28 rfl rfl rfl (fun r1 => ?_)
  refine ga_aload_n 0 dX5_starved_7 rfl rfl ?_
  refine ga_getI (kI := 3) dX5_starved_8 fX5_33 rfl rfl rfl (fun r2 => ?_)
  refine ga_isub dX5_starved_11 ?_
  refine ga_istore_n (ls' := [(1, vI ((gI σ 41 0) - (gI σ 32 3))), (0, .ref (G.2.1 32))]) dX5_starved_12 rfl (by decide) rfl ?_
  refine ga_iload_n 0 dX5_starved_13 rfl rfl ?_
  obtain ⟨r3, h⟩ := h
  obtain ⟨ht, hf⟩ := h
  refine ga_if_ge (tgt := 19) dX5_starved_14 (by decide) r3 (fun q4 => ?_) (fun q4 => ?_)
  · replace q4 : 0 ≤ ((gI σ 41 0) - (gI σ 32 3)) := q4
    have h := ht q4
    refine ga_iconst dX5_starved_19 ?_
    refine ga_istore_n (ls' := [(2, vI 0), (1, vI ((gI σ 41 0) - (gI σ 32 3))), (0, .ref (G.2.1 32))]) dX5_starved_20 rfl (by decide) rfl ?_
    refine ga_iconst dX5_starved_21 ?_
    refine ga_istore_n (ls' := [(3, vI 0), (2, vI 0), (1, vI ((gI σ 41 0) - (gI σ 32 3))), (0, .ref (G.2.1 32))]) dX5_starved_22 rfl (by decide) rfl ?_
    exact ga_sub [3, 2, 1, 0] rfl h
  · replace q4 : ((gI σ 41 0) - (gI σ 32 3)) < 0 := (Int.not_le.mp q4)
    have h := hf q4
    refine ga_iconst dX5_starved_17 ?_
    exact ga_iret dX5_starved_18 rfl (by decide) h
set_option maxRecDepth 100000 in
set_option maxHeartbeats 4000000 in
theorem vX5_starved_23 {l : Launch} {G : gG}  (x1 : Int) (x2 : Int) (x3 : Int) (rx1 : gR x1) (rx2 : gR x2) (rx3 : gR x3) (σ : gS) (Q : Int → gS → Prop) (h : ((gI σ 32 3) ≤ x3 → kX5_starved_53 l G  x1 x2 x1 σ Q) ∧
  (x3 < (gI σ 32 3) → eX5_hasSomething l G x3 σ (fun v9 σ7 => (v9 = 0 ∨ v9 = 1) →
    (v9 = 0 → kX5_starved_23 l G  x1 x2 (x3 + 1) σ7 Q) ∧
    (¬ v9 = 0 → kX5_starved_23 l G  x1 (gor x2 (gshl 1 x3)) (x3 + 1) σ7 Q)))) : kX5_starved_23 l G  x1 x2 x3 σ Q := by
  refine ga_iload_n 3 dX5_starved_23 rfl rfl ?_
  refine ga_aload_n 0 dX5_starved_24 rfl rfl ?_
  refine ga_getI (kI := 3) dX5_starved_25 fX5_33 rfl rfl rfl (fun r5 => ?_)
  obtain ⟨ht, hf⟩ := h
  refine ga_icmp_ge (tgt := 51) dX5_starved_28 (by decide) rx3 r5 (fun q6 => ?_) (fun q6 => ?_)
  · replace q6 : (gI σ 32 3) ≤ x3 := q6
    have h := ht q6
    refine ga_iload_n 1 dX5_starved_51 rfl rfl ?_
    refine ga_istore_n (ls' := [(3, vI x1), (0, .ref (G.2.1 32)), (1, vI x1), (2, vI x2)]) dX5_starved_52 rfl (by decide) rfl ?_
    exact ga_sub [1, 2, 3, 0] rfl h
  · replace q6 : x3 < (gI σ 32 3) := (Int.not_le.mp q6)
    have h := hf q6
    refine ga_aload_n 0 dX5_starved_31 rfl rfl ?_
    refine ga_iload_n 3 dX5_starved_32 rfl rfl ?_
    refine ga_callSz (z := mX5_hasSomething) (As := [.ref (G.2.1 32), vI x3]) (rest := []) dX5_starved_33 wX5_121 qX5_starved_X5_hasSomething rfl rfl (Nat.le_of_ble_eq_true rfl) (gEz_mono h (fun v9 σ7 h r8 => ?_))
    replace h := h r8
    obtain ⟨ht, hf⟩ := h
    refine ga_if_eq (tgt := 45) dX5_starved_36 (by decide) (gR_01 r8) (fun q10 => ?_) (fun q10 => ?_)
    · replace q10 : v9 = 0 := q10
      have h := ht q10
      refine ga_iinc (ls' := [(3, vI (x3 + 1)), (0, .ref (G.2.1 32)), (1, vI x1), (2, vI x2)]) 3 dX5_starved_45 rfl (by decide) rfl ?_
      refine ga_goto (tgt := 23) dX5_starved_48 (by decide) ?_
      exact ga_sub [1, 2, 3, 0] rfl h
    · replace q10 : ¬ v9 = 0 := q10
      have h := hf q10
      refine ga_iload_n 2 dX5_starved_39 rfl rfl ?_
      refine ga_iconst dX5_starved_40 ?_
      refine ga_iload_n 3 dX5_starved_41 rfl rfl ?_
      refine ga_ishl dX5_starved_42 (fun r11 => ?_)
      refine ga_ior dX5_starved_43 (fun r12 => ?_)
      refine ga_istore_n (ls' := [(2, vI (gor x2 (gshl 1 x3))), (0, .ref (G.2.1 32)), (1, vI x1), (3, vI x3)]) dX5_starved_44 rfl (by decide) rfl ?_
      refine ga_iinc (ls' := [(3, vI (x3 + 1)), (2, vI (gor x2 (gshl 1 x3))), (0, .ref (G.2.1 32)), (1, vI x1)]) 3 dX5_starved_45 rfl (by decide) rfl ?_
      refine ga_goto (tgt := 23) dX5_starved_48 (by decide) ?_
      exact ga_sub [2, 3, 1, 0] rfl h
set_option maxRecDepth 100000 in
set_option maxHeartbeats 4000000 in
theorem vX5_starved_53 {l : Launch} {G : gG}  (x1 : Int) (x2 : Int) (x3 : Int) (rx1 : gR x1) (rx2 : gR x2) (rx3 : gR x3) (σ : gS) (Q : Int → gS → Prop) (h : ((gI σ 41 0) ≤ x3 → Q x2 σ) ∧
  (x3 < (gI σ 41 0) → (0 ≤ x3 ∧ x3 < 360) ∧ kX5_starved_53 l G  x1 (gand x2 (gxor (gI σ 43 x3) (-1))) (x3 + 1) σ Q)) : kX5_starved_53 l G  x1 x2 x3 σ Q := by
  refine ga_iload_n 3 dX5_starved_53 rfl rfl ?_
  refine ga_aload_n 0 dX5_starved_54 rfl rfl ?_
  refine ga_getR (kI := 1) (r := 41) dX5_starved_55 fX5_22 rfl rfl (by decide) rfl ?_
  refine ga_getI (kI := 0) dX5_starved_58 fX5_28 rfl rfl rfl (fun r13 => ?_)
  obtain ⟨ht, hf⟩ := h
  refine ga_icmp_ge (tgt := 84) dX5_starved_61 (by decide) rx3 r13 (fun q14 => ?_) (fun q14 => ?_)
  · replace q14 : (gI σ 41 0) ≤ x3 := q14
    have h := ht q14
    refine ga_iload_n 2 dX5_starved_84 rfl rfl ?_
    exact ga_iret dX5_starved_85 rfl rx2 h
  · replace q14 : x3 < (gI σ 41 0) := (Int.not_le.mp q14)
    have h := hf q14
    refine ga_iload_n 2 dX5_starved_64 rfl rfl ?_
    refine ga_aload_n 0 dX5_starved_65 rfl rfl ?_
    refine ga_getR (kI := 1) (r := 41) dX5_starved_66 fX5_22 rfl rfl (by decide) rfl ?_
    refine ga_getR (kI := 2) (r := 43) dX5_starved_69 fX5_125 rfl rfl (by decide) rfl ?_
    refine ga_iload_n 3 dX5_starved_72 rfl rfl ?_
    obtain ⟨i15, h⟩ := h
    refine ga_iald (nI := 360) dX5_starved_73 rfl rfl i15 (fun r16 => ?_)
    refine ga_iconst dX5_starved_74 ?_
    refine ga_ixor dX5_starved_75 (fun r17 => ?_)
    refine ga_iand dX5_starved_76 (fun r18 => ?_)
    refine ga_istore_n (ls' := [(2, vI (gand x2 (gxor (gI σ 43 x3) (-1)))), (0, .ref (G.2.1 32)), (1, vI x1), (3, vI x3)]) dX5_starved_77 rfl (by decide) rfl ?_
    refine ga_iinc (ls' := [(3, vI (x3 + 1)), (2, vI (gand x2 (gxor (gI σ 43 x3) (-1)))), (0, .ref (G.2.1 32)), (1, vI x1)]) 3 dX5_starved_78 rfl (by decide) rfl ?_
    refine ga_goto (tgt := 53) dX5_starved_81 (by decide) ?_
    exact ga_sub [2, 3, 1, 0] rfl h
abbrev eX5_areAlike (l : Launch) (G : gG) (x1 : Int) (x2 : Int) (σ : gS) (Q : Int → gS → Prop) : Prop := gEz l G mX5_areAlike [.ref (G.2.1 32), vI x1, vI x2] σ Q
abbrev kX5_areAlike_2 (l : Launch) (G : gG)  (x1 : Int) (x2 : Int) (x3 : Int) (σ : gS) (Q : Int → gS → Prop) : Prop := gAt l G mX5_areAlike (gQz G Q) 2 [(0, .ref (G.2.1 32)), (1, vI x1), (2, vI x2), (3, vI x3)] [] σ
set_option maxRecDepth 100000 in
set_option maxHeartbeats 4000000 in
theorem vX5_areAlike {l : Launch} {G : gG} (x1 : Int) (x2 : Int) (rx1 : gR x1) (rx2 : gR x2) (σ : gS) (Q : Int → gS → Prop) (h : kX5_areAlike_2 l G  x1 x2 0 σ Q) : eX5_areAlike l G x1 x2 σ Q := by
  refine ga_entry rfl (Nat.le_of_ble_eq_true rfl) ?_
  show gAt l G mX5_areAlike (gQz G Q) 0 [(0, .ref (G.2.1 32)), (1, vI x1), (2, vI x2)] [] σ
  refine ga_iconst dX5_areAlike_0 ?_
  refine ga_istore_n (ls' := [(3, vI 0), (0, .ref (G.2.1 32)), (1, vI x1), (2, vI x2)]) dX5_areAlike_1 rfl (by decide) rfl ?_
  exact ga_sub [1, 2, 3, 0] rfl h
set_option maxRecDepth 100000 in
set_option maxHeartbeats 4000000 in
theorem vX5_areAlike_2 {l : Launch} {G : gG}  (x1 : Int) (x2 : Int) (x3 : Int) (rx1 : gR x1) (rx2 : gR x2) (rx3 : gR x3) (σ : gS) (Q : Int → gS → Prop) (h : ((gI σ 32 3) ≤ x3 → Q 1 σ) ∧
  (x3 < (gI σ 32 3) → (0 ≤ ((x1 * 6) + x3) ∧ ((x1 * 6) + x3) < 36) ∧ (0 ≤ ((x2 * 6) + x3) ∧ ((x2 * 6) + x3) < 36) ∧ ((gI σ 53 ((x1 * 6) + x3)) = (gI σ 53 ((x2 * 6) + x3)) → kX5_areAlike_2 l G  x1 x2 (x3 + 1) σ Q) ∧
    (¬ (gI σ 53 ((x1 * 6) + x3)) = (gI σ 53 ((x2 * 6) + x3)) → Q 0 σ))) : kX5_areAlike_2 l G  x1 x2 x3 σ Q := by
  refine ga_iload_n 3 dX5_areAlike_2 rfl rfl ?_
  refine ga_aload_n 0 dX5_areAlike_3 rfl rfl ?_
  refine ga_getI (kI := 3) dX5_areAlike_4 fX5_33 rfl rfl rfl (fun r1 => ?_)
  obtain ⟨ht, hf⟩ := h
  refine ga_icmp_ge (tgt := 43) dX5_areAlike_7 (by decide) rx3 r1 (fun q2 => ?_) (fun q2 => ?_)
  · replace q2 : (gI σ 32 3) ≤ x3 := q2
    have h := ht q2
    refine ga_iconst dX5_areAlike_43 ?_
    exact ga_bret dX5_areAlike_44 rfl (Or.inr rfl) h
  · replace q2 : x3 < (gI σ 32 3) := (Int.not_le.mp q2)
    have h := hf q2
    refine ga_aload_n 0 dX5_areAlike_10 rfl rfl ?_
    refine ga_getR (kI := 13) (r := 53) dX5_areAlike_11 fX5_51 rfl rfl (by decide) rfl ?_
    refine ga_iload_n 1 dX5_areAlike_14 rfl rfl ?_
    refine ga_bipush dX5_areAlike_15 (by decide) ?_
    refine ga_imul dX5_areAlike_17 ?_
    refine ga_iload_n 3 dX5_areAlike_18 rfl rfl ?_
    refine ga_iadd dX5_areAlike_19 ?_
    obtain ⟨i3, h⟩ := h
    refine ga_iald (nI := 36) dX5_areAlike_20 rfl rfl i3 (fun r4 => ?_)
    refine ga_aload_n 0 dX5_areAlike_21 rfl rfl ?_
    refine ga_getR (kI := 13) (r := 53) dX5_areAlike_22 fX5_51 rfl rfl (by decide) rfl ?_
    refine ga_iload_n 2 dX5_areAlike_25 rfl rfl ?_
    refine ga_bipush dX5_areAlike_26 (by decide) ?_
    refine ga_imul dX5_areAlike_28 ?_
    refine ga_iload_n 3 dX5_areAlike_29 rfl rfl ?_
    refine ga_iadd dX5_areAlike_30 ?_
    obtain ⟨i5, h⟩ := h
    refine ga_iald (nI := 36) dX5_areAlike_31 rfl rfl i5 (fun r6 => ?_)
    obtain ⟨ht, hf⟩ := h
    refine ga_icmp_eq (tgt := 37) dX5_areAlike_32 (by decide) r4 r6 (fun q7 => ?_) (fun q7 => ?_)
    · replace q7 : (gI σ 53 ((x1 * 6) + x3)) = (gI σ 53 ((x2 * 6) + x3)) := q7
      have h := ht q7
      refine ga_iinc (ls' := [(3, vI (x3 + 1)), (0, .ref (G.2.1 32)), (1, vI x1), (2, vI x2)]) 3 dX5_areAlike_37 rfl (by decide) rfl ?_
      refine ga_goto (tgt := 2) dX5_areAlike_40 (by decide) ?_
      exact ga_sub [1, 2, 3, 0] rfl h
    · replace q7 : ¬ (gI σ 53 ((x1 * 6) + x3)) = (gI σ 53 ((x2 * 6) + x3)) := q7
      have h := hf q7
      refine ga_iconst dX5_areAlike_35 ?_
      exact ga_bret dX5_areAlike_36 rfl (Or.inl rfl) h
abbrev eX5_alikeInputs (l : Launch) (G : gG)  (σ : gS) (Q : Int → gS → Prop) : Prop := gEi l G mX5_alikeInputs [.ref (G.2.1 32)] σ Q
abbrev kX5_alikeInputs_4 (l : Launch) (G : gG)  (x1 : Int) (x2 : Int) (σ : gS) (Q : Int → gS → Prop) : Prop := gAt l G mX5_alikeInputs (gQi G Q) 4 [(0, .ref (G.2.1 32)), (1, vI x1), (2, vI x2)] [] σ
abbrev kX5_alikeInputs_16 (l : Launch) (G : gG)  (x1 : Int) (x2 : Int) (x3 : Int) (σ : gS) (Q : Int → gS → Prop) : Prop := gAt l G mX5_alikeInputs (gQi G Q) 16 [(0, .ref (G.2.1 32)), (1, vI x1), (2, vI x2), (3, vI x3)] [] σ
set_option maxRecDepth 100000 in
set_option maxHeartbeats 4000000 in
theorem vX5_alikeInputs {l : Launch} {G : gG}  (σ : gS) (Q : Int → gS → Prop) (h : kX5_alikeInputs_4 l G  0 0 σ Q) : eX5_alikeInputs l G  σ Q := by
  refine ga_entry rfl (Nat.le_of_ble_eq_true rfl) ?_
  show gAt l G mX5_alikeInputs (gQi G Q) 0 [(0, .ref (G.2.1 32))] [] σ
  refine ga_iconst dX5_alikeInputs_0 ?_
  refine ga_istore_n (ls' := [(1, vI 0), (0, .ref (G.2.1 32))]) dX5_alikeInputs_1 rfl (by decide) rfl ?_
  refine ga_iconst dX5_alikeInputs_2 ?_
  refine ga_istore_n (ls' := [(2, vI 0), (1, vI 0), (0, .ref (G.2.1 32))]) dX5_alikeInputs_3 rfl (by decide) rfl ?_
  exact ga_sub [2, 1, 0] rfl h
set_option maxRecDepth 100000 in
set_option maxHeartbeats 4000000 in
theorem vX5_alikeInputs_4 {l : Launch} {G : gG}  (x1 : Int) (x2 : Int) (rx1 : gR x1) (rx2 : gR x2) (σ : gS) (Q : Int → gS → Prop) (h : ((gI σ 32 3) ≤ x2 → Q x1 σ) ∧
  (x2 < (gI σ 32 3) → kX5_alikeInputs_16 l G  x1 x2 (x2 + 1) σ Q)) : kX5_alikeInputs_4 l G  x1 x2 σ Q := by
  refine ga_iload_n 2 dX5_alikeInputs_4 rfl rfl ?_
  refine ga_aload_n 0 dX5_alikeInputs_5 rfl rfl ?_
  refine ga_getI (kI := 3) dX5_alikeInputs_6 fX5_33 rfl rfl rfl (fun r1 => ?_)
  obtain ⟨ht, hf⟩ := h
  refine ga_icmp_ge (tgt := 48) dX5_alikeInputs_9 (by decide) rx2 r1 (fun q2 => ?_) (fun q2 => ?_)
  · replace q2 : (gI σ 32 3) ≤ x2 := q2
    have h := ht q2
    refine ga_iload_n 1 dX5_alikeInputs_48 rfl rfl ?_
    exact ga_iret dX5_alikeInputs_49 rfl rx1 h
  · replace q2 : x2 < (gI σ 32 3) := (Int.not_le.mp q2)
    have h := hf q2
    refine ga_iload_n 2 dX5_alikeInputs_12 rfl rfl ?_
    refine ga_iconst dX5_alikeInputs_13 ?_
    refine ga_iadd dX5_alikeInputs_14 ?_
    refine ga_istore_n (ls' := [(3, vI (x2 + 1)), (0, .ref (G.2.1 32)), (1, vI x1), (2, vI x2)]) dX5_alikeInputs_15 rfl (by decide) rfl ?_
    exact ga_sub [1, 2, 3, 0] rfl h
set_option maxRecDepth 100000 in
set_option maxHeartbeats 4000000 in
theorem vX5_alikeInputs_16 {l : Launch} {G : gG}  (x1 : Int) (x2 : Int) (x3 : Int) (rx1 : gR x1) (rx2 : gR x2) (rx3 : gR x3) (σ : gS) (Q : Int → gS → Prop) (h : ((gI σ 32 3) ≤ x3 → kX5_alikeInputs_4 l G  x1 (x2 + 1) σ Q) ∧
  (x3 < (gI σ 32 3) → eX5_areAlike l G x2 x3 σ (fun v7 σ5 => (v7 = 0 ∨ v7 = 1) →
    (v7 = 0 → kX5_alikeInputs_16 l G  x1 x2 (x3 + 1) σ5 Q) ∧
    (¬ v7 = 0 → kX5_alikeInputs_16 l G  (x1 + 1) x2 (x3 + 1) σ5 Q)))) : kX5_alikeInputs_16 l G  x1 x2 x3 σ Q := by
  refine ga_iload_n 3 dX5_alikeInputs_16 rfl rfl ?_
  refine ga_aload_n 0 dX5_alikeInputs_17 rfl rfl ?_
  refine ga_getI (kI := 3) dX5_alikeInputs_18 fX5_33 rfl rfl rfl (fun r3 => ?_)
  obtain ⟨ht, hf⟩ := h
  refine ga_icmp_ge (tgt := 42) dX5_alikeInputs_21 (by decide) rx3 r3 (fun q4 => ?_) (fun q4 => ?_)
  · replace q4 : (gI σ 32 3) ≤ x3 := q4
    have h := ht q4
    refine ga_iinc (ls' := [(2, vI (x2 + 1)), (0, .ref (G.2.1 32)), (1, vI x1), (3, vI x3)]) 2 dX5_alikeInputs_42 rfl (by decide) rfl ?_
    refine ga_goto (tgt := 4) dX5_alikeInputs_45 (by decide) ?_
    exact ga_sub [1, 2, 0] rfl h
  · replace q4 : x3 < (gI σ 32 3) := (Int.not_le.mp q4)
    have h := hf q4
    refine ga_aload_n 0 dX5_alikeInputs_24 rfl rfl ?_
    refine ga_iload_n 2 dX5_alikeInputs_25 rfl rfl ?_
    refine ga_iload_n 3 dX5_alikeInputs_26 rfl rfl ?_
    refine ga_callSz (z := mX5_areAlike) (As := [.ref (G.2.1 32), vI x2, vI x3]) (rest := []) dX5_alikeInputs_27 wX5_131 qX5_alikeInputs_X5_areAlike rfl rfl (Nat.le_of_ble_eq_true rfl) (gEz_mono h (fun v7 σ5 h r6 => ?_))
    replace h := h r6
    obtain ⟨ht, hf⟩ := h
    refine ga_if_eq (tgt := 36) dX5_alikeInputs_30 (by decide) (gR_01 r6) (fun q8 => ?_) (fun q8 => ?_)
    · replace q8 : v7 = 0 := q8
      have h := ht q8
      refine ga_iinc (ls' := [(3, vI (x3 + 1)), (0, .ref (G.2.1 32)), (1, vI x1), (2, vI x2)]) 3 dX5_alikeInputs_36 rfl (by decide) rfl ?_
      refine ga_goto (tgt := 16) dX5_alikeInputs_39 (by decide) ?_
      exact ga_sub [1, 2, 3, 0] rfl h
    · replace q8 : ¬ v7 = 0 := q8
      have h := hf q8
      refine ga_iinc (ls' := [(1, vI (x1 + 1)), (0, .ref (G.2.1 32)), (2, vI x2), (3, vI x3)]) 1 dX5_alikeInputs_33 rfl (by decide) rfl ?_
      refine ga_iinc (ls' := [(3, vI (x3 + 1)), (1, vI (x1 + 1)), (0, .ref (G.2.1 32)), (2, vI x2)]) 3 dX5_alikeInputs_36 rfl (by decide) rfl ?_
      refine ga_goto (tgt := 16) dX5_alikeInputs_39 (by decide) ?_
      exact ga_sub [2, 1, 3, 0] rfl h
abbrev eX5_turns (l : Launch) (G : gG) (x1 : Int) (σ : gS) (Q : Int → gS → Prop) : Prop := gEi l G mX5_turns [.ref (G.2.1 41), vI x1] σ Q
abbrev kX5_turns_7 (l : Launch) (G : gG)  (x1 : Int) (x2 : Int) (x3 : Int) (x4 : Int) (σ : gS) (Q : Int → gS → Prop) : Prop := gAt l G mX5_turns (gQi G Q) 7 [(0, .ref (G.2.1 41)), (1, vI x1), (2, vI x2), (3, vI x3), (4, vI x4)] [] σ
set_option maxRecDepth 100000 in
set_option maxHeartbeats 4000000 in
theorem vX5_turns {l : Launch} {G : gG} (x1 : Int) (rx1 : gR x1) (σ : gS) (Q : Int → gS → Prop) (h : kX5_turns_7 l G  x1 0 (-1) 0 σ Q) : eX5_turns l G x1 σ Q := by
  refine ga_entry rfl (Nat.le_of_ble_eq_true rfl) ?_
  show gAt l G mX5_turns (gQi G Q) 0 [(0, .ref (G.2.1 41)), (1, vI x1)] [] σ
  refine ga_iconst dX5_turns_0 ?_
  refine ga_istore_n (ls' := [(2, vI 0), (0, .ref (G.2.1 41)), (1, vI x1)]) dX5_turns_1 rfl (by decide) rfl ?_
  refine ga_iconst dX5_turns_2 ?_
  refine ga_istore_n (ls' := [(3, vI (-1)), (2, vI 0), (0, .ref (G.2.1 41)), (1, vI x1)]) dX5_turns_3 rfl (by decide) rfl ?_
  refine ga_iconst dX5_turns_4 ?_
  refine ga_istore (ls' := [(4, vI 0), (3, vI (-1)), (2, vI 0), (0, .ref (G.2.1 41)), (1, vI x1)]) dX5_turns_5 (by decide) rfl ?_
  exact ga_sub [3, 4, 2, 1, 0] rfl h
set_option maxRecDepth 100000 in
set_option maxHeartbeats 4000000 in
theorem vX5_turns_7 {l : Launch} {G : gG}  (x1 : Int) (x2 : Int) (x3 : Int) (x4 : Int) (rx1 : gR x1) (rx2 : gR x2) (rx3 : gR x3) (rx4 : gR x4) (σ : gS) (Q : Int → gS → Prop) (h : ((gI σ 41 0) ≤ x4 → Q x2 σ) ∧
  (x4 < (gI σ 41 0) → (0 ≤ x4 ∧ x4 < 360) ∧ eX6_inputOf l G (gI σ 42 x4) x1 σ (fun v7 σ5 => gR v7 →
    (v7 = (-1) → kX5_turns_7 l G  x1 x2 x3 (x4 + 1) σ5 Q) ∧
    (¬ v7 = (-1) → (x3 = (-1) → kX5_turns_7 l G  x1 x2 v7 (x4 + 1) σ5 Q) ∧
      (¬ x3 = (-1) → (x3 = v7 → kX5_turns_7 l G  x1 x2 v7 (x4 + 1) σ5 Q) ∧
        (¬ x3 = v7 → kX5_turns_7 l G  x1 (x2 + 1) v7 (x4 + 1) σ5 Q)))))) : kX5_turns_7 l G  x1 x2 x3 x4 σ Q := by
  refine ga_iload 4 dX5_turns_7 rfl ?_
  refine ga_aload_n 0 dX5_turns_9 rfl rfl ?_
  refine ga_getI (kI := 0) dX5_turns_10 fX5_28 rfl rfl rfl (fun r1 => ?_)
  obtain ⟨ht, hf⟩ := h
  refine ga_icmp_ge (tgt := 58) dX5_turns_13 (by decide) rx4 r1 (fun q2 => ?_) (fun q2 => ?_)
  · replace q2 : (gI σ 41 0) ≤ x4 := q2
    have h := ht q2
    refine ga_iload_n 2 dX5_turns_58 rfl rfl ?_
    exact ga_iret dX5_turns_59 rfl rx2 h
  · replace q2 : x4 < (gI σ 41 0) := (Int.not_le.mp q2)
    have h := hf q2
    refine ga_aload_n 0 dX5_turns_16 rfl rfl ?_
    refine ga_getR (kI := 1) (r := 42) dX5_turns_17 fX5_36 rfl rfl (by decide) rfl ?_
    refine ga_iload 4 dX5_turns_20 rfl ?_
    obtain ⟨i3, h⟩ := h
    refine ga_iald (nI := 360) dX5_turns_22 rfl rfl i3 (fun r4 => ?_)
    refine ga_iload_n 1 dX5_turns_23 rfl rfl ?_
    refine ga_callSi (z := mX6_inputOf) (As := [vI (gI σ 42 x4), vI x1]) (rest := []) dX5_turns_24 wX5_39 qX5_turns_X6_inputOf rfl rfl (Nat.le_of_ble_eq_true rfl) (gEi_mono h (fun v7 σ5 h r6 => ?_))
    replace h := h r6
    refine ga_istore (ls' := [(5, vI v7), (0, .ref (G.2.1 41)), (1, vI x1), (2, vI x2), (3, vI x3), (4, vI x4)]) dX5_turns_27 (by decide) rfl ?_
    refine ga_iload 0 dX5_turns_29 rfl ?_
    refine ga_iconst dX5_turns_31 ?_
    obtain ⟨ht, hf⟩ := h
    refine ga_icmp_eq (tgt := 52) dX5_turns_32 (by decide) r6 (by decide) (fun q8 => ?_) (fun q8 => ?_)
    · replace q8 : v7 = (-1) := q8
      have h := ht q8
      refine ga_iinc (ls' := [(4, vI (x4 + 1)), (5, vI v7), (0, .ref (G.2.1 41)), (1, vI x1), (2, vI x2), (3, vI x3)]) 5 dX5_turns_52 rfl (by decide) rfl ?_
      refine ga_goto (tgt := 7) dX5_turns_55 (by decide) ?_
      exact ga_sub [2, 3, 4, 5, 0] rfl h
    · replace q8 : ¬ v7 = (-1) := q8
      have h := hf q8
      refine ga_iload_n 4 dX5_turns_35 rfl rfl ?_
      refine ga_iconst dX5_turns_36 ?_
      obtain ⟨ht, hf⟩ := h
      refine ga_icmp_eq (tgt := 49) dX5_turns_37 (by decide) rx3 (by decide) (fun q9 => ?_) (fun q9 => ?_)
      · replace q9 : x3 = (-1) := q9
        have h := ht q9
        refine ga_iload 0 dX5_turns_49 rfl ?_
        refine ga_istore_n (ls' := [(3, vI v7), (5, vI v7), (0, .ref (G.2.1 41)), (1, vI x1), (2, vI x2), (4, vI x4)]) dX5_turns_51 rfl (by decide) rfl ?_
        refine ga_iinc (ls' := [(4, vI (x4 + 1)), (3, vI v7), (5, vI v7), (0, .ref (G.2.1 41)), (1, vI x1), (2, vI x2)]) 5 dX5_turns_52 rfl (by decide) rfl ?_
        refine ga_goto (tgt := 7) dX5_turns_55 (by decide) ?_
        exact ga_sub [3, 4, 5, 1, 0] rfl h
      · replace q9 : ¬ x3 = (-1) := q9
        have h := hf q9
        refine ga_iload_n 4 dX5_turns_40 rfl rfl ?_
        refine ga_iload 0 dX5_turns_41 rfl ?_
        obtain ⟨ht, hf⟩ := h
        refine ga_icmp_eq (tgt := 49) dX5_turns_43 (by decide) rx3 r6 (fun q10 => ?_) (fun q10 => ?_)
        · replace q10 : x3 = v7 := q10
          have h := ht q10
          refine ga_iload 0 dX5_turns_49 rfl ?_
          refine ga_istore_n (ls' := [(3, vI v7), (5, vI v7), (0, .ref (G.2.1 41)), (1, vI x1), (2, vI x2), (4, vI x4)]) dX5_turns_51 rfl (by decide) rfl ?_
          refine ga_iinc (ls' := [(4, vI (x4 + 1)), (3, vI v7), (5, vI v7), (0, .ref (G.2.1 41)), (1, vI x1), (2, vI x2)]) 5 dX5_turns_52 rfl (by decide) rfl ?_
          refine ga_goto (tgt := 7) dX5_turns_55 (by decide) ?_
          exact ga_sub [3, 4, 5, 1, 0] rfl h
        · replace q10 : ¬ x3 = v7 := q10
          have h := hf q10
          refine ga_iinc (ls' := [(2, vI (x2 + 1)), (5, vI v7), (0, .ref (G.2.1 41)), (1, vI x1), (3, vI x3), (4, vI x4)]) 3 dX5_turns_46 rfl (by decide) rfl ?_
          refine ga_iload 1 dX5_turns_49 rfl ?_
          refine ga_istore_n (ls' := [(3, vI v7), (2, vI (x2 + 1)), (5, vI v7), (0, .ref (G.2.1 41)), (1, vI x1), (4, vI x4)]) dX5_turns_51 rfl (by decide) rfl ?_
          refine ga_iinc (ls' := [(4, vI (x4 + 1)), (3, vI v7), (2, vI (x2 + 1)), (5, vI v7), (0, .ref (G.2.1 41)), (1, vI x1)]) 5 dX5_turns_52 rfl (by decide) rfl ?_
          refine ga_goto (tgt := 7) dX5_turns_55 (by decide) ?_
          exact ga_sub [4, 5, 2, 1, 0] rfl h
abbrev eX5_tell (l : Launch) (G : gG) (x2 : Int) (σ : gS) (Q : Int → gS → Prop) : Prop := gEi l G mX5_tell [.ref (G.2.1 81), .ref (G.2.1 32), vI x2] σ Q
set_option maxRecDepth 100000 in
set_option maxHeartbeats 4000000 in
theorem vX5_tell {l : Launch} {G : gG} (x2 : Int) (rx2 : gR x2) (σ : gS) (Q : Int → gS → Prop) (h : (x2 = 0 → eX5_longestWait l G  σ (fun v3 σ1 => gR v3 →
    Q v3 σ1)) ∧
  (x2 = 1 → eX5_sumOfWaits l G  σ (fun v6 σ4 => gR v6 →
    Q v6 σ4)) ∧
  (x2 = 2 → eX5_worst l G  σ (fun v9 σ7 => gR v9 →
    Q v9 σ7)) ∧
  (x2 = 3 → eX5_splits l G  σ (fun v12 σ10 => gR v12 →
    Q v12 σ10)) ∧
  (x2 = 4 → eX5_idleSlots l G  σ (fun v15 σ13 => gR v15 →
    Q v15 σ13)) ∧
  (x2 = 5 → eX5_bestSlot l G  σ (fun v18 σ16 => gR v18 →
    Q v18 σ16)) ∧
  (x2 = 6 → eX5_fairest l G  σ (fun v21 σ19 => gR v21 →
    Q v21 σ19)) ∧
  (x2 = 7 → eX5_meets l G  σ (fun v24 σ22 => gR v24 →
    Q v24 σ22)) ∧
  (x2 = 8 → eX5_starved l G  σ (fun v27 σ25 => gR v27 →
    Q v27 σ25)) ∧
  (x2 = 9 → eX5_alikeInputs l G  σ (fun v30 σ28 => gR v30 →
    Q v30 σ28)) ∧
  ((x2 < 0 ∨ 9 < x2) → (x2 < 10 → Q (-2) σ) ∧
    (10 ≤ x2 → (gR (10 + (gI σ 32 3))) ∧ (x2 < (10 + (gI σ 32 3)) → eX5_turns l G (x2 - 10) σ (fun v37 σ35 => gR v37 →
        Q v37 σ35)) ∧
      ((10 + (gI σ 32 3)) ≤ x2 → Q (-2) σ)))) : eX5_tell l G x2 σ Q := by
  refine ga_entry rfl (Nat.le_of_ble_eq_true rfl) ?_
  show gAt l G mX5_tell (gQi G Q) 0 [(0, .ref (G.2.1 81)), (1, .ref (G.2.1 32)), (2, vI x2)] [] σ
  refine ga_iload_n 2 dX5_tell_0 rfl rfl ?_
  obtain ⟨hc38, hc39, hc40, hc41, hc42, hc43, hc44, hc45, hc46, hc47, hd⟩ := h
  by_cases q48 : x2 = 0
  · refine ga_tableIn (tgt := 56) (v := 0) dX5_tell_1 q48 (by decide) rfl (by decide) ?_
    have h := hc38 q48
    refine ga_aload_n 1 dX5_tell_56 rfl rfl ?_
    refine ga_getR (kI := 0) (r := 33) dX5_tell_57 fX5_54 rfl rfl (by decide) rfl ?_
    refine ga_callSi (z := mX5_longestWait) (As := [.ref (G.2.1 33)]) (rest := []) dX5_tell_60 wX5_58 qX5_tell_X5_longestWait rfl rfl (Nat.le_of_ble_eq_true rfl) (gEi_mono h (fun v3 σ1 h r2 => ?_))
    replace h := h r2
    exact ga_iret dX5_tell_63 rfl r2 h
  by_cases q49 : x2 = 1
  · refine ga_tableIn (tgt := 64) (v := 1) dX5_tell_1 q49 (by decide) rfl (by decide) ?_
    have h := hc39 q49
    refine ga_aload_n 1 dX5_tell_64 rfl rfl ?_
    refine ga_getR (kI := 0) (r := 33) dX5_tell_65 fX5_54 rfl rfl (by decide) rfl ?_
    refine ga_callSi (z := mX5_sumOfWaits) (As := [.ref (G.2.1 33)]) (rest := []) dX5_tell_68 wX5_62 qX5_tell_X5_sumOfWaits rfl rfl (Nat.le_of_ble_eq_true rfl) (gEi_mono h (fun v6 σ4 h r5 => ?_))
    replace h := h r5
    exact ga_iret dX5_tell_71 rfl r5 h
  by_cases q50 : x2 = 2
  · refine ga_tableIn (tgt := 72) (v := 2) dX5_tell_1 q50 (by decide) rfl (by decide) ?_
    have h := hc40 q50
    refine ga_aload_n 1 dX5_tell_72 rfl rfl ?_
    refine ga_getR (kI := 0) (r := 33) dX5_tell_73 fX5_54 rfl rfl (by decide) rfl ?_
    refine ga_callSi (z := mX5_worst) (As := [.ref (G.2.1 33)]) (rest := []) dX5_tell_76 wX5_65 qX5_tell_X5_worst rfl rfl (Nat.le_of_ble_eq_true rfl) (gEi_mono h (fun v9 σ7 h r8 => ?_))
    replace h := h r8
    exact ga_iret dX5_tell_79 rfl r8 h
  by_cases q51 : x2 = 3
  · refine ga_tableIn (tgt := 80) (v := 3) dX5_tell_1 q51 (by decide) rfl (by decide) ?_
    have h := hc41 q51
    refine ga_aload_n 1 dX5_tell_80 rfl rfl ?_
    refine ga_getR (kI := 0) (r := 33) dX5_tell_81 fX5_54 rfl rfl (by decide) rfl ?_
    refine ga_callSi (z := mX5_splits) (As := [.ref (G.2.1 33)]) (rest := []) dX5_tell_84 wX5_68 qX5_tell_X5_splits rfl rfl (Nat.le_of_ble_eq_true rfl) (gEi_mono h (fun v12 σ10 h r11 => ?_))
    replace h := h r11
    exact ga_iret dX5_tell_87 rfl r11 h
  by_cases q52 : x2 = 4
  · refine ga_tableIn (tgt := 88) (v := 4) dX5_tell_1 q52 (by decide) rfl (by decide) ?_
    have h := hc42 q52
    refine ga_aload_n 1 dX5_tell_88 rfl rfl ?_
    refine ga_getR (kI := 1) (r := 41) dX5_tell_89 fX5_22 rfl rfl (by decide) rfl ?_
    refine ga_callSi (z := mX5_idleSlots) (As := [.ref (G.2.1 41)]) (rest := []) dX5_tell_92 wX5_71 qX5_tell_X5_idleSlots rfl rfl (Nat.le_of_ble_eq_true rfl) (gEi_mono h (fun v15 σ13 h r14 => ?_))
    replace h := h r14
    exact ga_iret dX5_tell_95 rfl r14 h
  by_cases q53 : x2 = 5
  · refine ga_tableIn (tgt := 96) (v := 5) dX5_tell_1 q53 (by decide) rfl (by decide) ?_
    have h := hc43 q53
    refine ga_aload_n 1 dX5_tell_96 rfl rfl ?_
    refine ga_getR (kI := 1) (r := 41) dX5_tell_97 fX5_22 rfl rfl (by decide) rfl ?_
    refine ga_callSi (z := mX5_bestSlot) (As := [.ref (G.2.1 41)]) (rest := []) dX5_tell_100 wX5_75 qX5_tell_X5_bestSlot rfl rfl (Nat.le_of_ble_eq_true rfl) (gEi_mono h (fun v18 σ16 h r17 => ?_))
    replace h := h r17
    exact ga_iret dX5_tell_103 rfl r17 h
  by_cases q54 : x2 = 6
  · refine ga_tableIn (tgt := 104) (v := 6) dX5_tell_1 q54 (by decide) rfl (by decide) ?_
    have h := hc44 q54
    refine ga_aload_n 0 dX5_tell_104 rfl rfl ?_
    refine ga_aload_n 1 dX5_tell_105 rfl rfl ?_
    refine ga_callVi (z := mX5_fairest) (As := [.ref (G.2.1 32)]) (rest := []) dX5_tell_106 wX5_78 qX5_tell_X5_fairest rfl ⟨_, rfl, rfl⟩ rfl rfl (Nat.le_of_ble_eq_true rfl) (gEi_mono h (fun v21 σ19 h r20 => ?_))
    replace h := h r20
    exact ga_iret dX5_tell_109 rfl r20 h
  by_cases q55 : x2 = 7
  · refine ga_tableIn (tgt := 110) (v := 7) dX5_tell_1 q55 (by decide) rfl (by decide) ?_
    have h := hc45 q55
    refine ga_aload_n 1 dX5_tell_110 rfl rfl ?_
    refine ga_getR (kI := 1) (r := 41) dX5_tell_111 fX5_22 rfl rfl (by decide) rfl ?_
    refine ga_callSi (z := mX5_meets) (As := [.ref (G.2.1 41)]) (rest := []) dX5_tell_114 wX5_82 qX5_tell_X5_meets rfl rfl (Nat.le_of_ble_eq_true rfl) (gEi_mono h (fun v24 σ22 h r23 => ?_))
    replace h := h r23
    exact ga_iret dX5_tell_117 rfl r23 h
  by_cases q56 : x2 = 8
  · refine ga_tableIn (tgt := 118) (v := 8) dX5_tell_1 q56 (by decide) rfl (by decide) ?_
    have h := hc46 q56
    refine ga_aload_n 1 dX5_tell_118 rfl rfl ?_
    refine ga_callSi (z := mX5_starved) (As := [.ref (G.2.1 32)]) (rest := []) dX5_tell_119 wX5_85 qX5_tell_X5_starved rfl rfl (Nat.le_of_ble_eq_true rfl) (gEi_mono h (fun v27 σ25 h r26 => ?_))
    replace h := h r26
    exact ga_iret dX5_tell_122 rfl r26 h
  by_cases q57 : x2 = 9
  · refine ga_tableIn (tgt := 123) (v := 9) dX5_tell_1 q57 (by decide) rfl (by decide) ?_
    have h := hc47 q57
    refine ga_aload_n 1 dX5_tell_123 rfl rfl ?_
    refine ga_callSi (z := mX5_alikeInputs) (As := [.ref (G.2.1 32)]) (rest := []) dX5_tell_124 wX5_88 qX5_tell_X5_alikeInputs rfl rfl (Nat.le_of_ble_eq_true rfl) (gEi_mono h (fun v30 σ28 h r29 => ?_))
    replace h := h r29
    exact ga_iret dX5_tell_127 rfl r29 h
  have hdc : (x2 < 0 ∨ 9 < x2) := by omega
  have h := hd hdc
  refine ga_tableOut (tgt := 128) dX5_tell_1 rx2 hdc (by decide) ?_
  refine ga_iload_n 2 dX5_tell_128 rfl rfl ?_
  refine ga_bipush dX5_tell_129 (by decide) ?_
  obtain ⟨ht, hf⟩ := h
  refine ga_icmp_lt (tgt := 145) dX5_tell_131 (by decide) rx2 (by decide) (fun q31 => ?_) (fun q31 => ?_)
  · replace q31 : x2 < 10 := q31
    have h := ht q31
    refine ga_bipush dX5_tell_145 (by decide) ?_
    refine ga_goto (tgt := 161) dX5_tell_147 (by decide) ?_
    exact ga_iret dX5_tell_161 rfl (by decide) h
  · replace q31 : 10 ≤ x2 := (Int.not_lt.mp q31)
    have h := hf q31
    refine ga_iload_n 2 dX5_tell_134 rfl rfl ?_
    refine ga_bipush dX5_tell_135 (by decide) ?_
    refine ga_aload_n 1 dX5_tell_137 rfl rfl ?_
    refine ga_getI (kI := 3) dX5_tell_138 fX5_33 rfl rfl rfl (fun r32 => ?_)
    refine ga_iadd dX5_tell_141 ?_
    obtain ⟨r33, h⟩ := h
    obtain ⟨ht, hf⟩ := h
    refine ga_icmp_lt (tgt := 150) dX5_tell_142 (by decide) rx2 r33 (fun q34 => ?_) (fun q34 => ?_)
    · replace q34 : x2 < (10 + (gI σ 32 3)) := q34
      have h := ht q34
      refine ga_aload_n 1 dX5_tell_150 rfl rfl ?_
      refine ga_getR (kI := 1) (r := 41) dX5_tell_151 fX5_22 rfl rfl (by decide) rfl ?_
      refine ga_iload_n 2 dX5_tell_154 rfl rfl ?_
      refine ga_bipush dX5_tell_155 (by decide) ?_
      refine ga_isub dX5_tell_157 ?_
      refine ga_callSi (z := mX5_turns) (As := [.ref (G.2.1 41), vI (x2 - 10)]) (rest := []) dX5_tell_158 wX5_91 qX5_tell_X5_turns rfl rfl (Nat.le_of_ble_eq_true rfl) (gEi_mono h (fun v37 σ35 h r36 => ?_))
      replace h := h r36
      exact ga_iret dX5_tell_161 rfl r36 h
    · replace q34 : (10 + (gI σ 32 3)) ≤ x2 := (Int.not_lt.mp q34)
      have h := hf q34
      refine ga_bipush dX5_tell_145 (by decide) ?_
      refine ga_goto (tgt := 161) dX5_tell_147 (by decide) ?_
      exact ga_iret dX5_tell_161 rfl (by decide) h
abbrev eX6_note (l : Launch) (G : gG)  (σ : gS) (Q : gS → Prop) : Prop := gEv l G mX6_note [.ref (G.2.1 41), .ref (G.2.1 45)] σ Q
abbrev kX6_note_15 (l : Launch) (G : gG)  (x2 : Int) (x3 : Int) (σ : gS) (Q : gS → Prop) : Prop := gAt l G mX6_note (gQv G Q) 15 [(0, .ref (G.2.1 41)), (1, .ref (G.2.1 45)), (2, vI x2), (3, vI x3)] [] σ
set_option maxRecDepth 100000 in
set_option maxHeartbeats 4000000 in
theorem vX6_note {l : Launch} {G : gG}  (σ : gS) (Q : gS → Prop) (h : ((gI σ 41 0) < 360 → kX6_note_15 l G  0 0 σ Q) ∧
  (360 ≤ (gI σ 41 0) → Q σ)) : eX6_note l G  σ Q := by
  refine ga_entry rfl (Nat.le_of_ble_eq_true rfl) ?_
  show gAt l G mX6_note (gQv G Q) 0 [(0, .ref (G.2.1 41)), (1, .ref (G.2.1 45))] [] σ
  refine ga_aload_n 0 dX6_note_0 rfl rfl ?_
  refine ga_getI (kI := 0) dX6_note_1 fX6_21 rfl rfl rfl (fun r1 => ?_)
  refine ga_sipush dX6_note_4 (by decide) ?_
  obtain ⟨ht, hf⟩ := h
  refine ga_icmp_lt (tgt := 11) dX6_note_7 (by decide) r1 (by decide) (fun q2 => ?_) (fun q2 => ?_)
  · replace q2 : (gI σ 41 0) < 360 := q2
    have h := ht q2
    refine ga_iconst dX6_note_11 ?_
    refine ga_istore_n (ls' := [(2, vI 0), (0, .ref (G.2.1 41)), (1, .ref (G.2.1 45))]) dX6_note_12 rfl (by decide) rfl ?_
    refine ga_iconst dX6_note_13 ?_
    refine ga_istore_n (ls' := [(3, vI 0), (2, vI 0), (0, .ref (G.2.1 41)), (1, .ref (G.2.1 45))]) dX6_note_14 rfl (by decide) rfl ?_
    exact ga_sub [2, 3, 1, 0] rfl h
  · replace q2 : 360 ≤ (gI σ 41 0) := (Int.not_lt.mp q2)
    have h := hf q2
    exact ga_vret dX6_note_10 rfl h
set_option maxRecDepth 100000 in
set_option maxHeartbeats 4000000 in
theorem vX6_note_15 {l : Launch} {G : gG}  (x2 : Int) (x3 : Int) (rx2 : gR x2) (rx3 : gR x3) (σ : gS) (Q : gS → Prop) (h : (6 ≤ x3 → (0 ≤ (gI σ 41 0) ∧ (gI σ 41 0) < 360) ∧ ∀ σ8, σ8 = sI σ 42 (gI σ 41 0) x2 →
    (0 ≤ (gI σ8 41 0) ∧ (gI σ8 41 0) < 360) ∧ ∀ σ14, σ14 = sI σ8 43 (gI σ8 41 0) (gand ((gshl 1 (gI σ 45 0)) - 1) (gxor (gI σ8 45 5) (-1))) →
    (0 ≤ (gI σ14 41 0) ∧ (gI σ14 41 0) < 360) ∧ ∀ σ20, σ20 = sI σ14 44 (gI σ14 41 0) (gand ((gshl 1 (gI σ 45 0)) - 1) (gxor (gI σ14 45 6) (-1))) →
    (gR ((gI σ20 41 0) + 1)) ∧ ∀ σ22, σ22 = sI σ20 41 0 ((gI σ20 41 0) + 1) →
    Q σ22) ∧
  (x3 < 6 → (0 ≤ x3 ∧ x3 < 6) ∧ kX6_note_15 l G  (gor x2 (gshl ((gI σ 49 x3) + 1) (3 * x3))) (x3 + 1) σ Q)) : kX6_note_15 l G  x2 x3 σ Q := by
  refine ga_iload_n 3 dX6_note_15 rfl rfl ?_
  refine ga_bipush dX6_note_16 (by decide) ?_
  obtain ⟨ht, hf⟩ := h
  refine ga_icmp_ge (tgt := 42) dX6_note_18 (by decide) rx3 (by decide) (fun q3 => ?_) (fun q3 => ?_)
  · replace q3 : 6 ≤ x3 := q3
    have h := ht q3
    refine ga_iconst dX6_note_42 ?_
    refine ga_aload_n 1 dX6_note_43 rfl rfl ?_
    refine ga_getI (kI := 0) dX6_note_44 fX6_30 rfl rfl rfl (fun r4 => ?_)
    refine ga_ishl dX6_note_47 (fun r5 => ?_)
    refine ga_iconst dX6_note_48 ?_
    refine ga_isub dX6_note_49 ?_
    refine ga_istore_n (ls' := [(3, vI ((gshl 1 (gI σ 45 0)) - 1)), (0, .ref (G.2.1 41)), (1, .ref (G.2.1 45)), (2, vI x2)]) dX6_note_50 rfl (by decide) rfl ?_
    refine ga_aload_n 1 dX6_note_51 rfl rfl ?_
    refine ga_getR (kI := 1) (r := 42) dX6_note_52 fX6_9 rfl rfl (by decide) rfl ?_
    refine ga_aload_n 1 dX6_note_55 rfl rfl ?_
    refine ga_getI (kI := 0) dX6_note_56 fX6_21 rfl rfl rfl (fun r6 => ?_)
    refine ga_iload_n 3 dX6_note_59 rfl rfl ?_
    obtain ⟨i7, h⟩ := h
    obtain ⟨σ8, eσ8⟩ : ∃ z, z = sI σ 42 (gI σ 41 0) x2 := ⟨_, rfl⟩
    replace h := h σ8 eσ8
    refine ga_iast (nI := 360) dX6_note_60 rfl rfl i7 rx2 eσ8 ?_
    refine ga_aload_n 1 dX6_note_61 rfl rfl ?_
    refine ga_getR (kI := 2) (r := 43) dX6_note_62 fX6_15 rfl rfl (by decide) rfl ?_
    refine ga_aload_n 1 dX6_note_65 rfl rfl ?_
    refine ga_getI (kI := 0) dX6_note_66 fX6_21 rfl rfl rfl (fun r9 => ?_)
    refine ga_iload_n 0 dX6_note_69 rfl rfl ?_
    refine ga_aload_n 2 dX6_note_70 rfl rfl ?_
    refine ga_getI (kI := 5) dX6_note_71 fX6_33 rfl rfl rfl (fun r10 => ?_)
    refine ga_iconst dX6_note_74 ?_
    refine ga_ixor dX6_note_75 (fun r11 => ?_)
    refine ga_iand dX6_note_76 (fun r12 => ?_)
    obtain ⟨i13, h⟩ := h
    obtain ⟨σ14, eσ14⟩ : ∃ z, z = sI σ8 43 (gI σ8 41 0) (gand ((gshl 1 (gI σ 45 0)) - 1) (gxor (gI σ8 45 5) (-1))) := ⟨_, rfl⟩
    replace h := h σ14 eσ14
    refine ga_iast (nI := 360) dX6_note_77 rfl rfl i13 r12 eσ14 ?_
    refine ga_aload_n 1 dX6_note_78 rfl rfl ?_
    refine ga_getR (kI := 3) (r := 44) dX6_note_79 fX6_18 rfl rfl (by decide) rfl ?_
    refine ga_aload_n 1 dX6_note_82 rfl rfl ?_
    refine ga_getI (kI := 0) dX6_note_83 fX6_21 rfl rfl rfl (fun r15 => ?_)
    refine ga_iload_n 0 dX6_note_86 rfl rfl ?_
    refine ga_aload_n 2 dX6_note_87 rfl rfl ?_
    refine ga_getI (kI := 6) dX6_note_88 fX6_36 rfl rfl rfl (fun r16 => ?_)
    refine ga_iconst dX6_note_91 ?_
    refine ga_ixor dX6_note_92 (fun r17 => ?_)
    refine ga_iand dX6_note_93 (fun r18 => ?_)
    obtain ⟨i19, h⟩ := h
    obtain ⟨σ20, eσ20⟩ : ∃ z, z = sI σ14 44 (gI σ14 41 0) (gand ((gshl 1 (gI σ 45 0)) - 1) (gxor (gI σ14 45 6) (-1))) := ⟨_, rfl⟩
    replace h := h σ20 eσ20
    refine ga_iast (nI := 360) dX6_note_94 rfl rfl i19 r18 eσ20 ?_
    refine ga_aload_n 1 dX6_note_95 rfl rfl ?_
    refine ga_dup dX6_note_96 rfl ?_
    refine ga_getI (kI := 0) dX6_note_97 fX6_21 rfl rfl rfl (fun r21 => ?_)
    refine ga_iconst dX6_note_100 ?_
    refine ga_iadd dX6_note_101 ?_
    obtain ⟨r23, h⟩ := h
    obtain ⟨σ22, eσ22⟩ : ∃ z, z = sI σ20 41 0 ((gI σ20 41 0) + 1) := ⟨_, rfl⟩
    replace h := h σ22 eσ22
    refine ga_putI (kI := 0) dX6_note_102 fX6_21 pX6_0 rfl rfl rfl r23 eσ22 ?_
    exact ga_vret dX6_note_105 rfl h
  · replace q3 : x3 < 6 := (Int.not_le.mp q3)
    have h := hf q3
    refine ga_iload_n 2 dX6_note_21 rfl rfl ?_
    refine ga_aload_n 1 dX6_note_22 rfl rfl ?_
    refine ga_getR (kI := 4) (r := 49) dX6_note_23 fX6_25 rfl rfl (by decide) rfl ?_
    refine ga_iload_n 3 dX6_note_26 rfl rfl ?_
    obtain ⟨i24, h⟩ := h
    refine ga_iald (nI := 6) dX6_note_27 rfl rfl i24 (fun r25 => ?_)
    refine ga_iconst dX6_note_28 ?_
    refine ga_iadd dX6_note_29 ?_
    refine ga_iconst dX6_note_30 ?_
    refine ga_iload_n 3 dX6_note_31 rfl rfl ?_
    refine ga_imul dX6_note_32 ?_
    refine ga_ishl dX6_note_33 (fun r26 => ?_)
    refine ga_ior dX6_note_34 (fun r27 => ?_)
    refine ga_istore_n (ls' := [(2, vI (gor x2 (gshl ((gI σ 49 x3) + 1) (3 * x3)))), (0, .ref (G.2.1 41)), (1, .ref (G.2.1 45)), (3, vI x3)]) dX6_note_35 rfl (by decide) rfl ?_
    refine ga_iinc (ls' := [(3, vI (x3 + 1)), (2, vI (gor x2 (gshl ((gI σ 49 x3) + 1) (3 * x3)))), (0, .ref (G.2.1 41)), (1, .ref (G.2.1 45))]) 3 dX6_note_36 rfl (by decide) rfl ?_
    refine ga_goto (tgt := 15) dX6_note_39 (by decide) ?_
    exact ga_sub [2, 3, 1, 0] rfl h
abbrev eX7_isLetter (l : Launch) (G : gG) (x0 : Int) (σ : gS) (Q : Int → gS → Prop) : Prop := gEz l G mX7_isLetter [vI x0] σ Q
set_option maxRecDepth 100000 in
set_option maxHeartbeats 4000000 in
theorem vX7_isLetter {l : Launch} {G : gG} (x0 : Int) (rx0 : gR x0) (σ : gS) (Q : Int → gS → Prop) (h : (∀ v4 : Int, v4 = (if x0 < 97 then 0 else (if 122 < x0 then 0 else 1)) →
  Q v4 σ)) : eX7_isLetter l G x0 σ Q := by
  refine ga_entry rfl (Nat.le_of_ble_eq_true rfl) ?_
  show gAt l G mX7_isLetter (gQz G Q) 0 [(0, vI x0)] [] σ
  refine ga_iload_n 0 dX7_isLetter_0 rfl rfl ?_
  refine ga_bipush dX7_isLetter_1 (by decide) ?_
  have kJ1 : ∀ v4 : Int, gR v4 → (v4 = 0 ∨ v4 = 1) → v4 = (if x0 < 97 then 0 else (if 122 < x0 then 0 else 1)) → gAt l G mX7_isLetter (gQz G Q) 17 [(0, vI x0)] [vI v4] σ := by
    intro v4 rv4 bv4 ev4
    replace h := h v4 ev4
    exact ga_bret dX7_isLetter_17 rfl bv4 h
  replace h : (x0 < 97 → True) ∧
  (97 ≤ x0 → (122 < x0 → True) ∧
    (x0 ≤ 122 → True)) := by repeat (first | exact True.intro | apply And.intro | intro _)
  obtain ⟨ht, hf⟩ := h
  refine ga_icmp_lt (tgt := 16) dX7_isLetter_3 (by decide) rx0 (by decide) (fun q2 => ?_) (fun q2 => ?_)
  · replace q2 : x0 < 97 := q2
    have h := ht q2
    refine ga_iconst dX7_isLetter_16 ?_
    exact kJ1 0 (by decide) (Or.inl rfl) (by rw [if_pos q2])
  · replace q2 : 97 ≤ x0 := (Int.not_lt.mp q2)
    have h := hf q2
    refine ga_iload_n 0 dX7_isLetter_6 rfl rfl ?_
    refine ga_bipush dX7_isLetter_7 (by decide) ?_
    obtain ⟨ht, hf⟩ := h
    refine ga_icmp_gt (tgt := 16) dX7_isLetter_9 (by decide) rx0 (by decide) (fun q3 => ?_) (fun q3 => ?_)
    · replace q3 : 122 < x0 := q3
      have h := ht q3
      refine ga_iconst dX7_isLetter_16 ?_
      exact kJ1 0 (by decide) (Or.inl rfl) (by rw [if_neg (Int.not_lt.mpr q2), if_pos q3])
    · replace q3 : x0 ≤ 122 := (Int.not_lt.mp q3)
      have h := hf q3
      refine ga_iconst dX7_isLetter_12 ?_
      refine ga_goto (tgt := 17) dX7_isLetter_13 (by decide) ?_
      exact kJ1 1 (by decide) (Or.inr rfl) (by rw [if_neg (Int.not_lt.mpr q2), if_neg (Int.not_lt.mpr q3)])
abbrev eX7_takeWord (l : Launch) (G : gG)  (σ : gS) (Q : gS → Prop) : Prop := gEv l G mX7_takeWord [.ref (G.2.1 27)] σ Q
abbrev kX7_takeWord_5 (l : Launch) (G : gG)   (σ : gS) (Q : gS → Prop) : Prop := gAt l G mX7_takeWord (gQv G Q) 5 [(0, .ref (G.2.1 27))] [] σ
set_option maxRecDepth 100000 in
set_option maxHeartbeats 4000000 in
theorem vX7_takeWord {l : Launch} {G : gG}  (σ : gS) (Q : gS → Prop) (h : ∀ σ1, σ1 = sI σ 27 9 1 →
  kX7_takeWord_5 l G   σ1 Q) : eX7_takeWord l G  σ Q := by
  refine ga_entry rfl (Nat.le_of_ble_eq_true rfl) ?_
  show gAt l G mX7_takeWord (gQv G Q) 0 [(0, .ref (G.2.1 27))] [] σ
  refine ga_aload_n 0 dX7_takeWord_0 rfl rfl ?_
  refine ga_iconst dX7_takeWord_1 ?_
  obtain ⟨σ1, eσ1⟩ : ∃ z, z = sI σ 27 9 1 := ⟨_, rfl⟩
  replace h := h σ1 eσ1
  refine ga_putI (kI := 9) dX7_takeWord_2 fX7_52 pX7_9 rfl rfl rfl (by decide) eσ1 ?_
  exact ga_sub [0] rfl h
set_option maxRecDepth 100000 in
set_option maxHeartbeats 4000000 in
theorem vX7_takeWord_5 {l : Launch} {G : gG}   (σ : gS) (Q : gS → Prop) (h : ((gI σ 27 7) ≤ (gI σ 27 8) → Q σ) ∧
  ((gI σ 27 8) < (gI σ 27 7) → (σ.2.2 = 2) ∧ (0 ≤ (gI σ 27 8) ∧ (gI σ 27 8) < 600) ∧ eX7_isLetter l G (gI σ 2 (gI σ 27 8)) σ (fun v11 σ9 => (v11 = 0 ∨ v11 = 1) →
    (v11 = 0 → Q σ9) ∧
    (¬ v11 = 0 → (gR ((gI σ9 27 8) + 1)) ∧ ∀ σ14, σ14 = sI σ9 27 8 ((gI σ9 27 8) + 1) →
      kX7_takeWord_5 l G   σ14 Q)))) : kX7_takeWord_5 l G   σ Q := by
  refine ga_aload_n 0 dX7_takeWord_5 rfl rfl ?_
  refine ga_getI (kI := 8) dX7_takeWord_6 fX7_37 rfl rfl rfl (fun r2 => ?_)
  refine ga_aload_n 0 dX7_takeWord_9 rfl rfl ?_
  refine ga_getI (kI := 7) dX7_takeWord_10 fX7_33 rfl rfl rfl (fun r3 => ?_)
  obtain ⟨ht, hf⟩ := h
  refine ga_icmp_ge (tgt := 44) dX7_takeWord_13 (by decide) r2 r3 (fun q4 => ?_) (fun q4 => ?_)
  · replace q4 : (gI σ 27 7) ≤ (gI σ 27 8) := q4
    have h := ht q4
    exact ga_vret dX7_takeWord_44 rfl h
  · replace q4 : (gI σ 27 8) < (gI σ 27 7) := (Int.not_le.mp q4)
    have h := hf q4
    refine ga_aload_n 0 dX7_takeWord_16 rfl rfl ?_
    obtain ⟨o5, h⟩ := h
    refine ga_getT2 (t := 2) (kI := 6) dX7_takeWord_17 fX7_23 rfl rfl rfl o5 ?_
    refine ga_aload_n 0 dX7_takeWord_20 rfl rfl ?_
    refine ga_getI (kI := 8) dX7_takeWord_21 fX7_37 rfl rfl rfl (fun r6 => ?_)
    obtain ⟨i7, h⟩ := h
    refine ga_bald (nI := 600) dX7_takeWord_24 rfl rfl i7 (fun r8 => ?_)
    refine ga_callSz (z := mX7_isLetter) (As := [vI (gI σ 2 (gI σ 27 8))]) (rest := []) dX7_takeWord_25 wX7_144 qX7_takeWord_X7_isLetter rfl rfl (Nat.le_of_ble_eq_true rfl) (gEz_mono h (fun v11 σ9 h r10 => ?_))
    replace h := h r10
    obtain ⟨ht, hf⟩ := h
    refine ga_if_eq (tgt := 44) dX7_takeWord_28 (by decide) (gR_01 r10) (fun q12 => ?_) (fun q12 => ?_)
    · replace q12 : v11 = 0 := q12
      have h := ht q12
      exact ga_vret dX7_takeWord_44 rfl h
    · replace q12 : ¬ v11 = 0 := q12
      have h := hf q12
      refine ga_aload_n 0 dX7_takeWord_31 rfl rfl ?_
      refine ga_dup dX7_takeWord_32 rfl ?_
      refine ga_getI (kI := 8) dX7_takeWord_33 fX7_37 rfl rfl rfl (fun r13 => ?_)
      refine ga_iconst dX7_takeWord_36 ?_
      refine ga_iadd dX7_takeWord_37 ?_
      obtain ⟨r15, h⟩ := h
      obtain ⟨σ14, eσ14⟩ : ∃ z, z = sI σ9 27 8 ((gI σ9 27 8) + 1) := ⟨_, rfl⟩
      replace h := h σ14 eσ14
      refine ga_putI (kI := 8) dX7_takeWord_38 fX7_37 pX7_8 rfl rfl rfl r15 eσ14 ?_
      refine ga_goto (tgt := 5) dX7_takeWord_41 (by decide) ?_
      exact ga_sub [0] rfl h
abbrev eX7_isDigit (l : Launch) (G : gG) (x0 : Int) (σ : gS) (Q : Int → gS → Prop) : Prop := gEz l G mX7_isDigit [vI x0] σ Q
set_option maxRecDepth 100000 in
set_option maxHeartbeats 4000000 in
theorem vX7_isDigit {l : Launch} {G : gG} (x0 : Int) (rx0 : gR x0) (σ : gS) (Q : Int → gS → Prop) (h : (∀ v4 : Int, v4 = (if x0 < 48 then 0 else (if 57 < x0 then 0 else 1)) →
  Q v4 σ)) : eX7_isDigit l G x0 σ Q := by
  refine ga_entry rfl (Nat.le_of_ble_eq_true rfl) ?_
  show gAt l G mX7_isDigit (gQz G Q) 0 [(0, vI x0)] [] σ
  refine ga_iload_n 0 dX7_isDigit_0 rfl rfl ?_
  refine ga_bipush dX7_isDigit_1 (by decide) ?_
  have kJ1 : ∀ v4 : Int, gR v4 → (v4 = 0 ∨ v4 = 1) → v4 = (if x0 < 48 then 0 else (if 57 < x0 then 0 else 1)) → gAt l G mX7_isDigit (gQz G Q) 17 [(0, vI x0)] [vI v4] σ := by
    intro v4 rv4 bv4 ev4
    replace h := h v4 ev4
    exact ga_bret dX7_isDigit_17 rfl bv4 h
  replace h : (x0 < 48 → True) ∧
  (48 ≤ x0 → (57 < x0 → True) ∧
    (x0 ≤ 57 → True)) := by repeat (first | exact True.intro | apply And.intro | intro _)
  obtain ⟨ht, hf⟩ := h
  refine ga_icmp_lt (tgt := 16) dX7_isDigit_3 (by decide) rx0 (by decide) (fun q2 => ?_) (fun q2 => ?_)
  · replace q2 : x0 < 48 := q2
    have h := ht q2
    refine ga_iconst dX7_isDigit_16 ?_
    exact kJ1 0 (by decide) (Or.inl rfl) (by rw [if_pos q2])
  · replace q2 : 48 ≤ x0 := (Int.not_lt.mp q2)
    have h := hf q2
    refine ga_iload_n 0 dX7_isDigit_6 rfl rfl ?_
    refine ga_bipush dX7_isDigit_7 (by decide) ?_
    obtain ⟨ht, hf⟩ := h
    refine ga_icmp_gt (tgt := 16) dX7_isDigit_9 (by decide) rx0 (by decide) (fun q3 => ?_) (fun q3 => ?_)
    · replace q3 : 57 < x0 := q3
      have h := ht q3
      refine ga_iconst dX7_isDigit_16 ?_
      exact kJ1 0 (by decide) (Or.inl rfl) (by rw [if_neg (Int.not_lt.mpr q2), if_pos q3])
    · replace q3 : x0 ≤ 57 := (Int.not_lt.mp q3)
      have h := hf q3
      refine ga_iconst dX7_isDigit_12 ?_
      refine ga_goto (tgt := 17) dX7_isDigit_13 (by decide) ?_
      exact kJ1 1 (by decide) (Or.inr rfl) (by rw [if_neg (Int.not_lt.mpr q2), if_neg (Int.not_lt.mpr q3)])
abbrev eX7_takeDigits (l : Launch) (G : gG)  (σ : gS) (Q : gS → Prop) : Prop := gEv l G mX7_takeDigits [.ref (G.2.1 27)] σ Q
abbrev kX7_takeDigits_5 (l : Launch) (G : gG)   (σ : gS) (Q : gS → Prop) : Prop := gAt l G mX7_takeDigits (gQv G Q) 5 [(0, .ref (G.2.1 27))] [] σ
set_option maxRecDepth 100000 in
set_option maxHeartbeats 4000000 in
theorem vX7_takeDigits {l : Launch} {G : gG}  (σ : gS) (Q : gS → Prop) (h : ∀ σ1, σ1 = sI σ 27 11 0 →
  kX7_takeDigits_5 l G   σ1 Q) : eX7_takeDigits l G  σ Q := by
  refine ga_entry rfl (Nat.le_of_ble_eq_true rfl) ?_
  show gAt l G mX7_takeDigits (gQv G Q) 0 [(0, .ref (G.2.1 27))] [] σ
  refine ga_aload_n 0 dX7_takeDigits_0 rfl rfl ?_
  refine ga_iconst dX7_takeDigits_1 ?_
  obtain ⟨σ1, eσ1⟩ : ∃ z, z = sI σ 27 11 0 := ⟨_, rfl⟩
  replace h := h σ1 eσ1
  refine ga_putI (kI := 11) dX7_takeDigits_2 fX7_84 pX7_11 rfl rfl rfl (by decide) eσ1 ?_
  exact ga_sub [0] rfl h
set_option maxRecDepth 100000 in
set_option maxHeartbeats 4000000 in
theorem vX7_takeDigits_5 {l : Launch} {G : gG}   (σ : gS) (Q : gS → Prop) (h : ((gI σ 27 7) ≤ (gI σ 27 8) → ((gR ((gI σ 27 8) - (gI σ 27 10))) ∧ (2 < ((gI σ 27 8) - (gI σ 27 10)) → True) ∧
    (((gI σ 27 8) - (gI σ 27 10)) ≤ 2 → True)) ∧
    (∀ v10 : Int, v10 = (if 2 < ((gI σ 27 8) - (gI σ 27 10)) then 4 else 2) →
    ∀ σ11, σ11 = sI σ 27 9 v10 →
      Q σ11)) ∧
  ((gI σ 27 8) < (gI σ 27 7) → (σ.2.2 = 2) ∧ (0 ≤ (gI σ 27 8) ∧ (gI σ 27 8) < 600) ∧ eX7_isDigit l G (gI σ 2 (gI σ 27 8)) σ (fun v18 σ16 => (v18 = 0 ∨ v18 = 1) →
    (v18 = 0 → ((gR ((gI σ16 27 8) - (gI σ16 27 10))) ∧ (2 < ((gI σ16 27 8) - (gI σ16 27 10)) → True) ∧
      (((gI σ16 27 8) - (gI σ16 27 10)) ≤ 2 → True)) ∧
      (∀ v25 : Int, v25 = (if 2 < ((gI σ16 27 8) - (gI σ16 27 10)) then 4 else 2) →
      ∀ σ26, σ26 = sI σ16 27 9 v25 →
        Q σ26)) ∧
    (¬ v18 = 0 → (gR ((gI σ16 27 8) - (gI σ16 27 10))) ∧ (2 ≤ ((gI σ16 27 8) - (gI σ16 27 10)) → (gR ((gI σ16 27 8) + 1)) ∧ ∀ σ32, σ32 = sI σ16 27 8 ((gI σ16 27 8) + 1) →
        kX7_takeDigits_5 l G   σ32 Q) ∧
      (((gI σ16 27 8) - (gI σ16 27 10)) < 2 → (σ16.2.2 = 2) ∧ (0 ≤ (gI σ16 27 8) ∧ (gI σ16 27 8) < 600) ∧ (gR ((((gI σ16 27 11) * 10) + (gI σ16 2 (gI σ16 27 8))) - 48)) ∧ ∀ σ39, σ39 = sI σ16 27 11 ((((gI σ16 27 11) * 10) + (gI σ16 2 (gI σ16 27 8))) - 48) →
        (gR ((gI σ39 27 8) + 1)) ∧ ∀ σ42, σ42 = sI σ39 27 8 ((gI σ39 27 8) + 1) →
        kX7_takeDigits_5 l G   σ42 Q))))) : kX7_takeDigits_5 l G   σ Q := by
  refine ga_aload_n 0 dX7_takeDigits_5 rfl rfl ?_
  refine ga_getI (kI := 8) dX7_takeDigits_6 fX7_37 rfl rfl rfl (fun r2 => ?_)
  refine ga_aload_n 0 dX7_takeDigits_9 rfl rfl ?_
  refine ga_getI (kI := 7) dX7_takeDigits_10 fX7_33 rfl rfl rfl (fun r3 => ?_)
  obtain ⟨ht, hf⟩ := h
  refine ga_icmp_ge (tgt := 81) dX7_takeDigits_13 (by decide) r2 r3 (fun q4 => ?_) (fun q4 => ?_)
  · replace q4 : (gI σ 27 7) ≤ (gI σ 27 8) := q4
    have h := ht q4
    refine ga_aload_n 0 dX7_takeDigits_81 rfl rfl ?_
    refine ga_aload_n 0 dX7_takeDigits_82 rfl rfl ?_
    refine ga_getI (kI := 8) dX7_takeDigits_83 fX7_37 rfl rfl rfl (fun r5 => ?_)
    refine ga_aload_n 0 dX7_takeDigits_86 rfl rfl ?_
    refine ga_getI (kI := 10) dX7_takeDigits_87 fX7_99 rfl rfl rfl (fun r6 => ?_)
    refine ga_isub dX7_takeDigits_90 ?_
    refine ga_iconst dX7_takeDigits_91 ?_
    obtain ⟨hob, h⟩ := h
    have kJ7 : ∀ v10 : Int, gR v10 → v10 = (if 2 < ((gI σ 27 8) - (gI σ 27 10)) then 4 else 2) → gAt l G mX7_takeDigits (gQv G Q) 100 [(0, .ref (G.2.1 27))] [vI v10, .ref (G.2.1 27)] σ := by
      intro v10 rv10 ev10
      replace h := h v10 ev10
      obtain ⟨σ11, eσ11⟩ : ∃ z, z = sI σ 27 9 v10 := ⟨_, rfl⟩
      replace h := h σ11 eσ11
      refine ga_putI (kI := 9) dX7_takeDigits_100 fX7_52 pX7_9 rfl rfl rfl rv10 eσ11 ?_
      exact ga_vret dX7_takeDigits_103 rfl h
    replace h := hob
    obtain ⟨r8, h⟩ := h
    obtain ⟨ht, hf⟩ := h
    refine ga_icmp_gt (tgt := 99) dX7_takeDigits_92 (by decide) r8 (by decide) (fun q9 => ?_) (fun q9 => ?_)
    · replace q9 : 2 < ((gI σ 27 8) - (gI σ 27 10)) := q9
      have h := ht q9
      refine ga_iconst dX7_takeDigits_99 ?_
      exact kJ7 4 (by decide) (by rw [if_pos q9])
    · replace q9 : ((gI σ 27 8) - (gI σ 27 10)) ≤ 2 := (Int.not_lt.mp q9)
      have h := hf q9
      refine ga_iconst dX7_takeDigits_95 ?_
      refine ga_goto (tgt := 100) dX7_takeDigits_96 (by decide) ?_
      exact kJ7 2 (by decide) (by rw [if_neg (Int.not_lt.mpr q9)])
  · replace q4 : (gI σ 27 8) < (gI σ 27 7) := (Int.not_le.mp q4)
    have h := hf q4
    refine ga_aload_n 0 dX7_takeDigits_16 rfl rfl ?_
    obtain ⟨o12, h⟩ := h
    refine ga_getT2 (t := 2) (kI := 6) dX7_takeDigits_17 fX7_23 rfl rfl rfl o12 ?_
    refine ga_aload_n 0 dX7_takeDigits_20 rfl rfl ?_
    refine ga_getI (kI := 8) dX7_takeDigits_21 fX7_37 rfl rfl rfl (fun r13 => ?_)
    obtain ⟨i14, h⟩ := h
    refine ga_bald (nI := 600) dX7_takeDigits_24 rfl rfl i14 (fun r15 => ?_)
    refine ga_callSz (z := mX7_isDigit) (As := [vI (gI σ 2 (gI σ 27 8))]) (rest := []) dX7_takeDigits_25 wX7_151 qX7_takeDigits_X7_isDigit rfl rfl (Nat.le_of_ble_eq_true rfl) (gEz_mono h (fun v18 σ16 h r17 => ?_))
    replace h := h r17
    obtain ⟨ht, hf⟩ := h
    refine ga_if_eq (tgt := 81) dX7_takeDigits_28 (by decide) (gR_01 r17) (fun q19 => ?_) (fun q19 => ?_)
    · replace q19 : v18 = 0 := q19
      have h := ht q19
      refine ga_aload_n 0 dX7_takeDigits_81 rfl rfl ?_
      refine ga_aload_n 0 dX7_takeDigits_82 rfl rfl ?_
      refine ga_getI (kI := 8) dX7_takeDigits_83 fX7_37 rfl rfl rfl (fun r20 => ?_)
      refine ga_aload_n 0 dX7_takeDigits_86 rfl rfl ?_
      refine ga_getI (kI := 10) dX7_takeDigits_87 fX7_99 rfl rfl rfl (fun r21 => ?_)
      refine ga_isub dX7_takeDigits_90 ?_
      refine ga_iconst dX7_takeDigits_91 ?_
      obtain ⟨hob, h⟩ := h
      have kJ22 : ∀ v25 : Int, gR v25 → v25 = (if 2 < ((gI σ16 27 8) - (gI σ16 27 10)) then 4 else 2) → gAt l G mX7_takeDigits (gQv G Q) 100 [(0, .ref (G.2.1 27))] [vI v25, .ref (G.2.1 27)] σ16 := by
        intro v25 rv25 ev25
        replace h := h v25 ev25
        obtain ⟨σ26, eσ26⟩ : ∃ z, z = sI σ16 27 9 v25 := ⟨_, rfl⟩
        replace h := h σ26 eσ26
        refine ga_putI (kI := 9) dX7_takeDigits_100 fX7_52 pX7_9 rfl rfl rfl rv25 eσ26 ?_
        exact ga_vret dX7_takeDigits_103 rfl h
      replace h := hob
      obtain ⟨r23, h⟩ := h
      obtain ⟨ht, hf⟩ := h
      refine ga_icmp_gt (tgt := 99) dX7_takeDigits_92 (by decide) r23 (by decide) (fun q24 => ?_) (fun q24 => ?_)
      · replace q24 : 2 < ((gI σ16 27 8) - (gI σ16 27 10)) := q24
        have h := ht q24
        refine ga_iconst dX7_takeDigits_99 ?_
        exact kJ22 4 (by decide) (by rw [if_pos q24])
      · replace q24 : ((gI σ16 27 8) - (gI σ16 27 10)) ≤ 2 := (Int.not_lt.mp q24)
        have h := hf q24
        refine ga_iconst dX7_takeDigits_95 ?_
        refine ga_goto (tgt := 100) dX7_takeDigits_96 (by decide) ?_
        exact kJ22 2 (by decide) (by rw [if_neg (Int.not_lt.mpr q24)])
    · replace q19 : ¬ v18 = 0 := q19
      have h := hf q19
      refine ga_aload_n 0 dX7_takeDigits_31 rfl rfl ?_
      refine ga_getI (kI := 8) dX7_takeDigits_32 fX7_37 rfl rfl rfl (fun r27 => ?_)
      refine ga_aload_n 0 dX7_takeDigits_35 rfl rfl ?_
      refine ga_getI (kI := 10) dX7_takeDigits_36 fX7_99 rfl rfl rfl (fun r28 => ?_)
      refine ga_isub dX7_takeDigits_39 ?_
      refine ga_iconst dX7_takeDigits_40 ?_
      obtain ⟨r29, h⟩ := h
      obtain ⟨ht, hf⟩ := h
      refine ga_icmp_ge (tgt := 68) dX7_takeDigits_41 (by decide) r29 (by decide) (fun q30 => ?_) (fun q30 => ?_)
      · replace q30 : 2 ≤ ((gI σ16 27 8) - (gI σ16 27 10)) := q30
        have h := ht q30
        refine ga_aload_n 0 dX7_takeDigits_68 rfl rfl ?_
        refine ga_dup dX7_takeDigits_69 rfl ?_
        refine ga_getI (kI := 8) dX7_takeDigits_70 fX7_37 rfl rfl rfl (fun r31 => ?_)
        refine ga_iconst dX7_takeDigits_73 ?_
        refine ga_iadd dX7_takeDigits_74 ?_
        obtain ⟨r33, h⟩ := h
        obtain ⟨σ32, eσ32⟩ : ∃ z, z = sI σ16 27 8 ((gI σ16 27 8) + 1) := ⟨_, rfl⟩
        replace h := h σ32 eσ32
        refine ga_putI (kI := 8) dX7_takeDigits_75 fX7_37 pX7_8 rfl rfl rfl r33 eσ32 ?_
        refine ga_goto (tgt := 5) dX7_takeDigits_78 (by decide) ?_
        exact ga_sub [0] rfl h
      · replace q30 : ((gI σ16 27 8) - (gI σ16 27 10)) < 2 := (Int.not_le.mp q30)
        have h := hf q30
        refine ga_aload_n 0 dX7_takeDigits_44 rfl rfl ?_
        refine ga_aload_n 0 dX7_takeDigits_45 rfl rfl ?_
        refine ga_getI (kI := 11) dX7_takeDigits_46 fX7_84 rfl rfl rfl (fun r34 => ?_)
        refine ga_bipush dX7_takeDigits_49 (by decide) ?_
        refine ga_imul dX7_takeDigits_51 ?_
        refine ga_aload_n 0 dX7_takeDigits_52 rfl rfl ?_
        obtain ⟨o35, h⟩ := h
        refine ga_getT2 (t := 2) (kI := 6) dX7_takeDigits_53 fX7_23 rfl rfl rfl o35 ?_
        refine ga_aload_n 0 dX7_takeDigits_56 rfl rfl ?_
        refine ga_getI (kI := 8) dX7_takeDigits_57 fX7_37 rfl rfl rfl (fun r36 => ?_)
        obtain ⟨i37, h⟩ := h
        refine ga_bald (nI := 600) dX7_takeDigits_60 rfl rfl i37 (fun r38 => ?_)
        refine ga_iadd dX7_takeDigits_61 ?_
        refine ga_bipush dX7_takeDigits_62 (by decide) ?_
        refine ga_isub dX7_takeDigits_64 ?_
        obtain ⟨r40, h⟩ := h
        obtain ⟨σ39, eσ39⟩ : ∃ z, z = sI σ16 27 11 ((((gI σ16 27 11) * 10) + (gI σ16 2 (gI σ16 27 8))) - 48) := ⟨_, rfl⟩
        replace h := h σ39 eσ39
        refine ga_putI (kI := 11) dX7_takeDigits_65 fX7_84 pX7_11 rfl rfl rfl r40 eσ39 ?_
        refine ga_aload_n 0 dX7_takeDigits_68 rfl rfl ?_
        refine ga_dup dX7_takeDigits_69 rfl ?_
        refine ga_getI (kI := 8) dX7_takeDigits_70 fX7_37 rfl rfl rfl (fun r41 => ?_)
        refine ga_iconst dX7_takeDigits_73 ?_
        refine ga_iadd dX7_takeDigits_74 ?_
        obtain ⟨r43, h⟩ := h
        obtain ⟨σ42, eσ42⟩ : ∃ z, z = sI σ39 27 8 ((gI σ39 27 8) + 1) := ⟨_, rfl⟩
        replace h := h σ42 eσ42
        refine ga_putI (kI := 8) dX7_takeDigits_75 fX7_37 pX7_8 rfl rfl rfl r43 eσ42 ?_
        refine ga_goto (tgt := 5) dX7_takeDigits_78 (by decide) ?_
        exact ga_sub [0] rfl h
abbrev eX7_nextToken (l : Launch) (G : gG)  (σ : gS) (Q : gS → Prop) : Prop := gEv l G mX7_nextToken [.ref (G.2.1 27)] σ Q
abbrev kX7_nextToken_0 (l : Launch) (G : gG)   (σ : gS) (Q : gS → Prop) : Prop := gAt l G mX7_nextToken (gQv G Q) 0 [(0, .ref (G.2.1 27))] [] σ
set_option maxRecDepth 100000 in
set_option maxHeartbeats 4000000 in
theorem vX7_nextToken {l : Launch} {G : gG}  (σ : gS) (Q : gS → Prop) (h : kX7_nextToken_0 l G   σ Q) : eX7_nextToken l G  σ Q := by
  refine ga_entry rfl (Nat.le_of_ble_eq_true rfl) ?_
  show gAt l G mX7_nextToken (gQv G Q) 0 [(0, .ref (G.2.1 27))] [] σ
  exact ga_sub [0] rfl h
set_option maxRecDepth 100000 in
set_option maxHeartbeats 4000000 in
theorem vX7_nextToken_0 {l : Launch} {G : gG}   (σ : gS) (Q : gS → Prop) (h : ((gI σ 27 7) ≤ (gI σ 27 8) → ∀ σ5, σ5 = sI σ 27 10 (gI σ 27 8) →
    ((gI σ5 27 8) < (gI σ5 27 7) → (σ5.2.2 = 2) ∧ (0 ≤ (gI σ5 27 8) ∧ (gI σ5 27 8) < 600) ∧ eX7_isLetter l G (gI σ5 2 (gI σ5 27 8)) σ5 (fun v15 σ13 => (v15 = 0 ∨ v15 = 1) →
      (v15 = 0 → (σ13.2.2 = 2) ∧ (0 ≤ (gI σ13 27 8) ∧ (gI σ13 27 8) < 600) ∧ eX7_isDigit l G (gI σ13 2 (gI σ13 27 8)) σ13 (fun v23 σ21 => (v23 = 0 ∨ v23 = 1) →
        (v23 = 0 → (σ21.2.2 = 2) ∧ (0 ≤ (gI σ21 27 8) ∧ (gI σ21 27 8) < 600) ∧ (∀ v31 : Int, v31 = (if (gI σ21 2 (gI σ21 27 8)) = 59 then 3 else 4) →
          ∀ σ32, σ32 = sI σ21 27 9 v31 →
            (gR ((gI σ32 27 8) + 1)) ∧ ∀ σ34, σ34 = sI σ32 27 8 ((gI σ32 27 8) + 1) →
            Q σ34)) ∧
        (¬ v23 = 0 → eX7_takeDigits l G  σ21 (fun σ36 =>
          Q σ36)))) ∧
      (¬ v15 = 0 → eX7_takeWord l G  σ13 (fun σ38 =>
        Q σ38)))) ∧
    ((gI σ5 27 7) ≤ (gI σ5 27 8) → ∀ σ40, σ40 = sI σ5 27 9 0 →
      Q σ40)) ∧
  ((gI σ 27 8) < (gI σ 27 7) → (σ.2.2 = 2) ∧ (0 ≤ (gI σ 27 8) ∧ (gI σ 27 8) < 600) ∧ ((gI σ 2 (gI σ 27 8)) = 10 → (gR ((gI σ 27 8) + 1)) ∧ ∀ σ47, σ47 = sI σ 27 8 ((gI σ 27 8) + 1) →
      kX7_nextToken_0 l G   σ47 Q) ∧
    (¬ (gI σ 2 (gI σ 27 8)) = 10 → (¬ (gI σ 2 (gI σ 27 8)) = 32 → ∀ σ53, σ53 = sI σ 27 10 (gI σ 27 8) →
        ((gI σ53 27 8) < (gI σ53 27 7) → (0 ≤ (gI σ53 27 8) ∧ (gI σ53 27 8) < 600) ∧ eX7_isLetter l G (gI σ53 2 (gI σ53 27 8)) σ53 (fun v62 σ60 => (v62 = 0 ∨ v62 = 1) →
          (v62 = 0 → (σ60.2.2 = 2) ∧ (0 ≤ (gI σ60 27 8) ∧ (gI σ60 27 8) < 600) ∧ eX7_isDigit l G (gI σ60 2 (gI σ60 27 8)) σ60 (fun v70 σ68 => (v70 = 0 ∨ v70 = 1) →
            (v70 = 0 → (σ68.2.2 = 2) ∧ (0 ≤ (gI σ68 27 8) ∧ (gI σ68 27 8) < 600) ∧ (∀ v78 : Int, v78 = (if (gI σ68 2 (gI σ68 27 8)) = 59 then 3 else 4) →
              ∀ σ79, σ79 = sI σ68 27 9 v78 →
                (gR ((gI σ79 27 8) + 1)) ∧ ∀ σ81, σ81 = sI σ79 27 8 ((gI σ79 27 8) + 1) →
                Q σ81)) ∧
            (¬ v70 = 0 → eX7_takeDigits l G  σ68 (fun σ83 =>
              Q σ83)))) ∧
          (¬ v62 = 0 → eX7_takeWord l G  σ60 (fun σ85 =>
            Q σ85)))) ∧
        ((gI σ53 27 7) ≤ (gI σ53 27 8) → ∀ σ87, σ87 = sI σ53 27 9 0 →
          Q σ87)) ∧
      ((gI σ 2 (gI σ 27 8)) = 32 → (gR ((gI σ 27 8) + 1)) ∧ ∀ σ89, σ89 = sI σ 27 8 ((gI σ 27 8) + 1) →
        kX7_nextToken_0 l G   σ89 Q)))) : kX7_nextToken_0 l G   σ Q := by
  refine ga_aload_n 0 dX7_nextToken_0 rfl rfl ?_
  refine ga_getI (kI := 8) dX7_nextToken_1 fX7_37 rfl rfl rfl (fun r1 => ?_)
  refine ga_aload_n 0 dX7_nextToken_4 rfl rfl ?_
  refine ga_getI (kI := 7) dX7_nextToken_5 fX7_33 rfl rfl rfl (fun r2 => ?_)
  obtain ⟨ht, hf⟩ := h
  refine ga_icmp_ge (tgt := 52) dX7_nextToken_8 (by decide) r1 r2 (fun q3 => ?_) (fun q3 => ?_)
  · replace q3 : (gI σ 27 7) ≤ (gI σ 27 8) := q3
    have h := ht q3
    refine ga_aload_n 0 dX7_nextToken_52 rfl rfl ?_
    refine ga_aload_n 0 dX7_nextToken_53 rfl rfl ?_
    refine ga_getI (kI := 8) dX7_nextToken_54 fX7_37 rfl rfl rfl (fun r4 => ?_)
    obtain ⟨σ5, eσ5⟩ : ∃ z, z = sI σ 27 10 (gI σ 27 8) := ⟨_, rfl⟩
    replace h := h σ5 eσ5
    refine ga_putI (kI := 10) dX7_nextToken_57 fX7_99 pX7_10 rfl rfl rfl r4 eσ5 ?_
    refine ga_aload_n 0 dX7_nextToken_60 rfl rfl ?_
    refine ga_getI (kI := 8) dX7_nextToken_61 fX7_37 rfl rfl rfl (fun r6 => ?_)
    refine ga_aload_n 0 dX7_nextToken_64 rfl rfl ?_
    refine ga_getI (kI := 7) dX7_nextToken_65 fX7_33 rfl rfl rfl (fun r7 => ?_)
    obtain ⟨ht, hf⟩ := h
    refine ga_icmp_lt (tgt := 79) dX7_nextToken_68 (by decide) r6 r7 (fun q8 => ?_) (fun q8 => ?_)
    · replace q8 : (gI σ5 27 8) < (gI σ5 27 7) := q8
      have h := ht q8
      refine ga_aload_n 0 dX7_nextToken_79 rfl rfl ?_
      obtain ⟨o9, h⟩ := h
      refine ga_getT2 (t := 2) (kI := 6) dX7_nextToken_80 fX7_23 rfl rfl rfl o9 ?_
      refine ga_aload_n 0 dX7_nextToken_83 rfl rfl ?_
      refine ga_getI (kI := 8) dX7_nextToken_84 fX7_37 rfl rfl rfl (fun r10 => ?_)
      obtain ⟨i11, h⟩ := h
      refine ga_bald (nI := 600) dX7_nextToken_87 rfl rfl i11 (fun r12 => ?_)
      refine ga_callSz (z := mX7_isLetter) (As := [vI (gI σ5 2 (gI σ5 27 8))]) (rest := []) dX7_nextToken_88 wX7_144 qX7_nextToken_X7_isLetter rfl rfl (Nat.le_of_ble_eq_true rfl) (gEz_mono h (fun v15 σ13 h r14 => ?_))
      replace h := h r14
      obtain ⟨ht, hf⟩ := h
      refine ga_if_eq (tgt := 101) dX7_nextToken_91 (by decide) (gR_01 r14) (fun q16 => ?_) (fun q16 => ?_)
      · replace q16 : v15 = 0 := q16
        have h := ht q16
        refine ga_aload_n 0 dX7_nextToken_101 rfl rfl ?_
        obtain ⟨o17, h⟩ := h
        refine ga_getT2 (t := 2) (kI := 6) dX7_nextToken_102 fX7_23 rfl rfl rfl o17 ?_
        refine ga_aload_n 0 dX7_nextToken_105 rfl rfl ?_
        refine ga_getI (kI := 8) dX7_nextToken_106 fX7_37 rfl rfl rfl (fun r18 => ?_)
        obtain ⟨i19, h⟩ := h
        refine ga_bald (nI := 600) dX7_nextToken_109 rfl rfl i19 (fun r20 => ?_)
        refine ga_callSz (z := mX7_isDigit) (As := [vI (gI σ13 2 (gI σ13 27 8))]) (rest := []) dX7_nextToken_110 wX7_151 qX7_nextToken_X7_isDigit rfl rfl (Nat.le_of_ble_eq_true rfl) (gEz_mono h (fun v23 σ21 h r22 => ?_))
        replace h := h r22
        obtain ⟨ht, hf⟩ := h
        refine ga_if_eq (tgt := 123) dX7_nextToken_113 (by decide) (gR_01 r22) (fun q24 => ?_) (fun q24 => ?_)
        · replace q24 : v23 = 0 := q24
          have h := ht q24
          refine ga_aload_n 0 dX7_nextToken_123 rfl rfl ?_
          refine ga_aload_n 0 dX7_nextToken_124 rfl rfl ?_
          obtain ⟨o25, h⟩ := h
          refine ga_getT2 (t := 2) (kI := 6) dX7_nextToken_125 fX7_23 rfl rfl rfl o25 ?_
          refine ga_aload_n 0 dX7_nextToken_128 rfl rfl ?_
          refine ga_getI (kI := 8) dX7_nextToken_129 fX7_37 rfl rfl rfl (fun r26 => ?_)
          obtain ⟨i27, h⟩ := h
          refine ga_bald (nI := 600) dX7_nextToken_132 rfl rfl i27 (fun r28 => ?_)
          refine ga_bipush dX7_nextToken_133 (by decide) ?_
          have kJ29 : ∀ v31 : Int, gR v31 → v31 = (if (gI σ21 2 (gI σ21 27 8)) = 59 then 3 else 4) → gAt l G mX7_nextToken (gQv G Q) 143 [(0, .ref (G.2.1 27))] [vI v31, .ref (G.2.1 27)] σ21 := by
            intro v31 rv31 ev31
            replace h := h v31 ev31
            obtain ⟨σ32, eσ32⟩ : ∃ z, z = sI σ21 27 9 v31 := ⟨_, rfl⟩
            replace h := h σ32 eσ32
            refine ga_putI (kI := 9) dX7_nextToken_143 fX7_52 pX7_9 rfl rfl rfl rv31 eσ32 ?_
            refine ga_aload_n 0 dX7_nextToken_146 rfl rfl ?_
            refine ga_dup dX7_nextToken_147 rfl ?_
            refine ga_getI (kI := 8) dX7_nextToken_148 fX7_37 rfl rfl rfl (fun r33 => ?_)
            refine ga_iconst dX7_nextToken_151 ?_
            refine ga_iadd dX7_nextToken_152 ?_
            obtain ⟨r35, h⟩ := h
            obtain ⟨σ34, eσ34⟩ : ∃ z, z = sI σ32 27 8 ((gI σ32 27 8) + 1) := ⟨_, rfl⟩
            replace h := h σ34 eσ34
            refine ga_putI (kI := 8) dX7_nextToken_153 fX7_37 pX7_8 rfl rfl rfl r35 eσ34 ?_
            exact ga_vret dX7_nextToken_156 rfl h
          replace h : (¬ (gI σ21 2 (gI σ21 27 8)) = 59 → True) ∧
          ((gI σ21 2 (gI σ21 27 8)) = 59 → True) := by repeat (first | exact True.intro | apply And.intro | intro _)
          obtain ⟨ht, hf⟩ := h
          refine ga_icmp_ne (tgt := 142) dX7_nextToken_135 (by decide) r28 (by decide) (fun q30 => ?_) (fun q30 => ?_)
          · replace q30 : ¬ (gI σ21 2 (gI σ21 27 8)) = 59 := q30
            have h := ht q30
            refine ga_iconst dX7_nextToken_142 ?_
            exact kJ29 4 (by decide) (by rw [if_neg q30])
          · replace q30 : (gI σ21 2 (gI σ21 27 8)) = 59 := (Decidable.not_not.mp q30)
            have h := hf q30
            refine ga_iconst dX7_nextToken_138 ?_
            refine ga_goto (tgt := 143) dX7_nextToken_139 (by decide) ?_
            exact kJ29 3 (by decide) (by rw [if_pos q30])
        · replace q24 : ¬ v23 = 0 := q24
          have h := hf q24
          refine ga_aload_n 0 dX7_nextToken_116 rfl rfl ?_
          refine ga_callVv (z := mX7_takeDigits) (As := []) (rest := []) dX7_nextToken_117 wX7_154 qX7_nextToken_X7_takeDigits rfl ⟨_, rfl, rfl⟩ rfl rfl (Nat.le_of_ble_eq_true rfl) (gEv_mono h (fun σ36 h => ?_))
          refine ga_goto (tgt := 156) dX7_nextToken_120 (by decide) ?_
          exact ga_vret dX7_nextToken_156 rfl h
      · replace q16 : ¬ v15 = 0 := q16
        have h := hf q16
        refine ga_aload_n 0 dX7_nextToken_94 rfl rfl ?_
        refine ga_callVv (z := mX7_takeWord) (As := []) (rest := []) dX7_nextToken_95 wX7_148 qX7_nextToken_X7_takeWord rfl ⟨_, rfl, rfl⟩ rfl rfl (Nat.le_of_ble_eq_true rfl) (gEv_mono h (fun σ38 h => ?_))
        refine ga_goto (tgt := 156) dX7_nextToken_98 (by decide) ?_
        exact ga_vret dX7_nextToken_156 rfl h
    · replace q8 : (gI σ5 27 7) ≤ (gI σ5 27 8) := (Int.not_lt.mp q8)
      have h := hf q8
      refine ga_aload_n 0 dX7_nextToken_71 rfl rfl ?_
      refine ga_iconst dX7_nextToken_72 ?_
      obtain ⟨σ40, eσ40⟩ : ∃ z, z = sI σ5 27 9 0 := ⟨_, rfl⟩
      replace h := h σ40 eσ40
      refine ga_putI (kI := 9) dX7_nextToken_73 fX7_52 pX7_9 rfl rfl rfl (by decide) eσ40 ?_
      refine ga_goto (tgt := 156) dX7_nextToken_76 (by decide) ?_
      exact ga_vret dX7_nextToken_156 rfl h
  · replace q3 : (gI σ 27 8) < (gI σ 27 7) := (Int.not_le.mp q3)
    have h := hf q3
    refine ga_aload_n 0 dX7_nextToken_11 rfl rfl ?_
    obtain ⟨o41, h⟩ := h
    refine ga_getT2 (t := 2) (kI := 6) dX7_nextToken_12 fX7_23 rfl rfl rfl o41 ?_
    refine ga_aload_n 0 dX7_nextToken_15 rfl rfl ?_
    refine ga_getI (kI := 8) dX7_nextToken_16 fX7_37 rfl rfl rfl (fun r42 => ?_)
    obtain ⟨i43, h⟩ := h
    refine ga_bald (nI := 600) dX7_nextToken_19 rfl rfl i43 (fun r44 => ?_)
    refine ga_bipush dX7_nextToken_20 (by decide) ?_
    obtain ⟨ht, hf⟩ := h
    refine ga_icmp_eq (tgt := 39) dX7_nextToken_22 (by decide) r44 (by decide) (fun q45 => ?_) (fun q45 => ?_)
    · replace q45 : (gI σ 2 (gI σ 27 8)) = 10 := q45
      have h := ht q45
      refine ga_aload_n 0 dX7_nextToken_39 rfl rfl ?_
      refine ga_dup dX7_nextToken_40 rfl ?_
      refine ga_getI (kI := 8) dX7_nextToken_41 fX7_37 rfl rfl rfl (fun r46 => ?_)
      refine ga_iconst dX7_nextToken_44 ?_
      refine ga_iadd dX7_nextToken_45 ?_
      obtain ⟨r48, h⟩ := h
      obtain ⟨σ47, eσ47⟩ : ∃ z, z = sI σ 27 8 ((gI σ 27 8) + 1) := ⟨_, rfl⟩
      replace h := h σ47 eσ47
      refine ga_putI (kI := 8) dX7_nextToken_46 fX7_37 pX7_8 rfl rfl rfl r48 eσ47 ?_
      refine ga_goto (tgt := 0) dX7_nextToken_49 (by decide) ?_
      exact ga_sub [0] rfl h
    · replace q45 : ¬ (gI σ 2 (gI σ 27 8)) = 10 := q45
      have h := hf q45
      refine ga_aload_n 0 dX7_nextToken_25 rfl rfl ?_
      refine ga_getT2 (t := 2) (kI := 6) dX7_nextToken_26 fX7_23 rfl rfl rfl o41 ?_
      refine ga_aload_n 0 dX7_nextToken_29 rfl rfl ?_
      refine ga_getI (kI := 8) dX7_nextToken_30 fX7_37 rfl rfl rfl (fun r49 => ?_)
      refine ga_bald (nI := 600) dX7_nextToken_33 rfl rfl i43 (fun r50 => ?_)
      refine ga_bipush dX7_nextToken_34 (by decide) ?_
      obtain ⟨ht, hf⟩ := h
      refine ga_icmp_ne (tgt := 52) dX7_nextToken_36 (by decide) r50 (by decide) (fun q51 => ?_) (fun q51 => ?_)
      · replace q51 : ¬ (gI σ 2 (gI σ 27 8)) = 32 := q51
        have h := ht q51
        refine ga_aload_n 0 dX7_nextToken_52 rfl rfl ?_
        refine ga_aload_n 0 dX7_nextToken_53 rfl rfl ?_
        refine ga_getI (kI := 8) dX7_nextToken_54 fX7_37 rfl rfl rfl (fun r52 => ?_)
        obtain ⟨σ53, eσ53⟩ : ∃ z, z = sI σ 27 10 (gI σ 27 8) := ⟨_, rfl⟩
        replace h := h σ53 eσ53
        refine ga_putI (kI := 10) dX7_nextToken_57 fX7_99 pX7_10 rfl rfl rfl r52 eσ53 ?_
        refine ga_aload_n 0 dX7_nextToken_60 rfl rfl ?_
        refine ga_getI (kI := 8) dX7_nextToken_61 fX7_37 rfl rfl rfl (fun r54 => ?_)
        refine ga_aload_n 0 dX7_nextToken_64 rfl rfl ?_
        refine ga_getI (kI := 7) dX7_nextToken_65 fX7_33 rfl rfl rfl (fun r55 => ?_)
        obtain ⟨ht, hf⟩ := h
        refine ga_icmp_lt (tgt := 79) dX7_nextToken_68 (by decide) r54 r55 (fun q56 => ?_) (fun q56 => ?_)
        · replace q56 : (gI σ53 27 8) < (gI σ53 27 7) := q56
          have h := ht q56
          refine ga_aload_n 0 dX7_nextToken_79 rfl rfl ?_
          refine ga_getT2 (t := 2) (kI := 6) dX7_nextToken_80 fX7_23 rfl rfl rfl (by rw [eσ53]; exact o41) ?_
          refine ga_aload_n 0 dX7_nextToken_83 rfl rfl ?_
          refine ga_getI (kI := 8) dX7_nextToken_84 fX7_37 rfl rfl rfl (fun r57 => ?_)
          obtain ⟨i58, h⟩ := h
          refine ga_bald (nI := 600) dX7_nextToken_87 rfl rfl i58 (fun r59 => ?_)
          refine ga_callSz (z := mX7_isLetter) (As := [vI (gI σ53 2 (gI σ53 27 8))]) (rest := []) dX7_nextToken_88 wX7_144 qX7_nextToken_X7_isLetter rfl rfl (Nat.le_of_ble_eq_true rfl) (gEz_mono h (fun v62 σ60 h r61 => ?_))
          replace h := h r61
          obtain ⟨ht, hf⟩ := h
          refine ga_if_eq (tgt := 101) dX7_nextToken_91 (by decide) (gR_01 r61) (fun q63 => ?_) (fun q63 => ?_)
          · replace q63 : v62 = 0 := q63
            have h := ht q63
            refine ga_aload_n 0 dX7_nextToken_101 rfl rfl ?_
            obtain ⟨o64, h⟩ := h
            refine ga_getT2 (t := 2) (kI := 6) dX7_nextToken_102 fX7_23 rfl rfl rfl o64 ?_
            refine ga_aload_n 0 dX7_nextToken_105 rfl rfl ?_
            refine ga_getI (kI := 8) dX7_nextToken_106 fX7_37 rfl rfl rfl (fun r65 => ?_)
            obtain ⟨i66, h⟩ := h
            refine ga_bald (nI := 600) dX7_nextToken_109 rfl rfl i66 (fun r67 => ?_)
            refine ga_callSz (z := mX7_isDigit) (As := [vI (gI σ60 2 (gI σ60 27 8))]) (rest := []) dX7_nextToken_110 wX7_151 qX7_nextToken_X7_isDigit rfl rfl (Nat.le_of_ble_eq_true rfl) (gEz_mono h (fun v70 σ68 h r69 => ?_))
            replace h := h r69
            obtain ⟨ht, hf⟩ := h
            refine ga_if_eq (tgt := 123) dX7_nextToken_113 (by decide) (gR_01 r69) (fun q71 => ?_) (fun q71 => ?_)
            · replace q71 : v70 = 0 := q71
              have h := ht q71
              refine ga_aload_n 0 dX7_nextToken_123 rfl rfl ?_
              refine ga_aload_n 0 dX7_nextToken_124 rfl rfl ?_
              obtain ⟨o72, h⟩ := h
              refine ga_getT2 (t := 2) (kI := 6) dX7_nextToken_125 fX7_23 rfl rfl rfl o72 ?_
              refine ga_aload_n 0 dX7_nextToken_128 rfl rfl ?_
              refine ga_getI (kI := 8) dX7_nextToken_129 fX7_37 rfl rfl rfl (fun r73 => ?_)
              obtain ⟨i74, h⟩ := h
              refine ga_bald (nI := 600) dX7_nextToken_132 rfl rfl i74 (fun r75 => ?_)
              refine ga_bipush dX7_nextToken_133 (by decide) ?_
              have kJ76 : ∀ v78 : Int, gR v78 → v78 = (if (gI σ68 2 (gI σ68 27 8)) = 59 then 3 else 4) → gAt l G mX7_nextToken (gQv G Q) 143 [(0, .ref (G.2.1 27))] [vI v78, .ref (G.2.1 27)] σ68 := by
                intro v78 rv78 ev78
                replace h := h v78 ev78
                obtain ⟨σ79, eσ79⟩ : ∃ z, z = sI σ68 27 9 v78 := ⟨_, rfl⟩
                replace h := h σ79 eσ79
                refine ga_putI (kI := 9) dX7_nextToken_143 fX7_52 pX7_9 rfl rfl rfl rv78 eσ79 ?_
                refine ga_aload_n 0 dX7_nextToken_146 rfl rfl ?_
                refine ga_dup dX7_nextToken_147 rfl ?_
                refine ga_getI (kI := 8) dX7_nextToken_148 fX7_37 rfl rfl rfl (fun r80 => ?_)
                refine ga_iconst dX7_nextToken_151 ?_
                refine ga_iadd dX7_nextToken_152 ?_
                obtain ⟨r82, h⟩ := h
                obtain ⟨σ81, eσ81⟩ : ∃ z, z = sI σ79 27 8 ((gI σ79 27 8) + 1) := ⟨_, rfl⟩
                replace h := h σ81 eσ81
                refine ga_putI (kI := 8) dX7_nextToken_153 fX7_37 pX7_8 rfl rfl rfl r82 eσ81 ?_
                exact ga_vret dX7_nextToken_156 rfl h
              replace h : (¬ (gI σ68 2 (gI σ68 27 8)) = 59 → True) ∧
              ((gI σ68 2 (gI σ68 27 8)) = 59 → True) := by repeat (first | exact True.intro | apply And.intro | intro _)
              obtain ⟨ht, hf⟩ := h
              refine ga_icmp_ne (tgt := 142) dX7_nextToken_135 (by decide) r75 (by decide) (fun q77 => ?_) (fun q77 => ?_)
              · replace q77 : ¬ (gI σ68 2 (gI σ68 27 8)) = 59 := q77
                have h := ht q77
                refine ga_iconst dX7_nextToken_142 ?_
                exact kJ76 4 (by decide) (by rw [if_neg q77])
              · replace q77 : (gI σ68 2 (gI σ68 27 8)) = 59 := (Decidable.not_not.mp q77)
                have h := hf q77
                refine ga_iconst dX7_nextToken_138 ?_
                refine ga_goto (tgt := 143) dX7_nextToken_139 (by decide) ?_
                exact kJ76 3 (by decide) (by rw [if_pos q77])
            · replace q71 : ¬ v70 = 0 := q71
              have h := hf q71
              refine ga_aload_n 0 dX7_nextToken_116 rfl rfl ?_
              refine ga_callVv (z := mX7_takeDigits) (As := []) (rest := []) dX7_nextToken_117 wX7_154 qX7_nextToken_X7_takeDigits rfl ⟨_, rfl, rfl⟩ rfl rfl (Nat.le_of_ble_eq_true rfl) (gEv_mono h (fun σ83 h => ?_))
              refine ga_goto (tgt := 156) dX7_nextToken_120 (by decide) ?_
              exact ga_vret dX7_nextToken_156 rfl h
          · replace q63 : ¬ v62 = 0 := q63
            have h := hf q63
            refine ga_aload_n 0 dX7_nextToken_94 rfl rfl ?_
            refine ga_callVv (z := mX7_takeWord) (As := []) (rest := []) dX7_nextToken_95 wX7_148 qX7_nextToken_X7_takeWord rfl ⟨_, rfl, rfl⟩ rfl rfl (Nat.le_of_ble_eq_true rfl) (gEv_mono h (fun σ85 h => ?_))
            refine ga_goto (tgt := 156) dX7_nextToken_98 (by decide) ?_
            exact ga_vret dX7_nextToken_156 rfl h
        · replace q56 : (gI σ53 27 7) ≤ (gI σ53 27 8) := (Int.not_lt.mp q56)
          have h := hf q56
          refine ga_aload_n 0 dX7_nextToken_71 rfl rfl ?_
          refine ga_iconst dX7_nextToken_72 ?_
          obtain ⟨σ87, eσ87⟩ : ∃ z, z = sI σ53 27 9 0 := ⟨_, rfl⟩
          replace h := h σ87 eσ87
          refine ga_putI (kI := 9) dX7_nextToken_73 fX7_52 pX7_9 rfl rfl rfl (by decide) eσ87 ?_
          refine ga_goto (tgt := 156) dX7_nextToken_76 (by decide) ?_
          exact ga_vret dX7_nextToken_156 rfl h
      · replace q51 : (gI σ 2 (gI σ 27 8)) = 32 := (Decidable.not_not.mp q51)
        have h := hf q51
        refine ga_aload_n 0 dX7_nextToken_39 rfl rfl ?_
        refine ga_dup dX7_nextToken_40 rfl ?_
        refine ga_getI (kI := 8) dX7_nextToken_41 fX7_37 rfl rfl rfl (fun r88 => ?_)
        refine ga_iconst dX7_nextToken_44 ?_
        refine ga_iadd dX7_nextToken_45 ?_
        obtain ⟨r90, h⟩ := h
        obtain ⟨σ89, eσ89⟩ : ∃ z, z = sI σ 27 8 ((gI σ 27 8) + 1) := ⟨_, rfl⟩
        replace h := h σ89 eσ89
        refine ga_putI (kI := 8) dX7_nextToken_46 fX7_37 pX7_8 rfl rfl rfl r90 eσ89 ?_
        refine ga_goto (tgt := 0) dX7_nextToken_49 (by decide) ?_
        exact ga_sub [0] rfl h
abbrev eX7_wordHere (l : Launch) (G : gG) (x1 : Int) (σ : gS) (Q : Int → gS → Prop) : Prop := gEi l G mX7_wordHere [.ref (G.2.1 27), vI x1] σ Q
abbrev eX7_noTextGoesOn (l : Launch) (G : gG)  (σ : gS) (Q : Int → gS → Prop) : Prop := gEz l G mX7_noTextGoesOn [.ref (G.2.1 27)] σ Q
set_option maxRecDepth 100000 in
set_option maxHeartbeats 4000000 in
theorem vX7_noTextGoesOn {l : Launch} {G : gG}  (σ : gS) (Q : Int → gS → Prop) (h : ∀ σ1, σ1 = sI σ 27 3 1 →
  ∀ σ3, σ3 = sI σ1 27 4 (gI σ1 27 10) →
  Q 0 σ3) : eX7_noTextGoesOn l G  σ Q := by
  refine ga_entry rfl (Nat.le_of_ble_eq_true rfl) ?_
  show gAt l G mX7_noTextGoesOn (gQz G Q) 0 [(0, .ref (G.2.1 27))] [] σ
  refine ga_aload_n 0 dX7_noTextGoesOn_0 rfl rfl ?_
  refine ga_iconst dX7_noTextGoesOn_1 ?_
  obtain ⟨σ1, eσ1⟩ : ∃ z, z = sI σ 27 3 1 := ⟨_, rfl⟩
  replace h := h σ1 eσ1
  refine ga_putI (kI := 3) dX7_noTextGoesOn_2 fX7_43 pX7_3 rfl rfl rfl (by decide) eσ1 ?_
  refine ga_aload_n 0 dX7_noTextGoesOn_5 rfl rfl ?_
  refine ga_aload_n 0 dX7_noTextGoesOn_6 rfl rfl ?_
  refine ga_getI (kI := 10) dX7_noTextGoesOn_7 fX7_99 rfl rfl rfl (fun r2 => ?_)
  obtain ⟨σ3, eσ3⟩ : ∃ z, z = sI σ1 27 4 (gI σ1 27 10) := ⟨_, rfl⟩
  replace h := h σ3 eσ3
  refine ga_putI (kI := 4) dX7_noTextGoesOn_10 fX7_46 pX7_4 rfl rfl rfl r2 eσ3 ?_
  refine ga_iconst dX7_noTextGoesOn_13 ?_
  exact ga_bret dX7_noTextGoesOn_14 rfl (Or.inl rfl) h
abbrev eX7_limitOf (l : Launch) (G : gG) (x0 : Int) (σ : gS) (Q : Int → gS → Prop) : Prop := gEi l G mX7_limitOf [vI x0] σ Q
set_option maxRecDepth 100000 in
set_option maxHeartbeats 4000000 in
theorem vX7_limitOf {l : Launch} {G : gG} (x0 : Int) (rx0 : gR x0) (σ : gS) (Q : Int → gS → Prop) (h : (¬ x0 = 0 → (∀ v4 : Int, v4 = (if x0 = 1 then 40 else 8) →
    Q v4 σ)) ∧
  (x0 = 0 → Q 600 σ)) : eX7_limitOf l G x0 σ Q := by
  refine ga_entry rfl (Nat.le_of_ble_eq_true rfl) ?_
  show gAt l G mX7_limitOf (gQi G Q) 0 [(0, vI x0)] [] σ
  refine ga_iload_n 0 dX7_limitOf_0 rfl rfl ?_
  obtain ⟨ht, hf⟩ := h
  refine ga_if_ne (tgt := 8) dX7_limitOf_1 (by decide) rx0 (fun q1 => ?_) (fun q1 => ?_)
  · replace q1 : ¬ x0 = 0 := q1
    have h := ht q1
    refine ga_iload_n 0 dX7_limitOf_8 rfl rfl ?_
    refine ga_iconst dX7_limitOf_9 ?_
    have kJ2 : ∀ v4 : Int, gR v4 → v4 = (if x0 = 1 then 40 else 8) → gAt l G mX7_limitOf (gQi G Q) 20 [(0, vI x0)] [vI v4] σ := by
      intro v4 rv4 ev4
      replace h := h v4 ev4
      exact ga_iret dX7_limitOf_20 rfl rv4 h
    replace h : (¬ x0 = 1 → True) ∧
    (x0 = 1 → True) := by repeat (first | exact True.intro | apply And.intro | intro _)
    obtain ⟨ht, hf⟩ := h
    refine ga_icmp_ne (tgt := 18) dX7_limitOf_10 (by decide) rx0 (by decide) (fun q3 => ?_) (fun q3 => ?_)
    · replace q3 : ¬ x0 = 1 := q3
      have h := ht q3
      refine ga_bipush dX7_limitOf_18 (by decide) ?_
      exact kJ2 8 (by decide) (by rw [if_neg q3])
    · replace q3 : x0 = 1 := (Decidable.not_not.mp q3)
      have h := hf q3
      refine ga_bipush dX7_limitOf_13 (by decide) ?_
      refine ga_goto (tgt := 20) dX7_limitOf_15 (by decide) ?_
      exact kJ2 40 (by decide) (by rw [if_pos q3])
  · replace q1 : x0 = 0 := (Decidable.not_not.mp q1)
    have h := hf q1
    refine ga_sipush dX7_limitOf_4 (by decide) ?_
    exact ga_iret dX7_limitOf_7 rfl (by decide) h
abbrev eX7_noteFault (l : Launch) (G : gG) (x1 : Int) (σ : gS) (Q : gS → Prop) : Prop := gEv l G mX7_noteFault [.ref (G.2.1 27), vI x1] σ Q
set_option maxRecDepth 100000 in
set_option maxHeartbeats 4000000 in
theorem vX7_noteFault {l : Launch} {G : gG} (x1 : Int) (rx1 : gR x1) (σ : gS) (Q : gS → Prop) (h : (¬ (gI σ 27 3) = 0 → Q σ) ∧
  ((gI σ 27 3) = 0 → ∀ σ3, σ3 = sI σ 27 3 x1 →
    ∀ σ5, σ5 = sI σ3 27 4 (gI σ3 27 10) →
    Q σ5)) : eX7_noteFault l G x1 σ Q := by
  refine ga_entry rfl (Nat.le_of_ble_eq_true rfl) ?_
  show gAt l G mX7_noteFault (gQv G Q) 0 [(0, .ref (G.2.1 27)), (1, vI x1)] [] σ
  refine ga_aload_n 0 dX7_noteFault_0 rfl rfl ?_
  refine ga_getI (kI := 3) dX7_noteFault_1 fX7_43 rfl rfl rfl (fun r1 => ?_)
  obtain ⟨ht, hf⟩ := h
  refine ga_if_ne (tgt := 20) dX7_noteFault_4 (by decide) r1 (fun q2 => ?_) (fun q2 => ?_)
  · replace q2 : ¬ (gI σ 27 3) = 0 := q2
    have h := ht q2
    exact ga_vret dX7_noteFault_20 rfl h
  · replace q2 : (gI σ 27 3) = 0 := (Decidable.not_not.mp q2)
    have h := hf q2
    refine ga_aload_n 0 dX7_noteFault_7 rfl rfl ?_
    refine ga_iload_n 1 dX7_noteFault_8 rfl rfl ?_
    obtain ⟨σ3, eσ3⟩ : ∃ z, z = sI σ 27 3 x1 := ⟨_, rfl⟩
    replace h := h σ3 eσ3
    refine ga_putI (kI := 3) dX7_noteFault_9 fX7_43 pX7_3 rfl rfl rfl rx1 eσ3 ?_
    refine ga_aload_n 0 dX7_noteFault_12 rfl rfl ?_
    refine ga_aload_n 0 dX7_noteFault_13 rfl rfl ?_
    refine ga_getI (kI := 10) dX7_noteFault_14 fX7_99 rfl rfl rfl (fun r4 => ?_)
    obtain ⟨σ5, eσ5⟩ : ∃ z, z = sI σ3 27 4 (gI σ3 27 10) := ⟨_, rfl⟩
    replace h := h σ5 eσ5
    refine ga_putI (kI := 4) dX7_noteFault_17 fX7_46 pX7_4 rfl rfl rfl r4 eσ5 ?_
    exact ga_vret dX7_noteFault_20 rfl h
abbrev eX7_takeNumber (l : Launch) (G : gG) (x1 : Int) (x2 : Int) (σ : gS) (Q : gS → Prop) : Prop := gEv l G mX7_takeNumber [.ref (G.2.1 27), vI x1, vI x2] σ Q
set_option maxRecDepth 100000 in
set_option maxHeartbeats 4000000 in
theorem vX7_takeNumber {l : Launch} {G : gG} (x1 : Int) (x2 : Int) (rx1 : gR x1) (rx2 : gR x2) (σ : gS) (Q : gS → Prop) (h : (0 ≤ ((x1 * 3) + x2) ∧ ((x1 * 3) + x2) < 33) ∧ (gR (gst 2 ((x1 * 3) + x2))) ∧ ((gI σ 27 11) < (gst 2 ((x1 * 3) + x2)) → eX7_noteFault l G 2 σ (fun σ5 =>
    (0 ≤ x2 ∧ x2 < 3) ∧ ∀ σ9, σ9 = sI σ5 30 x2 (gI σ5 27 11) →
    Q σ9)) ∧
  ((gst 2 ((x1 * 3) + x2)) ≤ (gI σ 27 11) → (gR (gst 3 ((x1 * 3) + x2))) ∧ ((gI σ 27 11) ≤ (gst 3 ((x1 * 3) + x2)) → (0 ≤ x2 ∧ x2 < 3) ∧ ∀ σ15, σ15 = sI σ 30 x2 (gI σ 27 11) →
      Q σ15) ∧
    ((gst 3 ((x1 * 3) + x2)) < (gI σ 27 11) → eX7_noteFault l G 2 σ (fun σ16 =>
      (0 ≤ x2 ∧ x2 < 3) ∧ ∀ σ20, σ20 = sI σ16 30 x2 (gI σ16 27 11) →
      Q σ20)))) : eX7_takeNumber l G x1 x2 σ Q := by
  refine ga_entry rfl (Nat.le_of_ble_eq_true rfl) ?_
  show gAt l G mX7_takeNumber (gQv G Q) 0 [(0, .ref (G.2.1 27)), (1, vI x1), (2, vI x2)] [] σ
  refine ga_iload_n 1 dX7_takeNumber_0 rfl rfl ?_
  refine ga_iconst dX7_takeNumber_1 ?_
  refine ga_imul dX7_takeNumber_2 ?_
  refine ga_iload_n 2 dX7_takeNumber_3 rfl rfl ?_
  refine ga_iadd dX7_takeNumber_4 ?_
  refine ga_istore_n (ls' := [(3, vI ((x1 * 3) + x2)), (0, .ref (G.2.1 27)), (1, vI x1), (2, vI x2)]) dX7_takeNumber_5 rfl (by decide) rfl ?_
  refine ga_aload_n 1 dX7_takeNumber_6 rfl rfl ?_
  refine ga_getI (kI := 11) dX7_takeNumber_7 fX7_84 rfl rfl rfl (fun r1 => ?_)
  refine ga_gets (k := 2) dX7_takeNumber_10 rfl wX7_87 ?_
  refine ga_iload_n 0 dX7_takeNumber_13 rfl rfl ?_
  obtain ⟨i2, h⟩ := h
  refine ga_sald (k := 2) (nI := 33) dX7_takeNumber_14 rfl rfl i2 ?_
  obtain ⟨r3, h⟩ := h
  obtain ⟨ht, hf⟩ := h
  refine ga_icmp_lt (tgt := 30) dX7_takeNumber_15 (by decide) r1 r3 (fun q4 => ?_) (fun q4 => ?_)
  · replace q4 : (gI σ 27 11) < (gst 2 ((x1 * 3) + x2)) := q4
    have h := ht q4
    refine ga_aload_n 1 dX7_takeNumber_30 rfl rfl ?_
    refine ga_iconst dX7_takeNumber_31 ?_
    refine ga_callVv (z := mX7_noteFault) (As := [vI 2]) (rest := []) dX7_takeNumber_32 wX7_70 qX7_takeNumber_X7_noteFault rfl ⟨_, rfl, rfl⟩ rfl rfl (Nat.le_of_ble_eq_true rfl) (gEv_mono h (fun σ5 h => ?_))
    refine ga_aload_n 1 dX7_takeNumber_35 rfl rfl ?_
    refine ga_getR (kI := 5) (r := 30) dX7_takeNumber_36 fX7_20 rfl rfl (by decide) rfl ?_
    refine ga_iload_n 3 dX7_takeNumber_39 rfl rfl ?_
    refine ga_aload_n 1 dX7_takeNumber_40 rfl rfl ?_
    refine ga_getI (kI := 11) dX7_takeNumber_41 fX7_84 rfl rfl rfl (fun r7 => ?_)
    obtain ⟨i8, h⟩ := h
    obtain ⟨σ9, eσ9⟩ : ∃ z, z = sI σ5 30 x2 (gI σ5 27 11) := ⟨_, rfl⟩
    replace h := h σ9 eσ9
    refine ga_iast (nI := 3) dX7_takeNumber_44 rfl rfl i8 r7 eσ9 ?_
    exact ga_vret dX7_takeNumber_45 rfl h
  · replace q4 : (gst 2 ((x1 * 3) + x2)) ≤ (gI σ 27 11) := (Int.not_lt.mp q4)
    have h := hf q4
    refine ga_aload_n 1 dX7_takeNumber_18 rfl rfl ?_
    refine ga_getI (kI := 11) dX7_takeNumber_19 fX7_84 rfl rfl rfl (fun r10 => ?_)
    refine ga_gets (k := 3) dX7_takeNumber_22 rfl wX7_90 ?_
    refine ga_iload_n 0 dX7_takeNumber_25 rfl rfl ?_
    refine ga_sald (k := 3) (nI := 33) dX7_takeNumber_26 rfl rfl i2 ?_
    obtain ⟨r11, h⟩ := h
    obtain ⟨ht, hf⟩ := h
    refine ga_icmp_le (tgt := 35) dX7_takeNumber_27 (by decide) r10 r11 (fun q12 => ?_) (fun q12 => ?_)
    · replace q12 : (gI σ 27 11) ≤ (gst 3 ((x1 * 3) + x2)) := q12
      have h := ht q12
      refine ga_aload_n 1 dX7_takeNumber_35 rfl rfl ?_
      refine ga_getR (kI := 5) (r := 30) dX7_takeNumber_36 fX7_20 rfl rfl (by decide) rfl ?_
      refine ga_iload_n 3 dX7_takeNumber_39 rfl rfl ?_
      refine ga_aload_n 1 dX7_takeNumber_40 rfl rfl ?_
      refine ga_getI (kI := 11) dX7_takeNumber_41 fX7_84 rfl rfl rfl (fun r13 => ?_)
      obtain ⟨i14, h⟩ := h
      obtain ⟨σ15, eσ15⟩ : ∃ z, z = sI σ 30 x2 (gI σ 27 11) := ⟨_, rfl⟩
      replace h := h σ15 eσ15
      refine ga_iast (nI := 3) dX7_takeNumber_44 rfl rfl i14 r13 eσ15 ?_
      exact ga_vret dX7_takeNumber_45 rfl h
    · replace q12 : (gst 3 ((x1 * 3) + x2)) < (gI σ 27 11) := (Int.not_le.mp q12)
      have h := hf q12
      refine ga_aload_n 1 dX7_takeNumber_30 rfl rfl ?_
      refine ga_iconst dX7_takeNumber_31 ?_
      refine ga_callVv (z := mX7_noteFault) (As := [vI 2]) (rest := []) dX7_takeNumber_32 wX7_70 qX7_takeNumber_X7_noteFault rfl ⟨_, rfl, rfl⟩ rfl rfl (Nat.le_of_ble_eq_true rfl) (gEv_mono h (fun σ16 h => ?_))
      refine ga_aload_n 1 dX7_takeNumber_35 rfl rfl ?_
      refine ga_getR (kI := 5) (r := 30) dX7_takeNumber_36 fX7_20 rfl rfl (by decide) rfl ?_
      refine ga_iload_n 3 dX7_takeNumber_39 rfl rfl ?_
      refine ga_aload_n 1 dX7_takeNumber_40 rfl rfl ?_
      refine ga_getI (kI := 11) dX7_takeNumber_41 fX7_84 rfl rfl rfl (fun r18 => ?_)
      obtain ⟨i19, h⟩ := h
      obtain ⟨σ20, eσ20⟩ : ∃ z, z = sI σ16 30 x2 (gI σ16 27 11) := ⟨_, rfl⟩
      replace h := h σ20 eσ20
      refine ga_iast (nI := 3) dX7_takeNumber_44 rfl rfl i19 r18 eσ20 ?_
      exact ga_vret dX7_takeNumber_45 rfl h
abbrev eX7_keepLine (l : Launch) (G : gG) (x1 : Int) (x2 : Int) (σ : gS) (Q : gS → Prop) : Prop := gEv l G mX7_keepLine [.ref (G.2.1 27), vI x1, vI x2] σ Q
set_option maxRecDepth 100000 in
set_option maxHeartbeats 4000000 in
theorem vX7_keepLine {l : Launch} {G : gG} (x1 : Int) (x2 : Int) (rx1 : gR x1) (rx2 : gR x2) (σ : gS) (Q : gS → Prop) (h : (¬ x1 = 0 → eX7_limitOf l G x1 σ (fun v5 σ3 => gR v5 →
    ((gI σ 27 2) < v5 → ((¬ x1 = 1 → (gR (10 - x2)) ∧ True) ∧
      (x1 = 1 → (gR (x2 - 4)) ∧ True)) ∧
      (∀ v12 : Int, v12 = (if x1 = 1 then (x2 - 4) else (10 - x2)) →
      (0 ≤ ((gI σ3 27 2) * 4) ∧ ((gI σ3 27 2) * 4) < 160) ∧ ∀ σ14, σ14 = sI σ3 29 ((gI σ3 27 2) * 4) v12 →
        ((0 : Int) ≤ 0 ∧ (0 : Int) ≤ (((gI σ3 27 2) * 4) + 1) ∧ (0 : Int) ≤ 3 ∧ (0 : Int) + 3 ≤ 3 ∧ ((((gI σ3 27 2) * 4) + 1) : Int) + 3 ≤ 160) ∧ ∀ σ16, σ16 = cpI σ14 30 0 29 (((gI σ3 27 2) * 4) + 1) 3 →
        (gR ((gI σ16 27 2) + 1)) ∧ ∀ σ18, σ18 = sI σ16 27 2 ((gI σ16 27 2) + 1) →
        Q σ18)) ∧
    (v5 ≤ (gI σ 27 2) → Q σ3))) ∧
  (x1 = 0 → (0 ≤ x2 ∧ x2 < 4) ∧ ∀ σ22, σ22 = sI σ 28 x2 (gI σ 30 0) →
    Q σ22)) : eX7_keepLine l G x1 x2 σ Q := by
  refine ga_entry rfl (Nat.le_of_ble_eq_true rfl) ?_
  show gAt l G mX7_keepLine (gQv G Q) 0 [(0, .ref (G.2.1 27)), (1, vI x1), (2, vI x2)] [] σ
  refine ga_iload_n 1 dX7_keepLine_0 rfl rfl ?_
  obtain ⟨ht, hf⟩ := h
  refine ga_if_ne (tgt := 17) dX7_keepLine_1 (by decide) rx1 (fun q1 => ?_) (fun q1 => ?_)
  · replace q1 : ¬ x1 = 0 := q1
    have h := ht q1
    refine ga_aload_n 0 dX7_keepLine_17 rfl rfl ?_
    refine ga_getI (kI := 2) dX7_keepLine_18 fX7_40 rfl rfl rfl (fun r2 => ?_)
    refine ga_iload_n 1 dX7_keepLine_21 rfl rfl ?_
    refine ga_callSi (z := mX7_limitOf) (As := [vI x1]) (rest := [vI (gI σ 27 2)]) dX7_keepLine_22 wX7_67 qX7_keepLine_X7_limitOf rfl rfl (Nat.le_of_ble_eq_true rfl) (gEi_mono h (fun v5 σ3 h r4 => ?_))
    replace h := h r4
    obtain ⟨ht, hf⟩ := h
    refine ga_icmp_lt (tgt := 29) dX7_keepLine_25 (by decide) r2 r4 (fun q6 => ?_) (fun q6 => ?_)
    · replace q6 : (gI σ 27 2) < v5 := q6
      have h := ht q6
      refine ga_aload_n 0 dX7_keepLine_29 rfl rfl ?_
      refine ga_getI (kI := 2) dX7_keepLine_30 fX7_40 rfl rfl rfl (fun r7 => ?_)
      refine ga_iconst dX7_keepLine_33 ?_
      refine ga_imul dX7_keepLine_34 ?_
      refine ga_istore_n (ls' := [(3, vI ((gI σ3 27 2) * 4)), (0, .ref (G.2.1 27)), (1, vI x1), (2, vI x2)]) dX7_keepLine_35 rfl (by decide) rfl ?_
      refine ga_aload_n 1 dX7_keepLine_36 rfl rfl ?_
      refine ga_getR (kI := 1) (r := 29) dX7_keepLine_37 fX7_17 rfl rfl (by decide) rfl ?_
      refine ga_iload_n 0 dX7_keepLine_40 rfl rfl ?_
      refine ga_iload_n 2 dX7_keepLine_41 rfl rfl ?_
      refine ga_iconst dX7_keepLine_42 ?_
      obtain ⟨hob, h⟩ := h
      have kJ8 : ∀ v12 : Int, gR v12 → v12 = (if x1 = 1 then (x2 - 4) else (10 - x2)) → gAt l G mX7_keepLine (gQv G Q) 56 [(3, vI ((gI σ3 27 2) * 4)), (0, .ref (G.2.1 27)), (1, vI x1), (2, vI x2)] [vI v12, vI ((gI σ3 27 2) * 4), .ref (G.2.1 29)] σ3 := by
        intro v12 rv12 ev12
        replace h := h v12 ev12
        obtain ⟨i13, h⟩ := h
        obtain ⟨σ14, eσ14⟩ : ∃ z, z = sI σ3 29 ((gI σ3 27 2) * 4) v12 := ⟨_, rfl⟩
        replace h := h σ14 eσ14
        refine ga_iast (nI := 160) dX7_keepLine_56 rfl rfl i13 rv12 eσ14 ?_
        refine ga_aload_n 1 dX7_keepLine_57 rfl rfl ?_
        refine ga_getR (kI := 5) (r := 30) dX7_keepLine_58 fX7_20 rfl rfl (by decide) rfl ?_
        refine ga_iconst dX7_keepLine_61 ?_
        refine ga_aload_n 1 dX7_keepLine_62 rfl rfl ?_
        refine ga_getR (kI := 1) (r := 29) dX7_keepLine_63 fX7_17 rfl rfl (by decide) rfl ?_
        refine ga_iload_n 0 dX7_keepLine_66 rfl rfl ?_
        refine ga_iconst dX7_keepLine_67 ?_
        refine ga_iadd dX7_keepLine_68 ?_
        refine ga_iconst dX7_keepLine_69 ?_
        obtain ⟨o15, h⟩ := h
        obtain ⟨σ16, eσ16⟩ : ∃ z, z = cpI σ14 30 0 29 (((gI σ3 27 2) * 4) + 1) 3 := ⟨_, rfl⟩
        replace h := h σ16 eσ16
        refine ga_copy dX7_keepLine_70 wX7_93 rfl rfl (Or.inl rfl) o15 (fun e => by cases e) (by decide) (Nat.le_of_ble_eq_true rfl) eσ16 ?_
        refine ga_aload_n 1 dX7_keepLine_73 rfl rfl ?_
        refine ga_dup dX7_keepLine_74 rfl ?_
        refine ga_getI (kI := 2) dX7_keepLine_75 fX7_40 rfl rfl rfl (fun r17 => ?_)
        refine ga_iconst dX7_keepLine_78 ?_
        refine ga_iadd dX7_keepLine_79 ?_
        obtain ⟨r19, h⟩ := h
        obtain ⟨σ18, eσ18⟩ : ∃ z, z = sI σ16 27 2 ((gI σ16 27 2) + 1) := ⟨_, rfl⟩
        replace h := h σ18 eσ18
        refine ga_putI (kI := 2) dX7_keepLine_80 fX7_40 pX7_2 rfl rfl rfl r19 eσ18 ?_
        exact ga_vret dX7_keepLine_83 rfl h
      replace h := hob
      obtain ⟨ht, hf⟩ := h
      refine ga_icmp_ne (tgt := 52) dX7_keepLine_43 (by decide) rx1 (by decide) (fun q9 => ?_) (fun q9 => ?_)
      · replace q9 : ¬ x1 = 1 := q9
        have h := ht q9
        refine ga_bipush dX7_keepLine_52 (by decide) ?_
        refine ga_iload_n 3 dX7_keepLine_54 rfl rfl ?_
        refine ga_isub dX7_keepLine_55 ?_
        obtain ⟨r10, h⟩ := h
        exact kJ8 (10 - x2) r10 (by rw [if_neg q9])
      · replace q9 : x1 = 1 := (Decidable.not_not.mp q9)
        have h := hf q9
        refine ga_iload_n 3 dX7_keepLine_46 rfl rfl ?_
        refine ga_iconst dX7_keepLine_47 ?_
        refine ga_isub dX7_keepLine_48 ?_
        refine ga_goto (tgt := 56) dX7_keepLine_49 (by decide) ?_
        obtain ⟨r11, h⟩ := h
        exact kJ8 (x2 - 4) r11 (by rw [if_pos q9])
    · replace q6 : v5 ≤ (gI σ 27 2) := (Int.not_lt.mp q6)
      have h := hf q6
      exact ga_vret dX7_keepLine_28 rfl h
  · replace q1 : x1 = 0 := (Decidable.not_not.mp q1)
    have h := hf q1
    refine ga_aload_n 0 dX7_keepLine_4 rfl rfl ?_
    refine ga_getR (kI := 0) (r := 28) dX7_keepLine_5 fX7_9 rfl rfl (by decide) rfl ?_
    refine ga_iload_n 2 dX7_keepLine_8 rfl rfl ?_
    refine ga_aload_n 0 dX7_keepLine_9 rfl rfl ?_
    refine ga_getR (kI := 5) (r := 30) dX7_keepLine_10 fX7_20 rfl rfl (by decide) rfl ?_
    refine ga_iconst dX7_keepLine_13 ?_
    refine ga_iald (nI := 3) dX7_keepLine_14 rfl rfl (by decide) (fun r20 => ?_)
    obtain ⟨i21, h⟩ := h
    obtain ⟨σ22, eσ22⟩ : ∃ z, z = sI σ 28 x2 (gI σ 30 0) := ⟨_, rfl⟩
    replace h := h σ22 eσ22
    refine ga_iast (nI := 4) dX7_keepLine_15 rfl rfl i21 r20 eσ22 ?_
    exact ga_vret dX7_keepLine_16 rfl h
abbrev eX7_readLine (l : Launch) (G : gG) (x1 : Int) (σ : gS) (Q : Int → gS → Prop) : Prop := gEz l G mX7_readLine [.ref (G.2.1 27), vI x1] σ Q
abbrev kX7_readLine_38 (l : Launch) (G : gG)  (x1 : Int) (x2 : Int) (x3 : Int) (σ : gS) (Q : Int → gS → Prop) : Prop := gAt l G mX7_readLine (gQz G Q) 38 [(0, .ref (G.2.1 27)), (1, vI x1), (2, vI x2), (3, vI x3)] [] σ
set_option maxRecDepth 100000 in
set_option maxHeartbeats 4000000 in
theorem vX7_readLine {l : Launch} {G : gG} (x1 : Int) (rx1 : gR x1) (σ : gS) (Q : Int → gS → Prop) (h : eX7_wordHere l G x1 σ (fun v3 σ1 => gR v3 →
  (¬ v3 = (-1) → eX7_limitOf l G x1 σ1 (fun v8 σ6 => gR v8 →
    ((gI σ1 27 2) < v8 → eX7_nextToken l G  σ6 (fun σ10 =>
      kX7_readLine_38 l G  x1 v3 0 σ10 Q)) ∧
    (v8 ≤ (gI σ1 27 2) → eX7_noteFault l G 3 σ6 (fun σ12 =>
      eX7_nextToken l G  σ12 (fun σ14 =>
      kX7_readLine_38 l G  x1 v3 0 σ14 Q))))) ∧
  (v3 = (-1) → eX7_noTextGoesOn l G  σ1 (fun v18 σ16 => (v18 = 0 ∨ v18 = 1) →
    Q v18 σ16)))) : eX7_readLine l G x1 σ Q := by
  refine ga_entry rfl (Nat.le_of_ble_eq_true rfl) ?_
  show gAt l G mX7_readLine (gQz G Q) 0 [(0, .ref (G.2.1 27)), (1, vI x1)] [] σ
  refine ga_aload_n 0 dX7_readLine_0 rfl rfl ?_
  refine ga_iload_n 1 dX7_readLine_1 rfl rfl ?_
  refine ga_callVi (z := mX7_wordHere) (As := [vI x1]) (rest := []) dX7_readLine_2 wX7_59 qX7_readLine_X7_wordHere rfl ⟨_, rfl, rfl⟩ rfl rfl (Nat.le_of_ble_eq_true rfl) (gEi_mono h (fun v3 σ1 h r2 => ?_))
  replace h := h r2
  refine ga_istore_n (ls' := [(2, vI v3), (0, .ref (G.2.1 27)), (1, vI x1)]) dX7_readLine_5 rfl (by decide) rfl ?_
  refine ga_iload_n 0 dX7_readLine_6 rfl rfl ?_
  refine ga_iconst dX7_readLine_7 ?_
  obtain ⟨ht, hf⟩ := h
  refine ga_icmp_ne (tgt := 16) dX7_readLine_8 (by decide) r2 (by decide) (fun q4 => ?_) (fun q4 => ?_)
  · replace q4 : ¬ v3 = (-1) := q4
    have h := ht q4
    refine ga_aload_n 1 dX7_readLine_16 rfl rfl ?_
    refine ga_getI (kI := 2) dX7_readLine_17 fX7_40 rfl rfl rfl (fun r5 => ?_)
    refine ga_iload_n 2 dX7_readLine_20 rfl rfl ?_
    refine ga_callSi (z := mX7_limitOf) (As := [vI x1]) (rest := [vI (gI σ1 27 2)]) dX7_readLine_21 wX7_67 qX7_readLine_X7_limitOf rfl rfl (Nat.le_of_ble_eq_true rfl) (gEi_mono h (fun v8 σ6 h r7 => ?_))
    replace h := h r7
    obtain ⟨ht, hf⟩ := h
    refine ga_icmp_lt (tgt := 32) dX7_readLine_24 (by decide) r5 r7 (fun q9 => ?_) (fun q9 => ?_)
    · replace q9 : (gI σ1 27 2) < v8 := q9
      have h := ht q9
      refine ga_aload_n 1 dX7_readLine_32 rfl rfl ?_
      refine ga_callVv (z := mX7_nextToken) (As := []) (rest := []) dX7_readLine_33 wX7_49 qX7_readLine_X7_nextToken rfl ⟨_, rfl, rfl⟩ rfl rfl (Nat.le_of_ble_eq_true rfl) (gEv_mono h (fun σ10 h => ?_))
      refine ga_iconst dX7_readLine_36 ?_
      refine ga_istore_n (ls' := [(3, vI 0), (2, vI v3), (0, .ref (G.2.1 27)), (1, vI x1)]) dX7_readLine_37 rfl (by decide) rfl ?_
      exact ga_sub [2, 3, 1, 0] rfl h
    · replace q9 : v8 ≤ (gI σ1 27 2) := (Int.not_lt.mp q9)
      have h := hf q9
      refine ga_aload_n 1 dX7_readLine_27 rfl rfl ?_
      refine ga_iconst dX7_readLine_28 ?_
      refine ga_callVv (z := mX7_noteFault) (As := [vI 3]) (rest := []) dX7_readLine_29 wX7_70 qX7_readLine_X7_noteFault rfl ⟨_, rfl, rfl⟩ rfl rfl (Nat.le_of_ble_eq_true rfl) (gEv_mono h (fun σ12 h => ?_))
      refine ga_aload_n 1 dX7_readLine_32 rfl rfl ?_
      refine ga_callVv (z := mX7_nextToken) (As := []) (rest := []) dX7_readLine_33 wX7_49 qX7_readLine_X7_nextToken rfl ⟨_, rfl, rfl⟩ rfl rfl (Nat.le_of_ble_eq_true rfl) (gEv_mono h (fun σ14 h => ?_))
      refine ga_iconst dX7_readLine_36 ?_
      refine ga_istore_n (ls' := [(3, vI 0), (2, vI v3), (0, .ref (G.2.1 27)), (1, vI x1)]) dX7_readLine_37 rfl (by decide) rfl ?_
      exact ga_sub [2, 3, 1, 0] rfl h
  · replace q4 : v3 = (-1) := (Decidable.not_not.mp q4)
    have h := hf q4
    refine ga_aload_n 1 dX7_readLine_11 rfl rfl ?_
    refine ga_callVz (z := mX7_noTextGoesOn) (As := []) (rest := []) dX7_readLine_12 wX7_63 qX7_readLine_X7_noTextGoesOn rfl ⟨_, rfl, rfl⟩ rfl rfl (Nat.le_of_ble_eq_true rfl) (gEz_mono h (fun v18 σ16 h r17 => ?_))
    replace h := h r17
    exact ga_bret dX7_readLine_15 rfl r17 h
set_option maxRecDepth 100000 in
set_option maxHeartbeats 4000000 in
theorem vX7_readLine_38 {l : Launch} {G : gG}  (x1 : Int) (x2 : Int) (x3 : Int) (rx1 : gR x1) (rx2 : gR x2) (rx3 : gR x3) (σ : gS) (Q : Int → gS → Prop) (h : (3 ≤ x3 → ((gI σ 27 9) = 3 → eX7_nextToken l G  σ (fun σ22 =>
      eX7_keepLine l G x1 x2 σ22 (fun σ24 =>
      Q 1 σ24))) ∧
    (¬ (gI σ 27 9) = 3 → eX7_noTextGoesOn l G  σ (fun v28 σ26 => (v28 = 0 ∨ v28 = 1) →
      Q v28 σ26))) ∧
  (x3 < 3 → (0 ≤ x3 ∧ x3 < 3) ∧ ∀ σ30, σ30 = sI σ 30 x3 (-1) →
    (0 ≤ x2 ∧ x2 < 11) ∧ (gR (gst 1 x2)) ∧ ((gst 1 x2) ≤ x3 → kX7_readLine_38 l G  x1 x2 (x3 + 1) σ30 Q) ∧
    (x3 < (gst 1 x2) → ((gI σ30 27 9) = 2 → eX7_takeNumber l G x2 x3 σ30 (fun σ36 =>
        eX7_nextToken l G  σ36 (fun σ38 =>
        kX7_readLine_38 l G  x1 x2 (x3 + 1) σ38 Q))) ∧
      (¬ (gI σ30 27 9) = 2 → eX7_noTextGoesOn l G  σ30 (fun v42 σ40 => (v42 = 0 ∨ v42 = 1) →
        Q v42 σ40))))) : kX7_readLine_38 l G  x1 x2 x3 σ Q := by
  refine ga_iload_n 3 dX7_readLine_38 rfl rfl ?_
  refine ga_iconst dX7_readLine_39 ?_
  obtain ⟨ht, hf⟩ := h
  refine ga_icmp_ge (tgt := 88) dX7_readLine_40 (by decide) rx3 (by decide) (fun q19 => ?_) (fun q19 => ?_)
  · replace q19 : 3 ≤ x3 := q19
    have h := ht q19
    refine ga_aload_n 0 dX7_readLine_88 rfl rfl ?_
    refine ga_getI (kI := 9) dX7_readLine_89 fX7_52 rfl rfl rfl (fun r20 => ?_)
    refine ga_iconst dX7_readLine_92 ?_
    obtain ⟨ht, hf⟩ := h
    refine ga_icmp_eq (tgt := 101) dX7_readLine_93 (by decide) r20 (by decide) (fun q21 => ?_) (fun q21 => ?_)
    · replace q21 : (gI σ 27 9) = 3 := q21
      have h := ht q21
      refine ga_aload_n 0 dX7_readLine_101 rfl rfl ?_
      refine ga_callVv (z := mX7_nextToken) (As := []) (rest := []) dX7_readLine_102 wX7_49 qX7_readLine_X7_nextToken rfl ⟨_, rfl, rfl⟩ rfl rfl (Nat.le_of_ble_eq_true rfl) (gEv_mono h (fun σ22 h => ?_))
      refine ga_aload_n 0 dX7_readLine_105 rfl rfl ?_
      refine ga_iload_n 1 dX7_readLine_106 rfl rfl ?_
      refine ga_iload_n 2 dX7_readLine_107 rfl rfl ?_
      refine ga_callVv (z := mX7_keepLine) (As := [vI x1, vI x2]) (rest := []) dX7_readLine_108 wX7_81 qX7_readLine_X7_keepLine rfl ⟨_, rfl, rfl⟩ rfl rfl (Nat.le_of_ble_eq_true rfl) (gEv_mono h (fun σ24 h => ?_))
      refine ga_iconst dX7_readLine_111 ?_
      exact ga_bret dX7_readLine_112 rfl (Or.inr rfl) h
    · replace q21 : ¬ (gI σ 27 9) = 3 := q21
      have h := hf q21
      refine ga_aload_n 0 dX7_readLine_96 rfl rfl ?_
      refine ga_callVz (z := mX7_noTextGoesOn) (As := []) (rest := []) dX7_readLine_97 wX7_63 qX7_readLine_X7_noTextGoesOn rfl ⟨_, rfl, rfl⟩ rfl rfl (Nat.le_of_ble_eq_true rfl) (gEz_mono h (fun v28 σ26 h r27 => ?_))
      replace h := h r27
      exact ga_bret dX7_readLine_100 rfl r27 h
  · replace q19 : x3 < 3 := (Int.not_le.mp q19)
    have h := hf q19
    refine ga_aload_n 0 dX7_readLine_43 rfl rfl ?_
    refine ga_getR (kI := 5) (r := 30) dX7_readLine_44 fX7_20 rfl rfl (by decide) rfl ?_
    refine ga_iload_n 3 dX7_readLine_47 rfl rfl ?_
    refine ga_iconst dX7_readLine_48 ?_
    obtain ⟨i29, h⟩ := h
    obtain ⟨σ30, eσ30⟩ : ∃ z, z = sI σ 30 x3 (-1) := ⟨_, rfl⟩
    replace h := h σ30 eσ30
    refine ga_iast (nI := 3) dX7_readLine_49 rfl rfl i29 (by decide) eσ30 ?_
    refine ga_iload_n 3 dX7_readLine_50 rfl rfl ?_
    refine ga_gets (k := 1) dX7_readLine_51 rfl wX7_74 ?_
    refine ga_iload_n 2 dX7_readLine_54 rfl rfl ?_
    obtain ⟨i31, h⟩ := h
    refine ga_sald (k := 1) (nI := 11) dX7_readLine_55 rfl rfl i31 ?_
    obtain ⟨r32, h⟩ := h
    obtain ⟨ht, hf⟩ := h
    refine ga_icmp_ge (tgt := 82) dX7_readLine_56 (by decide) rx3 r32 (fun q33 => ?_) (fun q33 => ?_)
    · replace q33 : (gst 1 x2) ≤ x3 := q33
      have h := ht q33
      refine ga_iinc (ls' := [(3, vI (x3 + 1)), (0, .ref (G.2.1 27)), (1, vI x1), (2, vI x2)]) 3 dX7_readLine_82 rfl (by decide) rfl ?_
      refine ga_goto (tgt := 38) dX7_readLine_85 (by decide) ?_
      exact ga_sub [1, 2, 3, 0] rfl h
    · replace q33 : x3 < (gst 1 x2) := (Int.not_le.mp q33)
      have h := hf q33
      refine ga_aload_n 0 dX7_readLine_59 rfl rfl ?_
      refine ga_getI (kI := 9) dX7_readLine_60 fX7_52 rfl rfl rfl (fun r34 => ?_)
      refine ga_iconst dX7_readLine_63 ?_
      obtain ⟨ht, hf⟩ := h
      refine ga_icmp_eq (tgt := 72) dX7_readLine_64 (by decide) r34 (by decide) (fun q35 => ?_) (fun q35 => ?_)
      · replace q35 : (gI σ30 27 9) = 2 := q35
        have h := ht q35
        refine ga_aload_n 0 dX7_readLine_72 rfl rfl ?_
        refine ga_iload_n 2 dX7_readLine_73 rfl rfl ?_
        refine ga_iload_n 3 dX7_readLine_74 rfl rfl ?_
        refine ga_callVv (z := mX7_takeNumber) (As := [vI x2, vI x3]) (rest := []) dX7_readLine_75 wX7_77 qX7_readLine_X7_takeNumber rfl ⟨_, rfl, rfl⟩ rfl rfl (Nat.le_of_ble_eq_true rfl) (gEv_mono h (fun σ36 h => ?_))
        refine ga_aload_n 0 dX7_readLine_78 rfl rfl ?_
        refine ga_callVv (z := mX7_nextToken) (As := []) (rest := []) dX7_readLine_79 wX7_49 qX7_readLine_X7_nextToken rfl ⟨_, rfl, rfl⟩ rfl rfl (Nat.le_of_ble_eq_true rfl) (gEv_mono h (fun σ38 h => ?_))
        refine ga_iinc (ls' := [(3, vI (x3 + 1)), (0, .ref (G.2.1 27)), (1, vI x1), (2, vI x2)]) 3 dX7_readLine_82 rfl (by decide) rfl ?_
        refine ga_goto (tgt := 38) dX7_readLine_85 (by decide) ?_
        exact ga_sub [1, 2, 3, 0] rfl h
      · replace q35 : ¬ (gI σ30 27 9) = 2 := q35
        have h := hf q35
        refine ga_aload_n 0 dX7_readLine_67 rfl rfl ?_
        refine ga_callVz (z := mX7_noTextGoesOn) (As := []) (rest := []) dX7_readLine_68 wX7_63 qX7_readLine_X7_noTextGoesOn rfl ⟨_, rfl, rfl⟩ rfl rfl (Nat.le_of_ble_eq_true rfl) (gEz_mono h (fun v42 σ40 h r41 => ?_))
        replace h := h r41
        exact ga_bret dX7_readLine_71 rfl r41 h
abbrev eX7_read (l : Launch) (G : gG) (x2 : Int) (x3 : Int) (σ : gS) (Q : gS → Prop) : Prop := gEv l G mX7_read [.ref (G.2.1 27), .ref (G.2.1 2), vI x2, vI x3] σ Q
abbrev kX7_read_74 (l : Launch) (G : gG)  (x2 : Int) (x3 : Int) (x4 : Int) (x5 : Int) (σ : gS) (Q : gS → Prop) : Prop := gAt l G mX7_read (gQv G Q) 74 [(0, .ref (G.2.1 27)), (1, .ref (G.2.1 2)), (2, vI x2), (3, vI x3), (4, vI x4), (5, vI x5)] [] σ
set_option maxRecDepth 100000 in
set_option maxHeartbeats 4000000 in
theorem vX7_read {l : Launch} {G : gG} (x2 : Int) (x3 : Int) (rx2 : gR x2) (rx3 : gR x3) (σ : gS) (Q : gS → Prop) (h : ∀ σ1, σ1 = sT σ 2 →
  ∀ σ2, σ2 = sI σ1 27 7 (min x2 600) →
  ∀ σ3, σ3 = sI σ2 27 8 0 →
  ∀ σ4, σ4 = sI σ3 27 2 0 →
  ∀ σ5, σ5 = sI σ4 27 3 0 →
  ∀ σ6, σ6 = sI σ5 27 4 (-1) →
  ∀ σ7, σ7 = sI σ6 28 0 4 →
  ∀ σ8, σ8 = sI σ7 28 1 2 →
  ∀ σ9, σ9 = sI σ8 28 2 9 →
  ∀ σ10, σ10 = sI σ9 28 3 0 →
  eX7_nextToken l G  σ10 (fun σ11 =>
  kX7_read_74 l G  x2 x3 1 0 σ11 Q)) : eX7_read l G x2 x3 σ Q := by
  refine ga_entry rfl (Nat.le_of_ble_eq_true rfl) ?_
  show gAt l G mX7_read (gQv G Q) 0 [(0, .ref (G.2.1 27)), (1, .ref (G.2.1 2)), (2, vI x2), (3, vI x3)] [] σ
  refine ga_aload_n 0 dX7_read_0 rfl rfl ?_
  refine ga_aload_n 1 dX7_read_1 rfl rfl ?_
  obtain ⟨σ1, eσ1⟩ : ∃ z, z = sT σ 2 := ⟨_, rfl⟩
  replace h := h σ1 eσ1
  refine ga_putT dX7_read_2 fX7_23 pX7_6 rfl rfl gtape1 (fun _ => rfl) (fun _ => rfl) eσ1 ?_
  refine ga_aload_n 0 dX7_read_5 rfl rfl ?_
  refine ga_iload_n 2 dX7_read_6 rfl rfl ?_
  refine ga_aload_n 1 dX7_read_7 rfl rfl ?_
  refine ga_alen (nI := 600) 1 dX7_read_8 rfl rfl rfl rfl ?_
  refine ga_min dX7_read_9 wX7_27 (by decide) (Nat.le_of_ble_eq_true rfl) rx2 (by decide) ?_
  obtain ⟨σ2, eσ2⟩ : ∃ z, z = sI σ1 27 7 (min x2 600) := ⟨_, rfl⟩
  replace h := h σ2 eσ2
  refine ga_putI (kI := 7) dX7_read_12 fX7_33 pX7_7 rfl rfl rfl (show gR (min x2 600) from gR_min rx2 (by decide)) eσ2 ?_
  refine ga_aload_n 0 dX7_read_15 rfl rfl ?_
  refine ga_iconst dX7_read_16 ?_
  obtain ⟨σ3, eσ3⟩ : ∃ z, z = sI σ2 27 8 0 := ⟨_, rfl⟩
  replace h := h σ3 eσ3
  refine ga_putI (kI := 8) dX7_read_17 fX7_37 pX7_8 rfl rfl rfl (by decide) eσ3 ?_
  refine ga_aload_n 0 dX7_read_20 rfl rfl ?_
  refine ga_iconst dX7_read_21 ?_
  obtain ⟨σ4, eσ4⟩ : ∃ z, z = sI σ3 27 2 0 := ⟨_, rfl⟩
  replace h := h σ4 eσ4
  refine ga_putI (kI := 2) dX7_read_22 fX7_40 pX7_2 rfl rfl rfl (by decide) eσ4 ?_
  refine ga_aload_n 0 dX7_read_25 rfl rfl ?_
  refine ga_iconst dX7_read_26 ?_
  obtain ⟨σ5, eσ5⟩ : ∃ z, z = sI σ4 27 3 0 := ⟨_, rfl⟩
  replace h := h σ5 eσ5
  refine ga_putI (kI := 3) dX7_read_27 fX7_43 pX7_3 rfl rfl rfl (by decide) eσ5 ?_
  refine ga_aload_n 0 dX7_read_30 rfl rfl ?_
  refine ga_iconst dX7_read_31 ?_
  obtain ⟨σ6, eσ6⟩ : ∃ z, z = sI σ5 27 4 (-1) := ⟨_, rfl⟩
  replace h := h σ6 eσ6
  refine ga_putI (kI := 4) dX7_read_32 fX7_46 pX7_4 rfl rfl rfl (by decide) eσ6 ?_
  refine ga_aload_n 0 dX7_read_35 rfl rfl ?_
  refine ga_getR (kI := 0) (r := 28) dX7_read_36 fX7_9 rfl rfl (by decide) rfl ?_
  refine ga_iconst dX7_read_39 ?_
  refine ga_iconst dX7_read_40 ?_
  obtain ⟨σ7, eσ7⟩ : ∃ z, z = sI σ6 28 0 4 := ⟨_, rfl⟩
  replace h := h σ7 eσ7
  refine ga_iast (nI := 4) dX7_read_41 rfl rfl (by decide) (by decide) eσ7 ?_
  refine ga_aload_n 0 dX7_read_42 rfl rfl ?_
  refine ga_getR (kI := 0) (r := 28) dX7_read_43 fX7_9 rfl rfl (by decide) rfl ?_
  refine ga_iconst dX7_read_46 ?_
  refine ga_iconst dX7_read_47 ?_
  obtain ⟨σ8, eσ8⟩ : ∃ z, z = sI σ7 28 1 2 := ⟨_, rfl⟩
  replace h := h σ8 eσ8
  refine ga_iast (nI := 4) dX7_read_48 rfl rfl (by decide) (by decide) eσ8 ?_
  refine ga_aload_n 0 dX7_read_49 rfl rfl ?_
  refine ga_getR (kI := 0) (r := 28) dX7_read_50 fX7_9 rfl rfl (by decide) rfl ?_
  refine ga_iconst dX7_read_53 ?_
  refine ga_bipush dX7_read_54 (by decide) ?_
  obtain ⟨σ9, eσ9⟩ : ∃ z, z = sI σ8 28 2 9 := ⟨_, rfl⟩
  replace h := h σ9 eσ9
  refine ga_iast (nI := 4) dX7_read_56 rfl rfl (by decide) (by decide) eσ9 ?_
  refine ga_aload_n 0 dX7_read_57 rfl rfl ?_
  refine ga_getR (kI := 0) (r := 28) dX7_read_58 fX7_9 rfl rfl (by decide) rfl ?_
  refine ga_iconst dX7_read_61 ?_
  refine ga_iconst dX7_read_62 ?_
  obtain ⟨σ10, eσ10⟩ : ∃ z, z = sI σ9 28 3 0 := ⟨_, rfl⟩
  replace h := h σ10 eσ10
  refine ga_iast (nI := 4) dX7_read_63 rfl rfl (by decide) (by decide) eσ10 ?_
  refine ga_aload_n 0 dX7_read_64 rfl rfl ?_
  refine ga_callVv (z := mX7_nextToken) (As := []) (rest := []) dX7_read_65 wX7_49 qX7_read_X7_nextToken rfl ⟨_, rfl, rfl⟩ rfl rfl (Nat.le_of_ble_eq_true rfl) (gEv_mono h (fun σ11 h => ?_))
  refine ga_iconst dX7_read_68 ?_
  refine ga_istore (ls' := [(4, vI 1), (0, .ref (G.2.1 27)), (1, .ref (G.2.1 2)), (2, vI x2), (3, vI x3)]) dX7_read_69 (by decide) rfl ?_
  refine ga_iconst dX7_read_71 ?_
  refine ga_istore (ls' := [(5, vI 0), (4, vI 1), (0, .ref (G.2.1 27)), (1, .ref (G.2.1 2)), (2, vI x2), (3, vI x3)]) dX7_read_72 (by decide) rfl ?_
  exact ga_sub [2, 3, 4, 5, 1, 0] rfl h
set_option maxRecDepth 100000 in
set_option maxHeartbeats 4000000 in
theorem vX7_read_74 {l : Launch} {G : gG}  (x2 : Int) (x3 : Int) (x4 : Int) (x5 : Int) (rx2 : gR x2) (rx3 : gR x3) (rx4 : gR x4) (rx5 : gR x5) (σ : gS) (Q : gS → Prop) (h : (600 ≤ x5 → Q σ) ∧
  (x5 < 600 → (x4 = 0 → Q σ) ∧
    (¬ x4 = 0 → ((gI σ 27 9) = 0 → Q σ) ∧
      (¬ (gI σ 27 9) = 0 → eX7_readLine l G x3 σ (fun v19 σ17 => (v19 = 0 ∨ v19 = 1) →
        kX7_read_74 l G  x2 x3 v19 (x5 + 1) σ17 Q))))) : kX7_read_74 l G  x2 x3 x4 x5 σ Q := by
  refine ga_iload 5 dX7_read_74 rfl ?_
  refine ga_sipush dX7_read_76 (by decide) ?_
  obtain ⟨ht, hf⟩ := h
  refine ga_icmp_ge (tgt := 107) dX7_read_79 (by decide) rx5 (by decide) (fun q13 => ?_) (fun q13 => ?_)
  · replace q13 : 600 ≤ x5 := q13
    have h := ht q13
    exact ga_vret dX7_read_107 rfl h
  · replace q13 : x5 < 600 := (Int.not_le.mp q13)
    have h := hf q13
    refine ga_iload 4 dX7_read_82 rfl ?_
    obtain ⟨ht, hf⟩ := h
    refine ga_if_eq (tgt := 107) dX7_read_84 (by decide) rx4 (fun q14 => ?_) (fun q14 => ?_)
    · replace q14 : x4 = 0 := q14
      have h := ht q14
      exact ga_vret dX7_read_107 rfl h
    · replace q14 : ¬ x4 = 0 := q14
      have h := hf q14
      refine ga_aload_n 0 dX7_read_87 rfl rfl ?_
      refine ga_getI (kI := 9) dX7_read_88 fX7_52 rfl rfl rfl (fun r15 => ?_)
      obtain ⟨ht, hf⟩ := h
      refine ga_if_eq (tgt := 107) dX7_read_91 (by decide) r15 (fun q16 => ?_) (fun q16 => ?_)
      · replace q16 : (gI σ 27 9) = 0 := q16
        have h := ht q16
        exact ga_vret dX7_read_107 rfl h
      · replace q16 : ¬ (gI σ 27 9) = 0 := q16
        have h := hf q16
        refine ga_aload_n 0 dX7_read_94 rfl rfl ?_
        refine ga_iload_n 3 dX7_read_95 rfl rfl ?_
        refine ga_callVz (z := mX7_readLine) (As := [vI x3]) (rest := []) dX7_read_96 wX7_55 qX7_read_X7_readLine rfl ⟨_, rfl, rfl⟩ rfl rfl (Nat.le_of_ble_eq_true rfl) (gEz_mono h (fun v19 σ17 h r18 => ?_))
        replace h := h r18
        refine ga_istore (ls' := [(4, vI v19), (0, .ref (G.2.1 27)), (1, .ref (G.2.1 2)), (2, vI x2), (3, vI x3), (5, vI x5)]) dX7_read_99 (by decide) rfl ?_
        refine ga_iinc (ls' := [(5, vI (x5 + 1)), (4, vI v19), (0, .ref (G.2.1 27)), (1, .ref (G.2.1 2)), (2, vI x2), (3, vI x3)]) 5 dX7_read_101 rfl (by decide) rfl ?_
        refine ga_goto (tgt := 74) dX7_read_104 (by decide) ?_
        exact ga_sub [2, 3, 4, 5, 1, 0] rfl h
abbrev eX8_begin_ (l : Launch) (G : gG) (x2 : Int) (x3 : Int) (x4 : Int) (σ : gS) (Q : gS → Prop) : Prop := gEv l G mX8_begin_ [.ref (G.2.1 32), .ref (G.2.1 1), vI x2, vI x3, vI x4] σ Q
abbrev kX8_begin__90 (l : Launch) (G : gG)  (x2 : Int) (x3 : Int) (x4 : Int) (x5 : Int) (σ : gS) (Q : gS → Prop) : Prop := gAt l G mX8_begin_ (gQv G Q) 90 [(0, .ref (G.2.1 32)), (1, .ref (G.2.1 1)), (2, vI x2), (3, vI x3), (4, vI x4), (5, vI x5)] [] σ
abbrev kX8_begin__138 (l : Launch) (G : gG)  (x2 : Int) (x3 : Int) (x4 : Int) (x5 : Int) (σ : gS) (Q : gS → Prop) : Prop := gAt l G mX8_begin_ (gQv G Q) 138 [(0, .ref (G.2.1 32)), (1, .ref (G.2.1 1)), (2, vI x2), (3, vI x3), (4, vI x4), (5, vI x5)] [] σ
set_option maxRecDepth 100000 in
set_option maxHeartbeats 4000000 in
theorem vX8_begin_ {l : Launch} {G : gG} (x2 : Int) (x3 : Int) (x4 : Int) (rx2 : gR x2) (rx3 : gR x3) (rx4 : gR x4) (σ : gS) (Q : gS → Prop) (h : eX10_bar l G x2 0 σ (fun v3 σ1 => gR v3 →
  eX4_begin l G 45 v3 x4 σ1 (fun σ4 =>
  ∀ σ7, σ7 = sI σ4 32 3 (gI σ4 45 0) →
  ∀ σ8, σ8 = sI σ7 32 4 x3 →
  eX10_bar l G x2 2 σ8 (fun v11 σ9 => gR v11 →
  ∀ σ12, σ12 = sI σ9 32 5 (min 9 v11) →
  ∀ σ13, σ13 = sI σ12 33 0 0 →
  ∀ σ14, σ14 = sI σ13 41 0 0 →
  ∀ σ15, σ15 = sI σ14 32 6 0 →
  ∀ σ16, σ16 = sI σ15 32 7 0 →
  ∀ σ17, σ17 = sI σ16 32 8 0 →
  ∀ σ18, σ18 = sI σ17 32 9 0 →
  ∀ σ19, σ19 = sI σ18 32 10 0 →
  kX8_begin__90 l G  x2 x3 x4 0 σ19 Q)))) : eX8_begin_ l G x2 x3 x4 σ Q := by
  refine ga_entry rfl (Nat.le_of_ble_eq_true rfl) ?_
  show gAt l G mX8_begin_ (gQv G Q) 0 [(0, .ref (G.2.1 32)), (1, .ref (G.2.1 1)), (2, vI x2), (3, vI x3), (4, vI x4)] [] σ
  refine ga_aload_n 0 dX8_begin__0 rfl rfl ?_
  refine ga_getR (kI := 2) (r := 45) dX8_begin__1 fX8_28 rfl rfl (by decide) rfl ?_
  refine ga_aload_n 1 dX8_begin__4 rfl rfl ?_
  refine ga_iload_n 2 dX8_begin__5 rfl rfl ?_
  refine ga_iconst dX8_begin__6 ?_
  refine ga_callVi (z := mX10_bar) (As := [vI x2, vI 0]) (rest := [.ref (G.2.1 45)]) dX8_begin__7 wX8_58 qX8_begin__X10_bar rfl ⟨_, rfl, rfl⟩ rfl rfl (Nat.le_of_ble_eq_true rfl) (gEi_mono h (fun v3 σ1 h r2 => ?_))
  replace h := h r2
  refine ga_iload 4 dX8_begin__10 rfl ?_
  refine ga_callVv (z := mX4_begin) (As := [vI v3, vI x4]) (rest := []) dX8_begin__12 wX8_68 qX8_begin__X4_begin rfl ⟨_, rfl, rfl⟩ rfl rfl (Nat.le_of_ble_eq_true rfl) (gEv_mono h (fun σ4 h => ?_))
  refine ga_aload_n 0 dX8_begin__15 rfl rfl ?_
  refine ga_aload_n 0 dX8_begin__16 rfl rfl ?_
  refine ga_getR (kI := 2) (r := 45) dX8_begin__17 fX8_28 rfl rfl (by decide) rfl ?_
  refine ga_getI (kI := 0) dX8_begin__20 fX8_71 rfl rfl rfl (fun r6 => ?_)
  obtain ⟨σ7, eσ7⟩ : ∃ z, z = sI σ4 32 3 (gI σ4 45 0) := ⟨_, rfl⟩
  replace h := h σ7 eσ7
  refine ga_putI (kI := 3) dX8_begin__23 fX8_32 pX8_3 rfl rfl rfl r6 eσ7 ?_
  refine ga_aload_n 0 dX8_begin__26 rfl rfl ?_
  refine ga_iload_n 3 dX8_begin__27 rfl rfl ?_
  obtain ⟨σ8, eσ8⟩ : ∃ z, z = sI σ7 32 4 x3 := ⟨_, rfl⟩
  replace h := h σ8 eσ8
  refine ga_putI (kI := 4) dX8_begin__28 fX8_72 pX8_4 rfl rfl rfl rx3 eσ8 ?_
  refine ga_aload_n 0 dX8_begin__31 rfl rfl ?_
  refine ga_bipush dX8_begin__32 (by decide) ?_
  refine ga_aload_n 1 dX8_begin__34 rfl rfl ?_
  refine ga_iload_n 2 dX8_begin__35 rfl rfl ?_
  refine ga_iconst dX8_begin__36 ?_
  refine ga_callVi (z := mX10_bar) (As := [vI x2, vI 2]) (rest := [vI 9, .ref (G.2.1 32)]) dX8_begin__37 wX8_58 qX8_begin__X10_bar rfl ⟨_, rfl, rfl⟩ rfl rfl (Nat.le_of_ble_eq_true rfl) (gEi_mono h (fun v11 σ9 h r10 => ?_))
  replace h := h r10
  refine ga_min dX8_begin__40 wX8_75 (by decide) (Nat.le_of_ble_eq_true rfl) (by decide) r10 ?_
  obtain ⟨σ12, eσ12⟩ : ∃ z, z = sI σ9 32 5 (min 9 v11) := ⟨_, rfl⟩
  replace h := h σ12 eσ12
  refine ga_putI (kI := 5) dX8_begin__43 fX8_80 pX8_5 rfl rfl rfl (show gR (min 9 v11) from gR_min (by decide) r10) eσ12 ?_
  refine ga_aload_n 0 dX8_begin__46 rfl rfl ?_
  refine ga_getR (kI := 0) (r := 33) dX8_begin__47 fX8_12 rfl rfl (by decide) rfl ?_
  refine ga_iconst dX8_begin__50 ?_
  obtain ⟨σ13, eσ13⟩ : ∃ z, z = sI σ12 33 0 0 := ⟨_, rfl⟩
  replace h := h σ13 eσ13
  refine ga_putI (kI := 0) dX8_begin__51 fX8_83 pX0_0 rfl rfl rfl (by decide) eσ13 ?_
  refine ga_aload_n 0 dX8_begin__54 rfl rfl ?_
  refine ga_getR (kI := 1) (r := 41) dX8_begin__55 fX8_21 rfl rfl (by decide) rfl ?_
  refine ga_iconst dX8_begin__58 ?_
  obtain ⟨σ14, eσ14⟩ : ∃ z, z = sI σ13 41 0 0 := ⟨_, rfl⟩
  replace h := h σ14 eσ14
  refine ga_putI (kI := 0) dX8_begin__59 fX8_86 pX6_0 rfl rfl rfl (by decide) eσ14 ?_
  refine ga_aload_n 0 dX8_begin__62 rfl rfl ?_
  refine ga_iconst dX8_begin__63 ?_
  obtain ⟨σ15, eσ15⟩ : ∃ z, z = sI σ14 32 6 0 := ⟨_, rfl⟩
  replace h := h σ15 eσ15
  refine ga_putI (kI := 6) dX8_begin__64 fX8_89 pX8_6 rfl rfl rfl (by decide) eσ15 ?_
  refine ga_aload_n 0 dX8_begin__67 rfl rfl ?_
  refine ga_iconst dX8_begin__68 ?_
  obtain ⟨σ16, eσ16⟩ : ∃ z, z = sI σ15 32 7 0 := ⟨_, rfl⟩
  replace h := h σ16 eσ16
  refine ga_putI (kI := 7) dX8_begin__69 fX8_92 pX8_7 rfl rfl rfl (by decide) eσ16 ?_
  refine ga_aload_n 0 dX8_begin__72 rfl rfl ?_
  refine ga_iconst dX8_begin__73 ?_
  obtain ⟨σ17, eσ17⟩ : ∃ z, z = sI σ16 32 8 0 := ⟨_, rfl⟩
  replace h := h σ17 eσ17
  refine ga_putI (kI := 8) dX8_begin__74 fX8_95 pX8_8 rfl rfl rfl (by decide) eσ17 ?_
  refine ga_aload_n 0 dX8_begin__77 rfl rfl ?_
  refine ga_iconst dX8_begin__78 ?_
  obtain ⟨σ18, eσ18⟩ : ∃ z, z = sI σ17 32 9 0 := ⟨_, rfl⟩
  replace h := h σ18 eσ18
  refine ga_putI (kI := 9) dX8_begin__79 fX8_98 pX8_9 rfl rfl rfl (by decide) eσ18 ?_
  refine ga_aload_n 0 dX8_begin__82 rfl rfl ?_
  refine ga_iconst dX8_begin__83 ?_
  obtain ⟨σ19, eσ19⟩ : ∃ z, z = sI σ18 32 10 0 := ⟨_, rfl⟩
  replace h := h σ19 eσ19
  refine ga_putI (kI := 10) dX8_begin__84 fX8_101 pX8_10 rfl rfl rfl (by decide) eσ19 ?_
  refine ga_iconst dX8_begin__87 ?_
  refine ga_istore (ls' := [(5, vI 0), (0, .ref (G.2.1 32)), (1, .ref (G.2.1 1)), (2, vI x2), (3, vI x3), (4, vI x4)]) dX8_begin__88 (by decide) rfl ?_
  exact ga_sub [1, 2, 3, 4, 5, 0] rfl h
set_option maxRecDepth 100000 in
set_option maxHeartbeats 4000000 in
theorem vX8_begin__90 {l : Launch} {G : gG}  (x2 : Int) (x3 : Int) (x4 : Int) (x5 : Int) (rx2 : gR x2) (rx3 : gR x3) (rx4 : gR x4) (rx5 : gR x5) (σ : gS) (Q : gS → Prop) (h : (6 ≤ x5 → kX8_begin__138 l G  x2 x3 x4 0 σ Q) ∧
  (x5 < 6 → (0 ≤ x5 ∧ x5 < 6) ∧ ∀ σ22, σ22 = sI σ 51 x5 0 →
    ∀ σ23, σ23 = sI σ22 52 x5 (-1) →
    ∀ σ24, σ24 = sI σ23 55 x5 0 →
    ∀ σ25, σ25 = sI σ24 57 x5 0 →
    kX8_begin__90 l G  x2 x3 x4 (x5 + 1) σ25 Q)) : kX8_begin__90 l G  x2 x3 x4 x5 σ Q := by
  refine ga_iload 5 dX8_begin__90 rfl ?_
  refine ga_bipush dX8_begin__92 (by decide) ?_
  obtain ⟨ht, hf⟩ := h
  refine ga_icmp_ge (tgt := 135) dX8_begin__94 (by decide) rx5 (by decide) (fun q20 => ?_) (fun q20 => ?_)
  · replace q20 : 6 ≤ x5 := q20
    have h := ht q20
    refine ga_iconst dX8_begin__135 ?_
    refine ga_istore (ls' := [(5, vI 0), (0, .ref (G.2.1 32)), (1, .ref (G.2.1 1)), (2, vI x2), (3, vI x3), (4, vI x4)]) dX8_begin__136 (by decide) rfl ?_
    exact ga_sub [1, 2, 3, 4, 5, 0] rfl h
  · replace q20 : x5 < 6 := (Int.not_le.mp q20)
    have h := hf q20
    refine ga_aload_n 0 dX8_begin__97 rfl rfl ?_
    refine ga_getR (kI := 11) (r := 51) dX8_begin__98 fX8_36 rfl rfl (by decide) rfl ?_
    refine ga_iload 5 dX8_begin__101 rfl ?_
    refine ga_iconst dX8_begin__103 ?_
    obtain ⟨i21, h⟩ := h
    obtain ⟨σ22, eσ22⟩ : ∃ z, z = sI σ 51 x5 0 := ⟨_, rfl⟩
    replace h := h σ22 eσ22
    refine ga_iast (nI := 6) dX8_begin__104 rfl rfl i21 (by decide) eσ22 ?_
    refine ga_aload_n 0 dX8_begin__105 rfl rfl ?_
    refine ga_getR (kI := 12) (r := 52) dX8_begin__106 fX8_40 rfl rfl (by decide) rfl ?_
    refine ga_iload 5 dX8_begin__109 rfl ?_
    refine ga_iconst dX8_begin__111 ?_
    obtain ⟨σ23, eσ23⟩ : ∃ z, z = sI σ22 52 x5 (-1) := ⟨_, rfl⟩
    replace h := h σ23 eσ23
    refine ga_iast (nI := 6) dX8_begin__112 rfl rfl i21 (by decide) eσ23 ?_
    refine ga_aload_n 0 dX8_begin__113 rfl rfl ?_
    refine ga_getR (kI := 15) (r := 55) dX8_begin__114 fX8_49 rfl rfl (by decide) rfl ?_
    refine ga_iload 5 dX8_begin__117 rfl ?_
    refine ga_iconst dX8_begin__119 ?_
    obtain ⟨σ24, eσ24⟩ : ∃ z, z = sI σ23 55 x5 0 := ⟨_, rfl⟩
    replace h := h σ24 eσ24
    refine ga_iast (nI := 6) dX8_begin__120 rfl rfl i21 (by decide) eσ24 ?_
    refine ga_aload_n 0 dX8_begin__121 rfl rfl ?_
    refine ga_getR (kI := 17) (r := 57) dX8_begin__122 fX8_55 rfl rfl (by decide) rfl ?_
    refine ga_iload 5 dX8_begin__125 rfl ?_
    refine ga_iconst dX8_begin__127 ?_
    obtain ⟨σ25, eσ25⟩ : ∃ z, z = sI σ24 57 x5 0 := ⟨_, rfl⟩
    replace h := h σ25 eσ25
    refine ga_iast (nI := 6) dX8_begin__128 rfl rfl i21 (by decide) eσ25 ?_
    refine ga_iinc (ls' := [(5, vI (x5 + 1)), (0, .ref (G.2.1 32)), (1, .ref (G.2.1 1)), (2, vI x2), (3, vI x3), (4, vI x4)]) 5 dX8_begin__129 rfl (by decide) rfl ?_
    refine ga_goto (tgt := 90) dX8_begin__132 (by decide) ?_
    exact ga_sub [1, 2, 3, 4, 5, 0] rfl h
set_option maxRecDepth 100000 in
set_option maxHeartbeats 4000000 in
theorem vX8_begin__138 {l : Launch} {G : gG}  (x2 : Int) (x3 : Int) (x4 : Int) (x5 : Int) (rx2 : gR x2) (rx3 : gR x3) (rx4 : gR x4) (rx5 : gR x5) (σ : gS) (Q : gS → Prop) (h : (36 ≤ x5 → Q σ) ∧
  (x5 < 36 → (0 ≤ x5 ∧ x5 < 36) ∧ ∀ σ28, σ28 = sI σ 53 x5 0 →
    kX8_begin__138 l G  x2 x3 x4 (x5 + 1) σ28 Q)) : kX8_begin__138 l G  x2 x3 x4 x5 σ Q := by
  refine ga_iload 5 dX8_begin__138 rfl ?_
  refine ga_bipush dX8_begin__140 (by decide) ?_
  obtain ⟨ht, hf⟩ := h
  refine ga_icmp_ge (tgt := 159) dX8_begin__142 (by decide) rx5 (by decide) (fun q26 => ?_) (fun q26 => ?_)
  · replace q26 : 36 ≤ x5 := q26
    have h := ht q26
    exact ga_vret dX8_begin__159 rfl h
  · replace q26 : x5 < 36 := (Int.not_le.mp q26)
    have h := hf q26
    refine ga_aload_n 0 dX8_begin__145 rfl rfl ?_
    refine ga_getR (kI := 13) (r := 53) dX8_begin__146 fX8_43 rfl rfl (by decide) rfl ?_
    refine ga_iload 5 dX8_begin__149 rfl ?_
    refine ga_iconst dX8_begin__151 ?_
    obtain ⟨i27, h⟩ := h
    obtain ⟨σ28, eσ28⟩ : ∃ z, z = sI σ 53 x5 0 := ⟨_, rfl⟩
    replace h := h σ28 eσ28
    refine ga_iast (nI := 36) dX8_begin__152 rfl rfl i27 (by decide) eσ28 ?_
    refine ga_iinc (ls' := [(5, vI (x5 + 1)), (0, .ref (G.2.1 32)), (1, .ref (G.2.1 1)), (2, vI x2), (3, vI x3), (4, vI x4)]) 5 dX8_begin__153 rfl (by decide) rfl ?_
    refine ga_goto (tgt := 138) dX8_begin__156 (by decide) ?_
    exact ga_sub [1, 2, 3, 4, 5, 0] rfl h
abbrev eX8_begin (l : Launch) (G : gG) (x2 : Int) (σ : gS) (Q : gS → Prop) : Prop := gEv l G mX8_begin [.ref (G.2.1 32), .ref (G.2.1 1), vI x2] σ Q
set_option maxRecDepth 100000 in
set_option maxHeartbeats 4000000 in
theorem vX8_begin {l : Launch} {G : gG} (x2 : Int) (rx2 : gR x2) (σ : gS) (Q : gS → Prop) (h : eX10_bar l G x2 1 σ (fun v3 σ1 => gR v3 →
  eX10_bar l G x2 3 σ1 (fun v6 σ4 => gR v6 →
  eX8_begin_ l G x2 v3 v6 σ4 (fun σ7 =>
  Q σ7)))) : eX8_begin l G x2 σ Q := by
  refine ga_entry rfl (Nat.le_of_ble_eq_true rfl) ?_
  show gAt l G mX8_begin (gQv G Q) 0 [(0, .ref (G.2.1 32)), (1, .ref (G.2.1 1)), (2, vI x2)] [] σ
  refine ga_aload_n 0 dX8_begin_0 rfl rfl ?_
  refine ga_aload_n 1 dX8_begin_1 rfl rfl ?_
  refine ga_iload_n 2 dX8_begin_2 rfl rfl ?_
  refine ga_aload_n 1 dX8_begin_3 rfl rfl ?_
  refine ga_iload_n 2 dX8_begin_4 rfl rfl ?_
  refine ga_iconst dX8_begin_5 ?_
  refine ga_callVi (z := mX10_bar) (As := [vI x2, vI 1]) (rest := [vI x2, .ref (G.2.1 1), .ref (G.2.1 32)]) dX8_begin_6 wX8_58 qX8_begin_X10_bar rfl ⟨_, rfl, rfl⟩ rfl rfl (Nat.le_of_ble_eq_true rfl) (gEi_mono h (fun v3 σ1 h r2 => ?_))
  replace h := h r2
  refine ga_aload_n 1 dX8_begin_9 rfl rfl ?_
  refine ga_iload_n 2 dX8_begin_10 rfl rfl ?_
  refine ga_iconst dX8_begin_11 ?_
  refine ga_callVi (z := mX10_bar) (As := [vI x2, vI 3]) (rest := [vI v3, vI x2, .ref (G.2.1 1), .ref (G.2.1 32)]) dX8_begin_12 wX8_58 qX8_begin_X10_bar rfl ⟨_, rfl, rfl⟩ rfl rfl (Nat.le_of_ble_eq_true rfl) (gEi_mono h (fun v6 σ4 h r5 => ?_))
  replace h := h r5
  refine ga_callVv (z := mX8_begin_) (As := [.ref (G.2.1 1), vI x2, vI v3, vI v6]) (rest := []) dX8_begin_15 wX8_64 qX8_begin_X8_begin_ rfl ⟨_, rfl, rfl⟩ rfl rfl (Nat.le_of_ble_eq_true rfl) (gEv_mono h (fun σ7 h => ?_))
  exact ga_vret dX8_begin_18 rfl h
abbrev eX8_slotsOf (l : Launch) (G : gG) (x0 : Int) (x1 : Int) (σ : gS) (Q : Int → gS → Prop) : Prop := gEi l G mX8_slotsOf [vI x0, vI x1] σ Q
set_option maxRecDepth 100000 in
set_option maxHeartbeats 4000000 in
theorem vX8_slotsOf {l : Launch} {G : gG} (x0 : Int) (x1 : Int) (rx0 : gR x0) (rx1 : gR x1) (σ : gS) (Q : Int → gS → Prop) (h : (¬ x0 = 0 → (∀ v4 : Int, v4 = (if x0 = 1 then x1 else 0) →
    Q v4 σ)) ∧
  (x0 = 0 → Q 1 σ)) : eX8_slotsOf l G x0 x1 σ Q := by
  refine ga_entry rfl (Nat.le_of_ble_eq_true rfl) ?_
  show gAt l G mX8_slotsOf (gQi G Q) 0 [(0, vI x0), (1, vI x1)] [] σ
  refine ga_iload_n 0 dX8_slotsOf_0 rfl rfl ?_
  obtain ⟨ht, hf⟩ := h
  refine ga_if_ne (tgt := 6) dX8_slotsOf_1 (by decide) rx0 (fun q1 => ?_) (fun q1 => ?_)
  · replace q1 : ¬ x0 = 0 := q1
    have h := ht q1
    refine ga_iload_n 0 dX8_slotsOf_6 rfl rfl ?_
    refine ga_iconst dX8_slotsOf_7 ?_
    have kJ2 : ∀ v4 : Int, gR v4 → v4 = (if x0 = 1 then x1 else 0) → gAt l G mX8_slotsOf (gQi G Q) 16 [(0, vI x0), (1, vI x1)] [vI v4] σ := by
      intro v4 rv4 ev4
      replace h := h v4 ev4
      exact ga_iret dX8_slotsOf_16 rfl rv4 h
    replace h : (¬ x0 = 1 → True) ∧
    (x0 = 1 → True) := by repeat (first | exact True.intro | apply And.intro | intro _)
    obtain ⟨ht, hf⟩ := h
    refine ga_icmp_ne (tgt := 15) dX8_slotsOf_8 (by decide) rx0 (by decide) (fun q3 => ?_) (fun q3 => ?_)
    · replace q3 : ¬ x0 = 1 := q3
      have h := ht q3
      refine ga_iconst dX8_slotsOf_15 ?_
      exact kJ2 0 (by decide) (by rw [if_neg q3])
    · replace q3 : x0 = 1 := (Decidable.not_not.mp q3)
      have h := hf q3
      refine ga_iload_n 1 dX8_slotsOf_11 rfl rfl ?_
      refine ga_goto (tgt := 16) dX8_slotsOf_12 (by decide) ?_
      exact kJ2 x1 rx1 (by rw [if_pos q3])
  · replace q1 : x0 = 0 := (Decidable.not_not.mp q1)
    have h := hf q1
    refine ga_iconst dX8_slotsOf_4 ?_
    exact ga_iret dX8_slotsOf_5 rfl (by decide) h
abbrev eX8_inputsWithFans (l : Launch) (G : gG)  (σ : gS) (Q : Int → gS → Prop) : Prop := gEi l G mX8_inputsWithFans [.ref (G.2.1 32)] σ Q
abbrev kX8_inputsWithFans_4 (l : Launch) (G : gG)  (x1 : Int) (x2 : Int) (σ : gS) (Q : Int → gS → Prop) : Prop := gAt l G mX8_inputsWithFans (gQi G Q) 4 [(0, .ref (G.2.1 32)), (1, vI x1), (2, vI x2)] [] σ
set_option maxRecDepth 100000 in
set_option maxHeartbeats 4000000 in
theorem vX8_inputsWithFans {l : Launch} {G : gG}  (σ : gS) (Q : Int → gS → Prop) (h : kX8_inputsWithFans_4 l G  0 0 σ Q) : eX8_inputsWithFans l G  σ Q := by
  refine ga_entry rfl (Nat.le_of_ble_eq_true rfl) ?_
  show gAt l G mX8_inputsWithFans (gQi G Q) 0 [(0, .ref (G.2.1 32))] [] σ
  refine ga_iconst dX8_inputsWithFans_0 ?_
  refine ga_istore_n (ls' := [(1, vI 0), (0, .ref (G.2.1 32))]) dX8_inputsWithFans_1 rfl (by decide) rfl ?_
  refine ga_iconst dX8_inputsWithFans_2 ?_
  refine ga_istore_n (ls' := [(2, vI 0), (1, vI 0), (0, .ref (G.2.1 32))]) dX8_inputsWithFans_3 rfl (by decide) rfl ?_
  exact ga_sub [2, 1, 0] rfl h
set_option maxRecDepth 100000 in
set_option maxHeartbeats 4000000 in
theorem vX8_inputsWithFans_4 {l : Launch} {G : gG}  (x1 : Int) (x2 : Int) (rx1 : gR x1) (rx2 : gR x2) (σ : gS) (Q : Int → gS → Prop) (h : ((gI σ 32 3) ≤ x2 → Q x1 σ) ∧
  (x2 < (gI σ 32 3) → (0 ≤ x2 ∧ x2 < 6) ∧ ((gI σ 55 x2) ≤ 0 → kX8_inputsWithFans_4 l G  x1 (x2 + 1) σ Q) ∧
    (0 < (gI σ 55 x2) → kX8_inputsWithFans_4 l G  (gor x1 (gshl 1 x2)) (x2 + 1) σ Q))) : kX8_inputsWithFans_4 l G  x1 x2 σ Q := by
  refine ga_iload_n 2 dX8_inputsWithFans_4 rfl rfl ?_
  refine ga_aload_n 0 dX8_inputsWithFans_5 rfl rfl ?_
  refine ga_getI (kI := 3) dX8_inputsWithFans_6 fX8_32 rfl rfl rfl (fun r1 => ?_)
  obtain ⟨ht, hf⟩ := h
  refine ga_icmp_ge (tgt := 33) dX8_inputsWithFans_9 (by decide) rx2 r1 (fun q2 => ?_) (fun q2 => ?_)
  · replace q2 : (gI σ 32 3) ≤ x2 := q2
    have h := ht q2
    refine ga_iload_n 1 dX8_inputsWithFans_33 rfl rfl ?_
    exact ga_iret dX8_inputsWithFans_34 rfl rx1 h
  · replace q2 : x2 < (gI σ 32 3) := (Int.not_le.mp q2)
    have h := hf q2
    refine ga_aload_n 0 dX8_inputsWithFans_12 rfl rfl ?_
    refine ga_getR (kI := 15) (r := 55) dX8_inputsWithFans_13 fX8_49 rfl rfl (by decide) rfl ?_
    refine ga_iload_n 2 dX8_inputsWithFans_16 rfl rfl ?_
    obtain ⟨i3, h⟩ := h
    refine ga_iald (nI := 6) dX8_inputsWithFans_17 rfl rfl i3 (fun r4 => ?_)
    obtain ⟨ht, hf⟩ := h
    refine ga_if_le (tgt := 27) dX8_inputsWithFans_18 (by decide) r4 (fun q5 => ?_) (fun q5 => ?_)
    · replace q5 : (gI σ 55 x2) ≤ 0 := q5
      have h := ht q5
      refine ga_iinc (ls' := [(2, vI (x2 + 1)), (0, .ref (G.2.1 32)), (1, vI x1)]) 2 dX8_inputsWithFans_27 rfl (by decide) rfl ?_
      refine ga_goto (tgt := 4) dX8_inputsWithFans_30 (by decide) ?_
      exact ga_sub [1, 2, 0] rfl h
    · replace q5 : 0 < (gI σ 55 x2) := (Int.not_le.mp q5)
      have h := hf q5
      refine ga_iload_n 1 dX8_inputsWithFans_21 rfl rfl ?_
      refine ga_iconst dX8_inputsWithFans_22 ?_
      refine ga_iload_n 2 dX8_inputsWithFans_23 rfl rfl ?_
      refine ga_ishl dX8_inputsWithFans_24 (fun r6 => ?_)
      refine ga_ior dX8_inputsWithFans_25 (fun r7 => ?_)
      refine ga_istore_n (ls' := [(1, vI (gor x1 (gshl 1 x2))), (0, .ref (G.2.1 32)), (2, vI x2)]) dX8_inputsWithFans_26 rfl (by decide) rfl ?_
      refine ga_iinc (ls' := [(2, vI (x2 + 1)), (1, vI (gor x1 (gshl 1 x2))), (0, .ref (G.2.1 32))]) 2 dX8_inputsWithFans_27 rfl (by decide) rfl ?_
      refine ga_goto (tgt := 4) dX8_inputsWithFans_30 (by decide) ?_
      exact ga_sub [2, 1, 0] rfl h
abbrev eX8_areApart (l : Launch) (G : gG) (x1 : Int) (σ : gS) (Q : Int → gS → Prop) : Prop := gEz l G mX8_areApart [.ref (G.2.1 32), vI x1] σ Q
abbrev kX8_areApart_4 (l : Launch) (G : gG)  (x1 : Int) (x2 : Int) (x3 : Int) (σ : gS) (Q : Int → gS → Prop) : Prop := gAt l G mX8_areApart (gQz G Q) 4 [(0, .ref (G.2.1 32)), (1, vI x1), (2, vI x2), (3, vI x3)] [] σ
set_option maxRecDepth 100000 in
set_option maxHeartbeats 4000000 in
theorem vX8_areApart {l : Launch} {G : gG} (x1 : Int) (rx1 : gR x1) (σ : gS) (Q : Int → gS → Prop) (h : kX8_areApart_4 l G  x1 0 0 σ Q) : eX8_areApart l G x1 σ Q := by
  refine ga_entry rfl (Nat.le_of_ble_eq_true rfl) ?_
  show gAt l G mX8_areApart (gQz G Q) 0 [(0, .ref (G.2.1 32)), (1, vI x1)] [] σ
  refine ga_iconst dX8_areApart_0 ?_
  refine ga_istore_n (ls' := [(2, vI 0), (0, .ref (G.2.1 32)), (1, vI x1)]) dX8_areApart_1 rfl (by decide) rfl ?_
  refine ga_iconst dX8_areApart_2 ?_
  refine ga_istore_n (ls' := [(3, vI 0), (2, vI 0), (0, .ref (G.2.1 32)), (1, vI x1)]) dX8_areApart_3 rfl (by decide) rfl ?_
  exact ga_sub [2, 3, 1, 0] rfl h
set_option maxRecDepth 100000 in
set_option maxHeartbeats 4000000 in
theorem vX8_areApart_4 {l : Launch} {G : gG}  (x1 : Int) (x2 : Int) (x3 : Int) (rx1 : gR x1) (rx2 : gR x2) (rx3 : gR x3) (σ : gS) (Q : Int → gS → Prop) (h : ((gI σ 32 3) ≤ x3 → Q 1 σ) ∧
  (x3 < (gI σ 32 3) → (((gand (gshr x1 x3) 1) = 0 → True) ∧
    (¬ (gand (gshr x1 x3) 1) = 0 → (0 ≤ x3 ∧ x3 < 6) ∧ True)) ∧
    (∀ v9 : Int, v9 = (if (gand (gshr x1 x3) 1) = 0 then 0 else (gI σ 57 x3)) →
    ((gand x2 v9) = 0 → kX8_areApart_4 l G  x1 (gor x2 v9) (x3 + 1) σ Q) ∧
      (¬ (gand x2 v9) = 0 → Q 0 σ)))) : kX8_areApart_4 l G  x1 x2 x3 σ Q := by
  refine ga_iload_n 3 dX8_areApart_4 rfl rfl ?_
  refine ga_aload_n 0 dX8_areApart_5 rfl rfl ?_
  refine ga_getI (kI := 3) dX8_areApart_6 fX8_32 rfl rfl rfl (fun r1 => ?_)
  obtain ⟨ht, hf⟩ := h
  refine ga_icmp_ge (tgt := 52) dX8_areApart_9 (by decide) rx3 r1 (fun q2 => ?_) (fun q2 => ?_)
  · replace q2 : (gI σ 32 3) ≤ x3 := q2
    have h := ht q2
    refine ga_iconst dX8_areApart_52 ?_
    exact ga_bret dX8_areApart_53 rfl (Or.inr rfl) h
  · replace q2 : x3 < (gI σ 32 3) := (Int.not_le.mp q2)
    have h := hf q2
    refine ga_iload_n 1 dX8_areApart_12 rfl rfl ?_
    refine ga_iload_n 3 dX8_areApart_13 rfl rfl ?_
    refine ga_ishr dX8_areApart_14 (fun r3 => ?_)
    refine ga_iconst dX8_areApart_15 ?_
    refine ga_iand dX8_areApart_16 (fun r4 => ?_)
    obtain ⟨hob, h⟩ := h
    have kJ5 : ∀ v9 : Int, gR v9 → v9 = (if (gand (gshr x1 x3) 1) = 0 then 0 else (gI σ 57 x3)) → gAt l G mX8_areApart (gQz G Q) 30 [(0, .ref (G.2.1 32)), (1, vI x1), (2, vI x2), (3, vI x3)] [vI v9] σ := by
      intro v9 rv9 ev9
      replace h := h v9 ev9
      refine ga_istore (ls' := [(4, vI v9), (0, .ref (G.2.1 32)), (1, vI x1), (2, vI x2), (3, vI x3)]) dX8_areApart_30 (by decide) rfl ?_
      refine ga_iload_n 3 dX8_areApart_32 rfl rfl ?_
      refine ga_iload 0 dX8_areApart_33 rfl ?_
      refine ga_iand dX8_areApart_35 (fun r10 => ?_)
      obtain ⟨ht, hf⟩ := h
      refine ga_if_eq (tgt := 41) dX8_areApart_36 (by decide) r10 (fun q11 => ?_) (fun q11 => ?_)
      · replace q11 : (gand x2 v9) = 0 := q11
        have h := ht q11
        refine ga_iload_n 3 dX8_areApart_41 rfl rfl ?_
        refine ga_iload 0 dX8_areApart_42 rfl ?_
        refine ga_ior dX8_areApart_44 (fun r12 => ?_)
        refine ga_istore_n (ls' := [(2, vI (gor x2 v9)), (4, vI v9), (0, .ref (G.2.1 32)), (1, vI x1), (3, vI x3)]) dX8_areApart_45 rfl (by decide) rfl ?_
        refine ga_iinc (ls' := [(3, vI (x3 + 1)), (2, vI (gor x2 v9)), (4, vI v9), (0, .ref (G.2.1 32)), (1, vI x1)]) 4 dX8_areApart_46 rfl (by decide) rfl ?_
        refine ga_goto (tgt := 4) dX8_areApart_49 (by decide) ?_
        exact ga_sub [3, 4, 1, 0] rfl h
      · replace q11 : ¬ (gand x2 v9) = 0 := q11
        have h := hf q11
        refine ga_iconst dX8_areApart_39 ?_
        exact ga_bret dX8_areApart_40 rfl (Or.inl rfl) h
    replace h := hob
    obtain ⟨ht, hf⟩ := h
    refine ga_if_eq (tgt := 29) dX8_areApart_17 (by decide) r4 (fun q6 => ?_) (fun q6 => ?_)
    · replace q6 : (gand (gshr x1 x3) 1) = 0 := q6
      have h := ht q6
      refine ga_iconst dX8_areApart_29 ?_
      exact kJ5 0 (by decide) (by rw [if_pos q6])
    · replace q6 : ¬ (gand (gshr x1 x3) 1) = 0 := q6
      have h := hf q6
      refine ga_aload_n 0 dX8_areApart_20 rfl rfl ?_
      refine ga_getR (kI := 17) (r := 57) dX8_areApart_21 fX8_55 rfl rfl (by decide) rfl ?_
      refine ga_iload_n 3 dX8_areApart_24 rfl rfl ?_
      obtain ⟨i7, h⟩ := h
      refine ga_iald (nI := 6) dX8_areApart_25 rfl rfl i7 (fun r8 => ?_)
      refine ga_goto (tgt := 30) dX8_areApart_26 (by decide) ?_
      exact kJ5 (gI σ 57 x3) r8 (by rw [if_neg q6])
abbrev eX8_mostApart (l : Launch) (G : gG) (x1 : Int) (σ : gS) (Q : Int → gS → Prop) : Prop := gEi l G mX8_mostApart [.ref (G.2.1 32), vI x1] σ Q
abbrev kX8_mostApart_4 (l : Launch) (G : gG)  (x1 : Int) (x2 : Int) (x3 : Int) (σ : gS) (Q : Int → gS → Prop) : Prop := gAt l G mX8_mostApart (gQi G Q) 4 [(0, .ref (G.2.1 32)), (1, vI x1), (2, vI x2), (3, vI x3)] [] σ
set_option maxRecDepth 100000 in
set_option maxHeartbeats 4000000 in
theorem vX8_mostApart {l : Launch} {G : gG} (x1 : Int) (rx1 : gR x1) (σ : gS) (Q : Int → gS → Prop) (h : kX8_mostApart_4 l G  x1 0 1 σ Q) : eX8_mostApart l G x1 σ Q := by
  refine ga_entry rfl (Nat.le_of_ble_eq_true rfl) ?_
  show gAt l G mX8_mostApart (gQi G Q) 0 [(0, .ref (G.2.1 32)), (1, vI x1)] [] σ
  refine ga_iconst dX8_mostApart_0 ?_
  refine ga_istore_n (ls' := [(2, vI 0), (0, .ref (G.2.1 32)), (1, vI x1)]) dX8_mostApart_1 rfl (by decide) rfl ?_
  refine ga_iconst dX8_mostApart_2 ?_
  refine ga_istore_n (ls' := [(3, vI 1), (2, vI 0), (0, .ref (G.2.1 32)), (1, vI x1)]) dX8_mostApart_3 rfl (by decide) rfl ?_
  exact ga_sub [2, 3, 1, 0] rfl h
set_option maxRecDepth 100000 in
set_option maxHeartbeats 4000000 in
theorem vX8_mostApart_4 {l : Launch} {G : gG}  (x1 : Int) (x2 : Int) (x3 : Int) (rx1 : gR x1) (rx2 : gR x2) (rx3 : gR x3) (σ : gS) (Q : Int → gS → Prop) (h : (x1 < x3 → Q x2 σ) ∧
  (x3 ≤ x1 → (¬ (gand x3 (gxor x1 (-1))) = 0 → kX8_mostApart_4 l G  x1 x2 (x3 + 1) σ Q) ∧
    ((gand x3 (gxor x1 (-1))) = 0 → eJ6_bitCount_0f7a4 l G x3 σ (fun v7 σ5 => gR v7 →
      eJ6_bitCount_0f7a4 l G x2 σ5 (fun v10 σ8 => gR v10 →
      (v7 ≤ v10 → kX8_mostApart_4 l G  x1 x2 (x3 + 1) σ8 Q) ∧
      (v10 < v7 → eX8_areApart l G x3 σ8 (fun v14 σ12 => (v14 = 0 ∨ v14 = 1) →
        (v14 = 0 → kX8_mostApart_4 l G  x1 x2 (x3 + 1) σ12 Q) ∧
        (¬ v14 = 0 → kX8_mostApart_4 l G  x1 x3 (x3 + 1) σ12 Q)))))))) : kX8_mostApart_4 l G  x1 x2 x3 σ Q := by
  refine ga_iload_n 3 dX8_mostApart_4 rfl rfl ?_
  refine ga_iload_n 1 dX8_mostApart_5 rfl rfl ?_
  obtain ⟨ht, hf⟩ := h
  refine ga_icmp_gt (tgt := 44) dX8_mostApart_6 (by decide) rx3 rx1 (fun q1 => ?_) (fun q1 => ?_)
  · replace q1 : x1 < x3 := q1
    have h := ht q1
    refine ga_iload_n 2 dX8_mostApart_44 rfl rfl ?_
    exact ga_iret dX8_mostApart_45 rfl rx2 h
  · replace q1 : x3 ≤ x1 := (Int.not_lt.mp q1)
    have h := hf q1
    refine ga_iload_n 3 dX8_mostApart_9 rfl rfl ?_
    refine ga_iload_n 1 dX8_mostApart_10 rfl rfl ?_
    refine ga_iconst dX8_mostApart_11 ?_
    refine ga_ixor dX8_mostApart_12 (fun r2 => ?_)
    refine ga_iand dX8_mostApart_13 (fun r3 => ?_)
    obtain ⟨ht, hf⟩ := h
    refine ga_if_ne (tgt := 38) dX8_mostApart_14 (by decide) r3 (fun q4 => ?_) (fun q4 => ?_)
    · replace q4 : ¬ (gand x3 (gxor x1 (-1))) = 0 := q4
      have h := ht q4
      refine ga_iinc (ls' := [(3, vI (x3 + 1)), (0, .ref (G.2.1 32)), (1, vI x1), (2, vI x2)]) 3 dX8_mostApart_38 rfl (by decide) rfl ?_
      refine ga_goto (tgt := 4) dX8_mostApart_41 (by decide) ?_
      exact ga_sub [1, 2, 3, 0] rfl h
    · replace q4 : (gand x3 (gxor x1 (-1))) = 0 := (Decidable.not_not.mp q4)
      have h := hf q4
      refine ga_iload_n 3 dX8_mostApart_17 rfl rfl ?_
      refine ga_callSi (z := mJ6_bitCount_0f7a4) (As := [vI x3]) (rest := []) dX8_mostApart_18 wX8_181 qX8_mostApart_J6_bitCount_0f7a4 rfl rfl (Nat.le_of_ble_eq_true rfl) (gEi_mono h (fun v7 σ5 h r6 => ?_))
      replace h := h r6
      refine ga_iload_n 2 dX8_mostApart_21 rfl rfl ?_
      refine ga_callSi (z := mJ6_bitCount_0f7a4) (As := [vI x2]) (rest := [vI v7]) dX8_mostApart_22 wX8_181 qX8_mostApart_J6_bitCount_0f7a4 rfl rfl (Nat.le_of_ble_eq_true rfl) (gEi_mono h (fun v10 σ8 h r9 => ?_))
      replace h := h r9
      obtain ⟨ht, hf⟩ := h
      refine ga_icmp_le (tgt := 38) dX8_mostApart_25 (by decide) r6 r9 (fun q11 => ?_) (fun q11 => ?_)
      · replace q11 : v7 ≤ v10 := q11
        have h := ht q11
        refine ga_iinc (ls' := [(3, vI (x3 + 1)), (0, .ref (G.2.1 32)), (1, vI x1), (2, vI x2)]) 3 dX8_mostApart_38 rfl (by decide) rfl ?_
        refine ga_goto (tgt := 4) dX8_mostApart_41 (by decide) ?_
        exact ga_sub [1, 2, 3, 0] rfl h
      · replace q11 : v10 < v7 := (Int.not_le.mp q11)
        have h := hf q11
        refine ga_aload_n 0 dX8_mostApart_28 rfl rfl ?_
        refine ga_iload_n 3 dX8_mostApart_29 rfl rfl ?_
        refine ga_callVz (z := mX8_areApart) (As := [vI x3]) (rest := []) dX8_mostApart_30 wX8_186 qX8_mostApart_X8_areApart rfl ⟨_, rfl, rfl⟩ rfl rfl (Nat.le_of_ble_eq_true rfl) (gEz_mono h (fun v14 σ12 h r13 => ?_))
        replace h := h r13
        obtain ⟨ht, hf⟩ := h
        refine ga_if_eq (tgt := 38) dX8_mostApart_33 (by decide) (gR_01 r13) (fun q15 => ?_) (fun q15 => ?_)
        · replace q15 : v14 = 0 := q15
          have h := ht q15
          refine ga_iinc (ls' := [(3, vI (x3 + 1)), (0, .ref (G.2.1 32)), (1, vI x1), (2, vI x2)]) 3 dX8_mostApart_38 rfl (by decide) rfl ?_
          refine ga_goto (tgt := 4) dX8_mostApart_41 (by decide) ?_
          exact ga_sub [1, 2, 3, 0] rfl h
        · replace q15 : ¬ v14 = 0 := q15
          have h := hf q15
          refine ga_iload_n 3 dX8_mostApart_36 rfl rfl ?_
          refine ga_istore_n (ls' := [(2, vI x3), (0, .ref (G.2.1 32)), (1, vI x1), (3, vI x3)]) dX8_mostApart_37 rfl (by decide) rfl ?_
          refine ga_iinc (ls' := [(3, vI (x3 + 1)), (2, vI x3), (0, .ref (G.2.1 32)), (1, vI x1)]) 3 dX8_mostApart_38 rfl (by decide) rfl ?_
          refine ga_goto (tgt := 4) dX8_mostApart_41 (by decide) ?_
          exact ga_sub [2, 3, 1, 0] rfl h
abbrev eX8_sendFan (l : Launch) (G : gG) (x1 : Int) (x2 : Int) (σ : gS) (Q : gS → Prop) : Prop := gEv l G mX8_sendFan [.ref (G.2.1 32), vI x1, vI x2] σ Q
abbrev kX8_sendFan_46 (l : Launch) (G : gG)  (x1 : Int) (x2 : Int) (x3 : Int) (σ : gS) (Q : gS → Prop) : Prop := gAt l G mX8_sendFan (gQv G Q) 46 [(0, .ref (G.2.1 32)), (1, vI x1), (2, vI x2), (3, vI x3)] [] σ
set_option maxRecDepth 100000 in
set_option maxHeartbeats 4000000 in
theorem vX8_sendFan {l : Launch} {G : gG} (x1 : Int) (x2 : Int) (rx1 : gR x1) (rx2 : gR x2) (σ : gS) (Q : gS → Prop) (h : (0 ≤ x1 ∧ x1 < 6) ∧ ∀ σ5, σ5 = sI σ 57 x1 (gand (gI σ 57 x1) (gxor x2 (-1))) →
  ∀ σ10, σ10 = sI σ5 45 5 (gand (gI σ5 45 5) (gxor (gshl 1 x1) (-1))) →
  ∀ σ14, σ14 = sI σ10 45 6 (gand (gI σ10 45 6) (gxor x2 (-1))) →
  kX8_sendFan_46 l G  x1 x2 0 σ14 Q) : eX8_sendFan l G x1 x2 σ Q := by
  refine ga_entry rfl (Nat.le_of_ble_eq_true rfl) ?_
  show gAt l G mX8_sendFan (gQv G Q) 0 [(0, .ref (G.2.1 32)), (1, vI x1), (2, vI x2)] [] σ
  refine ga_aload_n 0 dX8_sendFan_0 rfl rfl ?_
  refine ga_getR (kI := 17) (r := 57) dX8_sendFan_1 fX8_55 rfl rfl (by decide) rfl ?_
  refine ga_iload_n 1 dX8_sendFan_4 rfl rfl ?_
  refine ga_dup2 dX8_sendFan_5 rfl rfl ?_
  obtain ⟨i1, h⟩ := h
  refine ga_iald (nI := 6) dX8_sendFan_6 rfl rfl i1 (fun r2 => ?_)
  refine ga_iload_n 2 dX8_sendFan_7 rfl rfl ?_
  refine ga_iconst dX8_sendFan_8 ?_
  refine ga_ixor dX8_sendFan_9 (fun r3 => ?_)
  refine ga_iand dX8_sendFan_10 (fun r4 => ?_)
  obtain ⟨σ5, eσ5⟩ : ∃ z, z = sI σ 57 x1 (gand (gI σ 57 x1) (gxor x2 (-1))) := ⟨_, rfl⟩
  replace h := h σ5 eσ5
  refine ga_iast (nI := 6) dX8_sendFan_11 rfl rfl i1 r4 eσ5 ?_
  refine ga_aload_n 0 dX8_sendFan_12 rfl rfl ?_
  refine ga_getR (kI := 2) (r := 45) dX8_sendFan_13 fX8_28 rfl rfl (by decide) rfl ?_
  refine ga_dup dX8_sendFan_16 rfl ?_
  refine ga_getI (kI := 5) dX8_sendFan_17 fX8_175 rfl rfl rfl (fun r6 => ?_)
  refine ga_iconst dX8_sendFan_20 ?_
  refine ga_iload_n 1 dX8_sendFan_21 rfl rfl ?_
  refine ga_ishl dX8_sendFan_22 (fun r7 => ?_)
  refine ga_iconst dX8_sendFan_23 ?_
  refine ga_ixor dX8_sendFan_24 (fun r8 => ?_)
  refine ga_iand dX8_sendFan_25 (fun r9 => ?_)
  obtain ⟨σ10, eσ10⟩ : ∃ z, z = sI σ5 45 5 (gand (gI σ5 45 5) (gxor (gshl 1 x1) (-1))) := ⟨_, rfl⟩
  replace h := h σ10 eσ10
  refine ga_putI (kI := 5) dX8_sendFan_26 fX8_175 pX4_5 rfl rfl rfl r9 eσ10 ?_
  refine ga_aload_n 0 dX8_sendFan_29 rfl rfl ?_
  refine ga_getR (kI := 2) (r := 45) dX8_sendFan_30 fX8_28 rfl rfl (by decide) rfl ?_
  refine ga_dup dX8_sendFan_33 rfl ?_
  refine ga_getI (kI := 6) dX8_sendFan_34 fX8_172 rfl rfl rfl (fun r11 => ?_)
  refine ga_iload_n 2 dX8_sendFan_37 rfl rfl ?_
  refine ga_iconst dX8_sendFan_38 ?_
  refine ga_ixor dX8_sendFan_39 (fun r12 => ?_)
  refine ga_iand dX8_sendFan_40 (fun r13 => ?_)
  obtain ⟨σ14, eσ14⟩ : ∃ z, z = sI σ10 45 6 (gand (gI σ10 45 6) (gxor x2 (-1))) := ⟨_, rfl⟩
  replace h := h σ14 eσ14
  refine ga_putI (kI := 6) dX8_sendFan_41 fX8_172 pX4_6 rfl rfl rfl r13 eσ14 ?_
  refine ga_iconst dX8_sendFan_44 ?_
  refine ga_istore_n (ls' := [(3, vI 0), (0, .ref (G.2.1 32)), (1, vI x1), (2, vI x2)]) dX8_sendFan_45 rfl (by decide) rfl ?_
  exact ga_sub [1, 2, 3, 0] rfl h
set_option maxRecDepth 100000 in
set_option maxHeartbeats 4000000 in
theorem vX8_sendFan_46 {l : Launch} {G : gG}  (x1 : Int) (x2 : Int) (x3 : Int) (rx1 : gR x1) (rx2 : gR x2) (rx3 : gR x3) (σ : gS) (Q : gS → Prop) (h : ((gI σ 32 3) ≤ x3 → Q σ) ∧
  (x3 < (gI σ 32 3) → eX11_holds l G x2 x3 σ (fun v19 σ17 => (v19 = 0 ∨ v19 = 1) →
    (v19 = 0 → kX8_sendFan_46 l G  x1 x2 (x3 + 1) σ17 Q) ∧
    (¬ v19 = 0 → (0 ≤ x3 ∧ x3 < 6) ∧ ∀ σ22, σ22 = sI σ17 52 x3 x1 →
      kX8_sendFan_46 l G  x1 x2 (x3 + 1) σ22 Q)))) : kX8_sendFan_46 l G  x1 x2 x3 σ Q := by
  refine ga_iload_n 3 dX8_sendFan_46 rfl rfl ?_
  refine ga_aload_n 0 dX8_sendFan_47 rfl rfl ?_
  refine ga_getI (kI := 3) dX8_sendFan_48 fX8_32 rfl rfl rfl (fun r15 => ?_)
  obtain ⟨ht, hf⟩ := h
  refine ga_icmp_ge (tgt := 75) dX8_sendFan_51 (by decide) rx3 r15 (fun q16 => ?_) (fun q16 => ?_)
  · replace q16 : (gI σ 32 3) ≤ x3 := q16
    have h := ht q16
    exact ga_vret dX8_sendFan_75 rfl h
  · replace q16 : x3 < (gI σ 32 3) := (Int.not_le.mp q16)
    have h := hf q16
    refine ga_iload_n 2 dX8_sendFan_54 rfl rfl ?_
    refine ga_iload_n 3 dX8_sendFan_55 rfl rfl ?_
    refine ga_callNz (z := mX11_holds) (As := [vI x2, vI x3]) (rest := []) dX8_sendFan_56 wX8_121 qX8_sendFan_X11_holds rfl rfl (Nat.le_of_ble_eq_true rfl) (gEz_mono h (fun v19 σ17 h r18 => ?_))
    replace h := h r18
    obtain ⟨ht, hf⟩ := h
    refine ga_if_eq (tgt := 69) dX8_sendFan_59 (by decide) (gR_01 r18) (fun q20 => ?_) (fun q20 => ?_)
    · replace q20 : v19 = 0 := q20
      have h := ht q20
      refine ga_iinc (ls' := [(3, vI (x3 + 1)), (0, .ref (G.2.1 32)), (1, vI x1), (2, vI x2)]) 3 dX8_sendFan_69 rfl (by decide) rfl ?_
      refine ga_goto (tgt := 46) dX8_sendFan_72 (by decide) ?_
      exact ga_sub [1, 2, 3, 0] rfl h
    · replace q20 : ¬ v19 = 0 := q20
      have h := hf q20
      refine ga_aload_n 0 dX8_sendFan_62 rfl rfl ?_
      refine ga_getR (kI := 12) (r := 52) dX8_sendFan_63 fX8_40 rfl rfl (by decide) rfl ?_
      refine ga_iload_n 3 dX8_sendFan_66 rfl rfl ?_
      refine ga_iload_n 1 dX8_sendFan_67 rfl rfl ?_
      obtain ⟨i21, h⟩ := h
      obtain ⟨σ22, eσ22⟩ : ∃ z, z = sI σ17 52 x3 x1 := ⟨_, rfl⟩
      replace h := h σ22 eσ22
      refine ga_iast (nI := 6) dX8_sendFan_68 rfl rfl i21 rx1 eσ22 ?_
      refine ga_iinc (ls' := [(3, vI (x3 + 1)), (0, .ref (G.2.1 32)), (1, vI x1), (2, vI x2)]) 3 dX8_sendFan_69 rfl (by decide) rfl ?_
      refine ga_goto (tgt := 46) dX8_sendFan_72 (by decide) ?_
      exact ga_sub [1, 2, 3, 0] rfl h
abbrev eX8_moveUp (l : Launch) (G : gG) (c : Nat) (x1 : Int) (x2 : Int) (σ : gS) (Q : gS → Prop) : Prop := gEv l G mX8_moveUp [.ref (G.2.1 c), vI x1, vI x2] σ Q
abbrev kX8_moveUp_2 (l : Launch) (G : gG) (c : Nat) (x1 : Int) (x2 : Int) (x3 : Int) (σ : gS) (Q : gS → Prop) : Prop := gAt l G mX8_moveUp (gQv G Q) 2 [(0, .ref (G.2.1 c)), (1, vI x1), (2, vI x2), (3, vI x3)] [] σ
set_option maxRecDepth 100000 in
set_option maxHeartbeats 4000000 in
theorem vX8_moveUp {l : Launch} {G : gG} (c : Nat) (x1 : Int) (x2 : Int) (n : Nat) (hc : gshL[c]? = some (.inl (n, .int))) (rx1 : gR x1) (rx2 : gR x2) (σ : gS) (Q : gS → Prop) (h : kX8_moveUp_2 l G c x1 x2 x1 σ Q) : eX8_moveUp l G c x1 x2 σ Q := by
  refine ga_entry rfl (Nat.le_of_ble_eq_true rfl) ?_
  show gAt l G mX8_moveUp (gQv G Q) 0 [(0, .ref (G.2.1 c)), (1, vI x1), (2, vI x2)] [] σ
  refine ga_iload_n 1 dX8_moveUp_0 rfl rfl ?_
  refine ga_istore_n (ls' := [(3, vI x1), (0, .ref (G.2.1 c)), (1, vI x1), (2, vI x2)]) dX8_moveUp_1 rfl (by decide) rfl ?_
  exact ga_sub [1, 2, 3, 0] rfl h
set_option maxRecDepth 100000 in
set_option maxHeartbeats 4000000 in
theorem vX8_moveUp_2 {l : Launch} {G : gG} (c : Nat) (x1 : Int) (x2 : Int) (x3 : Int) (n : Nat) (hc : gshL[c]? = some (.inl (n, .int))) (rx1 : gR x1) (rx2 : gR x2) (rx3 : gR x3) (σ : gS) (Q : gS → Prop) (h : (gR (x1 + x2)) ∧ ((x1 + x2) ≤ x3 → Q σ) ∧
  (x3 < (x1 + x2) → (0 ≤ (x3 + 1) ∧ (x3 + 1) < n) ∧ (0 ≤ x3 ∧ x3 < n) ∧ ∀ σ6, σ6 = sI σ c x3 (gI σ c (x3 + 1)) →
    kX8_moveUp_2 l G c x1 x2 (x3 + 1) σ6 Q)) : kX8_moveUp_2 l G c x1 x2 x3 σ Q := by
  refine ga_iload_n 3 dX8_moveUp_2 rfl rfl ?_
  refine ga_iload_n 1 dX8_moveUp_3 rfl rfl ?_
  refine ga_iload_n 2 dX8_moveUp_4 rfl rfl ?_
  refine ga_iadd dX8_moveUp_5 ?_
  obtain ⟨r1, h⟩ := h
  obtain ⟨ht, hf⟩ := h
  refine ga_icmp_ge (tgt := 23) dX8_moveUp_6 (by decide) rx3 r1 (fun q2 => ?_) (fun q2 => ?_)
  · replace q2 : (x1 + x2) ≤ x3 := q2
    have h := ht q2
    exact ga_vret dX8_moveUp_23 rfl h
  · replace q2 : x3 < (x1 + x2) := (Int.not_le.mp q2)
    have h := hf q2
    refine ga_aload_n 0 dX8_moveUp_9 rfl rfl ?_
    refine ga_iload_n 3 dX8_moveUp_10 rfl rfl ?_
    refine ga_aload_n 0 dX8_moveUp_11 rfl rfl ?_
    refine ga_iload_n 3 dX8_moveUp_12 rfl rfl ?_
    refine ga_iconst dX8_moveUp_13 ?_
    refine ga_iadd dX8_moveUp_14 ?_
    obtain ⟨i3, h⟩ := h
    refine ga_iald (nI := n) dX8_moveUp_15 hc rfl i3 (fun r4 => ?_)
    obtain ⟨i5, h⟩ := h
    obtain ⟨σ6, eσ6⟩ : ∃ z, z = sI σ c x3 (gI σ c (x3 + 1)) := ⟨_, rfl⟩
    replace h := h σ6 eσ6
    refine ga_iast (nI := n) dX8_moveUp_16 hc rfl i5 r4 eσ6 ?_
    refine ga_iinc (ls' := [(3, vI (x3 + 1)), (0, .ref (G.2.1 c)), (1, vI x1), (2, vI x2)]) 3 dX8_moveUp_17 rfl (by decide) rfl ?_
    refine ga_goto (tgt := 2) dX8_moveUp_20 (by decide) ?_
    exact ga_sub [1, 2, 3, 0] rfl h
abbrev eX8_endSending (l : Launch) (G : gG) (x1 : Int) (σ : gS) (Q : gS → Prop) : Prop := gEv l G mX8_endSending [.ref (G.2.1 32), vI x1] σ Q
set_option maxRecDepth 100000 in
set_option maxHeartbeats 4000000 in
theorem vX8_endSending {l : Launch} {G : gG} (x1 : Int) (rx1 : gR x1) (σ : gS) (Q : gS → Prop) (h : (0 ≤ (x1 * 9) ∧ (x1 * 9) < 54) ∧ (0 ≤ (gI σ 56 (x1 * 9)) ∧ (gI σ 56 (x1 * 9)) < 360) ∧ (gR ((gI σ 40 (gI σ 56 (x1 * 9))) + 1)) ∧ ∀ σ5, σ5 = sI σ 40 (gI σ 56 (x1 * 9)) ((gI σ 40 (gI σ 56 (x1 * 9))) + 1) →
  (0 ≤ x1 ∧ x1 < 6) ∧ (¬ (gI σ5 57 x1) = 0 → Q σ5) ∧
  ((gI σ5 57 x1) = 0 → ∀ σ11, σ11 = sI σ5 38 (gI σ 56 (x1 * 9)) (gI σ5 41 0) →
    (gR ((gI σ11 32 9) + 1)) ∧ ∀ σ13, σ13 = sI σ11 32 9 ((gI σ11 32 9) + 1) →
    (gR ((gI σ13 55 x1) - 1)) ∧ ∀ σ16, σ16 = sI σ13 55 x1 ((gI σ13 55 x1) - 1) →
    eX8_moveUp l G 56 (x1 * 9) (gI σ16 55 x1) σ16 (fun σ19 =>
    ((¬ (gI σ19 55 x1) = 0 → (0 ≤ (gI σ19 56 (x1 * 9)) ∧ (gI σ19 56 (x1 * 9)) < 360) ∧ True) ∧
    ((gI σ19 55 x1) = 0 → True)) ∧
    (∀ v27 : Int, v27 = (if (gI σ19 55 x1) = 0 then 0 else (gI σ19 35 (gI σ19 56 (x1 * 9)))) →
    ∀ σ28, σ28 = sI σ19 57 x1 v27 →
      Q σ28)))) : eX8_endSending l G x1 σ Q := by
  refine ga_entry rfl (Nat.le_of_ble_eq_true rfl) ?_
  show gAt l G mX8_endSending (gQv G Q) 0 [(0, .ref (G.2.1 32)), (1, vI x1)] [] σ
  refine ga_aload_n 0 dX8_endSending_0 rfl rfl ?_
  refine ga_getR (kI := 16) (r := 56) dX8_endSending_1 fX8_52 rfl rfl (by decide) rfl ?_
  refine ga_iload_n 1 dX8_endSending_4 rfl rfl ?_
  refine ga_bipush dX8_endSending_5 (by decide) ?_
  refine ga_imul dX8_endSending_7 ?_
  obtain ⟨i1, h⟩ := h
  refine ga_iald (nI := 54) dX8_endSending_8 rfl rfl i1 (fun r2 => ?_)
  refine ga_istore_n (ls' := [(2, vI (gI σ 56 (x1 * 9))), (0, .ref (G.2.1 32)), (1, vI x1)]) dX8_endSending_9 rfl (by decide) rfl ?_
  refine ga_aload_n 1 dX8_endSending_10 rfl rfl ?_
  refine ga_getR (kI := 0) (r := 33) dX8_endSending_11 fX8_12 rfl rfl (by decide) rfl ?_
  refine ga_getR (kI := 7) (r := 40) dX8_endSending_14 fX8_190 rfl rfl (by decide) rfl ?_
  refine ga_iload_n 0 dX8_endSending_17 rfl rfl ?_
  refine ga_dup2 dX8_endSending_18 rfl rfl ?_
  obtain ⟨i3, h⟩ := h
  refine ga_iald (nI := 360) dX8_endSending_19 rfl rfl i3 (fun r4 => ?_)
  refine ga_iconst dX8_endSending_20 ?_
  refine ga_iadd dX8_endSending_21 ?_
  obtain ⟨r6, h⟩ := h
  obtain ⟨σ5, eσ5⟩ : ∃ z, z = sI σ 40 (gI σ 56 (x1 * 9)) ((gI σ 40 (gI σ 56 (x1 * 9))) + 1) := ⟨_, rfl⟩
  replace h := h σ5 eσ5
  refine ga_iast (nI := 360) dX8_endSending_22 rfl rfl i3 r6 eσ5 ?_
  refine ga_aload_n 1 dX8_endSending_23 rfl rfl ?_
  refine ga_getR (kI := 17) (r := 57) dX8_endSending_24 fX8_55 rfl rfl (by decide) rfl ?_
  refine ga_iload_n 2 dX8_endSending_27 rfl rfl ?_
  obtain ⟨i7, h⟩ := h
  refine ga_iald (nI := 6) dX8_endSending_28 rfl rfl i7 (fun r8 => ?_)
  obtain ⟨ht, hf⟩ := h
  refine ga_if_ne (tgt := 121) dX8_endSending_29 (by decide) r8 (fun q9 => ?_) (fun q9 => ?_)
  · replace q9 : ¬ (gI σ5 57 x1) = 0 := q9
    have h := ht q9
    exact ga_vret dX8_endSending_121 rfl h
  · replace q9 : (gI σ5 57 x1) = 0 := (Decidable.not_not.mp q9)
    have h := hf q9
    refine ga_aload_n 1 dX8_endSending_32 rfl rfl ?_
    refine ga_getR (kI := 0) (r := 33) dX8_endSending_33 fX8_12 rfl rfl (by decide) rfl ?_
    refine ga_getR (kI := 5) (r := 38) dX8_endSending_36 fX8_193 rfl rfl (by decide) rfl ?_
    refine ga_iload_n 0 dX8_endSending_39 rfl rfl ?_
    refine ga_aload_n 1 dX8_endSending_40 rfl rfl ?_
    refine ga_getR (kI := 1) (r := 41) dX8_endSending_41 fX8_21 rfl rfl (by decide) rfl ?_
    refine ga_getI (kI := 0) dX8_endSending_44 fX8_86 rfl rfl rfl (fun r10 => ?_)
    obtain ⟨σ11, eσ11⟩ : ∃ z, z = sI σ5 38 (gI σ 56 (x1 * 9)) (gI σ5 41 0) := ⟨_, rfl⟩
    replace h := h σ11 eσ11
    refine ga_iast (nI := 360) dX8_endSending_47 rfl rfl i3 r10 eσ11 ?_
    refine ga_aload_n 1 dX8_endSending_48 rfl rfl ?_
    refine ga_dup dX8_endSending_49 rfl ?_
    refine ga_getI (kI := 9) dX8_endSending_50 fX8_98 rfl rfl rfl (fun r12 => ?_)
    refine ga_iconst dX8_endSending_53 ?_
    refine ga_iadd dX8_endSending_54 ?_
    obtain ⟨r14, h⟩ := h
    obtain ⟨σ13, eσ13⟩ : ∃ z, z = sI σ11 32 9 ((gI σ11 32 9) + 1) := ⟨_, rfl⟩
    replace h := h σ13 eσ13
    refine ga_putI (kI := 9) dX8_endSending_55 fX8_98 pX8_9 rfl rfl rfl r14 eσ13 ?_
    refine ga_aload_n 1 dX8_endSending_58 rfl rfl ?_
    refine ga_getR (kI := 15) (r := 55) dX8_endSending_59 fX8_49 rfl rfl (by decide) rfl ?_
    refine ga_iload_n 2 dX8_endSending_62 rfl rfl ?_
    refine ga_dup2 dX8_endSending_63 rfl rfl ?_
    refine ga_iald (nI := 6) dX8_endSending_64 rfl rfl i7 (fun r15 => ?_)
    refine ga_iconst dX8_endSending_65 ?_
    refine ga_isub dX8_endSending_66 ?_
    obtain ⟨r17, h⟩ := h
    obtain ⟨σ16, eσ16⟩ : ∃ z, z = sI σ13 55 x1 ((gI σ13 55 x1) - 1) := ⟨_, rfl⟩
    replace h := h σ16 eσ16
    refine ga_iast (nI := 6) dX8_endSending_67 rfl rfl i7 r17 eσ16 ?_
    refine ga_aload_n 1 dX8_endSending_68 rfl rfl ?_
    refine ga_getR (kI := 16) (r := 56) dX8_endSending_69 fX8_52 rfl rfl (by decide) rfl ?_
    refine ga_iload_n 2 dX8_endSending_72 rfl rfl ?_
    refine ga_bipush dX8_endSending_73 (by decide) ?_
    refine ga_imul dX8_endSending_75 ?_
    refine ga_aload_n 1 dX8_endSending_76 rfl rfl ?_
    refine ga_getR (kI := 15) (r := 55) dX8_endSending_77 fX8_49 rfl rfl (by decide) rfl ?_
    refine ga_iload_n 2 dX8_endSending_80 rfl rfl ?_
    refine ga_iald (nI := 6) dX8_endSending_81 rfl rfl i7 (fun r18 => ?_)
    refine ga_callSv (z := mX8_moveUp) (As := [.ref (G.2.1 56), vI (x1 * 9), vI (gI σ16 55 x1)]) (rest := []) dX8_endSending_82 wX8_196 qX8_endSending_X8_moveUp rfl rfl (Nat.le_of_ble_eq_true rfl) (gEv_mono h (fun σ19 h => ?_))
    refine ga_aload_n 1 dX8_endSending_85 rfl rfl ?_
    refine ga_getR (kI := 17) (r := 57) dX8_endSending_86 fX8_55 rfl rfl (by decide) rfl ?_
    refine ga_iload_n 2 dX8_endSending_89 rfl rfl ?_
    refine ga_aload_n 1 dX8_endSending_90 rfl rfl ?_
    refine ga_getR (kI := 15) (r := 55) dX8_endSending_91 fX8_49 rfl rfl (by decide) rfl ?_
    refine ga_iload_n 2 dX8_endSending_94 rfl rfl ?_
    refine ga_iald (nI := 6) dX8_endSending_95 rfl rfl i7 (fun r21 => ?_)
    obtain ⟨hob, h⟩ := h
    have kJ22 : ∀ v27 : Int, gR v27 → v27 = (if (gI σ19 55 x1) = 0 then 0 else (gI σ19 35 (gI σ19 56 (x1 * 9)))) → gAt l G mX8_endSending (gQv G Q) 120 [(2, vI (gI σ 56 (x1 * 9))), (0, .ref (G.2.1 32)), (1, vI x1)] [vI v27, vI x1, .ref (G.2.1 57)] σ19 := by
      intro v27 rv27 ev27
      replace h := h v27 ev27
      obtain ⟨σ28, eσ28⟩ : ∃ z, z = sI σ19 57 x1 v27 := ⟨_, rfl⟩
      replace h := h σ28 eσ28
      refine ga_iast (nI := 6) dX8_endSending_120 rfl rfl i7 rv27 eσ28 ?_
      exact ga_vret dX8_endSending_121 rfl h
    replace h := hob
    obtain ⟨ht, hf⟩ := h
    refine ga_if_ne (tgt := 103) dX8_endSending_96 (by decide) r21 (fun q23 => ?_) (fun q23 => ?_)
    · replace q23 : ¬ (gI σ19 55 x1) = 0 := q23
      have h := ht q23
      refine ga_aload_n 1 dX8_endSending_103 rfl rfl ?_
      refine ga_getR (kI := 0) (r := 33) dX8_endSending_104 fX8_12 rfl rfl (by decide) rfl ?_
      refine ga_getR (kI := 2) (r := 35) dX8_endSending_107 fX8_200 rfl rfl (by decide) rfl ?_
      refine ga_aload_n 1 dX8_endSending_110 rfl rfl ?_
      refine ga_getR (kI := 16) (r := 56) dX8_endSending_111 fX8_52 rfl rfl (by decide) rfl ?_
      refine ga_iload_n 2 dX8_endSending_114 rfl rfl ?_
      refine ga_bipush dX8_endSending_115 (by decide) ?_
      refine ga_imul dX8_endSending_117 ?_
      refine ga_iald (nI := 54) dX8_endSending_118 rfl rfl i1 (fun r24 => ?_)
      obtain ⟨i25, h⟩ := h
      refine ga_iald (nI := 360) dX8_endSending_119 rfl rfl i25 (fun r26 => ?_)
      exact kJ22 (gI σ19 35 (gI σ19 56 (x1 * 9))) r26 (by rw [if_neg q23])
    · replace q23 : (gI σ19 55 x1) = 0 := (Decidable.not_not.mp q23)
      have h := hf q23
      refine ga_iconst dX8_endSending_99 ?_
      refine ga_goto (tgt := 120) dX8_endSending_100 (by decide) ?_
      exact kJ22 0 (by decide) (by rw [if_pos q23])
abbrev eX8_sendFans (l : Launch) (G : gG) (x1 : Int) (σ : gS) (Q : gS → Prop) : Prop := gEv l G mX8_sendFans [.ref (G.2.1 32), vI x1] σ Q
abbrev kX8_sendFans_8 (l : Launch) (G : gG)  (x1 : Int) (x2 : Int) (x3 : Int) (σ : gS) (Q : gS → Prop) : Prop := gAt l G mX8_sendFans (gQv G Q) 8 [(0, .ref (G.2.1 32)), (1, vI x1), (2, vI x2), (3, vI x3)] [] σ
abbrev kX8_sendFans_43 (l : Launch) (G : gG)  (x1 : Int) (x2 : Int) (x3 : Int) (σ : gS) (Q : gS → Prop) : Prop := gAt l G mX8_sendFans (gQv G Q) 43 [(0, .ref (G.2.1 32)), (1, vI x1), (2, vI x2), (3, vI x3)] [] σ
abbrev kX8_sendFans_67 (l : Launch) (G : gG)  (x1 : Int) (x2 : Int) (x3 : Int) (x4 : Int) (x5 : Int) (σ : gS) (Q : gS → Prop) : Prop := gAt l G mX8_sendFans (gQv G Q) 67 [(0, .ref (G.2.1 32)), (1, vI x1), (2, vI x2), (3, vI x3), (4, vI x4), (5, vI x5)] [] σ
abbrev kX8_sendFans_121 (l : Launch) (G : gG)  (x1 : Int) (x2 : Int) (x3 : Int) (σ : gS) (Q : gS → Prop) : Prop := gAt l G mX8_sendFans (gQv G Q) 121 [(0, .ref (G.2.1 32)), (1, vI x1), (2, vI x2), (3, vI x3)] [] σ
set_option maxRecDepth 100000 in
set_option maxHeartbeats 4000000 in
theorem vX8_sendFans {l : Launch} {G : gG} (x1 : Int) (rx1 : gR x1) (σ : gS) (Q : gS → Prop) (h : eX8_mostApart l G x1 σ (fun v3 σ1 => gR v3 →
  kX8_sendFans_8 l G  x1 v3 0 σ1 Q)) : eX8_sendFans l G x1 σ Q := by
  refine ga_entry rfl (Nat.le_of_ble_eq_true rfl) ?_
  show gAt l G mX8_sendFans (gQv G Q) 0 [(0, .ref (G.2.1 32)), (1, vI x1)] [] σ
  refine ga_aload_n 0 dX8_sendFans_0 rfl rfl ?_
  refine ga_iload_n 1 dX8_sendFans_1 rfl rfl ?_
  refine ga_callVi (z := mX8_mostApart) (As := [vI x1]) (rest := []) dX8_sendFans_2 wX8_165 qX8_sendFans_X8_mostApart rfl ⟨_, rfl, rfl⟩ rfl rfl (Nat.le_of_ble_eq_true rfl) (gEi_mono h (fun v3 σ1 h r2 => ?_))
  replace h := h r2
  refine ga_istore_n (ls' := [(2, vI v3), (0, .ref (G.2.1 32)), (1, vI x1)]) dX8_sendFans_5 rfl (by decide) rfl ?_
  refine ga_iconst dX8_sendFans_6 ?_
  refine ga_istore_n (ls' := [(3, vI 0), (2, vI v3), (0, .ref (G.2.1 32)), (1, vI x1)]) dX8_sendFans_7 rfl (by decide) rfl ?_
  exact ga_sub [2, 3, 1, 0] rfl h
set_option maxRecDepth 100000 in
set_option maxHeartbeats 4000000 in
theorem vX8_sendFans_8 {l : Launch} {G : gG}  (x1 : Int) (x2 : Int) (x3 : Int) (rx1 : gR x1) (rx2 : gR x2) (rx3 : gR x3) (σ : gS) (Q : gS → Prop) (h : ((gI σ 32 3) ≤ x3 → kX8_sendFans_43 l G  x1 x2 0 σ Q) ∧
  (x3 < (gI σ 32 3) → eX11_holds l G x2 x3 σ (fun v8 σ6 => (v8 = 0 ∨ v8 = 1) →
    (v8 = 0 → kX8_sendFans_8 l G  x1 x2 (x3 + 1) σ6 Q) ∧
    (¬ v8 = 0 → (0 ≤ x3 ∧ x3 < 6) ∧ eX8_sendFan l G x3 (gI σ6 57 x3) σ6 (fun σ12 =>
      kX8_sendFans_8 l G  x1 x2 (x3 + 1) σ12 Q))))) : kX8_sendFans_8 l G  x1 x2 x3 σ Q := by
  refine ga_iload_n 3 dX8_sendFans_8 rfl rfl ?_
  refine ga_aload_n 0 dX8_sendFans_9 rfl rfl ?_
  refine ga_getI (kI := 3) dX8_sendFans_10 fX8_32 rfl rfl rfl (fun r4 => ?_)
  obtain ⟨ht, hf⟩ := h
  refine ga_icmp_ge (tgt := 41) dX8_sendFans_13 (by decide) rx3 r4 (fun q5 => ?_) (fun q5 => ?_)
  · replace q5 : (gI σ 32 3) ≤ x3 := q5
    have h := ht q5
    refine ga_iconst dX8_sendFans_41 ?_
    refine ga_istore_n (ls' := [(3, vI 0), (0, .ref (G.2.1 32)), (1, vI x1), (2, vI x2)]) dX8_sendFans_42 rfl (by decide) rfl ?_
    exact ga_sub [1, 2, 3, 0] rfl h
  · replace q5 : x3 < (gI σ 32 3) := (Int.not_le.mp q5)
    have h := hf q5
    refine ga_iload_n 2 dX8_sendFans_16 rfl rfl ?_
    refine ga_iload_n 3 dX8_sendFans_17 rfl rfl ?_
    refine ga_callNz (z := mX11_holds) (As := [vI x2, vI x3]) (rest := []) dX8_sendFans_18 wX8_121 qX8_sendFans_X11_holds rfl rfl (Nat.le_of_ble_eq_true rfl) (gEz_mono h (fun v8 σ6 h r7 => ?_))
    replace h := h r7
    obtain ⟨ht, hf⟩ := h
    refine ga_if_eq (tgt := 35) dX8_sendFans_21 (by decide) (gR_01 r7) (fun q9 => ?_) (fun q9 => ?_)
    · replace q9 : v8 = 0 := q9
      have h := ht q9
      refine ga_iinc (ls' := [(3, vI (x3 + 1)), (0, .ref (G.2.1 32)), (1, vI x1), (2, vI x2)]) 3 dX8_sendFans_35 rfl (by decide) rfl ?_
      refine ga_goto (tgt := 8) dX8_sendFans_38 (by decide) ?_
      exact ga_sub [1, 2, 3, 0] rfl h
    · replace q9 : ¬ v8 = 0 := q9
      have h := hf q9
      refine ga_aload_n 0 dX8_sendFans_24 rfl rfl ?_
      refine ga_iload_n 3 dX8_sendFans_25 rfl rfl ?_
      refine ga_aload_n 0 dX8_sendFans_26 rfl rfl ?_
      refine ga_getR (kI := 17) (r := 57) dX8_sendFans_27 fX8_55 rfl rfl (by decide) rfl ?_
      refine ga_iload_n 3 dX8_sendFans_30 rfl rfl ?_
      obtain ⟨i10, h⟩ := h
      refine ga_iald (nI := 6) dX8_sendFans_31 rfl rfl i10 (fun r11 => ?_)
      refine ga_callVv (z := mX8_sendFan) (As := [vI x3, vI (gI σ6 57 x3)]) (rest := []) dX8_sendFans_32 wX8_169 qX8_sendFans_X8_sendFan rfl ⟨_, rfl, rfl⟩ rfl rfl (Nat.le_of_ble_eq_true rfl) (gEv_mono h (fun σ12 h => ?_))
      refine ga_iinc (ls' := [(3, vI (x3 + 1)), (0, .ref (G.2.1 32)), (1, vI x1), (2, vI x2)]) 3 dX8_sendFans_35 rfl (by decide) rfl ?_
      refine ga_goto (tgt := 8) dX8_sendFans_38 (by decide) ?_
      exact ga_sub [1, 2, 3, 0] rfl h
set_option maxRecDepth 100000 in
set_option maxHeartbeats 4000000 in
theorem vX8_sendFans_43 {l : Launch} {G : gG}  (x1 : Int) (x2 : Int) (x3 : Int) (rx1 : gR x1) (rx2 : gR x2) (rx3 : gR x3) (σ : gS) (Q : gS → Prop) (h : ((gI σ 32 3) ≤ x3 → kX8_sendFans_121 l G  x1 x2 0 σ Q) ∧
  (x3 < (gI σ 32 3) → eX11_holds l G (gI σ 45 6) x3 σ (fun v19 σ17 => (v19 = 0 ∨ v19 = 1) →
    kX8_sendFans_67 l G  x1 x2 x3 v19 0 σ17 Q))) : kX8_sendFans_43 l G  x1 x2 x3 σ Q := by
  refine ga_iload_n 3 dX8_sendFans_43 rfl rfl ?_
  refine ga_aload_n 0 dX8_sendFans_44 rfl rfl ?_
  refine ga_getI (kI := 3) dX8_sendFans_45 fX8_32 rfl rfl rfl (fun r14 => ?_)
  obtain ⟨ht, hf⟩ := h
  refine ga_icmp_ge (tgt := 119) dX8_sendFans_48 (by decide) rx3 r14 (fun q15 => ?_) (fun q15 => ?_)
  · replace q15 : (gI σ 32 3) ≤ x3 := q15
    have h := ht q15
    refine ga_iconst dX8_sendFans_119 ?_
    refine ga_istore_n (ls' := [(3, vI 0), (0, .ref (G.2.1 32)), (1, vI x1), (2, vI x2)]) dX8_sendFans_120 rfl (by decide) rfl ?_
    exact ga_sub [1, 2, 3, 0] rfl h
  · replace q15 : x3 < (gI σ 32 3) := (Int.not_le.mp q15)
    have h := hf q15
    refine ga_aload_n 0 dX8_sendFans_51 rfl rfl ?_
    refine ga_getR (kI := 2) (r := 45) dX8_sendFans_52 fX8_28 rfl rfl (by decide) rfl ?_
    refine ga_getI (kI := 6) dX8_sendFans_55 fX8_172 rfl rfl rfl (fun r16 => ?_)
    refine ga_iload_n 3 dX8_sendFans_58 rfl rfl ?_
    refine ga_callNz (z := mX11_holds) (As := [vI (gI σ 45 6), vI x3]) (rest := []) dX8_sendFans_59 wX8_121 qX8_sendFans_X11_holds rfl rfl (Nat.le_of_ble_eq_true rfl) (gEz_mono h (fun v19 σ17 h r18 => ?_))
    replace h := h r18
    refine ga_istore (ls' := [(4, vI v19), (0, .ref (G.2.1 32)), (1, vI x1), (2, vI x2), (3, vI x3)]) dX8_sendFans_62 (by decide) rfl ?_
    refine ga_iconst dX8_sendFans_64 ?_
    refine ga_istore (ls' := [(5, vI 0), (4, vI v19), (0, .ref (G.2.1 32)), (1, vI x1), (2, vI x2), (3, vI x3)]) dX8_sendFans_65 (by decide) rfl ?_
    exact ga_sub [2, 3, 4, 5, 1, 0] rfl h
set_option maxRecDepth 100000 in
set_option maxHeartbeats 4000000 in
theorem vX8_sendFans_67 {l : Launch} {G : gG}  (x1 : Int) (x2 : Int) (x3 : Int) (x4 : Int) (x5 : Int) (rx1 : gR x1) (rx2 : gR x2) (rx3 : gR x3) (rx4 : gR x4) (rx5 : gR x5) (σ : gS) (Q : gS → Prop) (h : ((gI σ 32 3) ≤ x5 → kX8_sendFans_43 l G  x1 x2 (x3 + 1) σ Q) ∧
  (x5 < (gI σ 32 3) → (x4 = 0 → kX8_sendFans_43 l G  x1 x2 (x3 + 1) σ Q) ∧
    (¬ x4 = 0 → (0 ≤ x5 ∧ x5 < 6) ∧ eX11_holds l G (gI σ 57 x5) x3 σ (fun v27 σ25 => (v27 = 0 ∨ v27 = 1) →
      (v27 = 0 → kX8_sendFans_67 l G  x1 x2 x3 x4 (x5 + 1) σ25 Q) ∧
      (¬ v27 = 0 → eX8_sendFan l G x5 (gshl 1 x3) σ25 (fun σ30 =>
        kX8_sendFans_67 l G  x1 x2 x3 0 (x5 + 1) σ30 Q)))))) : kX8_sendFans_67 l G  x1 x2 x3 x4 x5 σ Q := by
  refine ga_iload 5 dX8_sendFans_67 rfl ?_
  refine ga_aload_n 0 dX8_sendFans_69 rfl rfl ?_
  refine ga_getI (kI := 3) dX8_sendFans_70 fX8_32 rfl rfl rfl (fun r20 => ?_)
  obtain ⟨ht, hf⟩ := h
  refine ga_icmp_ge (tgt := 113) dX8_sendFans_73 (by decide) rx5 r20 (fun q21 => ?_) (fun q21 => ?_)
  · replace q21 : (gI σ 32 3) ≤ x5 := q21
    have h := ht q21
    refine ga_iinc (ls' := [(3, vI (x3 + 1)), (0, .ref (G.2.1 32)), (1, vI x1), (2, vI x2), (4, vI x4), (5, vI x5)]) 3 dX8_sendFans_113 rfl (by decide) rfl ?_
    refine ga_goto (tgt := 43) dX8_sendFans_116 (by decide) ?_
    exact ga_sub [1, 2, 3, 0] rfl h
  · replace q21 : x5 < (gI σ 32 3) := (Int.not_le.mp q21)
    have h := hf q21
    refine ga_iload 4 dX8_sendFans_76 rfl ?_
    obtain ⟨ht, hf⟩ := h
    refine ga_if_eq (tgt := 113) dX8_sendFans_78 (by decide) rx4 (fun q22 => ?_) (fun q22 => ?_)
    · replace q22 : x4 = 0 := q22
      have h := ht q22
      refine ga_iinc (ls' := [(3, vI (x3 + 1)), (0, .ref (G.2.1 32)), (1, vI x1), (2, vI x2), (4, vI x4), (5, vI x5)]) 3 dX8_sendFans_113 rfl (by decide) rfl ?_
      refine ga_goto (tgt := 43) dX8_sendFans_116 (by decide) ?_
      exact ga_sub [1, 2, 3, 0] rfl h
    · replace q22 : ¬ x4 = 0 := q22
      have h := hf q22
      refine ga_aload_n 0 dX8_sendFans_81 rfl rfl ?_
      refine ga_getR (kI := 17) (r := 57) dX8_sendFans_82 fX8_55 rfl rfl (by decide) rfl ?_
      refine ga_iload 5 dX8_sendFans_85 rfl ?_
      obtain ⟨i23, h⟩ := h
      refine ga_iald (nI := 6) dX8_sendFans_87 rfl rfl i23 (fun r24 => ?_)
      refine ga_iload_n 3 dX8_sendFans_88 rfl rfl ?_
      refine ga_callNz (z := mX11_holds) (As := [vI (gI σ 57 x5), vI x3]) (rest := []) dX8_sendFans_89 wX8_121 qX8_sendFans_X11_holds rfl rfl (Nat.le_of_ble_eq_true rfl) (gEz_mono h (fun v27 σ25 h r26 => ?_))
      replace h := h r26
      obtain ⟨ht, hf⟩ := h
      refine ga_if_eq (tgt := 107) dX8_sendFans_92 (by decide) (gR_01 r26) (fun q28 => ?_) (fun q28 => ?_)
      · replace q28 : v27 = 0 := q28
        have h := ht q28
        refine ga_iinc (ls' := [(5, vI (x5 + 1)), (0, .ref (G.2.1 32)), (1, vI x1), (2, vI x2), (3, vI x3), (4, vI x4)]) 5 dX8_sendFans_107 rfl (by decide) rfl ?_
        refine ga_goto (tgt := 67) dX8_sendFans_110 (by decide) ?_
        exact ga_sub [1, 2, 3, 4, 5, 0] rfl h
      · replace q28 : ¬ v27 = 0 := q28
        have h := hf q28
        refine ga_aload_n 0 dX8_sendFans_95 rfl rfl ?_
        refine ga_iload 5 dX8_sendFans_96 rfl ?_
        refine ga_iconst dX8_sendFans_98 ?_
        refine ga_iload_n 3 dX8_sendFans_99 rfl rfl ?_
        refine ga_ishl dX8_sendFans_100 (fun r29 => ?_)
        refine ga_callVv (z := mX8_sendFan) (As := [vI x5, vI (gshl 1 x3)]) (rest := []) dX8_sendFans_101 wX8_169 qX8_sendFans_X8_sendFan rfl ⟨_, rfl, rfl⟩ rfl rfl (Nat.le_of_ble_eq_true rfl) (gEv_mono h (fun σ30 h => ?_))
        refine ga_iconst dX8_sendFans_104 ?_
        refine ga_istore (ls' := [(4, vI 0), (0, .ref (G.2.1 32)), (1, vI x1), (2, vI x2), (3, vI x3), (5, vI x5)]) dX8_sendFans_105 (by decide) rfl ?_
        refine ga_iinc (ls' := [(5, vI (x5 + 1)), (4, vI 0), (0, .ref (G.2.1 32)), (1, vI x1), (2, vI x2), (3, vI x3)]) 5 dX8_sendFans_107 rfl (by decide) rfl ?_
        refine ga_goto (tgt := 67) dX8_sendFans_110 (by decide) ?_
        exact ga_sub [2, 3, 4, 5, 1, 0] rfl h
set_option maxRecDepth 100000 in
set_option maxHeartbeats 4000000 in
theorem vX8_sendFans_121 {l : Launch} {G : gG}  (x1 : Int) (x2 : Int) (x3 : Int) (rx1 : gR x1) (rx2 : gR x2) (rx3 : gR x3) (σ : gS) (Q : gS → Prop) (h : ((gI σ 32 3) ≤ x3 → Q σ) ∧
  (x3 < (gI σ 32 3) → eX11_holds l G (gI σ 45 5) x3 σ (fun v37 σ35 => (v37 = 0 ∨ v37 = 1) →
    (¬ v37 = 0 → kX8_sendFans_121 l G  x1 x2 (x3 + 1) σ35 Q) ∧
    (v37 = 0 → eX8_endSending l G x3 σ35 (fun σ39 =>
      kX8_sendFans_121 l G  x1 x2 (x3 + 1) σ39 Q))))) : kX8_sendFans_121 l G  x1 x2 x3 σ Q := by
  refine ga_iload_n 3 dX8_sendFans_121 rfl rfl ?_
  refine ga_aload_n 0 dX8_sendFans_122 rfl rfl ?_
  refine ga_getI (kI := 3) dX8_sendFans_123 fX8_32 rfl rfl rfl (fun r32 => ?_)
  obtain ⟨ht, hf⟩ := h
  refine ga_icmp_ge (tgt := 154) dX8_sendFans_126 (by decide) rx3 r32 (fun q33 => ?_) (fun q33 => ?_)
  · replace q33 : (gI σ 32 3) ≤ x3 := q33
    have h := ht q33
    exact ga_vret dX8_sendFans_154 rfl h
  · replace q33 : x3 < (gI σ 32 3) := (Int.not_le.mp q33)
    have h := hf q33
    refine ga_aload_n 0 dX8_sendFans_129 rfl rfl ?_
    refine ga_getR (kI := 2) (r := 45) dX8_sendFans_130 fX8_28 rfl rfl (by decide) rfl ?_
    refine ga_getI (kI := 5) dX8_sendFans_133 fX8_175 rfl rfl rfl (fun r34 => ?_)
    refine ga_iload_n 3 dX8_sendFans_136 rfl rfl ?_
    refine ga_callNz (z := mX11_holds) (As := [vI (gI σ 45 5), vI x3]) (rest := []) dX8_sendFans_137 wX8_121 qX8_sendFans_X11_holds rfl rfl (Nat.le_of_ble_eq_true rfl) (gEz_mono h (fun v37 σ35 h r36 => ?_))
    replace h := h r36
    obtain ⟨ht, hf⟩ := h
    refine ga_if_ne (tgt := 148) dX8_sendFans_140 (by decide) (gR_01 r36) (fun q38 => ?_) (fun q38 => ?_)
    · replace q38 : ¬ v37 = 0 := q38
      have h := ht q38
      refine ga_iinc (ls' := [(3, vI (x3 + 1)), (0, .ref (G.2.1 32)), (1, vI x1), (2, vI x2)]) 3 dX8_sendFans_148 rfl (by decide) rfl ?_
      refine ga_goto (tgt := 121) dX8_sendFans_151 (by decide) ?_
      exact ga_sub [1, 2, 3, 0] rfl h
    · replace q38 : v37 = 0 := (Decidable.not_not.mp q38)
      have h := hf q38
      refine ga_aload_n 0 dX8_sendFans_143 rfl rfl ?_
      refine ga_iload_n 3 dX8_sendFans_144 rfl rfl ?_
      refine ga_callVv (z := mX8_endSending) (As := [vI x3]) (rest := []) dX8_sendFans_145 wX8_178 qX8_sendFans_X8_endSending rfl ⟨_, rfl, rfl⟩ rfl rfl (Nat.le_of_ble_eq_true rfl) (gEv_mono h (fun σ39 h => ?_))
      refine ga_iinc (ls' := [(3, vI (x3 + 1)), (0, .ref (G.2.1 32)), (1, vI x1), (2, vI x2)]) 3 dX8_sendFans_148 rfl (by decide) rfl ?_
      refine ga_goto (tgt := 121) dX8_sendFans_151 (by decide) ?_
      exact ga_sub [1, 2, 3, 0] rfl h
abbrev eX8_sendCell (l : Launch) (G : gG) (x1 : Int) (x2 : Int) (σ : gS) (Q : gS → Prop) : Prop := gEv l G mX8_sendCell [.ref (G.2.1 32), vI x1, vI x2] σ Q
set_option maxRecDepth 100000 in
set_option maxHeartbeats 4000000 in
theorem vX8_sendCell {l : Launch} {G : gG} (x1 : Int) (x2 : Int) (rx1 : gR x1) (rx2 : gR x2) (σ : gS) (Q : gS → Prop) (h : (0 ≤ (((x1 * 6) + x2) * 9) ∧ (((x1 * 6) + x2) * 9) < 324) ∧ (0 ≤ (gI σ 54 (((x1 * 6) + x2) * 9)) ∧ (gI σ 54 (((x1 * 6) + x2) * 9)) < 360) ∧ ∀ σ5, σ5 = sI σ 38 (gI σ 54 (((x1 * 6) + x2) * 9)) (gI σ 41 0) →
  (gR ((gI σ5 32 8) + 1)) ∧ ∀ σ7, σ7 = sI σ5 32 8 ((gI σ5 32 8) + 1) →
  (0 ≤ ((x1 * 6) + x2) ∧ ((x1 * 6) + x2) < 36) ∧ (gR ((gI σ7 53 ((x1 * 6) + x2)) - 1)) ∧ ∀ σ11, σ11 = sI σ7 53 ((x1 * 6) + x2) ((gI σ7 53 ((x1 * 6) + x2)) - 1) →
  eX8_moveUp l G 54 (((x1 * 6) + x2) * 9) (gI σ11 53 ((x1 * 6) + x2)) σ11 (fun σ14 =>
  (¬ (gI σ14 53 ((x1 * 6) + x2)) = 0 → Q σ14) ∧
  ((gI σ14 53 ((x1 * 6) + x2)) = 0 → (0 ≤ x2 ∧ x2 < 6) ∧ ∀ σ23, σ23 = sI σ14 48 x2 (gand (gI σ14 48 x2) (gxor (gshl 1 x1) (-1))) →
    Q σ23))) : eX8_sendCell l G x1 x2 σ Q := by
  refine ga_entry rfl (Nat.le_of_ble_eq_true rfl) ?_
  show gAt l G mX8_sendCell (gQv G Q) 0 [(0, .ref (G.2.1 32)), (1, vI x1), (2, vI x2)] [] σ
  refine ga_iload_n 1 dX8_sendCell_0 rfl rfl ?_
  refine ga_bipush dX8_sendCell_1 (by decide) ?_
  refine ga_imul dX8_sendCell_3 ?_
  refine ga_iload_n 2 dX8_sendCell_4 rfl rfl ?_
  refine ga_iadd dX8_sendCell_5 ?_
  refine ga_istore_n (ls' := [(3, vI ((x1 * 6) + x2)), (0, .ref (G.2.1 32)), (1, vI x1), (2, vI x2)]) dX8_sendCell_6 rfl (by decide) rfl ?_
  refine ga_aload_n 1 dX8_sendCell_7 rfl rfl ?_
  refine ga_getR (kI := 0) (r := 33) dX8_sendCell_8 fX8_12 rfl rfl (by decide) rfl ?_
  refine ga_getR (kI := 5) (r := 38) dX8_sendCell_11 fX8_193 rfl rfl (by decide) rfl ?_
  refine ga_aload_n 1 dX8_sendCell_14 rfl rfl ?_
  refine ga_getR (kI := 14) (r := 54) dX8_sendCell_15 fX8_46 rfl rfl (by decide) rfl ?_
  refine ga_iload_n 0 dX8_sendCell_18 rfl rfl ?_
  refine ga_bipush dX8_sendCell_19 (by decide) ?_
  refine ga_imul dX8_sendCell_21 ?_
  obtain ⟨i1, h⟩ := h
  refine ga_iald (nI := 324) dX8_sendCell_22 rfl rfl i1 (fun r2 => ?_)
  refine ga_aload_n 1 dX8_sendCell_23 rfl rfl ?_
  refine ga_getR (kI := 1) (r := 41) dX8_sendCell_24 fX8_21 rfl rfl (by decide) rfl ?_
  refine ga_getI (kI := 0) dX8_sendCell_27 fX8_86 rfl rfl rfl (fun r3 => ?_)
  obtain ⟨i4, h⟩ := h
  obtain ⟨σ5, eσ5⟩ : ∃ z, z = sI σ 38 (gI σ 54 (((x1 * 6) + x2) * 9)) (gI σ 41 0) := ⟨_, rfl⟩
  replace h := h σ5 eσ5
  refine ga_iast (nI := 360) dX8_sendCell_30 rfl rfl i4 r3 eσ5 ?_
  refine ga_aload_n 1 dX8_sendCell_31 rfl rfl ?_
  refine ga_dup dX8_sendCell_32 rfl ?_
  refine ga_getI (kI := 8) dX8_sendCell_33 fX8_95 rfl rfl rfl (fun r6 => ?_)
  refine ga_iconst dX8_sendCell_36 ?_
  refine ga_iadd dX8_sendCell_37 ?_
  obtain ⟨r8, h⟩ := h
  obtain ⟨σ7, eσ7⟩ : ∃ z, z = sI σ5 32 8 ((gI σ5 32 8) + 1) := ⟨_, rfl⟩
  replace h := h σ7 eσ7
  refine ga_putI (kI := 8) dX8_sendCell_38 fX8_95 pX8_8 rfl rfl rfl r8 eσ7 ?_
  refine ga_aload_n 1 dX8_sendCell_41 rfl rfl ?_
  refine ga_getR (kI := 13) (r := 53) dX8_sendCell_42 fX8_43 rfl rfl (by decide) rfl ?_
  refine ga_iload_n 0 dX8_sendCell_45 rfl rfl ?_
  refine ga_dup2 dX8_sendCell_46 rfl rfl ?_
  obtain ⟨i9, h⟩ := h
  refine ga_iald (nI := 36) dX8_sendCell_47 rfl rfl i9 (fun r10 => ?_)
  refine ga_iconst dX8_sendCell_48 ?_
  refine ga_isub dX8_sendCell_49 ?_
  obtain ⟨r12, h⟩ := h
  obtain ⟨σ11, eσ11⟩ : ∃ z, z = sI σ7 53 ((x1 * 6) + x2) ((gI σ7 53 ((x1 * 6) + x2)) - 1) := ⟨_, rfl⟩
  replace h := h σ11 eσ11
  refine ga_iast (nI := 36) dX8_sendCell_50 rfl rfl i9 r12 eσ11 ?_
  refine ga_aload_n 1 dX8_sendCell_51 rfl rfl ?_
  refine ga_getR (kI := 14) (r := 54) dX8_sendCell_52 fX8_46 rfl rfl (by decide) rfl ?_
  refine ga_iload_n 0 dX8_sendCell_55 rfl rfl ?_
  refine ga_bipush dX8_sendCell_56 (by decide) ?_
  refine ga_imul dX8_sendCell_58 ?_
  refine ga_aload_n 1 dX8_sendCell_59 rfl rfl ?_
  refine ga_getR (kI := 13) (r := 53) dX8_sendCell_60 fX8_43 rfl rfl (by decide) rfl ?_
  refine ga_iload_n 0 dX8_sendCell_63 rfl rfl ?_
  refine ga_iald (nI := 36) dX8_sendCell_64 rfl rfl i9 (fun r13 => ?_)
  refine ga_callSv (z := mX8_moveUp) (As := [.ref (G.2.1 54), vI (((x1 * 6) + x2) * 9), vI (gI σ11 53 ((x1 * 6) + x2))]) (rest := []) dX8_sendCell_65 wX8_196 qX8_sendCell_X8_moveUp rfl rfl (Nat.le_of_ble_eq_true rfl) (gEv_mono h (fun σ14 h => ?_))
  refine ga_aload_n 1 dX8_sendCell_68 rfl rfl ?_
  refine ga_getR (kI := 13) (r := 53) dX8_sendCell_69 fX8_43 rfl rfl (by decide) rfl ?_
  refine ga_iload_n 0 dX8_sendCell_72 rfl rfl ?_
  refine ga_iald (nI := 36) dX8_sendCell_73 rfl rfl i9 (fun r16 => ?_)
  obtain ⟨ht, hf⟩ := h
  refine ga_if_ne (tgt := 94) dX8_sendCell_74 (by decide) r16 (fun q17 => ?_) (fun q17 => ?_)
  · replace q17 : ¬ (gI σ14 53 ((x1 * 6) + x2)) = 0 := q17
    have h := ht q17
    exact ga_vret dX8_sendCell_94 rfl h
  · replace q17 : (gI σ14 53 ((x1 * 6) + x2)) = 0 := (Decidable.not_not.mp q17)
    have h := hf q17
    refine ga_aload_n 1 dX8_sendCell_77 rfl rfl ?_
    refine ga_getR (kI := 2) (r := 45) dX8_sendCell_78 fX8_28 rfl rfl (by decide) rfl ?_
    refine ga_getR (kI := 3) (r := 48) dX8_sendCell_81 fX8_138 rfl rfl (by decide) rfl ?_
    refine ga_iload_n 3 dX8_sendCell_84 rfl rfl ?_
    refine ga_dup2 dX8_sendCell_85 rfl rfl ?_
    obtain ⟨i18, h⟩ := h
    refine ga_iald (nI := 6) dX8_sendCell_86 rfl rfl i18 (fun r19 => ?_)
    refine ga_iconst dX8_sendCell_87 ?_
    refine ga_iload_n 2 dX8_sendCell_88 rfl rfl ?_
    refine ga_ishl dX8_sendCell_89 (fun r20 => ?_)
    refine ga_iconst dX8_sendCell_90 ?_
    refine ga_ixor dX8_sendCell_91 (fun r21 => ?_)
    refine ga_iand dX8_sendCell_92 (fun r22 => ?_)
    obtain ⟨σ23, eσ23⟩ : ∃ z, z = sI σ14 48 x2 (gand (gI σ14 48 x2) (gxor (gshl 1 x1) (-1))) := ⟨_, rfl⟩
    replace h := h σ23 eσ23
    refine ga_iast (nI := 6) dX8_sendCell_93 rfl rfl i18 r22 eσ23 ?_
    exact ga_vret dX8_sendCell_94 rfl h
abbrev eX8_passSlot (l : Launch) (G : gG)  (σ : gS) (Q : gS → Prop) : Prop := gEv l G mX8_passSlot [.ref (G.2.1 32)] σ Q
abbrev kX8_passSlot_9 (l : Launch) (G : gG)  (x1 : Int) (σ : gS) (Q : gS → Prop) : Prop := gAt l G mX8_passSlot (gQv G Q) 9 [(0, .ref (G.2.1 32)), (1, vI x1)] [] σ
abbrev kX8_passSlot_55 (l : Launch) (G : gG)  (x1 : Int) (x2 : Int) (σ : gS) (Q : gS → Prop) : Prop := gAt l G mX8_passSlot (gQv G Q) 55 [(0, .ref (G.2.1 32)), (1, vI x1), (2, vI x2)] [] σ
set_option maxRecDepth 100000 in
set_option maxHeartbeats 4000000 in
theorem vX8_passSlot {l : Launch} {G : gG}  (σ : gS) (Q : gS → Prop) (h : eX4_free l G 45 σ (fun σ1 =>
  kX8_passSlot_9 l G  0 σ1 Q)) : eX8_passSlot l G  σ Q := by
  refine ga_entry rfl (Nat.le_of_ble_eq_true rfl) ?_
  show gAt l G mX8_passSlot (gQv G Q) 0 [(0, .ref (G.2.1 32))] [] σ
  refine ga_aload_n 0 dX8_passSlot_0 rfl rfl ?_
  refine ga_getR (kI := 2) (r := 45) dX8_passSlot_1 fX8_28 rfl rfl (by decide) rfl ?_
  refine ga_callVv (z := mX4_free) (As := []) (rest := []) dX8_passSlot_4 wX8_141 qX8_passSlot_X4_free rfl ⟨_, rfl, rfl⟩ rfl rfl (Nat.le_of_ble_eq_true rfl) (gEv_mono h (fun σ1 h => ?_))
  refine ga_iconst dX8_passSlot_7 ?_
  refine ga_istore_n (ls' := [(1, vI 0), (0, .ref (G.2.1 32))]) dX8_passSlot_8 rfl (by decide) rfl ?_
  exact ga_sub [1, 0] rfl h
set_option maxRecDepth 100000 in
set_option maxHeartbeats 4000000 in
theorem vX8_passSlot_9 {l : Launch} {G : gG}  (x1 : Int) (rx1 : gR x1) (σ : gS) (Q : gS → Prop) (h : (6 ≤ x1 → eX8_inputsWithFans l G  σ (fun v6 σ4 => gR v6 →
    (v6 = 0 → eX4_passRounds l G 45 (gI σ4 32 4) σ4 (fun σ9 =>
      kX8_passSlot_55 l G  v6 0 σ9 Q)) ∧
    (¬ v6 = 0 → eX8_sendFans l G v6 σ4 (fun σ11 =>
      eX4_passRounds l G 45 (gI σ11 32 4) σ11 (fun σ14 =>
      kX8_passSlot_55 l G  v6 0 σ14 Q))))) ∧
  (x1 < 6 → (0 ≤ x1 ∧ x1 < 6) ∧ ∀ σ17, σ17 = sI σ 52 x1 (-1) →
    kX8_passSlot_9 l G  (x1 + 1) σ17 Q)) : kX8_passSlot_9 l G  x1 σ Q := by
  refine ga_iload_n 1 dX8_passSlot_9 rfl rfl ?_
  refine ga_bipush dX8_passSlot_10 (by decide) ?_
  obtain ⟨ht, hf⟩ := h
  refine ga_icmp_ge (tgt := 28) dX8_passSlot_12 (by decide) rx1 (by decide) (fun q3 => ?_) (fun q3 => ?_)
  · replace q3 : 6 ≤ x1 := q3
    have h := ht q3
    refine ga_aload_n 0 dX8_passSlot_28 rfl rfl ?_
    refine ga_callVi (z := mX8_inputsWithFans) (As := []) (rest := []) dX8_passSlot_29 wX8_144 qX8_passSlot_X8_inputsWithFans rfl ⟨_, rfl, rfl⟩ rfl rfl (Nat.le_of_ble_eq_true rfl) (gEi_mono h (fun v6 σ4 h r5 => ?_))
    replace h := h r5
    refine ga_istore_n (ls' := [(1, vI v6), (0, .ref (G.2.1 32))]) dX8_passSlot_32 rfl (by decide) rfl ?_
    refine ga_iload_n 0 dX8_passSlot_33 rfl rfl ?_
    obtain ⟨ht, hf⟩ := h
    refine ga_if_eq (tgt := 42) dX8_passSlot_34 (by decide) r5 (fun q7 => ?_) (fun q7 => ?_)
    · replace q7 : v6 = 0 := q7
      have h := ht q7
      refine ga_aload_n 1 dX8_passSlot_42 rfl rfl ?_
      refine ga_getR (kI := 2) (r := 45) dX8_passSlot_43 fX8_28 rfl rfl (by decide) rfl ?_
      refine ga_aload_n 1 dX8_passSlot_46 rfl rfl ?_
      refine ga_getI (kI := 4) dX8_passSlot_47 fX8_72 rfl rfl rfl (fun r8 => ?_)
      refine ga_callVv (z := mX4_passRounds) (As := [vI (gI σ4 32 4)]) (rest := []) dX8_passSlot_50 wX8_152 qX8_passSlot_X4_passRounds rfl ⟨_, rfl, rfl⟩ rfl rfl (Nat.le_of_ble_eq_true rfl) (gEv_mono h (fun σ9 h => ?_))
      refine ga_iconst dX8_passSlot_53 ?_
      refine ga_istore_n (ls' := [(2, vI 0), (1, vI v6), (0, .ref (G.2.1 32))]) dX8_passSlot_54 rfl (by decide) rfl ?_
      exact ga_sub [2, 1, 0] rfl h
    · replace q7 : ¬ v6 = 0 := q7
      have h := hf q7
      refine ga_aload_n 1 dX8_passSlot_37 rfl rfl ?_
      refine ga_iload_n 0 dX8_passSlot_38 rfl rfl ?_
      refine ga_callVv (z := mX8_sendFans) (As := [vI v6]) (rest := []) dX8_passSlot_39 wX8_148 qX8_passSlot_X8_sendFans rfl ⟨_, rfl, rfl⟩ rfl rfl (Nat.le_of_ble_eq_true rfl) (gEv_mono h (fun σ11 h => ?_))
      refine ga_aload_n 1 dX8_passSlot_42 rfl rfl ?_
      refine ga_getR (kI := 2) (r := 45) dX8_passSlot_43 fX8_28 rfl rfl (by decide) rfl ?_
      refine ga_aload_n 1 dX8_passSlot_46 rfl rfl ?_
      refine ga_getI (kI := 4) dX8_passSlot_47 fX8_72 rfl rfl rfl (fun r13 => ?_)
      refine ga_callVv (z := mX4_passRounds) (As := [vI (gI σ11 32 4)]) (rest := []) dX8_passSlot_50 wX8_152 qX8_passSlot_X4_passRounds rfl ⟨_, rfl, rfl⟩ rfl rfl (Nat.le_of_ble_eq_true rfl) (gEv_mono h (fun σ14 h => ?_))
      refine ga_iconst dX8_passSlot_53 ?_
      refine ga_istore_n (ls' := [(2, vI 0), (1, vI v6), (0, .ref (G.2.1 32))]) dX8_passSlot_54 rfl (by decide) rfl ?_
      exact ga_sub [2, 1, 0] rfl h
  · replace q3 : x1 < 6 := (Int.not_le.mp q3)
    have h := hf q3
    refine ga_aload_n 0 dX8_passSlot_15 rfl rfl ?_
    refine ga_getR (kI := 12) (r := 52) dX8_passSlot_16 fX8_40 rfl rfl (by decide) rfl ?_
    refine ga_iload_n 1 dX8_passSlot_19 rfl rfl ?_
    refine ga_iconst dX8_passSlot_20 ?_
    obtain ⟨i16, h⟩ := h
    obtain ⟨σ17, eσ17⟩ : ∃ z, z = sI σ 52 x1 (-1) := ⟨_, rfl⟩
    replace h := h σ17 eσ17
    refine ga_iast (nI := 6) dX8_passSlot_21 rfl rfl i16 (by decide) eσ17 ?_
    refine ga_iinc (ls' := [(1, vI (x1 + 1)), (0, .ref (G.2.1 32))]) 1 dX8_passSlot_22 rfl (by decide) rfl ?_
    refine ga_goto (tgt := 9) dX8_passSlot_25 (by decide) ?_
    exact ga_sub [1, 0] rfl h
set_option maxRecDepth 100000 in
set_option maxHeartbeats 4000000 in
theorem vX8_passSlot_55 {l : Launch} {G : gG}  (x1 : Int) (x2 : Int) (rx1 : gR x1) (rx2 : gR x2) (σ : gS) (Q : gS → Prop) (h : ((gI σ 32 3) ≤ x2 → eX6_note l G  σ (fun σ20 =>
    ∀ σ22, σ22 = sI σ20 32 6 0 →
    Q σ22)) ∧
  (x2 < (gI σ 32 3) → (0 ≤ x2 ∧ x2 < 6) ∧ ((gI σ 49 x2) = (-1) → kX8_passSlot_55 l G  x1 (x2 + 1) σ Q) ∧
    (¬ (gI σ 49 x2) = (-1) → eX8_sendCell l G (gI σ 49 x2) x2 σ (fun σ27 =>
      kX8_passSlot_55 l G  x1 (x2 + 1) σ27 Q)))) : kX8_passSlot_55 l G  x1 x2 σ Q := by
  refine ga_iload_n 2 dX8_passSlot_55 rfl rfl ?_
  refine ga_aload_n 0 dX8_passSlot_56 rfl rfl ?_
  refine ga_getI (kI := 3) dX8_passSlot_57 fX8_32 rfl rfl rfl (fun r18 => ?_)
  obtain ⟨ht, hf⟩ := h
  refine ga_icmp_ge (tgt := 96) dX8_passSlot_60 (by decide) rx2 r18 (fun q19 => ?_) (fun q19 => ?_)
  · replace q19 : (gI σ 32 3) ≤ x2 := q19
    have h := ht q19
    refine ga_aload_n 0 dX8_passSlot_96 rfl rfl ?_
    refine ga_getR (kI := 1) (r := 41) dX8_passSlot_97 fX8_21 rfl rfl (by decide) rfl ?_
    refine ga_aload_n 0 dX8_passSlot_100 rfl rfl ?_
    refine ga_getR (kI := 2) (r := 45) dX8_passSlot_101 fX8_28 rfl rfl (by decide) rfl ?_
    refine ga_callVv (z := mX6_note) (As := [.ref (G.2.1 45)]) (rest := []) dX8_passSlot_104 wX8_161 qX8_passSlot_X6_note rfl ⟨_, rfl, rfl⟩ rfl rfl (Nat.le_of_ble_eq_true rfl) (gEv_mono h (fun σ20 h => ?_))
    refine ga_aload_n 0 dX8_passSlot_107 rfl rfl ?_
    refine ga_iconst dX8_passSlot_108 ?_
    obtain ⟨σ22, eσ22⟩ : ∃ z, z = sI σ20 32 6 0 := ⟨_, rfl⟩
    replace h := h σ22 eσ22
    refine ga_putI (kI := 6) dX8_passSlot_109 fX8_89 pX8_6 rfl rfl rfl (by decide) eσ22 ?_
    exact ga_vret dX8_passSlot_112 rfl h
  · replace q19 : x2 < (gI σ 32 3) := (Int.not_le.mp q19)
    have h := hf q19
    refine ga_aload_n 0 dX8_passSlot_63 rfl rfl ?_
    refine ga_getR (kI := 2) (r := 45) dX8_passSlot_64 fX8_28 rfl rfl (by decide) rfl ?_
    refine ga_getR (kI := 4) (r := 49) dX8_passSlot_67 fX8_155 rfl rfl (by decide) rfl ?_
    refine ga_iload_n 2 dX8_passSlot_70 rfl rfl ?_
    obtain ⟨i23, h⟩ := h
    refine ga_iald (nI := 6) dX8_passSlot_71 rfl rfl i23 (fun r24 => ?_)
    refine ga_iconst dX8_passSlot_72 ?_
    obtain ⟨ht, hf⟩ := h
    refine ga_icmp_eq (tgt := 90) dX8_passSlot_73 (by decide) r24 (by decide) (fun q25 => ?_) (fun q25 => ?_)
    · replace q25 : (gI σ 49 x2) = (-1) := q25
      have h := ht q25
      refine ga_iinc (ls' := [(2, vI (x2 + 1)), (0, .ref (G.2.1 32)), (1, vI x1)]) 2 dX8_passSlot_90 rfl (by decide) rfl ?_
      refine ga_goto (tgt := 55) dX8_passSlot_93 (by decide) ?_
      exact ga_sub [1, 2, 0] rfl h
    · replace q25 : ¬ (gI σ 49 x2) = (-1) := q25
      have h := hf q25
      refine ga_aload_n 0 dX8_passSlot_76 rfl rfl ?_
      refine ga_aload_n 0 dX8_passSlot_77 rfl rfl ?_
      refine ga_getR (kI := 2) (r := 45) dX8_passSlot_78 fX8_28 rfl rfl (by decide) rfl ?_
      refine ga_getR (kI := 4) (r := 49) dX8_passSlot_81 fX8_155 rfl rfl (by decide) rfl ?_
      refine ga_iload_n 2 dX8_passSlot_84 rfl rfl ?_
      refine ga_iald (nI := 6) dX8_passSlot_85 rfl rfl i23 (fun r26 => ?_)
      refine ga_iload_n 2 dX8_passSlot_86 rfl rfl ?_
      refine ga_callVv (z := mX8_sendCell) (As := [vI (gI σ 49 x2), vI x2]) (rest := []) dX8_passSlot_87 wX8_158 qX8_passSlot_X8_sendCell rfl ⟨_, rfl, rfl⟩ rfl rfl (Nat.le_of_ble_eq_true rfl) (gEv_mono h (fun σ27 h => ?_))
      refine ga_iinc (ls' := [(2, vI (x2 + 1)), (0, .ref (G.2.1 32)), (1, vI x1)]) 2 dX8_passSlot_90 rfl (by decide) rfl ?_
      refine ga_goto (tgt := 55) dX8_passSlot_93 (by decide) ?_
      exact ga_sub [1, 2, 0] rfl h
abbrev eX8_takeCell (l : Launch) (G : gG) (x1 : Int) (x2 : Int) (σ : gS) (Q : Int → gS → Prop) : Prop := gEz l G mX8_takeCell [.ref (G.2.1 32), vI x1, vI x2] σ Q
set_option maxRecDepth 100000 in
set_option maxHeartbeats 4000000 in
theorem vX8_takeCell {l : Launch} {G : gG} (x1 : Int) (x2 : Int) (rx1 : gR x1) (rx2 : gR x2) (σ : gS) (Q : Int → gS → Prop) (h : (0 ≤ ((x1 * 6) + x2) ∧ ((x1 * 6) + x2) < 36) ∧ (∀ v6 : Int, v6 = (if (gI σ 53 ((x1 * 6) + x2)) < (gI σ 32 5) then 0 else 1) →
  eX0_add l G x1 (gshl 1 x2) 0 (gI σ 41 0) v6 σ (fun v11 σ9 => gR v11 →
    (¬ v6 = 0 → (gR ((gI σ9 32 7) + 1)) ∧ ∀ σ14, σ14 = sI σ9 32 7 ((gI σ9 32 7) + 1) →
      Q 0 σ14) ∧
    (v6 = 0 → (¬ v11 = (-1) → (0 ≤ ((((x1 * 6) + x2) * 9) + (gI σ9 53 ((x1 * 6) + x2))) ∧ ((((x1 * 6) + x2) * 9) + (gI σ9 53 ((x1 * 6) + x2))) < 324) ∧ ∀ σ19, σ19 = sI σ9 54 ((((x1 * 6) + x2) * 9) + (gI σ9 53 ((x1 * 6) + x2))) v11 →
        (gR ((gI σ19 53 ((x1 * 6) + x2)) + 1)) ∧ ∀ σ21, σ21 = sI σ19 53 ((x1 * 6) + x2) ((gI σ19 53 ((x1 * 6) + x2)) + 1) →
        (0 ≤ x2 ∧ x2 < 6) ∧ ∀ σ27, σ27 = sI σ21 48 x2 (gor (gI σ21 48 x2) (gshl 1 x1)) →
        Q 1 σ27) ∧
      (v11 = (-1) → (gR ((gI σ9 32 7) + 1)) ∧ ∀ σ29, σ29 = sI σ9 32 7 ((gI σ9 32 7) + 1) →
        Q 0 σ29))))) : eX8_takeCell l G x1 x2 σ Q := by
  refine ga_entry rfl (Nat.le_of_ble_eq_true rfl) ?_
  show gAt l G mX8_takeCell (gQz G Q) 0 [(0, .ref (G.2.1 32)), (1, vI x1), (2, vI x2)] [] σ
  refine ga_iload_n 1 dX8_takeCell_0 rfl rfl ?_
  refine ga_bipush dX8_takeCell_1 (by decide) ?_
  refine ga_imul dX8_takeCell_3 ?_
  refine ga_iload_n 2 dX8_takeCell_4 rfl rfl ?_
  refine ga_iadd dX8_takeCell_5 ?_
  refine ga_istore_n (ls' := [(3, vI ((x1 * 6) + x2)), (0, .ref (G.2.1 32)), (1, vI x1), (2, vI x2)]) dX8_takeCell_6 rfl (by decide) rfl ?_
  refine ga_aload_n 1 dX8_takeCell_7 rfl rfl ?_
  refine ga_getR (kI := 13) (r := 53) dX8_takeCell_8 fX8_43 rfl rfl (by decide) rfl ?_
  refine ga_iload_n 0 dX8_takeCell_11 rfl rfl ?_
  obtain ⟨i1, h⟩ := h
  refine ga_iald (nI := 36) dX8_takeCell_12 rfl rfl i1 (fun r2 => ?_)
  refine ga_aload_n 1 dX8_takeCell_13 rfl rfl ?_
  refine ga_getI (kI := 5) dX8_takeCell_14 fX8_80 rfl rfl rfl (fun r3 => ?_)
  have kJ4 : ∀ v6 : Int, gR v6 → (v6 = 0 ∨ v6 = 1) → v6 = (if (gI σ 53 ((x1 * 6) + x2)) < (gI σ 32 5) then 0 else 1) → gAt l G mX8_takeCell (gQz G Q) 25 [(3, vI ((x1 * 6) + x2)), (0, .ref (G.2.1 32)), (1, vI x1), (2, vI x2)] [vI v6] σ := by
    intro v6 rv6 bv6 ev6
    replace h := h v6 ev6
    refine ga_istore (ls' := [(4, vI v6), (3, vI ((x1 * 6) + x2)), (0, .ref (G.2.1 32)), (1, vI x1), (2, vI x2)]) dX8_takeCell_25 (by decide) rfl ?_
    refine ga_aload_n 2 dX8_takeCell_27 rfl rfl ?_
    refine ga_getR (kI := 0) (r := 33) dX8_takeCell_28 fX8_12 rfl rfl (by decide) rfl ?_
    refine ga_iload_n 3 dX8_takeCell_31 rfl rfl ?_
    refine ga_iconst dX8_takeCell_32 ?_
    refine ga_iload_n 4 dX8_takeCell_33 rfl rfl ?_
    refine ga_ishl dX8_takeCell_34 (fun r7 => ?_)
    refine ga_iconst dX8_takeCell_35 ?_
    refine ga_aload_n 2 dX8_takeCell_36 rfl rfl ?_
    refine ga_getR (kI := 1) (r := 41) dX8_takeCell_37 fX8_21 rfl rfl (by decide) rfl ?_
    refine ga_getI (kI := 0) dX8_takeCell_40 fX8_86 rfl rfl rfl (fun r8 => ?_)
    refine ga_iload 0 dX8_takeCell_43 rfl ?_
    refine ga_callVi (z := mX0_add) (As := [vI x1, vI (gshl 1 x2), vI 0, vI (gI σ 41 0), vI v6]) (rest := []) dX8_takeCell_45 wX8_134 qX8_takeCell_X0_add rfl ⟨_, rfl, rfl⟩ rfl rfl (Nat.le_of_ble_eq_true rfl) (gEi_mono h (fun v11 σ9 h r10 => ?_))
    replace h := h r10
    refine ga_istore (ls' := [(5, vI v11), (4, vI v6), (3, vI ((x1 * 6) + x2)), (0, .ref (G.2.1 32)), (1, vI x1), (2, vI x2)]) dX8_takeCell_48 (by decide) rfl ?_
    refine ga_iload 1 dX8_takeCell_50 rfl ?_
    obtain ⟨ht, hf⟩ := h
    refine ga_if_ne (tgt := 61) dX8_takeCell_52 (by decide) rv6 (fun q12 => ?_) (fun q12 => ?_)
    · replace q12 : ¬ v6 = 0 := q12
      have h := ht q12
      refine ga_aload_n 3 dX8_takeCell_61 rfl rfl ?_
      refine ga_dup dX8_takeCell_62 rfl ?_
      refine ga_getI (kI := 7) dX8_takeCell_63 fX8_92 rfl rfl rfl (fun r13 => ?_)
      refine ga_iconst dX8_takeCell_66 ?_
      refine ga_iadd dX8_takeCell_67 ?_
      obtain ⟨r15, h⟩ := h
      obtain ⟨σ14, eσ14⟩ : ∃ z, z = sI σ9 32 7 ((gI σ9 32 7) + 1) := ⟨_, rfl⟩
      replace h := h σ14 eσ14
      refine ga_putI (kI := 7) dX8_takeCell_68 fX8_92 pX8_7 rfl rfl rfl r15 eσ14 ?_
      refine ga_iconst dX8_takeCell_71 ?_
      exact ga_bret dX8_takeCell_72 rfl (Or.inl rfl) h
    · replace q12 : v6 = 0 := (Decidable.not_not.mp q12)
      have h := hf q12
      refine ga_iload 0 dX8_takeCell_55 rfl ?_
      refine ga_iconst dX8_takeCell_57 ?_
      obtain ⟨ht, hf⟩ := h
      refine ga_icmp_ne (tgt := 73) dX8_takeCell_58 (by decide) r10 (by decide) (fun q16 => ?_) (fun q16 => ?_)
      · replace q16 : ¬ v11 = (-1) := q16
        have h := ht q16
        refine ga_aload_n 3 dX8_takeCell_73 rfl rfl ?_
        refine ga_getR (kI := 14) (r := 54) dX8_takeCell_74 fX8_46 rfl rfl (by decide) rfl ?_
        refine ga_iload_n 2 dX8_takeCell_77 rfl rfl ?_
        refine ga_bipush dX8_takeCell_78 (by decide) ?_
        refine ga_imul dX8_takeCell_80 ?_
        refine ga_aload_n 3 dX8_takeCell_81 rfl rfl ?_
        refine ga_getR (kI := 13) (r := 53) dX8_takeCell_82 fX8_43 rfl rfl (by decide) rfl ?_
        refine ga_iload_n 2 dX8_takeCell_85 rfl rfl ?_
        refine ga_iald (nI := 36) dX8_takeCell_86 rfl rfl i1 (fun r17 => ?_)
        refine ga_iadd dX8_takeCell_87 ?_
        refine ga_iload 0 dX8_takeCell_88 rfl ?_
        obtain ⟨i18, h⟩ := h
        obtain ⟨σ19, eσ19⟩ : ∃ z, z = sI σ9 54 ((((x1 * 6) + x2) * 9) + (gI σ9 53 ((x1 * 6) + x2))) v11 := ⟨_, rfl⟩
        replace h := h σ19 eσ19
        refine ga_iast (nI := 324) dX8_takeCell_90 rfl rfl i18 r10 eσ19 ?_
        refine ga_aload_n 3 dX8_takeCell_91 rfl rfl ?_
        refine ga_getR (kI := 13) (r := 53) dX8_takeCell_92 fX8_43 rfl rfl (by decide) rfl ?_
        refine ga_iload_n 2 dX8_takeCell_95 rfl rfl ?_
        refine ga_dup2 dX8_takeCell_96 rfl rfl ?_
        refine ga_iald (nI := 36) dX8_takeCell_97 rfl rfl i1 (fun r20 => ?_)
        refine ga_iconst dX8_takeCell_98 ?_
        refine ga_iadd dX8_takeCell_99 ?_
        obtain ⟨r22, h⟩ := h
        obtain ⟨σ21, eσ21⟩ : ∃ z, z = sI σ19 53 ((x1 * 6) + x2) ((gI σ19 53 ((x1 * 6) + x2)) + 1) := ⟨_, rfl⟩
        replace h := h σ21 eσ21
        refine ga_iast (nI := 36) dX8_takeCell_100 rfl rfl i1 r22 eσ21 ?_
        refine ga_aload_n 3 dX8_takeCell_101 rfl rfl ?_
        refine ga_getR (kI := 2) (r := 45) dX8_takeCell_102 fX8_28 rfl rfl (by decide) rfl ?_
        refine ga_getR (kI := 3) (r := 48) dX8_takeCell_105 fX8_138 rfl rfl (by decide) rfl ?_
        refine ga_iload_n 5 dX8_takeCell_108 rfl rfl ?_
        refine ga_dup2 dX8_takeCell_109 rfl rfl ?_
        obtain ⟨i23, h⟩ := h
        refine ga_iald (nI := 6) dX8_takeCell_110 rfl rfl i23 (fun r24 => ?_)
        refine ga_iconst dX8_takeCell_111 ?_
        refine ga_iload_n 4 dX8_takeCell_112 rfl rfl ?_
        refine ga_ishl dX8_takeCell_113 (fun r25 => ?_)
        refine ga_ior dX8_takeCell_114 (fun r26 => ?_)
        obtain ⟨σ27, eσ27⟩ : ∃ z, z = sI σ21 48 x2 (gor (gI σ21 48 x2) (gshl 1 x1)) := ⟨_, rfl⟩
        replace h := h σ27 eσ27
        refine ga_iast (nI := 6) dX8_takeCell_115 rfl rfl i23 r26 eσ27 ?_
        refine ga_iconst dX8_takeCell_116 ?_
        exact ga_bret dX8_takeCell_117 rfl (Or.inr rfl) h
      · replace q16 : v11 = (-1) := (Decidable.not_not.mp q16)
        have h := hf q16
        refine ga_aload_n 3 dX8_takeCell_61 rfl rfl ?_
        refine ga_dup dX8_takeCell_62 rfl ?_
        refine ga_getI (kI := 7) dX8_takeCell_63 fX8_92 rfl rfl rfl (fun r28 => ?_)
        refine ga_iconst dX8_takeCell_66 ?_
        refine ga_iadd dX8_takeCell_67 ?_
        obtain ⟨r30, h⟩ := h
        obtain ⟨σ29, eσ29⟩ : ∃ z, z = sI σ9 32 7 ((gI σ9 32 7) + 1) := ⟨_, rfl⟩
        replace h := h σ29 eσ29
        refine ga_putI (kI := 7) dX8_takeCell_68 fX8_92 pX8_7 rfl rfl rfl r30 eσ29 ?_
        refine ga_iconst dX8_takeCell_71 ?_
        exact ga_bret dX8_takeCell_72 rfl (Or.inl rfl) h
  replace h : ((gI σ 53 ((x1 * 6) + x2)) < (gI σ 32 5) → True) ∧
  ((gI σ 32 5) ≤ (gI σ 53 ((x1 * 6) + x2)) → True) := by repeat (first | exact True.intro | apply And.intro | intro _)
  obtain ⟨ht, hf⟩ := h
  refine ga_icmp_lt (tgt := 24) dX8_takeCell_17 (by decide) r2 r3 (fun q5 => ?_) (fun q5 => ?_)
  · replace q5 : (gI σ 53 ((x1 * 6) + x2)) < (gI σ 32 5) := q5
    have h := ht q5
    refine ga_iconst dX8_takeCell_24 ?_
    exact kJ4 0 (by decide) (Or.inl rfl) (by rw [if_pos q5])
  · replace q5 : (gI σ 32 5) ≤ (gI σ 53 ((x1 * 6) + x2)) := (Int.not_lt.mp q5)
    have h := hf q5
    refine ga_iconst dX8_takeCell_20 ?_
    refine ga_goto (tgt := 25) dX8_takeCell_21 (by decide) ?_
    exact kJ4 1 (by decide) (Or.inr rfl) (by rw [if_neg (Int.not_lt.mpr q5)])
abbrev eX8_takeFan (l : Launch) (G : gG) (x1 : Int) (x2 : Int) (σ : gS) (Q : gS → Prop) : Prop := gEv l G mX8_takeFan [.ref (G.2.1 32), vI x1, vI x2] σ Q
set_option maxRecDepth 100000 in
set_option maxHeartbeats 4000000 in
theorem vX8_takeFan {l : Launch} {G : gG} (x1 : Int) (x2 : Int) (rx1 : gR x1) (rx2 : gR x2) (σ : gS) (Q : gS → Prop) (h : (0 ≤ x1 ∧ x1 < 6) ∧ (∀ v6 : Int, v6 = (if (gI σ 55 x1) < (gI σ 32 5) then 0 else 1) →
  eX0_add l G x1 x2 1 (gI σ 41 0) v6 σ (fun v10 σ8 => gR v10 →
    (¬ v6 = 0 → (gR ((gI σ8 32 7) + 1)) ∧ ∀ σ13, σ13 = sI σ8 32 7 ((gI σ8 32 7) + 1) →
      Q σ13) ∧
    (v6 = 0 → (¬ v10 = (-1) → (¬ (gI σ8 55 x1) = 0 → (0 ≤ ((x1 * 9) + (gI σ8 55 x1)) ∧ ((x1 * 9) + (gI σ8 55 x1)) < 54) ∧ ∀ σ20, σ20 = sI σ8 56 ((x1 * 9) + (gI σ8 55 x1)) v10 →
          (gR ((gI σ20 55 x1) + 1)) ∧ ∀ σ22, σ22 = sI σ20 55 x1 ((gI σ20 55 x1) + 1) →
          Q σ22) ∧
        ((gI σ8 55 x1) = 0 → ∀ σ24, σ24 = sI σ8 57 x1 x2 →
          (0 ≤ ((x1 * 9) + (gI σ24 55 x1)) ∧ ((x1 * 9) + (gI σ24 55 x1)) < 54) ∧ ∀ σ27, σ27 = sI σ24 56 ((x1 * 9) + (gI σ24 55 x1)) v10 →
          (gR ((gI σ27 55 x1) + 1)) ∧ ∀ σ29, σ29 = sI σ27 55 x1 ((gI σ27 55 x1) + 1) →
          Q σ29)) ∧
      (v10 = (-1) → (gR ((gI σ8 32 7) + 1)) ∧ ∀ σ32, σ32 = sI σ8 32 7 ((gI σ8 32 7) + 1) →
        Q σ32))))) : eX8_takeFan l G x1 x2 σ Q := by
  refine ga_entry rfl (Nat.le_of_ble_eq_true rfl) ?_
  show gAt l G mX8_takeFan (gQv G Q) 0 [(0, .ref (G.2.1 32)), (1, vI x1), (2, vI x2)] [] σ
  refine ga_aload_n 0 dX8_takeFan_0 rfl rfl ?_
  refine ga_getR (kI := 15) (r := 55) dX8_takeFan_1 fX8_49 rfl rfl (by decide) rfl ?_
  refine ga_iload_n 1 dX8_takeFan_4 rfl rfl ?_
  obtain ⟨i1, h⟩ := h
  refine ga_iald (nI := 6) dX8_takeFan_5 rfl rfl i1 (fun r2 => ?_)
  refine ga_aload_n 0 dX8_takeFan_6 rfl rfl ?_
  refine ga_getI (kI := 5) dX8_takeFan_7 fX8_80 rfl rfl rfl (fun r3 => ?_)
  have kJ4 : ∀ v6 : Int, gR v6 → (v6 = 0 ∨ v6 = 1) → v6 = (if (gI σ 55 x1) < (gI σ 32 5) then 0 else 1) → gAt l G mX8_takeFan (gQv G Q) 18 [(0, .ref (G.2.1 32)), (1, vI x1), (2, vI x2)] [vI v6] σ := by
    intro v6 rv6 bv6 ev6
    replace h := h v6 ev6
    refine ga_istore_n (ls' := [(3, vI v6), (0, .ref (G.2.1 32)), (1, vI x1), (2, vI x2)]) dX8_takeFan_18 rfl (by decide) rfl ?_
    refine ga_aload_n 1 dX8_takeFan_19 rfl rfl ?_
    refine ga_getR (kI := 0) (r := 33) dX8_takeFan_20 fX8_12 rfl rfl (by decide) rfl ?_
    refine ga_iload_n 2 dX8_takeFan_23 rfl rfl ?_
    refine ga_iload_n 3 dX8_takeFan_24 rfl rfl ?_
    refine ga_iconst dX8_takeFan_25 ?_
    refine ga_aload_n 1 dX8_takeFan_26 rfl rfl ?_
    refine ga_getR (kI := 1) (r := 41) dX8_takeFan_27 fX8_21 rfl rfl (by decide) rfl ?_
    refine ga_getI (kI := 0) dX8_takeFan_30 fX8_86 rfl rfl rfl (fun r7 => ?_)
    refine ga_iload_n 0 dX8_takeFan_33 rfl rfl ?_
    refine ga_callVi (z := mX0_add) (As := [vI x1, vI x2, vI 1, vI (gI σ 41 0), vI v6]) (rest := []) dX8_takeFan_34 wX8_134 qX8_takeFan_X0_add rfl ⟨_, rfl, rfl⟩ rfl rfl (Nat.le_of_ble_eq_true rfl) (gEi_mono h (fun v10 σ8 h r9 => ?_))
    replace h := h r9
    refine ga_istore (ls' := [(4, vI v10), (3, vI v6), (0, .ref (G.2.1 32)), (1, vI x1), (2, vI x2)]) dX8_takeFan_37 (by decide) rfl ?_
    refine ga_iload_n 1 dX8_takeFan_39 rfl rfl ?_
    obtain ⟨ht, hf⟩ := h
    refine ga_if_ne (tgt := 49) dX8_takeFan_40 (by decide) rv6 (fun q11 => ?_) (fun q11 => ?_)
    · replace q11 : ¬ v6 = 0 := q11
      have h := ht q11
      refine ga_aload_n 2 dX8_takeFan_49 rfl rfl ?_
      refine ga_dup dX8_takeFan_50 rfl ?_
      refine ga_getI (kI := 7) dX8_takeFan_51 fX8_92 rfl rfl rfl (fun r12 => ?_)
      refine ga_iconst dX8_takeFan_54 ?_
      refine ga_iadd dX8_takeFan_55 ?_
      obtain ⟨r14, h⟩ := h
      obtain ⟨σ13, eσ13⟩ : ∃ z, z = sI σ8 32 7 ((gI σ8 32 7) + 1) := ⟨_, rfl⟩
      replace h := h σ13 eσ13
      refine ga_putI (kI := 7) dX8_takeFan_56 fX8_92 pX8_7 rfl rfl rfl r14 eσ13 ?_
      exact ga_vret dX8_takeFan_59 rfl h
    · replace q11 : v6 = 0 := (Decidable.not_not.mp q11)
      have h := hf q11
      refine ga_iload 0 dX8_takeFan_43 rfl ?_
      refine ga_iconst dX8_takeFan_45 ?_
      obtain ⟨ht, hf⟩ := h
      refine ga_icmp_ne (tgt := 60) dX8_takeFan_46 (by decide) r9 (by decide) (fun q15 => ?_) (fun q15 => ?_)
      · replace q15 : ¬ v10 = (-1) := q15
        have h := ht q15
        refine ga_aload_n 2 dX8_takeFan_60 rfl rfl ?_
        refine ga_getR (kI := 15) (r := 55) dX8_takeFan_61 fX8_49 rfl rfl (by decide) rfl ?_
        refine ga_iload_n 3 dX8_takeFan_64 rfl rfl ?_
        refine ga_iald (nI := 6) dX8_takeFan_65 rfl rfl i1 (fun r16 => ?_)
        obtain ⟨ht, hf⟩ := h
        refine ga_if_ne (tgt := 76) dX8_takeFan_66 (by decide) r16 (fun q17 => ?_) (fun q17 => ?_)
        · replace q17 : ¬ (gI σ8 55 x1) = 0 := q17
          have h := ht q17
          refine ga_aload_n 2 dX8_takeFan_76 rfl rfl ?_
          refine ga_getR (kI := 16) (r := 56) dX8_takeFan_77 fX8_52 rfl rfl (by decide) rfl ?_
          refine ga_iload_n 3 dX8_takeFan_80 rfl rfl ?_
          refine ga_bipush dX8_takeFan_81 (by decide) ?_
          refine ga_imul dX8_takeFan_83 ?_
          refine ga_aload_n 2 dX8_takeFan_84 rfl rfl ?_
          refine ga_getR (kI := 15) (r := 55) dX8_takeFan_85 fX8_49 rfl rfl (by decide) rfl ?_
          refine ga_iload_n 3 dX8_takeFan_88 rfl rfl ?_
          refine ga_iald (nI := 6) dX8_takeFan_89 rfl rfl i1 (fun r18 => ?_)
          refine ga_iadd dX8_takeFan_90 ?_
          refine ga_iload 0 dX8_takeFan_91 rfl ?_
          obtain ⟨i19, h⟩ := h
          obtain ⟨σ20, eσ20⟩ : ∃ z, z = sI σ8 56 ((x1 * 9) + (gI σ8 55 x1)) v10 := ⟨_, rfl⟩
          replace h := h σ20 eσ20
          refine ga_iast (nI := 54) dX8_takeFan_93 rfl rfl i19 r9 eσ20 ?_
          refine ga_aload_n 2 dX8_takeFan_94 rfl rfl ?_
          refine ga_getR (kI := 15) (r := 55) dX8_takeFan_95 fX8_49 rfl rfl (by decide) rfl ?_
          refine ga_iload_n 3 dX8_takeFan_98 rfl rfl ?_
          refine ga_dup2 dX8_takeFan_99 rfl rfl ?_
          refine ga_iald (nI := 6) dX8_takeFan_100 rfl rfl i1 (fun r21 => ?_)
          refine ga_iconst dX8_takeFan_101 ?_
          refine ga_iadd dX8_takeFan_102 ?_
          obtain ⟨r23, h⟩ := h
          obtain ⟨σ22, eσ22⟩ : ∃ z, z = sI σ20 55 x1 ((gI σ20 55 x1) + 1) := ⟨_, rfl⟩
          replace h := h σ22 eσ22
          refine ga_iast (nI := 6) dX8_takeFan_103 rfl rfl i1 r23 eσ22 ?_
          exact ga_vret dX8_takeFan_104 rfl h
        · replace q17 : (gI σ8 55 x1) = 0 := (Decidable.not_not.mp q17)
          have h := hf q17
          refine ga_aload_n 2 dX8_takeFan_69 rfl rfl ?_
          refine ga_getR (kI := 17) (r := 57) dX8_takeFan_70 fX8_55 rfl rfl (by decide) rfl ?_
          refine ga_iload_n 3 dX8_takeFan_73 rfl rfl ?_
          refine ga_iload_n 4 dX8_takeFan_74 rfl rfl ?_
          obtain ⟨σ24, eσ24⟩ : ∃ z, z = sI σ8 57 x1 x2 := ⟨_, rfl⟩
          replace h := h σ24 eσ24
          refine ga_iast (nI := 6) dX8_takeFan_75 rfl rfl i1 rx2 eσ24 ?_
          refine ga_aload_n 2 dX8_takeFan_76 rfl rfl ?_
          refine ga_getR (kI := 16) (r := 56) dX8_takeFan_77 fX8_52 rfl rfl (by decide) rfl ?_
          refine ga_iload_n 3 dX8_takeFan_80 rfl rfl ?_
          refine ga_bipush dX8_takeFan_81 (by decide) ?_
          refine ga_imul dX8_takeFan_83 ?_
          refine ga_aload_n 2 dX8_takeFan_84 rfl rfl ?_
          refine ga_getR (kI := 15) (r := 55) dX8_takeFan_85 fX8_49 rfl rfl (by decide) rfl ?_
          refine ga_iload_n 3 dX8_takeFan_88 rfl rfl ?_
          refine ga_iald (nI := 6) dX8_takeFan_89 rfl rfl i1 (fun r25 => ?_)
          refine ga_iadd dX8_takeFan_90 ?_
          refine ga_iload 0 dX8_takeFan_91 rfl ?_
          obtain ⟨i26, h⟩ := h
          obtain ⟨σ27, eσ27⟩ : ∃ z, z = sI σ24 56 ((x1 * 9) + (gI σ24 55 x1)) v10 := ⟨_, rfl⟩
          replace h := h σ27 eσ27
          refine ga_iast (nI := 54) dX8_takeFan_93 rfl rfl i26 r9 eσ27 ?_
          refine ga_aload_n 2 dX8_takeFan_94 rfl rfl ?_
          refine ga_getR (kI := 15) (r := 55) dX8_takeFan_95 fX8_49 rfl rfl (by decide) rfl ?_
          refine ga_iload_n 3 dX8_takeFan_98 rfl rfl ?_
          refine ga_dup2 dX8_takeFan_99 rfl rfl ?_
          refine ga_iald (nI := 6) dX8_takeFan_100 rfl rfl i1 (fun r28 => ?_)
          refine ga_iconst dX8_takeFan_101 ?_
          refine ga_iadd dX8_takeFan_102 ?_
          obtain ⟨r30, h⟩ := h
          obtain ⟨σ29, eσ29⟩ : ∃ z, z = sI σ27 55 x1 ((gI σ27 55 x1) + 1) := ⟨_, rfl⟩
          replace h := h σ29 eσ29
          refine ga_iast (nI := 6) dX8_takeFan_103 rfl rfl i1 r30 eσ29 ?_
          exact ga_vret dX8_takeFan_104 rfl h
      · replace q15 : v10 = (-1) := (Decidable.not_not.mp q15)
        have h := hf q15
        refine ga_aload_n 2 dX8_takeFan_49 rfl rfl ?_
        refine ga_dup dX8_takeFan_50 rfl ?_
        refine ga_getI (kI := 7) dX8_takeFan_51 fX8_92 rfl rfl rfl (fun r31 => ?_)
        refine ga_iconst dX8_takeFan_54 ?_
        refine ga_iadd dX8_takeFan_55 ?_
        obtain ⟨r33, h⟩ := h
        obtain ⟨σ32, eσ32⟩ : ∃ z, z = sI σ8 32 7 ((gI σ8 32 7) + 1) := ⟨_, rfl⟩
        replace h := h σ32 eσ32
        refine ga_putI (kI := 7) dX8_takeFan_56 fX8_92 pX8_7 rfl rfl rfl r33 eσ32 ?_
        exact ga_vret dX8_takeFan_59 rfl h
  replace h : ((gI σ 55 x1) < (gI σ 32 5) → True) ∧
  ((gI σ 32 5) ≤ (gI σ 55 x1) → True) := by repeat (first | exact True.intro | apply And.intro | intro _)
  obtain ⟨ht, hf⟩ := h
  refine ga_icmp_lt (tgt := 17) dX8_takeFan_10 (by decide) r2 r3 (fun q5 => ?_) (fun q5 => ?_)
  · replace q5 : (gI σ 55 x1) < (gI σ 32 5) := q5
    have h := ht q5
    refine ga_iconst dX8_takeFan_17 ?_
    exact kJ4 0 (by decide) (Or.inl rfl) (by rw [if_pos q5])
  · replace q5 : (gI σ 32 5) ≤ (gI σ 55 x1) := (Int.not_lt.mp q5)
    have h := hf q5
    refine ga_iconst dX8_takeFan_13 ?_
    refine ga_goto (tgt := 18) dX8_takeFan_14 (by decide) ?_
    exact kJ4 1 (by decide) (Or.inr rfl) (by rw [if_neg (Int.not_lt.mpr q5)])
