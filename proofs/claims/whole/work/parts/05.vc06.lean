abbrev eX12_idleOf (l : Launch) (G : gG)  (σ : gS) (Q : Int → gS → Prop) : Prop := gEi l G mX12_idleOf [.ref (G.2.1 88)] σ Q
abbrev kX12_idleOf_4 (l : Launch) (G : gG)  (x1 : Int) (x2 : Int) (σ : gS) (Q : Int → gS → Prop) : Prop := gAt l G mX12_idleOf (gQi G Q) 4 [(0, .ref (G.2.1 88)), (1, vI x1), (2, vI x2)] [] σ
set_option maxRecDepth 100000 in
set_option maxHeartbeats 4000000 in
theorem vX12_idleOf {l : Launch} {G : gG}  (σ : gS) (Q : Int → gS → Prop) (h : kX12_idleOf_4 l G  0 0 σ Q) : eX12_idleOf l G  σ Q := by
  refine ga_entry rfl (Nat.le_of_ble_eq_true rfl) ?_
  show gAt l G mX12_idleOf (gQi G Q) 0 [(0, .ref (G.2.1 88))] [] σ
  refine ga_iconst dX12_idleOf_0 ?_
  refine ga_istore_n (ls' := [(1, vI 0), (0, .ref (G.2.1 88))]) dX12_idleOf_1 rfl (by decide) rfl ?_
  refine ga_iconst dX12_idleOf_2 ?_
  refine ga_istore_n (ls' := [(2, vI 0), (1, vI 0), (0, .ref (G.2.1 88))]) dX12_idleOf_3 rfl (by decide) rfl ?_
  exact ga_sub [2, 1, 0] rfl h
set_option maxRecDepth 100000 in
set_option maxHeartbeats 4000000 in
theorem vX12_idleOf_4 {l : Launch} {G : gG}  (x1 : Int) (x2 : Int) (rx1 : gR x1) (rx2 : gR x2) (σ : gS) (Q : Int → gS → Prop) (h : ((gI σ 88 24) ≤ x2 → Q x1 σ) ∧
  (x2 < (gI σ 88 24) → eX12_takenIn l G x2 σ (fun v5 σ3 => gR v5 →
    (∀ v8 : Int, v8 = (if v5 = 0 then 1 else 0) →
    kX12_idleOf_4 l G  (x1 + v8) (x2 + 1) σ3 Q)))) : kX12_idleOf_4 l G  x1 x2 σ Q := by
  refine ga_iload_n 2 dX12_idleOf_4 rfl rfl ?_
  refine ga_aload_n 0 dX12_idleOf_5 rfl rfl ?_
  refine ga_getI (kI := 24) dX12_idleOf_6 fX12_257 rfl rfl rfl (fun r1 => ?_)
  obtain ⟨ht, hf⟩ := h
  refine ga_icmp_ge (tgt := 34) dX12_idleOf_9 (by decide) rx2 r1 (fun q2 => ?_) (fun q2 => ?_)
  · replace q2 : (gI σ 88 24) ≤ x2 := q2
    have h := ht q2
    refine ga_iload_n 1 dX12_idleOf_34 rfl rfl ?_
    exact ga_iret dX12_idleOf_35 rfl rx1 h
  · replace q2 : x2 < (gI σ 88 24) := (Int.not_le.mp q2)
    have h := hf q2
    refine ga_iload_n 1 dX12_idleOf_12 rfl rfl ?_
    refine ga_aload_n 0 dX12_idleOf_13 rfl rfl ?_
    refine ga_iload_n 2 dX12_idleOf_14 rfl rfl ?_
    refine ga_callVi (z := mX12_takenIn) (As := [vI x2]) (rest := [vI x1]) dX12_idleOf_15 wX12_428 qX12_idleOf_X12_takenIn rfl ⟨_, rfl, rfl⟩ rfl rfl (Nat.le_of_ble_eq_true rfl) (gEi_mono h (fun v5 σ3 h r4 => ?_))
    replace h := h r4
    have kJ6 : ∀ v8 : Int, gR v8 → (v8 = 0 ∨ v8 = 1) → v8 = (if v5 = 0 then 1 else 0) → gAt l G mX12_idleOf (gQi G Q) 26 [(0, .ref (G.2.1 88)), (1, vI x1), (2, vI x2)] [vI v8, vI x1] σ3 := by
      intro v8 rv8 bv8 ev8
      replace h := h v8 ev8
      refine ga_iadd dX12_idleOf_26 ?_
      refine ga_istore_n (ls' := [(1, vI (x1 + v8)), (0, .ref (G.2.1 88)), (2, vI x2)]) dX12_idleOf_27 rfl (by decide) rfl ?_
      refine ga_iinc (ls' := [(2, vI (x2 + 1)), (1, vI (x1 + v8)), (0, .ref (G.2.1 88))]) 2 dX12_idleOf_28 rfl (by decide) rfl ?_
      refine ga_goto (tgt := 4) dX12_idleOf_31 (by decide) ?_
      exact ga_sub [2, 1, 0] rfl h
    replace h : (¬ v5 = 0 → True) ∧
    (v5 = 0 → True) := by repeat (first | exact True.intro | apply And.intro | intro _)
    obtain ⟨ht, hf⟩ := h
    refine ga_if_ne (tgt := 25) dX12_idleOf_18 (by decide) r4 (fun q7 => ?_) (fun q7 => ?_)
    · replace q7 : ¬ v5 = 0 := q7
      have h := ht q7
      refine ga_iconst dX12_idleOf_25 ?_
      exact kJ6 0 (by decide) (Or.inl rfl) (by rw [if_neg q7])
    · replace q7 : v5 = 0 := (Decidable.not_not.mp q7)
      have h := hf q7
      refine ga_iconst dX12_idleOf_21 ?_
      refine ga_goto (tgt := 26) dX12_idleOf_22 (by decide) ?_
      exact kJ6 1 (by decide) (Or.inr rfl) (by rw [if_pos q7])
abbrev eX12_bestOf (l : Launch) (G : gG)  (σ : gS) (Q : Int → gS → Prop) : Prop := gEi l G mX12_bestOf [.ref (G.2.1 88)] σ Q
abbrev kX12_bestOf_4 (l : Launch) (G : gG)  (x1 : Int) (x2 : Int) (σ : gS) (Q : Int → gS → Prop) : Prop := gAt l G mX12_bestOf (gQi G Q) 4 [(0, .ref (G.2.1 88)), (1, vI x1), (2, vI x2)] [] σ
set_option maxRecDepth 100000 in
set_option maxHeartbeats 4000000 in
theorem vX12_bestOf {l : Launch} {G : gG}  (σ : gS) (Q : Int → gS → Prop) (h : kX12_bestOf_4 l G  (-1) 0 σ Q) : eX12_bestOf l G  σ Q := by
  refine ga_entry rfl (Nat.le_of_ble_eq_true rfl) ?_
  show gAt l G mX12_bestOf (gQi G Q) 0 [(0, .ref (G.2.1 88))] [] σ
  refine ga_iconst dX12_bestOf_0 ?_
  refine ga_istore_n (ls' := [(1, vI (-1)), (0, .ref (G.2.1 88))]) dX12_bestOf_1 rfl (by decide) rfl ?_
  refine ga_iconst dX12_bestOf_2 ?_
  refine ga_istore_n (ls' := [(2, vI 0), (1, vI (-1)), (0, .ref (G.2.1 88))]) dX12_bestOf_3 rfl (by decide) rfl ?_
  exact ga_sub [2, 1, 0] rfl h
set_option maxRecDepth 100000 in
set_option maxHeartbeats 4000000 in
theorem vX12_bestOf_4 {l : Launch} {G : gG}  (x1 : Int) (x2 : Int) (rx1 : gR x1) (rx2 : gR x2) (σ : gS) (Q : Int → gS → Prop) (h : ((gI σ 88 24) ≤ x2 → Q x1 σ) ∧
  (x2 < (gI σ 88 24) → (x1 = (-1) → kX12_bestOf_4 l G  x2 (x2 + 1) σ Q) ∧
    (¬ x1 = (-1) → eX12_takenIn l G x2 σ (fun v6 σ4 => gR v6 →
      eX12_takenIn l G x1 σ4 (fun v9 σ7 => gR v9 →
      (v6 ≤ v9 → kX12_bestOf_4 l G  x1 (x2 + 1) σ7 Q) ∧
      (v9 < v6 → kX12_bestOf_4 l G  x2 (x2 + 1) σ7 Q)))))) : kX12_bestOf_4 l G  x1 x2 σ Q := by
  refine ga_iload_n 2 dX12_bestOf_4 rfl rfl ?_
  refine ga_aload_n 0 dX12_bestOf_5 rfl rfl ?_
  refine ga_getI (kI := 24) dX12_bestOf_6 fX12_257 rfl rfl rfl (fun r1 => ?_)
  obtain ⟨ht, hf⟩ := h
  refine ga_icmp_ge (tgt := 38) dX12_bestOf_9 (by decide) rx2 r1 (fun q2 => ?_) (fun q2 => ?_)
  · replace q2 : (gI σ 88 24) ≤ x2 := q2
    have h := ht q2
    refine ga_iload_n 1 dX12_bestOf_38 rfl rfl ?_
    exact ga_iret dX12_bestOf_39 rfl rx1 h
  · replace q2 : x2 < (gI σ 88 24) := (Int.not_le.mp q2)
    have h := hf q2
    refine ga_iload_n 1 dX12_bestOf_12 rfl rfl ?_
    refine ga_iconst dX12_bestOf_13 ?_
    obtain ⟨ht, hf⟩ := h
    refine ga_icmp_eq (tgt := 30) dX12_bestOf_14 (by decide) rx1 (by decide) (fun q3 => ?_) (fun q3 => ?_)
    · replace q3 : x1 = (-1) := q3
      have h := ht q3
      refine ga_iload_n 2 dX12_bestOf_30 rfl rfl ?_
      refine ga_istore_n (ls' := [(1, vI x2), (0, .ref (G.2.1 88)), (2, vI x2)]) dX12_bestOf_31 rfl (by decide) rfl ?_
      refine ga_iinc (ls' := [(2, vI (x2 + 1)), (1, vI x2), (0, .ref (G.2.1 88))]) 2 dX12_bestOf_32 rfl (by decide) rfl ?_
      refine ga_goto (tgt := 4) dX12_bestOf_35 (by decide) ?_
      exact ga_sub [2, 1, 0] rfl h
    · replace q3 : ¬ x1 = (-1) := q3
      have h := hf q3
      refine ga_aload_n 0 dX12_bestOf_17 rfl rfl ?_
      refine ga_iload_n 2 dX12_bestOf_18 rfl rfl ?_
      refine ga_callVi (z := mX12_takenIn) (As := [vI x2]) (rest := []) dX12_bestOf_19 wX12_428 qX12_bestOf_X12_takenIn rfl ⟨_, rfl, rfl⟩ rfl rfl (Nat.le_of_ble_eq_true rfl) (gEi_mono h (fun v6 σ4 h r5 => ?_))
      replace h := h r5
      refine ga_aload_n 0 dX12_bestOf_22 rfl rfl ?_
      refine ga_iload_n 1 dX12_bestOf_23 rfl rfl ?_
      refine ga_callVi (z := mX12_takenIn) (As := [vI x1]) (rest := [vI v6]) dX12_bestOf_24 wX12_428 qX12_bestOf_X12_takenIn rfl ⟨_, rfl, rfl⟩ rfl rfl (Nat.le_of_ble_eq_true rfl) (gEi_mono h (fun v9 σ7 h r8 => ?_))
      replace h := h r8
      obtain ⟨ht, hf⟩ := h
      refine ga_icmp_le (tgt := 32) dX12_bestOf_27 (by decide) r5 r8 (fun q10 => ?_) (fun q10 => ?_)
      · replace q10 : v6 ≤ v9 := q10
        have h := ht q10
        refine ga_iinc (ls' := [(2, vI (x2 + 1)), (0, .ref (G.2.1 88)), (1, vI x1)]) 2 dX12_bestOf_32 rfl (by decide) rfl ?_
        refine ga_goto (tgt := 4) dX12_bestOf_35 (by decide) ?_
        exact ga_sub [1, 2, 0] rfl h
      · replace q10 : v9 < v6 := (Int.not_le.mp q10)
        have h := hf q10
        refine ga_iload_n 2 dX12_bestOf_30 rfl rfl ?_
        refine ga_istore_n (ls' := [(1, vI x2), (0, .ref (G.2.1 88)), (2, vI x2)]) dX12_bestOf_31 rfl (by decide) rfl ?_
        refine ga_iinc (ls' := [(2, vI (x2 + 1)), (1, vI x2), (0, .ref (G.2.1 88))]) 2 dX12_bestOf_32 rfl (by decide) rfl ?_
        refine ga_goto (tgt := 4) dX12_bestOf_35 (by decide) ?_
        exact ga_sub [2, 1, 0] rfl h
abbrev eX12_meetsOf (l : Launch) (G : gG)  (σ : gS) (Q : Int → gS → Prop) : Prop := gEi l G mX12_meetsOf [.ref (G.2.1 88)] σ Q
abbrev kX12_meetsOf_4 (l : Launch) (G : gG)  (x1 : Int) (x2 : Int) (σ : gS) (Q : Int → gS → Prop) : Prop := gAt l G mX12_meetsOf (gQi G Q) 4 [(0, .ref (G.2.1 88)), (1, vI x1), (2, vI x2)] [] σ
abbrev kX12_meetsOf_14 (l : Launch) (G : gG)  (x1 : Int) (x2 : Int) (x3 : Int) (σ : gS) (Q : Int → gS → Prop) : Prop := gAt l G mX12_meetsOf (gQi G Q) 14 [(0, .ref (G.2.1 88)), (1, vI x1), (2, vI x2), (3, vI x3)] [] σ
abbrev kX12_meetsOf_28 (l : Launch) (G : gG)  (x1 : Int) (x2 : Int) (x3 : Int) (x4 : Int) (x5 : Int) (x6 : Int) (σ : gS) (Q : Int → gS → Prop) : Prop := gAt l G mX12_meetsOf (gQi G Q) 28 [(0, .ref (G.2.1 88)), (1, vI x1), (2, vI x2), (3, vI x3), (4, vI x4), (5, vI x5), (6, vI x6)] [] σ
set_option maxRecDepth 100000 in
set_option maxHeartbeats 4000000 in
theorem vX12_meetsOf {l : Launch} {G : gG}  (σ : gS) (Q : Int → gS → Prop) (h : kX12_meetsOf_4 l G  0 0 σ Q) : eX12_meetsOf l G  σ Q := by
  refine ga_entry rfl (Nat.le_of_ble_eq_true rfl) ?_
  show gAt l G mX12_meetsOf (gQi G Q) 0 [(0, .ref (G.2.1 88))] [] σ
  refine ga_iconst dX12_meetsOf_0 ?_
  refine ga_istore_n (ls' := [(1, vI 0), (0, .ref (G.2.1 88))]) dX12_meetsOf_1 rfl (by decide) rfl ?_
  refine ga_iconst dX12_meetsOf_2 ?_
  refine ga_istore_n (ls' := [(2, vI 0), (1, vI 0), (0, .ref (G.2.1 88))]) dX12_meetsOf_3 rfl (by decide) rfl ?_
  exact ga_sub [2, 1, 0] rfl h
set_option maxRecDepth 100000 in
set_option maxHeartbeats 4000000 in
theorem vX12_meetsOf_4 {l : Launch} {G : gG}  (x1 : Int) (x2 : Int) (rx1 : gR x1) (rx2 : gR x2) (σ : gS) (Q : Int → gS → Prop) (h : ((gI σ 88 24) ≤ x2 → Q x1 σ) ∧
  (x2 < (gI σ 88 24) → kX12_meetsOf_14 l G  x1 x2 0 σ Q)) : kX12_meetsOf_4 l G  x1 x2 σ Q := by
  refine ga_iload_n 2 dX12_meetsOf_4 rfl rfl ?_
  refine ga_aload_n 0 dX12_meetsOf_5 rfl rfl ?_
  refine ga_getI (kI := 24) dX12_meetsOf_6 fX12_257 rfl rfl rfl (fun r1 => ?_)
  obtain ⟨ht, hf⟩ := h
  refine ga_icmp_ge (tgt := 138) dX12_meetsOf_9 (by decide) rx2 r1 (fun q2 => ?_) (fun q2 => ?_)
  · replace q2 : (gI σ 88 24) ≤ x2 := q2
    have h := ht q2
    refine ga_iload_n 1 dX12_meetsOf_138 rfl rfl ?_
    exact ga_iret dX12_meetsOf_139 rfl rx1 h
  · replace q2 : x2 < (gI σ 88 24) := (Int.not_le.mp q2)
    have h := hf q2
    refine ga_iconst dX12_meetsOf_12 ?_
    refine ga_istore_n (ls' := [(3, vI 0), (0, .ref (G.2.1 88)), (1, vI x1), (2, vI x2)]) dX12_meetsOf_13 rfl (by decide) rfl ?_
    exact ga_sub [1, 2, 3, 0] rfl h
set_option maxRecDepth 100000 in
set_option maxHeartbeats 4000000 in
theorem vX12_meetsOf_14 {l : Launch} {G : gG}  (x1 : Int) (x2 : Int) (x3 : Int) (rx1 : gR x1) (rx2 : gR x2) (rx3 : gR x3) (σ : gS) (Q : Int → gS → Prop) (h : (x2 ≤ x3 → kX12_meetsOf_4 l G  x1 (x2 + 1) σ Q) ∧
  (x3 < x2 → kX12_meetsOf_28 l G  x1 x2 x3 1 0 0 σ Q)) : kX12_meetsOf_14 l G  x1 x2 x3 σ Q := by
  refine ga_iload_n 3 dX12_meetsOf_14 rfl rfl ?_
  refine ga_iload_n 2 dX12_meetsOf_15 rfl rfl ?_
  obtain ⟨ht, hf⟩ := h
  refine ga_icmp_ge (tgt := 132) dX12_meetsOf_16 (by decide) rx3 rx2 (fun q3 => ?_) (fun q3 => ?_)
  · replace q3 : x2 ≤ x3 := q3
    have h := ht q3
    refine ga_iinc (ls' := [(2, vI (x2 + 1)), (0, .ref (G.2.1 88)), (1, vI x1), (3, vI x3)]) 2 dX12_meetsOf_132 rfl (by decide) rfl ?_
    refine ga_goto (tgt := 4) dX12_meetsOf_135 (by decide) ?_
    exact ga_sub [1, 2, 0] rfl h
  · replace q3 : x3 < x2 := (Int.not_le.mp q3)
    have h := hf q3
    refine ga_iconst dX12_meetsOf_19 ?_
    refine ga_istore (ls' := [(4, vI 1), (0, .ref (G.2.1 88)), (1, vI x1), (2, vI x2), (3, vI x3)]) dX12_meetsOf_20 (by decide) rfl ?_
    refine ga_iconst dX12_meetsOf_22 ?_
    refine ga_istore (ls' := [(5, vI 0), (4, vI 1), (0, .ref (G.2.1 88)), (1, vI x1), (2, vI x2), (3, vI x3)]) dX12_meetsOf_23 (by decide) rfl ?_
    refine ga_iconst dX12_meetsOf_25 ?_
    refine ga_istore (ls' := [(6, vI 0), (5, vI 0), (4, vI 1), (0, .ref (G.2.1 88)), (1, vI x1), (2, vI x2), (3, vI x3)]) dX12_meetsOf_26 (by decide) rfl ?_
    exact ga_sub [3, 4, 5, 6, 2, 1, 0] rfl h
set_option maxRecDepth 100000 in
set_option maxHeartbeats 4000000 in
theorem vX12_meetsOf_28 {l : Launch} {G : gG}  (x1 : Int) (x2 : Int) (x3 : Int) (x4 : Int) (x5 : Int) (x6 : Int) (rx1 : gR x1) (rx2 : gR x2) (rx3 : gR x3) (rx4 : gR x4) (rx5 : gR x5) (rx6 : gR x6) (σ : gS) (Q : Int → gS → Prop) (h : (6 ≤ x6 → (∀ v8 : Int, v8 = (if x4 = 0 then 0 else (if x5 = 0 then 0 else 1)) →
    kX12_meetsOf_14 l G  (x1 + v8) x2 (x3 + 1) σ Q)) ∧
  (x6 < 6 → ((x4 = 0 → True) ∧
    (¬ x4 = 0 → (0 ≤ ((6 * x2) + x6) ∧ ((6 * x2) + x6) < 2520) ∧ (0 ≤ ((6 * x3) + x6) ∧ ((6 * x3) + x6) < 2520) ∧ (¬ (gI σ 109 ((6 * x2) + x6)) = (gI σ 109 ((6 * x3) + x6)) → True) ∧
      ((gI σ 109 ((6 * x2) + x6)) = (gI σ 109 ((6 * x3) + x6)) → True))) ∧
    (∀ v16 : Int, v16 = (if x4 = 0 then 0 else (if (gI σ 109 ((6 * x2) + x6)) = (gI σ 109 ((6 * x3) + x6)) then 1 else 0)) →
    ((¬ x5 = 0 → True) ∧
      (x5 = 0 → (0 ≤ ((6 * x2) + x6) ∧ ((6 * x2) + x6) < 2520) ∧ ((gI σ 109 ((6 * x2) + x6)) = (-1) → True) ∧
        (¬ (gI σ 109 ((6 * x2) + x6)) = (-1) → True))) ∧
      (∀ v22 : Int, v22 = (if x5 = 0 then (if (gI σ 109 ((6 * x2) + x6)) = (-1) then 0 else 1) else 1) →
      kX12_meetsOf_28 l G  x1 x2 x3 v16 v22 (x6 + 1) σ Q)))) : kX12_meetsOf_28 l G  x1 x2 x3 x4 x5 x6 σ Q := by
  refine ga_iload 6 dX12_meetsOf_28 rfl ?_
  refine ga_bipush dX12_meetsOf_30 (by decide) ?_
  obtain ⟨ht, hf⟩ := h
  refine ga_icmp_ge (tgt := 108) dX12_meetsOf_32 (by decide) rx6 (by decide) (fun q4 => ?_) (fun q4 => ?_)
  · replace q4 : 6 ≤ x6 := q4
    have h := ht q4
    refine ga_iload_n 1 dX12_meetsOf_108 rfl rfl ?_
    refine ga_iload 4 dX12_meetsOf_109 rfl ?_
    have kJ5 : ∀ v8 : Int, gR v8 → (v8 = 0 ∨ v8 = 1) → v8 = (if x4 = 0 then 0 else (if x5 = 0 then 0 else 1)) → gAt l G mX12_meetsOf (gQi G Q) 124 [(0, .ref (G.2.1 88)), (1, vI x1), (2, vI x2), (3, vI x3), (4, vI x4), (5, vI x5), (6, vI x6)] [vI v8, vI x1] σ := by
      intro v8 rv8 bv8 ev8
      replace h := h v8 ev8
      refine ga_iadd dX12_meetsOf_124 ?_
      refine ga_istore_n (ls' := [(1, vI (x1 + v8)), (0, .ref (G.2.1 88)), (2, vI x2), (3, vI x3), (4, vI x4), (5, vI x5), (6, vI x6)]) dX12_meetsOf_125 rfl (by decide) rfl ?_
      refine ga_iinc (ls' := [(3, vI (x3 + 1)), (1, vI (x1 + v8)), (0, .ref (G.2.1 88)), (2, vI x2), (4, vI x4), (5, vI x5), (6, vI x6)]) 3 dX12_meetsOf_126 rfl (by decide) rfl ?_
      refine ga_goto (tgt := 14) dX12_meetsOf_129 (by decide) ?_
      exact ga_sub [2, 1, 3, 0] rfl h
    replace h : (x4 = 0 → True) ∧
    (¬ x4 = 0 → (x5 = 0 → True) ∧
      (¬ x5 = 0 → True)) := by repeat (first | exact True.intro | apply And.intro | intro _)
    obtain ⟨ht, hf⟩ := h
    refine ga_if_eq (tgt := 123) dX12_meetsOf_111 (by decide) rx4 (fun q6 => ?_) (fun q6 => ?_)
    · replace q6 : x4 = 0 := q6
      have h := ht q6
      refine ga_iconst dX12_meetsOf_123 ?_
      exact kJ5 0 (by decide) (Or.inl rfl) (by rw [if_pos q6])
    · replace q6 : ¬ x4 = 0 := q6
      have h := hf q6
      refine ga_iload 5 dX12_meetsOf_114 rfl ?_
      obtain ⟨ht, hf⟩ := h
      refine ga_if_eq (tgt := 123) dX12_meetsOf_116 (by decide) rx5 (fun q7 => ?_) (fun q7 => ?_)
      · replace q7 : x5 = 0 := q7
        have h := ht q7
        refine ga_iconst dX12_meetsOf_123 ?_
        exact kJ5 0 (by decide) (Or.inl rfl) (by rw [if_neg q6, if_pos q7])
      · replace q7 : ¬ x5 = 0 := q7
        have h := hf q7
        refine ga_iconst dX12_meetsOf_119 ?_
        refine ga_goto (tgt := 124) dX12_meetsOf_120 (by decide) ?_
        exact kJ5 1 (by decide) (Or.inr rfl) (by rw [if_neg q6, if_neg q7])
  · replace q4 : x6 < 6 := (Int.not_le.mp q4)
    have h := hf q4
    refine ga_iload 4 dX12_meetsOf_35 rfl ?_
    obtain ⟨hob, h⟩ := h
    have kJ9 : ∀ v16 : Int, gR v16 → (v16 = 0 ∨ v16 = 1) → v16 = (if x4 = 0 then 0 else (if (gI σ 109 ((6 * x2) + x6)) = (gI σ 109 ((6 * x3) + x6)) then 1 else 0)) → gAt l G mX12_meetsOf (gQi G Q) 72 [(0, .ref (G.2.1 88)), (1, vI x1), (2, vI x2), (3, vI x3), (4, vI x4), (5, vI x5), (6, vI x6)] [vI v16] σ := by
      intro v16 rv16 bv16 ev16
      replace h := h v16 ev16
      refine ga_istore (ls' := [(4, vI v16), (0, .ref (G.2.1 88)), (1, vI x1), (2, vI x2), (3, vI x3), (5, vI x5), (6, vI x6)]) dX12_meetsOf_72 (by decide) rfl ?_
      refine ga_iload 5 dX12_meetsOf_74 rfl ?_
      obtain ⟨hob, h⟩ := h
      have kJ17 : ∀ v22 : Int, gR v22 → (v22 = 0 ∨ v22 = 1) → v22 = (if x5 = 0 then (if (gI σ 109 ((6 * x2) + x6)) = (-1) then 0 else 1) else 1) → gAt l G mX12_meetsOf (gQi G Q) 100 [(4, vI v16), (0, .ref (G.2.1 88)), (1, vI x1), (2, vI x2), (3, vI x3), (5, vI x5), (6, vI x6)] [vI v22] σ := by
        intro v22 rv22 bv22 ev22
        replace h := h v22 ev22
        refine ga_istore (ls' := [(5, vI v22), (4, vI v16), (0, .ref (G.2.1 88)), (1, vI x1), (2, vI x2), (3, vI x3), (6, vI x6)]) dX12_meetsOf_100 (by decide) rfl ?_
        refine ga_iinc (ls' := [(6, vI (x6 + 1)), (5, vI v22), (4, vI v16), (0, .ref (G.2.1 88)), (1, vI x1), (2, vI x2), (3, vI x3)]) 6 dX12_meetsOf_102 rfl (by decide) rfl ?_
        refine ga_goto (tgt := 28) dX12_meetsOf_105 (by decide) ?_
        exact ga_sub [3, 4, 5, 6, 2, 1, 0] rfl h
      replace h := hob
      obtain ⟨ht, hf⟩ := h
      refine ga_if_ne (tgt := 95) dX12_meetsOf_76 (by decide) rx5 (fun q18 => ?_) (fun q18 => ?_)
      · replace q18 : ¬ x5 = 0 := q18
        have h := ht q18
        refine ga_iconst dX12_meetsOf_95 ?_
        refine ga_goto (tgt := 100) dX12_meetsOf_96 (by decide) ?_
        exact kJ17 1 (by decide) (Or.inr rfl) (by rw [if_neg q18])
      · replace q18 : x5 = 0 := (Decidable.not_not.mp q18)
        have h := hf q18
        refine ga_aload_n 1 dX12_meetsOf_79 rfl rfl ?_
        refine ga_getR (kI := 39) (r := 109) dX12_meetsOf_80 fX12_71 rfl rfl (by decide) rfl ?_
        refine ga_bipush dX12_meetsOf_83 (by decide) ?_
        refine ga_iload_n 3 dX12_meetsOf_85 rfl rfl ?_
        refine ga_imul dX12_meetsOf_86 ?_
        refine ga_iload 6 dX12_meetsOf_87 rfl ?_
        refine ga_iadd dX12_meetsOf_89 ?_
        obtain ⟨i19, h⟩ := h
        refine ga_iald (nI := 2520) dX12_meetsOf_90 rfl rfl i19 (fun r20 => ?_)
        refine ga_iconst dX12_meetsOf_91 ?_
        obtain ⟨ht, hf⟩ := h
        refine ga_icmp_eq (tgt := 99) dX12_meetsOf_92 (by decide) r20 (by decide) (fun q21 => ?_) (fun q21 => ?_)
        · replace q21 : (gI σ 109 ((6 * x2) + x6)) = (-1) := q21
          have h := ht q21
          refine ga_iconst dX12_meetsOf_99 ?_
          exact kJ17 0 (by decide) (Or.inl rfl) (by rw [if_pos q18, if_pos q21])
        · replace q21 : ¬ (gI σ 109 ((6 * x2) + x6)) = (-1) := q21
          have h := hf q21
          refine ga_iconst dX12_meetsOf_95 ?_
          refine ga_goto (tgt := 100) dX12_meetsOf_96 (by decide) ?_
          exact kJ17 1 (by decide) (Or.inr rfl) (by rw [if_pos q18, if_neg q21])
    replace h := hob
    obtain ⟨ht, hf⟩ := h
    refine ga_if_eq (tgt := 71) dX12_meetsOf_37 (by decide) rx4 (fun q10 => ?_) (fun q10 => ?_)
    · replace q10 : x4 = 0 := q10
      have h := ht q10
      refine ga_iconst dX12_meetsOf_71 ?_
      exact kJ9 0 (by decide) (Or.inl rfl) (by rw [if_pos q10])
    · replace q10 : ¬ x4 = 0 := q10
      have h := hf q10
      refine ga_aload_n 0 dX12_meetsOf_40 rfl rfl ?_
      refine ga_getR (kI := 39) (r := 109) dX12_meetsOf_41 fX12_71 rfl rfl (by decide) rfl ?_
      refine ga_bipush dX12_meetsOf_44 (by decide) ?_
      refine ga_iload_n 2 dX12_meetsOf_46 rfl rfl ?_
      refine ga_imul dX12_meetsOf_47 ?_
      refine ga_iload 6 dX12_meetsOf_48 rfl ?_
      refine ga_iadd dX12_meetsOf_50 ?_
      obtain ⟨i11, h⟩ := h
      refine ga_iald (nI := 2520) dX12_meetsOf_51 rfl rfl i11 (fun r12 => ?_)
      refine ga_aload_n 0 dX12_meetsOf_52 rfl rfl ?_
      refine ga_getR (kI := 39) (r := 109) dX12_meetsOf_53 fX12_71 rfl rfl (by decide) rfl ?_
      refine ga_bipush dX12_meetsOf_56 (by decide) ?_
      refine ga_iload_n 3 dX12_meetsOf_58 rfl rfl ?_
      refine ga_imul dX12_meetsOf_59 ?_
      refine ga_iload 6 dX12_meetsOf_60 rfl ?_
      refine ga_iadd dX12_meetsOf_62 ?_
      obtain ⟨i13, h⟩ := h
      refine ga_iald (nI := 2520) dX12_meetsOf_63 rfl rfl i13 (fun r14 => ?_)
      obtain ⟨ht, hf⟩ := h
      refine ga_icmp_ne (tgt := 71) dX12_meetsOf_64 (by decide) r12 r14 (fun q15 => ?_) (fun q15 => ?_)
      · replace q15 : ¬ (gI σ 109 ((6 * x2) + x6)) = (gI σ 109 ((6 * x3) + x6)) := q15
        have h := ht q15
        refine ga_iconst dX12_meetsOf_71 ?_
        exact kJ9 0 (by decide) (Or.inl rfl) (by rw [if_neg q10, if_neg q15])
      · replace q15 : (gI σ 109 ((6 * x2) + x6)) = (gI σ 109 ((6 * x3) + x6)) := (Decidable.not_not.mp q15)
        have h := hf q15
        refine ga_iconst dX12_meetsOf_67 ?_
        refine ga_goto (tgt := 72) dX12_meetsOf_68 (by decide) ?_
        exact kJ9 1 (by decide) (Or.inr rfl) (by rw [if_neg q10, if_pos q15])
abbrev eX12_starvedOf (l : Launch) (G : gG)  (σ : gS) (Q : Int → gS → Prop) : Prop := gEi l G mX12_starvedOf [.ref (G.2.1 88)] σ Q
abbrev kX12_starvedOf_17 (l : Launch) (G : gG)  (x1 : Int) (x2 : Int) (σ : gS) (Q : Int → gS → Prop) : Prop := gAt l G mX12_starvedOf (gQi G Q) 17 [(0, .ref (G.2.1 88)), (1, vI x1), (2, vI x2)] [] σ
abbrev kX12_starvedOf_43 (l : Launch) (G : gG)  (x1 : Int) (x2 : Int) (x3 : Int) (x4 : Int) (σ : gS) (Q : Int → gS → Prop) : Prop := gAt l G mX12_starvedOf (gQi G Q) 43 [(0, .ref (G.2.1 88)), (1, vI x1), (2, vI x2), (3, vI x3), (4, vI x4)] [] σ
abbrev kX12_starvedOf_99 (l : Launch) (G : gG)  (x1 : Int) (x2 : Int) (x3 : Int) (x4 : Int) (x5 : Int) (σ : gS) (Q : Int → gS → Prop) : Prop := gAt l G mX12_starvedOf (gQi G Q) 99 [(0, .ref (G.2.1 88)), (1, vI x1), (2, vI x2), (3, vI x3), (4, vI x4), (5, vI x5)] [] σ
set_option maxRecDepth 100000 in
set_option maxHeartbeats 4000000 in
theorem vX12_starvedOf {l : Launch} {G : gG}  (σ : gS) (Q : Int → gS → Prop) (h : ((gI σ 88 10) ≤ (gI σ 88 24) → kX12_starvedOf_17 l G  0 0 σ Q) ∧
  ((gI σ 88 24) < (gI σ 88 10) → Q 0 σ)) : eX12_starvedOf l G  σ Q := by
  refine ga_entry rfl (Nat.le_of_ble_eq_true rfl) ?_
  show gAt l G mX12_starvedOf (gQi G Q) 0 [(0, .ref (G.2.1 88))] [] σ
  refine ga_aload_n 0 dX12_starvedOf_0 rfl rfl ?_
  refine ga_getI (kI := 24) dX12_starvedOf_1 fX12_257 rfl rfl rfl (fun r1 => ?_)
  refine ga_aload_n 0 dX12_starvedOf_4 rfl rfl ?_
  refine ga_getI (kI := 10) dX12_starvedOf_5 fX12_236 rfl rfl rfl (fun r2 => ?_)
  obtain ⟨ht, hf⟩ := h
  refine ga_icmp_ge (tgt := 13) dX12_starvedOf_8 (by decide) r1 r2 (fun q3 => ?_) (fun q3 => ?_)
  · replace q3 : (gI σ 88 10) ≤ (gI σ 88 24) := q3
    have h := ht q3
    refine ga_iconst dX12_starvedOf_13 ?_
    refine ga_istore_n (ls' := [(1, vI 0), (0, .ref (G.2.1 88))]) dX12_starvedOf_14 rfl (by decide) rfl ?_
    refine ga_iconst dX12_starvedOf_15 ?_
    refine ga_istore_n (ls' := [(2, vI 0), (1, vI 0), (0, .ref (G.2.1 88))]) dX12_starvedOf_16 rfl (by decide) rfl ?_
    exact ga_sub [2, 1, 0] rfl h
  · replace q3 : (gI σ 88 24) < (gI σ 88 10) := (Int.not_le.mp q3)
    have h := hf q3
    refine ga_iconst dX12_starvedOf_11 ?_
    exact ga_iret dX12_starvedOf_12 rfl (by decide) h
set_option maxRecDepth 100000 in
set_option maxHeartbeats 4000000 in
theorem vX12_starvedOf_17 {l : Launch} {G : gG}  (x1 : Int) (x2 : Int) (rx1 : gR x1) (rx2 : gR x2) (σ : gS) (Q : Int → gS → Prop) (h : ((gI σ 88 10) ≤ x2 → Q x1 σ) ∧
  (x2 < (gI σ 88 10) → (0 ≤ x2 ∧ x2 < 6) ∧ (∀ v10 : Int, v10 = (if (gI σ 97 x2) ≤ 0 then 0 else 1) →
    kX12_starvedOf_43 l G  x1 x2 v10 0 σ Q))) : kX12_starvedOf_17 l G  x1 x2 σ Q := by
  refine ga_iload_n 2 dX12_starvedOf_17 rfl rfl ?_
  refine ga_aload_n 0 dX12_starvedOf_18 rfl rfl ?_
  refine ga_getI (kI := 10) dX12_starvedOf_19 fX12_236 rfl rfl rfl (fun r4 => ?_)
  obtain ⟨ht, hf⟩ := h
  refine ga_icmp_ge (tgt := 176) dX12_starvedOf_22 (by decide) rx2 r4 (fun q5 => ?_) (fun q5 => ?_)
  · replace q5 : (gI σ 88 10) ≤ x2 := q5
    have h := ht q5
    refine ga_iload_n 1 dX12_starvedOf_176 rfl rfl ?_
    exact ga_iret dX12_starvedOf_177 rfl rx1 h
  · replace q5 : x2 < (gI σ 88 10) := (Int.not_le.mp q5)
    have h := hf q5
    refine ga_aload_n 0 dX12_starvedOf_25 rfl rfl ?_
    refine ga_getR (kI := 20) (r := 97) dX12_starvedOf_26 fX12_35 rfl rfl (by decide) rfl ?_
    refine ga_iload_n 2 dX12_starvedOf_29 rfl rfl ?_
    obtain ⟨i6, h⟩ := h
    refine ga_iald (nI := 6) dX12_starvedOf_30 rfl rfl i6 (fun r7 => ?_)
    have kJ8 : ∀ v10 : Int, gR v10 → (v10 = 0 ∨ v10 = 1) → v10 = (if (gI σ 97 x2) ≤ 0 then 0 else 1) → gAt l G mX12_starvedOf (gQi G Q) 39 [(0, .ref (G.2.1 88)), (1, vI x1), (2, vI x2)] [vI v10] σ := by
      intro v10 rv10 bv10 ev10
      replace h := h v10 ev10
      refine ga_istore_n (ls' := [(3, vI v10), (0, .ref (G.2.1 88)), (1, vI x1), (2, vI x2)]) dX12_starvedOf_39 rfl (by decide) rfl ?_
      refine ga_iconst dX12_starvedOf_40 ?_
      refine ga_istore (ls' := [(4, vI 0), (3, vI v10), (0, .ref (G.2.1 88)), (1, vI x1), (2, vI x2)]) dX12_starvedOf_41 (by decide) rfl ?_
      exact ga_sub [2, 3, 4, 1, 0] rfl h
    replace h : ((gI σ 97 x2) ≤ 0 → True) ∧
    (0 < (gI σ 97 x2) → True) := by repeat (first | exact True.intro | apply And.intro | intro _)
    obtain ⟨ht, hf⟩ := h
    refine ga_if_le (tgt := 38) dX12_starvedOf_31 (by decide) r7 (fun q9 => ?_) (fun q9 => ?_)
    · replace q9 : (gI σ 97 x2) ≤ 0 := q9
      have h := ht q9
      refine ga_iconst dX12_starvedOf_38 ?_
      exact kJ8 0 (by decide) (Or.inl rfl) (by rw [if_pos q9])
    · replace q9 : 0 < (gI σ 97 x2) := (Int.not_le.mp q9)
      have h := hf q9
      refine ga_iconst dX12_starvedOf_34 ?_
      refine ga_goto (tgt := 39) dX12_starvedOf_35 (by decide) ?_
      exact kJ8 1 (by decide) (Or.inr rfl) (by rw [if_neg (Int.not_le.mpr q9)])
set_option maxRecDepth 100000 in
set_option maxHeartbeats 4000000 in
theorem vX12_starvedOf_43 {l : Launch} {G : gG}  (x1 : Int) (x2 : Int) (x3 : Int) (x4 : Int) (rx1 : gR x1) (rx2 : gR x2) (rx3 : gR x3) (rx4 : gR x4) (σ : gS) (Q : Int → gS → Prop) (h : ((gI σ 88 10) ≤ x4 → kX12_starvedOf_99 l G  x1 x2 x3 0 (6 * ((gI σ 88 24) - (gI σ 88 10))) σ Q) ∧
  (x4 < (gI σ 88 10) → (¬ x3 = 0 → kX12_starvedOf_43 l G  x1 x2 1 (x4 + 1) σ Q) ∧
    (x3 = 0 → eX12_at l G x2 x4 σ (fun v18 σ16 => gR v18 →
      (0 ≤ v18 ∧ v18 < 36) ∧ (∀ v23 : Int, v23 = (if (gI σ16 95 v18) ≤ 0 then 0 else 1) →
      kX12_starvedOf_43 l G  x1 x2 v23 (x4 + 1) σ16 Q))))) : kX12_starvedOf_43 l G  x1 x2 x3 x4 σ Q := by
  refine ga_iload 4 dX12_starvedOf_43 rfl ?_
  refine ga_aload_n 0 dX12_starvedOf_45 rfl rfl ?_
  refine ga_getI (kI := 10) dX12_starvedOf_46 fX12_236 rfl rfl rfl (fun r11 => ?_)
  obtain ⟨ht, hf⟩ := h
  refine ga_icmp_ge (tgt := 82) dX12_starvedOf_49 (by decide) rx4 r11 (fun q12 => ?_) (fun q12 => ?_)
  · replace q12 : (gI σ 88 10) ≤ x4 := q12
    have h := ht q12
    refine ga_iconst dX12_starvedOf_82 ?_
    refine ga_istore (ls' := [(4, vI 0), (0, .ref (G.2.1 88)), (1, vI x1), (2, vI x2), (3, vI x3)]) dX12_starvedOf_83 (by decide) rfl ?_
    refine ga_bipush dX12_starvedOf_85 (by decide) ?_
    refine ga_aload_n 1 dX12_starvedOf_87 rfl rfl ?_
    refine ga_getI (kI := 24) dX12_starvedOf_88 fX12_257 rfl rfl rfl (fun r13 => ?_)
    refine ga_aload_n 1 dX12_starvedOf_91 rfl rfl ?_
    refine ga_getI (kI := 10) dX12_starvedOf_92 fX12_236 rfl rfl rfl (fun r14 => ?_)
    refine ga_isub dX12_starvedOf_95 ?_
    refine ga_imul dX12_starvedOf_96 ?_
    refine ga_istore (ls' := [(5, vI (6 * ((gI σ 88 24) - (gI σ 88 10)))), (4, vI 0), (0, .ref (G.2.1 88)), (1, vI x1), (2, vI x2), (3, vI x3)]) dX12_starvedOf_97 (by decide) rfl ?_
    exact ga_sub [2, 3, 4, 5, 1, 0] rfl h
  · replace q12 : x4 < (gI σ 88 10) := (Int.not_le.mp q12)
    have h := hf q12
    refine ga_iload_n 3 dX12_starvedOf_52 rfl rfl ?_
    obtain ⟨ht, hf⟩ := h
    refine ga_if_ne (tgt := 70) dX12_starvedOf_53 (by decide) rx3 (fun q15 => ?_) (fun q15 => ?_)
    · replace q15 : ¬ x3 = 0 := q15
      have h := ht q15
      refine ga_iconst dX12_starvedOf_70 ?_
      refine ga_goto (tgt := 75) dX12_starvedOf_71 (by decide) ?_
      refine ga_istore_n (ls' := [(3, vI 1), (0, .ref (G.2.1 88)), (1, vI x1), (2, vI x2), (4, vI x4)]) dX12_starvedOf_75 rfl (by decide) rfl ?_
      refine ga_iinc (ls' := [(4, vI (x4 + 1)), (3, vI 1), (0, .ref (G.2.1 88)), (1, vI x1), (2, vI x2)]) 4 dX12_starvedOf_76 rfl (by decide) rfl ?_
      refine ga_goto (tgt := 43) dX12_starvedOf_79 (by decide) ?_
      exact ga_sub [2, 3, 4, 1, 0] rfl h
    · replace q15 : x3 = 0 := (Decidable.not_not.mp q15)
      have h := hf q15
      refine ga_aload_n 0 dX12_starvedOf_56 rfl rfl ?_
      refine ga_getR (kI := 18) (r := 95) dX12_starvedOf_57 fX12_29 rfl rfl (by decide) rfl ?_
      refine ga_iload_n 2 dX12_starvedOf_60 rfl rfl ?_
      refine ga_iload 4 dX12_starvedOf_61 rfl ?_
      refine ga_callSi (z := mX12_at) (As := [vI x2, vI x4]) (rest := [.ref (G.2.1 95)]) dX12_starvedOf_63 wX12_279 qX12_starvedOf_X12_at rfl rfl (Nat.le_of_ble_eq_true rfl) (gEi_mono h (fun v18 σ16 h r17 => ?_))
      replace h := h r17
      obtain ⟨i19, h⟩ := h
      refine ga_iald (nI := 36) dX12_starvedOf_66 rfl rfl i19 (fun r20 => ?_)
      have kJ21 : ∀ v23 : Int, gR v23 → (v23 = 0 ∨ v23 = 1) → v23 = (if (gI σ16 95 v18) ≤ 0 then 0 else 1) → gAt l G mX12_starvedOf (gQi G Q) 75 [(0, .ref (G.2.1 88)), (1, vI x1), (2, vI x2), (3, vI x3), (4, vI x4)] [vI v23] σ16 := by
        intro v23 rv23 bv23 ev23
        replace h := h v23 ev23
        refine ga_istore_n (ls' := [(3, vI v23), (0, .ref (G.2.1 88)), (1, vI x1), (2, vI x2), (4, vI x4)]) dX12_starvedOf_75 rfl (by decide) rfl ?_
        refine ga_iinc (ls' := [(4, vI (x4 + 1)), (3, vI v23), (0, .ref (G.2.1 88)), (1, vI x1), (2, vI x2)]) 4 dX12_starvedOf_76 rfl (by decide) rfl ?_
        refine ga_goto (tgt := 43) dX12_starvedOf_79 (by decide) ?_
        exact ga_sub [2, 3, 4, 1, 0] rfl h
      replace h : ((gI σ16 95 v18) ≤ 0 → True) ∧
      (0 < (gI σ16 95 v18) → True) := by repeat (first | exact True.intro | apply And.intro | intro _)
      obtain ⟨ht, hf⟩ := h
      refine ga_if_le (tgt := 74) dX12_starvedOf_67 (by decide) r20 (fun q22 => ?_) (fun q22 => ?_)
      · replace q22 : (gI σ16 95 v18) ≤ 0 := q22
        have h := ht q22
        refine ga_iconst dX12_starvedOf_74 ?_
        exact kJ21 0 (by decide) (Or.inl rfl) (by rw [if_pos q22])
      · replace q22 : 0 < (gI σ16 95 v18) := (Int.not_le.mp q22)
        have h := hf q22
        refine ga_iconst dX12_starvedOf_70 ?_
        refine ga_goto (tgt := 75) dX12_starvedOf_71 (by decide) ?_
        exact kJ21 1 (by decide) (Or.inr rfl) (by rw [if_neg (Int.not_le.mpr q22)])
set_option maxRecDepth 100000 in
set_option maxHeartbeats 4000000 in
theorem vX12_starvedOf_99 {l : Launch} {G : gG}  (x1 : Int) (x2 : Int) (x3 : Int) (x4 : Int) (x5 : Int) (rx1 : gR x1) (rx2 : gR x2) (rx3 : gR x3) (rx4 : gR x4) (rx5 : gR x5) (σ : gS) (Q : Int → gS → Prop) (h : (gR (6 * (gI σ 88 24))) ∧ ((6 * (gI σ 88 24)) ≤ x5 → (∀ v31 : Int, v31 = (if x3 = 0 then 0 else (if x4 = 0 then (gshl 1 x2) else 0)) →
    kX12_starvedOf_17 l G  (gor x1 v31) (x2 + 1) σ Q)) ∧
  (x5 < (6 * (gI σ 88 24)) → ((¬ x4 = 0 → True) ∧
    (x4 = 0 → (0 ≤ x5 ∧ x5 < 2520) ∧ ((gI σ 109 x5) = x2 → True) ∧
      (¬ (gI σ 109 x5) = x2 → (¬ (gI σ 110 x5) = x2 → True) ∧
        ((gI σ 110 x5) = x2 → True)))) ∧
    (∀ v40 : Int, v40 = (if x4 = 0 then (if (gI σ 109 x5) = x2 then 1 else (if (gI σ 110 x5) = x2 then 1 else 0)) else 1) →
    kX12_starvedOf_99 l G  x1 x2 x3 v40 (x5 + 1) σ Q))) : kX12_starvedOf_99 l G  x1 x2 x3 x4 x5 σ Q := by
  refine ga_iload 5 dX12_starvedOf_99 rfl ?_
  refine ga_bipush dX12_starvedOf_101 (by decide) ?_
  refine ga_aload_n 0 dX12_starvedOf_103 rfl rfl ?_
  refine ga_getI (kI := 24) dX12_starvedOf_104 fX12_257 rfl rfl rfl (fun r24 => ?_)
  refine ga_imul dX12_starvedOf_107 ?_
  obtain ⟨r25, h⟩ := h
  obtain ⟨ht, hf⟩ := h
  refine ga_icmp_ge (tgt := 151) dX12_starvedOf_108 (by decide) rx5 r25 (fun q26 => ?_) (fun q26 => ?_)
  · replace q26 : (6 * (gI σ 88 24)) ≤ x5 := q26
    have h := ht q26
    refine ga_iload_n 1 dX12_starvedOf_151 rfl rfl ?_
    refine ga_iload_n 3 dX12_starvedOf_152 rfl rfl ?_
    have kJ27 : ∀ v31 : Int, gR v31 → v31 = (if x3 = 0 then 0 else (if x4 = 0 then (gshl 1 x2) else 0)) → gAt l G mX12_starvedOf (gQi G Q) 168 [(0, .ref (G.2.1 88)), (1, vI x1), (2, vI x2), (3, vI x3), (4, vI x4), (5, vI x5)] [vI v31, vI x1] σ := by
      intro v31 rv31 ev31
      replace h := h v31 ev31
      refine ga_ior dX12_starvedOf_168 (fun r32 => ?_)
      refine ga_istore_n (ls' := [(1, vI (gor x1 v31)), (0, .ref (G.2.1 88)), (2, vI x2), (3, vI x3), (4, vI x4), (5, vI x5)]) dX12_starvedOf_169 rfl (by decide) rfl ?_
      refine ga_iinc (ls' := [(2, vI (x2 + 1)), (1, vI (gor x1 v31)), (0, .ref (G.2.1 88)), (3, vI x3), (4, vI x4), (5, vI x5)]) 2 dX12_starvedOf_170 rfl (by decide) rfl ?_
      refine ga_goto (tgt := 17) dX12_starvedOf_173 (by decide) ?_
      exact ga_sub [2, 1, 0] rfl h
    replace h : (x3 = 0 → True) ∧
    (¬ x3 = 0 → (¬ x4 = 0 → True) ∧
      (x4 = 0 → True)) := by repeat (first | exact True.intro | apply And.intro | intro _)
    obtain ⟨ht, hf⟩ := h
    refine ga_if_eq (tgt := 167) dX12_starvedOf_153 (by decide) rx3 (fun q28 => ?_) (fun q28 => ?_)
    · replace q28 : x3 = 0 := q28
      have h := ht q28
      refine ga_iconst dX12_starvedOf_167 ?_
      exact kJ27 0 (by decide) (by rw [if_pos q28])
    · replace q28 : ¬ x3 = 0 := q28
      have h := hf q28
      refine ga_iload 4 dX12_starvedOf_156 rfl ?_
      obtain ⟨ht, hf⟩ := h
      refine ga_if_ne (tgt := 167) dX12_starvedOf_158 (by decide) rx4 (fun q29 => ?_) (fun q29 => ?_)
      · replace q29 : ¬ x4 = 0 := q29
        have h := ht q29
        refine ga_iconst dX12_starvedOf_167 ?_
        exact kJ27 0 (by decide) (by rw [if_neg q28, if_neg q29])
      · replace q29 : x4 = 0 := (Decidable.not_not.mp q29)
        have h := hf q29
        refine ga_iconst dX12_starvedOf_161 ?_
        refine ga_iload_n 2 dX12_starvedOf_162 rfl rfl ?_
        refine ga_ishl dX12_starvedOf_163 (fun r30 => ?_)
        refine ga_goto (tgt := 168) dX12_starvedOf_164 (by decide) ?_
        exact kJ27 (gshl 1 x2) r30 (by rw [if_neg q28, if_pos q29])
  · replace q26 : x5 < (6 * (gI σ 88 24)) := (Int.not_le.mp q26)
    have h := hf q26
    refine ga_iload 4 dX12_starvedOf_111 rfl ?_
    obtain ⟨hob, h⟩ := h
    have kJ33 : ∀ v40 : Int, gR v40 → (v40 = 0 ∨ v40 = 1) → v40 = (if x4 = 0 then (if (gI σ 109 x5) = x2 then 1 else (if (gI σ 110 x5) = x2 then 1 else 0)) else 1) → gAt l G mX12_starvedOf (gQi G Q) 143 [(0, .ref (G.2.1 88)), (1, vI x1), (2, vI x2), (3, vI x3), (4, vI x4), (5, vI x5)] [vI v40] σ := by
      intro v40 rv40 bv40 ev40
      replace h := h v40 ev40
      refine ga_istore (ls' := [(4, vI v40), (0, .ref (G.2.1 88)), (1, vI x1), (2, vI x2), (3, vI x3), (5, vI x5)]) dX12_starvedOf_143 (by decide) rfl ?_
      refine ga_iinc (ls' := [(5, vI (x5 + 1)), (4, vI v40), (0, .ref (G.2.1 88)), (1, vI x1), (2, vI x2), (3, vI x3)]) 5 dX12_starvedOf_145 rfl (by decide) rfl ?_
      refine ga_goto (tgt := 99) dX12_starvedOf_148 (by decide) ?_
      exact ga_sub [2, 3, 4, 5, 1, 0] rfl h
    replace h := hob
    obtain ⟨ht, hf⟩ := h
    refine ga_if_ne (tgt := 138) dX12_starvedOf_113 (by decide) rx4 (fun q34 => ?_) (fun q34 => ?_)
    · replace q34 : ¬ x4 = 0 := q34
      have h := ht q34
      refine ga_iconst dX12_starvedOf_138 ?_
      refine ga_goto (tgt := 143) dX12_starvedOf_139 (by decide) ?_
      exact kJ33 1 (by decide) (Or.inr rfl) (by rw [if_neg q34])
    · replace q34 : x4 = 0 := (Decidable.not_not.mp q34)
      have h := hf q34
      refine ga_aload_n 0 dX12_starvedOf_116 rfl rfl ?_
      refine ga_getR (kI := 39) (r := 109) dX12_starvedOf_117 fX12_71 rfl rfl (by decide) rfl ?_
      refine ga_iload 5 dX12_starvedOf_120 rfl ?_
      obtain ⟨i35, h⟩ := h
      refine ga_iald (nI := 2520) dX12_starvedOf_122 rfl rfl i35 (fun r36 => ?_)
      refine ga_iload_n 2 dX12_starvedOf_123 rfl rfl ?_
      obtain ⟨ht, hf⟩ := h
      refine ga_icmp_eq (tgt := 138) dX12_starvedOf_124 (by decide) r36 rx2 (fun q37 => ?_) (fun q37 => ?_)
      · replace q37 : (gI σ 109 x5) = x2 := q37
        have h := ht q37
        refine ga_iconst dX12_starvedOf_138 ?_
        refine ga_goto (tgt := 143) dX12_starvedOf_139 (by decide) ?_
        exact kJ33 1 (by decide) (Or.inr rfl) (by rw [if_pos q34, if_pos q37])
      · replace q37 : ¬ (gI σ 109 x5) = x2 := q37
        have h := hf q37
        refine ga_aload_n 0 dX12_starvedOf_127 rfl rfl ?_
        refine ga_getR (kI := 40) (r := 110) dX12_starvedOf_128 fX12_74 rfl rfl (by decide) rfl ?_
        refine ga_iload 5 dX12_starvedOf_131 rfl ?_
        refine ga_iald (nI := 2520) dX12_starvedOf_133 rfl rfl i35 (fun r38 => ?_)
        refine ga_iload_n 2 dX12_starvedOf_134 rfl rfl ?_
        obtain ⟨ht, hf⟩ := h
        refine ga_icmp_ne (tgt := 142) dX12_starvedOf_135 (by decide) r38 rx2 (fun q39 => ?_) (fun q39 => ?_)
        · replace q39 : ¬ (gI σ 110 x5) = x2 := q39
          have h := ht q39
          refine ga_iconst dX12_starvedOf_142 ?_
          exact kJ33 0 (by decide) (Or.inl rfl) (by rw [if_pos q34, if_neg q37, if_neg q39])
        · replace q39 : (gI σ 110 x5) = x2 := (Decidable.not_not.mp q39)
          have h := hf q39
          refine ga_iconst dX12_starvedOf_138 ?_
          refine ga_goto (tgt := 143) dX12_starvedOf_139 (by decide) ?_
          exact kJ33 1 (by decide) (Or.inr rfl) (by rw [if_pos q34, if_neg q37, if_pos q39])
abbrev eX12_sameOf (l : Launch) (G : gG)  (σ : gS) (Q : Int → gS → Prop) : Prop := gEi l G mX12_sameOf [.ref (G.2.1 88)] σ Q
abbrev kX12_sameOf_4 (l : Launch) (G : gG)  (x1 : Int) (x2 : Int) (σ : gS) (Q : Int → gS → Prop) : Prop := gAt l G mX12_sameOf (gQi G Q) 4 [(0, .ref (G.2.1 88)), (1, vI x1), (2, vI x2)] [] σ
abbrev kX12_sameOf_14 (l : Launch) (G : gG)  (x1 : Int) (x2 : Int) (x3 : Int) (σ : gS) (Q : Int → gS → Prop) : Prop := gAt l G mX12_sameOf (gQi G Q) 14 [(0, .ref (G.2.1 88)), (1, vI x1), (2, vI x2), (3, vI x3)] [] σ
abbrev kX12_sameOf_25 (l : Launch) (G : gG)  (x1 : Int) (x2 : Int) (x3 : Int) (x4 : Int) (x5 : Int) (σ : gS) (Q : Int → gS → Prop) : Prop := gAt l G mX12_sameOf (gQi G Q) 25 [(0, .ref (G.2.1 88)), (1, vI x1), (2, vI x2), (3, vI x3), (4, vI x4), (5, vI x5)] [] σ
set_option maxRecDepth 100000 in
set_option maxHeartbeats 4000000 in
theorem vX12_sameOf {l : Launch} {G : gG}  (σ : gS) (Q : Int → gS → Prop) (h : kX12_sameOf_4 l G  0 0 σ Q) : eX12_sameOf l G  σ Q := by
  refine ga_entry rfl (Nat.le_of_ble_eq_true rfl) ?_
  show gAt l G mX12_sameOf (gQi G Q) 0 [(0, .ref (G.2.1 88))] [] σ
  refine ga_iconst dX12_sameOf_0 ?_
  refine ga_istore_n (ls' := [(1, vI 0), (0, .ref (G.2.1 88))]) dX12_sameOf_1 rfl (by decide) rfl ?_
  refine ga_iconst dX12_sameOf_2 ?_
  refine ga_istore_n (ls' := [(2, vI 0), (1, vI 0), (0, .ref (G.2.1 88))]) dX12_sameOf_3 rfl (by decide) rfl ?_
  exact ga_sub [2, 1, 0] rfl h
set_option maxRecDepth 100000 in
set_option maxHeartbeats 4000000 in
theorem vX12_sameOf_4 {l : Launch} {G : gG}  (x1 : Int) (x2 : Int) (rx1 : gR x1) (rx2 : gR x2) (σ : gS) (Q : Int → gS → Prop) (h : ((gI σ 88 10) ≤ x2 → Q x1 σ) ∧
  (x2 < (gI σ 88 10) → kX12_sameOf_14 l G  x1 x2 0 σ Q)) : kX12_sameOf_4 l G  x1 x2 σ Q := by
  refine ga_iload_n 2 dX12_sameOf_4 rfl rfl ?_
  refine ga_aload_n 0 dX12_sameOf_5 rfl rfl ?_
  refine ga_getI (kI := 10) dX12_sameOf_6 fX12_236 rfl rfl rfl (fun r1 => ?_)
  obtain ⟨ht, hf⟩ := h
  refine ga_icmp_ge (tgt := 102) dX12_sameOf_9 (by decide) rx2 r1 (fun q2 => ?_) (fun q2 => ?_)
  · replace q2 : (gI σ 88 10) ≤ x2 := q2
    have h := ht q2
    refine ga_iload_n 1 dX12_sameOf_102 rfl rfl ?_
    exact ga_iret dX12_sameOf_103 rfl rx1 h
  · replace q2 : x2 < (gI σ 88 10) := (Int.not_le.mp q2)
    have h := hf q2
    refine ga_iconst dX12_sameOf_12 ?_
    refine ga_istore_n (ls' := [(3, vI 0), (0, .ref (G.2.1 88)), (1, vI x1), (2, vI x2)]) dX12_sameOf_13 rfl (by decide) rfl ?_
    exact ga_sub [1, 2, 3, 0] rfl h
set_option maxRecDepth 100000 in
set_option maxHeartbeats 4000000 in
theorem vX12_sameOf_14 {l : Launch} {G : gG}  (x1 : Int) (x2 : Int) (x3 : Int) (rx1 : gR x1) (rx2 : gR x2) (rx3 : gR x3) (σ : gS) (Q : Int → gS → Prop) (h : (x2 ≤ x3 → kX12_sameOf_4 l G  x1 (x2 + 1) σ Q) ∧
  (x3 < x2 → kX12_sameOf_25 l G  x1 x2 x3 1 0 σ Q)) : kX12_sameOf_14 l G  x1 x2 x3 σ Q := by
  refine ga_iload_n 3 dX12_sameOf_14 rfl rfl ?_
  refine ga_iload_n 2 dX12_sameOf_15 rfl rfl ?_
  obtain ⟨ht, hf⟩ := h
  refine ga_icmp_ge (tgt := 96) dX12_sameOf_16 (by decide) rx3 rx2 (fun q3 => ?_) (fun q3 => ?_)
  · replace q3 : x2 ≤ x3 := q3
    have h := ht q3
    refine ga_iinc (ls' := [(2, vI (x2 + 1)), (0, .ref (G.2.1 88)), (1, vI x1), (3, vI x3)]) 2 dX12_sameOf_96 rfl (by decide) rfl ?_
    refine ga_goto (tgt := 4) dX12_sameOf_99 (by decide) ?_
    exact ga_sub [1, 2, 0] rfl h
  · replace q3 : x3 < x2 := (Int.not_le.mp q3)
    have h := hf q3
    refine ga_iconst dX12_sameOf_19 ?_
    refine ga_istore (ls' := [(4, vI 1), (0, .ref (G.2.1 88)), (1, vI x1), (2, vI x2), (3, vI x3)]) dX12_sameOf_20 (by decide) rfl ?_
    refine ga_iconst dX12_sameOf_22 ?_
    refine ga_istore (ls' := [(5, vI 0), (4, vI 1), (0, .ref (G.2.1 88)), (1, vI x1), (2, vI x2), (3, vI x3)]) dX12_sameOf_23 (by decide) rfl ?_
    exact ga_sub [2, 3, 4, 5, 1, 0] rfl h
set_option maxRecDepth 100000 in
set_option maxHeartbeats 4000000 in
theorem vX12_sameOf_25 {l : Launch} {G : gG}  (x1 : Int) (x2 : Int) (x3 : Int) (x4 : Int) (x5 : Int) (rx1 : gR x1) (rx2 : gR x2) (rx3 : gR x3) (rx4 : gR x4) (rx5 : gR x5) (σ : gS) (Q : Int → gS → Prop) (h : ((gI σ 88 10) ≤ x5 → (∀ v8 : Int, v8 = (if x4 = 0 then 0 else 1) →
    kX12_sameOf_14 l G  (x1 + v8) x2 (x3 + 1) σ Q)) ∧
  (x5 < (gI σ 88 10) → (x4 = 0 → kX12_sameOf_25 l G  x1 x2 x3 0 (x5 + 1) σ Q) ∧
    (¬ x4 = 0 → eX12_at l G x2 x5 σ (fun v12 σ10 => gR v12 →
      (0 ≤ v12 ∧ v12 < 36) ∧ eX12_at l G x3 x5 σ10 (fun v17 σ15 => gR v17 →
      (0 ≤ v17 ∧ v17 < 36) ∧ (∀ v22 : Int, v22 = (if (gI σ10 95 v12) = (gI σ15 95 v17) then 1 else 0) →
      kX12_sameOf_25 l G  x1 x2 x3 v22 (x5 + 1) σ15 Q)))))) : kX12_sameOf_25 l G  x1 x2 x3 x4 x5 σ Q := by
  refine ga_iload 5 dX12_sameOf_25 rfl ?_
  refine ga_aload_n 0 dX12_sameOf_27 rfl rfl ?_
  refine ga_getI (kI := 10) dX12_sameOf_28 fX12_236 rfl rfl rfl (fun r4 => ?_)
  obtain ⟨ht, hf⟩ := h
  refine ga_icmp_ge (tgt := 77) dX12_sameOf_31 (by decide) rx5 r4 (fun q5 => ?_) (fun q5 => ?_)
  · replace q5 : (gI σ 88 10) ≤ x5 := q5
    have h := ht q5
    refine ga_iload_n 1 dX12_sameOf_77 rfl rfl ?_
    refine ga_iload 4 dX12_sameOf_78 rfl ?_
    have kJ6 : ∀ v8 : Int, gR v8 → (v8 = 0 ∨ v8 = 1) → v8 = (if x4 = 0 then 0 else 1) → gAt l G mX12_sameOf (gQi G Q) 88 [(0, .ref (G.2.1 88)), (1, vI x1), (2, vI x2), (3, vI x3), (4, vI x4), (5, vI x5)] [vI v8, vI x1] σ := by
      intro v8 rv8 bv8 ev8
      replace h := h v8 ev8
      refine ga_iadd dX12_sameOf_88 ?_
      refine ga_istore_n (ls' := [(1, vI (x1 + v8)), (0, .ref (G.2.1 88)), (2, vI x2), (3, vI x3), (4, vI x4), (5, vI x5)]) dX12_sameOf_89 rfl (by decide) rfl ?_
      refine ga_iinc (ls' := [(3, vI (x3 + 1)), (1, vI (x1 + v8)), (0, .ref (G.2.1 88)), (2, vI x2), (4, vI x4), (5, vI x5)]) 3 dX12_sameOf_90 rfl (by decide) rfl ?_
      refine ga_goto (tgt := 14) dX12_sameOf_93 (by decide) ?_
      exact ga_sub [2, 1, 3, 0] rfl h
    replace h : (x4 = 0 → True) ∧
    (¬ x4 = 0 → True) := by repeat (first | exact True.intro | apply And.intro | intro _)
    obtain ⟨ht, hf⟩ := h
    refine ga_if_eq (tgt := 87) dX12_sameOf_80 (by decide) rx4 (fun q7 => ?_) (fun q7 => ?_)
    · replace q7 : x4 = 0 := q7
      have h := ht q7
      refine ga_iconst dX12_sameOf_87 ?_
      exact kJ6 0 (by decide) (Or.inl rfl) (by rw [if_pos q7])
    · replace q7 : ¬ x4 = 0 := q7
      have h := hf q7
      refine ga_iconst dX12_sameOf_83 ?_
      refine ga_goto (tgt := 88) dX12_sameOf_84 (by decide) ?_
      exact kJ6 1 (by decide) (Or.inr rfl) (by rw [if_neg q7])
  · replace q5 : x5 < (gI σ 88 10) := (Int.not_le.mp q5)
    have h := hf q5
    refine ga_iload 4 dX12_sameOf_34 rfl ?_
    obtain ⟨ht, hf⟩ := h
    refine ga_if_eq (tgt := 68) dX12_sameOf_36 (by decide) rx4 (fun q9 => ?_) (fun q9 => ?_)
    · replace q9 : x4 = 0 := q9
      have h := ht q9
      refine ga_iconst dX12_sameOf_68 ?_
      refine ga_istore (ls' := [(4, vI 0), (0, .ref (G.2.1 88)), (1, vI x1), (2, vI x2), (3, vI x3), (5, vI x5)]) dX12_sameOf_69 (by decide) rfl ?_
      refine ga_iinc (ls' := [(5, vI (x5 + 1)), (4, vI 0), (0, .ref (G.2.1 88)), (1, vI x1), (2, vI x2), (3, vI x3)]) 5 dX12_sameOf_71 rfl (by decide) rfl ?_
      refine ga_goto (tgt := 25) dX12_sameOf_74 (by decide) ?_
      exact ga_sub [2, 3, 4, 5, 1, 0] rfl h
    · replace q9 : ¬ x4 = 0 := q9
      have h := hf q9
      refine ga_aload_n 0 dX12_sameOf_39 rfl rfl ?_
      refine ga_getR (kI := 18) (r := 95) dX12_sameOf_40 fX12_29 rfl rfl (by decide) rfl ?_
      refine ga_iload_n 2 dX12_sameOf_43 rfl rfl ?_
      refine ga_iload 5 dX12_sameOf_44 rfl ?_
      refine ga_callSi (z := mX12_at) (As := [vI x2, vI x5]) (rest := [.ref (G.2.1 95)]) dX12_sameOf_46 wX12_279 qX12_sameOf_X12_at rfl rfl (Nat.le_of_ble_eq_true rfl) (gEi_mono h (fun v12 σ10 h r11 => ?_))
      replace h := h r11
      obtain ⟨i13, h⟩ := h
      refine ga_iald (nI := 36) dX12_sameOf_49 rfl rfl i13 (fun r14 => ?_)
      refine ga_aload_n 0 dX12_sameOf_50 rfl rfl ?_
      refine ga_getR (kI := 18) (r := 95) dX12_sameOf_51 fX12_29 rfl rfl (by decide) rfl ?_
      refine ga_iload_n 3 dX12_sameOf_54 rfl rfl ?_
      refine ga_iload 5 dX12_sameOf_55 rfl ?_
      refine ga_callSi (z := mX12_at) (As := [vI x3, vI x5]) (rest := [.ref (G.2.1 95), vI (gI σ10 95 v12)]) dX12_sameOf_57 wX12_279 qX12_sameOf_X12_at rfl rfl (Nat.le_of_ble_eq_true rfl) (gEi_mono h (fun v17 σ15 h r16 => ?_))
      replace h := h r16
      obtain ⟨i18, h⟩ := h
      refine ga_iald (nI := 36) dX12_sameOf_60 rfl rfl i18 (fun r19 => ?_)
      have kJ20 : ∀ v22 : Int, gR v22 → (v22 = 0 ∨ v22 = 1) → v22 = (if (gI σ10 95 v12) = (gI σ15 95 v17) then 1 else 0) → gAt l G mX12_sameOf (gQi G Q) 69 [(0, .ref (G.2.1 88)), (1, vI x1), (2, vI x2), (3, vI x3), (4, vI x4), (5, vI x5)] [vI v22] σ15 := by
        intro v22 rv22 bv22 ev22
        replace h := h v22 ev22
        refine ga_istore (ls' := [(4, vI v22), (0, .ref (G.2.1 88)), (1, vI x1), (2, vI x2), (3, vI x3), (5, vI x5)]) dX12_sameOf_69 (by decide) rfl ?_
        refine ga_iinc (ls' := [(5, vI (x5 + 1)), (4, vI v22), (0, .ref (G.2.1 88)), (1, vI x1), (2, vI x2), (3, vI x3)]) 5 dX12_sameOf_71 rfl (by decide) rfl ?_
        refine ga_goto (tgt := 25) dX12_sameOf_74 (by decide) ?_
        exact ga_sub [2, 3, 4, 5, 1, 0] rfl h
      replace h : (¬ (gI σ10 95 v12) = (gI σ15 95 v17) → True) ∧
      ((gI σ10 95 v12) = (gI σ15 95 v17) → True) := by repeat (first | exact True.intro | apply And.intro | intro _)
      obtain ⟨ht, hf⟩ := h
      refine ga_icmp_ne (tgt := 68) dX12_sameOf_61 (by decide) r14 r19 (fun q21 => ?_) (fun q21 => ?_)
      · replace q21 : ¬ (gI σ10 95 v12) = (gI σ15 95 v17) := q21
        have h := ht q21
        refine ga_iconst dX12_sameOf_68 ?_
        exact kJ20 0 (by decide) (Or.inl rfl) (by rw [if_neg q21])
      · replace q21 : (gI σ10 95 v12) = (gI σ15 95 v17) := (Decidable.not_not.mp q21)
        have h := hf q21
        refine ga_iconst dX12_sameOf_64 ?_
        refine ga_goto (tgt := 69) dX12_sameOf_65 (by decide) ?_
        exact kJ20 1 (by decide) (Or.inr rfl) (by rw [if_pos q21])
abbrev eX12_turnsOf (l : Launch) (G : gG) (x1 : Int) (σ : gS) (Q : Int → gS → Prop) : Prop := gEi l G mX12_turnsOf [.ref (G.2.1 88), vI x1] σ Q
abbrev kX12_turnsOf_7 (l : Launch) (G : gG)  (x1 : Int) (x2 : Int) (x3 : Int) (x4 : Int) (σ : gS) (Q : Int → gS → Prop) : Prop := gAt l G mX12_turnsOf (gQi G Q) 7 [(0, .ref (G.2.1 88)), (1, vI x1), (2, vI x2), (3, vI x3), (4, vI x4)] [] σ
set_option maxRecDepth 100000 in
set_option maxHeartbeats 4000000 in
theorem vX12_turnsOf {l : Launch} {G : gG} (x1 : Int) (rx1 : gR x1) (σ : gS) (Q : Int → gS → Prop) (h : kX12_turnsOf_7 l G  x1 0 (-1) 0 σ Q) : eX12_turnsOf l G x1 σ Q := by
  refine ga_entry rfl (Nat.le_of_ble_eq_true rfl) ?_
  show gAt l G mX12_turnsOf (gQi G Q) 0 [(0, .ref (G.2.1 88)), (1, vI x1)] [] σ
  refine ga_iconst dX12_turnsOf_0 ?_
  refine ga_istore_n (ls' := [(2, vI 0), (0, .ref (G.2.1 88)), (1, vI x1)]) dX12_turnsOf_1 rfl (by decide) rfl ?_
  refine ga_iconst dX12_turnsOf_2 ?_
  refine ga_istore_n (ls' := [(3, vI (-1)), (2, vI 0), (0, .ref (G.2.1 88)), (1, vI x1)]) dX12_turnsOf_3 rfl (by decide) rfl ?_
  refine ga_iconst dX12_turnsOf_4 ?_
  refine ga_istore (ls' := [(4, vI 0), (3, vI (-1)), (2, vI 0), (0, .ref (G.2.1 88)), (1, vI x1)]) dX12_turnsOf_5 (by decide) rfl ?_
  exact ga_sub [3, 4, 2, 1, 0] rfl h
set_option maxRecDepth 100000 in
set_option maxHeartbeats 4000000 in
theorem vX12_turnsOf_7 {l : Launch} {G : gG}  (x1 : Int) (x2 : Int) (x3 : Int) (x4 : Int) (rx1 : gR x1) (rx2 : gR x2) (rx3 : gR x3) (rx4 : gR x4) (σ : gS) (Q : Int → gS → Prop) (h : ((gI σ 88 24) ≤ x4 → Q x2 σ) ∧
  (x4 < (gI σ 88 24) → (0 ≤ ((6 * x4) + x1) ∧ ((6 * x4) + x1) < 2520) ∧ (¬ (gI σ 109 ((6 * x4) + x1)) = (-1) → (∀ v9 : Int, v9 = (if x3 = (-1) then 0 else (if x3 = (gI σ 109 ((6 * x4) + x1)) then 0 else 1)) →
      kX12_turnsOf_7 l G  x1 (x2 + v9) (gI σ 109 ((6 * x4) + x1)) (x4 + 1) σ Q)) ∧
    ((gI σ 109 ((6 * x4) + x1)) = (-1) → kX12_turnsOf_7 l G  x1 x2 x3 (x4 + 1) σ Q))) : kX12_turnsOf_7 l G  x1 x2 x3 x4 σ Q := by
  refine ga_iload 4 dX12_turnsOf_7 rfl ?_
  refine ga_aload_n 0 dX12_turnsOf_9 rfl rfl ?_
  refine ga_getI (kI := 24) dX12_turnsOf_10 fX12_257 rfl rfl rfl (fun r1 => ?_)
  obtain ⟨ht, hf⟩ := h
  refine ga_icmp_ge (tgt := 67) dX12_turnsOf_13 (by decide) rx4 r1 (fun q2 => ?_) (fun q2 => ?_)
  · replace q2 : (gI σ 88 24) ≤ x4 := q2
    have h := ht q2
    refine ga_iload_n 2 dX12_turnsOf_67 rfl rfl ?_
    exact ga_iret dX12_turnsOf_68 rfl rx2 h
  · replace q2 : x4 < (gI σ 88 24) := (Int.not_le.mp q2)
    have h := hf q2
    refine ga_aload_n 0 dX12_turnsOf_16 rfl rfl ?_
    refine ga_getR (kI := 39) (r := 109) dX12_turnsOf_17 fX12_71 rfl rfl (by decide) rfl ?_
    refine ga_bipush dX12_turnsOf_20 (by decide) ?_
    refine ga_iload 4 dX12_turnsOf_22 rfl ?_
    refine ga_imul dX12_turnsOf_24 ?_
    refine ga_iload_n 1 dX12_turnsOf_25 rfl rfl ?_
    refine ga_iadd dX12_turnsOf_26 ?_
    obtain ⟨i3, h⟩ := h
    refine ga_iald (nI := 2520) dX12_turnsOf_27 rfl rfl i3 (fun r4 => ?_)
    refine ga_istore (ls' := [(5, vI (gI σ 109 ((6 * x4) + x1))), (0, .ref (G.2.1 88)), (1, vI x1), (2, vI x2), (3, vI x3), (4, vI x4)]) dX12_turnsOf_28 (by decide) rfl ?_
    refine ga_iload 0 dX12_turnsOf_30 rfl ?_
    refine ga_iconst dX12_turnsOf_32 ?_
    obtain ⟨ht, hf⟩ := h
    refine ga_icmp_ne (tgt := 39) dX12_turnsOf_33 (by decide) r4 (by decide) (fun q5 => ?_) (fun q5 => ?_)
    · replace q5 : ¬ (gI σ 109 ((6 * x4) + x1)) = (-1) := q5
      have h := ht q5
      refine ga_iload_n 3 dX12_turnsOf_39 rfl rfl ?_
      refine ga_iload_n 4 dX12_turnsOf_40 rfl rfl ?_
      refine ga_iconst dX12_turnsOf_41 ?_
      have kJ6 : ∀ v9 : Int, gR v9 → (v9 = 0 ∨ v9 = 1) → v9 = (if x3 = (-1) then 0 else (if x3 = (gI σ 109 ((6 * x4) + x1)) then 0 else 1)) → gAt l G mX12_turnsOf (gQi G Q) 56 [(5, vI (gI σ 109 ((6 * x4) + x1))), (0, .ref (G.2.1 88)), (1, vI x1), (2, vI x2), (3, vI x3), (4, vI x4)] [vI v9, vI x2] σ := by
        intro v9 rv9 bv9 ev9
        replace h := h v9 ev9
        refine ga_iadd dX12_turnsOf_56 ?_
        refine ga_istore_n (ls' := [(2, vI (x2 + v9)), (5, vI (gI σ 109 ((6 * x4) + x1))), (0, .ref (G.2.1 88)), (1, vI x1), (3, vI x3), (4, vI x4)]) dX12_turnsOf_57 rfl (by decide) rfl ?_
        refine ga_iload 1 dX12_turnsOf_58 rfl ?_
        refine ga_istore_n (ls' := [(3, vI (gI σ 109 ((6 * x4) + x1))), (2, vI (x2 + v9)), (5, vI (gI σ 109 ((6 * x4) + x1))), (0, .ref (G.2.1 88)), (1, vI x1), (4, vI x4)]) dX12_turnsOf_60 rfl (by decide) rfl ?_
        refine ga_iinc (ls' := [(4, vI (x4 + 1)), (3, vI (gI σ 109 ((6 * x4) + x1))), (2, vI (x2 + v9)), (5, vI (gI σ 109 ((6 * x4) + x1))), (0, .ref (G.2.1 88)), (1, vI x1)]) 5 dX12_turnsOf_61 rfl (by decide) rfl ?_
        refine ga_goto (tgt := 7) dX12_turnsOf_64 (by decide) ?_
        exact ga_sub [4, 5, 2, 1, 0] rfl h
      replace h : (x3 = (-1) → True) ∧
      (¬ x3 = (-1) → (x3 = (gI σ 109 ((6 * x4) + x1)) → True) ∧
        (¬ x3 = (gI σ 109 ((6 * x4) + x1)) → True)) := by repeat (first | exact True.intro | apply And.intro | intro _)
      obtain ⟨ht, hf⟩ := h
      refine ga_icmp_eq (tgt := 55) dX12_turnsOf_42 (by decide) rx3 (by decide) (fun q7 => ?_) (fun q7 => ?_)
      · replace q7 : x3 = (-1) := q7
        have h := ht q7
        refine ga_iconst dX12_turnsOf_55 ?_
        exact kJ6 0 (by decide) (Or.inl rfl) (by rw [if_pos q7])
      · replace q7 : ¬ x3 = (-1) := q7
        have h := hf q7
        refine ga_iload_n 4 dX12_turnsOf_45 rfl rfl ?_
        refine ga_iload 0 dX12_turnsOf_46 rfl ?_
        obtain ⟨ht, hf⟩ := h
        refine ga_icmp_eq (tgt := 55) dX12_turnsOf_48 (by decide) rx3 r4 (fun q8 => ?_) (fun q8 => ?_)
        · replace q8 : x3 = (gI σ 109 ((6 * x4) + x1)) := q8
          have h := ht q8
          refine ga_iconst dX12_turnsOf_55 ?_
          exact kJ6 0 (by decide) (Or.inl rfl) (by rw [if_neg q7, if_pos q8])
        · replace q8 : ¬ x3 = (gI σ 109 ((6 * x4) + x1)) := q8
          have h := hf q8
          refine ga_iconst dX12_turnsOf_51 ?_
          refine ga_goto (tgt := 56) dX12_turnsOf_52 (by decide) ?_
          exact kJ6 1 (by decide) (Or.inr rfl) (by rw [if_neg q7, if_neg q8])
    · replace q5 : (gI σ 109 ((6 * x4) + x1)) = (-1) := (Decidable.not_not.mp q5)
      have h := hf q5
      refine ga_goto (tgt := 61) dX12_turnsOf_36 (by decide) ?_
      refine ga_iinc (ls' := [(4, vI (x4 + 1)), (5, vI (gI σ 109 ((6 * x4) + x1))), (0, .ref (G.2.1 88)), (1, vI x1), (2, vI x2), (3, vI x3)]) 5 dX12_turnsOf_61 rfl (by decide) rfl ?_
      refine ga_goto (tgt := 7) dX12_turnsOf_64 (by decide) ?_
      exact ga_sub [2, 3, 4, 5, 0] rfl h
abbrev eX12_after (l : Launch) (G : gG) (x1 : Int) (x2 : Int) (x3 : Int) (σ : gS) (Q : Int → gS → Prop) : Prop := gEi l G mX12_after [.ref (G.2.1 88), vI x1, vI x2, vI x3] σ Q
set_option maxRecDepth 100000 in
set_option maxHeartbeats 4000000 in
theorem vX12_after {l : Launch} {G : gG} (x1 : Int) (x2 : Int) (x3 : Int) (rx1 : gR x1) (rx2 : gR x2) (rx3 : gR x3) (σ : gS) (Q : Int → gS → Prop) (h : eX12_isCrossbar l G x1 σ (fun v3 σ1 => (v3 = 0 ∨ v3 = 1) →
  (v3 = 0 → Q (-2) σ1) ∧
  (¬ v3 = 0 → eX12_isTraffic l G x2 σ1 (fun v7 σ5 => (v7 = 0 ∨ v7 = 1) →
    (¬ v7 = 0 → eX12_goes l G 40 σ5 (fun σ9 =>
      (x3 = 0 → eX12_worstOf l G  σ9 (fun v13 σ11 => gR v13 →
        (¬ v13 = (-1) → eX12_worstOf l G  σ11 (fun v17 σ15 => gR v17 →
          eX12_waitOf l G v17 σ15 (fun v20 σ18 => gR v20 →
          Q v20 σ18))) ∧
        (v13 = (-1) → Q 0 σ11))) ∧
      (x3 = 1 → eX12_sumOf l G  σ9 (fun v23 σ21 => gR v23 →
        Q v23 σ21)) ∧
      (x3 = 2 → eX12_worstOf l G  σ9 (fun v26 σ24 => gR v26 →
        Q v26 σ24)) ∧
      (x3 = 3 → eX12_splitsOf l G  σ9 (fun v29 σ27 => gR v29 →
        Q v29 σ27)) ∧
      (x3 = 4 → eX12_idleOf l G  σ9 (fun v32 σ30 => gR v32 →
        Q v32 σ30)) ∧
      (x3 = 5 → eX12_bestOf l G  σ9 (fun v35 σ33 => gR v35 →
        Q v35 σ33)) ∧
      (x3 = 6 → eX12_fairOf l G  σ9 (fun v38 σ36 => gR v38 →
        Q v38 σ36)) ∧
      (x3 = 7 → eX12_meetsOf l G  σ9 (fun v41 σ39 => gR v41 →
        Q v41 σ39)) ∧
      (x3 = 8 → eX12_starvedOf l G  σ9 (fun v44 σ42 => gR v44 →
        Q v44 σ42)) ∧
      (x3 = 9 → eX12_sameOf l G  σ9 (fun v47 σ45 => gR v47 →
        Q v47 σ45)) ∧
      ((x3 < 0 ∨ 9 < x3) → eX12_isIn l G x3 10 15 σ9 (fun v50 σ48 => (v50 = 0 ∨ v50 = 1) →
        (v50 = 0 → Q (-2) σ48) ∧
        (¬ v50 = 0 → eX12_isPort l G (x3 - 10) σ48 (fun v54 σ52 => (v54 = 0 ∨ v54 = 1) →
          (v54 = 0 → Q (-2) σ52) ∧
          (¬ v54 = 0 → eX12_turnsOf l G (x3 - 10) σ52 (fun v58 σ56 => gR v58 →
            Q v58 σ56)))))))) ∧
    (v7 = 0 → Q (-2) σ5))))) : eX12_after l G x1 x2 x3 σ Q := by
  refine ga_entry rfl (Nat.le_of_ble_eq_true rfl) ?_
  show gAt l G mX12_after (gQi G Q) 0 [(0, .ref (G.2.1 88)), (1, vI x1), (2, vI x2), (3, vI x3)] [] σ
  refine ga_aload_n 0 dX12_after_0 rfl rfl ?_
  refine ga_iload_n 1 dX12_after_1 rfl rfl ?_
  refine ga_callVz (z := mX12_isCrossbar) (As := [vI x1]) (rest := []) dX12_after_2 wX12_344 qX12_after_X12_isCrossbar rfl ⟨_, rfl, rfl⟩ rfl rfl (Nat.le_of_ble_eq_true rfl) (gEz_mono h (fun v3 σ1 h r2 => ?_))
  replace h := h r2
  obtain ⟨ht, hf⟩ := h
  refine ga_if_eq (tgt := 16) dX12_after_5 (by decide) (gR_01 r2) (fun q4 => ?_) (fun q4 => ?_)
  · replace q4 : v3 = 0 := q4
    have h := ht q4
    refine ga_bipush dX12_after_16 (by decide) ?_
    exact ga_iret dX12_after_18 rfl (by decide) h
  · replace q4 : ¬ v3 = 0 := q4
    have h := hf q4
    refine ga_aload_n 0 dX12_after_8 rfl rfl ?_
    refine ga_iload_n 2 dX12_after_9 rfl rfl ?_
    refine ga_callVz (z := mX12_isTraffic) (As := [vI x2]) (rest := []) dX12_after_10 wX12_251 qX12_after_X12_isTraffic rfl ⟨_, rfl, rfl⟩ rfl rfl (Nat.le_of_ble_eq_true rfl) (gEz_mono h (fun v7 σ5 h r6 => ?_))
    replace h := h r6
    obtain ⟨ht, hf⟩ := h
    refine ga_if_ne (tgt := 19) dX12_after_13 (by decide) (gR_01 r6) (fun q8 => ?_) (fun q8 => ?_)
    · replace q8 : ¬ v7 = 0 := q8
      have h := ht q8
      refine ga_aload_n 0 dX12_after_19 rfl rfl ?_
      refine ga_bipush dX12_after_20 (by decide) ?_
      refine ga_callVv (z := mX12_goes) (As := [vI 40]) (rest := []) dX12_after_22 wX12_347 qX12_after_X12_goes rfl ⟨_, rfl, rfl⟩ rfl rfl (Nat.le_of_ble_eq_true rfl) (gEv_mono h (fun σ9 h => ?_))
      refine ga_iload_n 3 dX12_after_25 rfl rfl ?_
      obtain ⟨hc59, hc60, hc61, hc62, hc63, hc64, hc65, hc66, hc67, hc68, hd⟩ := h
      by_cases q69 : x3 = 0
      · refine ga_tableIn (tgt := 80) (v := 0) dX12_after_26 q69 (by decide) rfl (by decide) ?_
        have h := hc59 q69
        refine ga_aload_n 0 dX12_after_80 rfl rfl ?_
        refine ga_callVi (z := mX12_worstOf) (As := []) (rest := []) dX12_after_81 wX12_431 qX12_after_X12_worstOf rfl ⟨_, rfl, rfl⟩ rfl rfl (Nat.le_of_ble_eq_true rfl) (gEi_mono h (fun v13 σ11 h r12 => ?_))
        replace h := h r12
        refine ga_iconst dX12_after_84 ?_
        obtain ⟨ht, hf⟩ := h
        refine ga_icmp_ne (tgt := 92) dX12_after_85 (by decide) r12 (by decide) (fun q14 => ?_) (fun q14 => ?_)
        · replace q14 : ¬ v13 = (-1) := q14
          have h := ht q14
          refine ga_aload_n 0 dX12_after_92 rfl rfl ?_
          refine ga_aload_n 0 dX12_after_93 rfl rfl ?_
          refine ga_callVi (z := mX12_worstOf) (As := []) (rest := [.ref (G.2.1 88)]) dX12_after_94 wX12_431 qX12_after_X12_worstOf rfl ⟨_, rfl, rfl⟩ rfl rfl (Nat.le_of_ble_eq_true rfl) (gEi_mono h (fun v17 σ15 h r16 => ?_))
          replace h := h r16
          refine ga_callVi (z := mX12_waitOf) (As := [vI v17]) (rest := []) dX12_after_97 wX12_425 qX12_after_X12_waitOf rfl ⟨_, rfl, rfl⟩ rfl rfl (Nat.le_of_ble_eq_true rfl) (gEi_mono h (fun v20 σ18 h r19 => ?_))
          replace h := h r19
          exact ga_iret dX12_after_100 rfl r19 h
        · replace q14 : v13 = (-1) := (Decidable.not_not.mp q14)
          have h := hf q14
          refine ga_iconst dX12_after_88 ?_
          refine ga_goto (tgt := 100) dX12_after_89 (by decide) ?_
          exact ga_iret dX12_after_100 rfl (by decide) h
      by_cases q70 : x3 = 1
      · refine ga_tableIn (tgt := 101) (v := 1) dX12_after_26 q70 (by decide) rfl (by decide) ?_
        have h := hc60 q70
        refine ga_aload_n 0 dX12_after_101 rfl rfl ?_
        refine ga_callVi (z := mX12_sumOf) (As := []) (rest := []) dX12_after_102 wX12_434 qX12_after_X12_sumOf rfl ⟨_, rfl, rfl⟩ rfl rfl (Nat.le_of_ble_eq_true rfl) (gEi_mono h (fun v23 σ21 h r22 => ?_))
        replace h := h r22
        exact ga_iret dX12_after_105 rfl r22 h
      by_cases q71 : x3 = 2
      · refine ga_tableIn (tgt := 106) (v := 2) dX12_after_26 q71 (by decide) rfl (by decide) ?_
        have h := hc61 q71
        refine ga_aload_n 0 dX12_after_106 rfl rfl ?_
        refine ga_callVi (z := mX12_worstOf) (As := []) (rest := []) dX12_after_107 wX12_431 qX12_after_X12_worstOf rfl ⟨_, rfl, rfl⟩ rfl rfl (Nat.le_of_ble_eq_true rfl) (gEi_mono h (fun v26 σ24 h r25 => ?_))
        replace h := h r25
        exact ga_iret dX12_after_110 rfl r25 h
      by_cases q72 : x3 = 3
      · refine ga_tableIn (tgt := 111) (v := 3) dX12_after_26 q72 (by decide) rfl (by decide) ?_
        have h := hc62 q72
        refine ga_aload_n 0 dX12_after_111 rfl rfl ?_
        refine ga_callVi (z := mX12_splitsOf) (As := []) (rest := []) dX12_after_112 wX12_437 qX12_after_X12_splitsOf rfl ⟨_, rfl, rfl⟩ rfl rfl (Nat.le_of_ble_eq_true rfl) (gEi_mono h (fun v29 σ27 h r28 => ?_))
        replace h := h r28
        exact ga_iret dX12_after_115 rfl r28 h
      by_cases q73 : x3 = 4
      · refine ga_tableIn (tgt := 116) (v := 4) dX12_after_26 q73 (by decide) rfl (by decide) ?_
        have h := hc63 q73
        refine ga_aload_n 0 dX12_after_116 rfl rfl ?_
        refine ga_callVi (z := mX12_idleOf) (As := []) (rest := []) dX12_after_117 wX12_440 qX12_after_X12_idleOf rfl ⟨_, rfl, rfl⟩ rfl rfl (Nat.le_of_ble_eq_true rfl) (gEi_mono h (fun v32 σ30 h r31 => ?_))
        replace h := h r31
        exact ga_iret dX12_after_120 rfl r31 h
      by_cases q74 : x3 = 5
      · refine ga_tableIn (tgt := 121) (v := 5) dX12_after_26 q74 (by decide) rfl (by decide) ?_
        have h := hc64 q74
        refine ga_aload_n 0 dX12_after_121 rfl rfl ?_
        refine ga_callVi (z := mX12_bestOf) (As := []) (rest := []) dX12_after_122 wX12_443 qX12_after_X12_bestOf rfl ⟨_, rfl, rfl⟩ rfl rfl (Nat.le_of_ble_eq_true rfl) (gEi_mono h (fun v35 σ33 h r34 => ?_))
        replace h := h r34
        exact ga_iret dX12_after_125 rfl r34 h
      by_cases q75 : x3 = 6
      · refine ga_tableIn (tgt := 126) (v := 6) dX12_after_26 q75 (by decide) rfl (by decide) ?_
        have h := hc65 q75
        refine ga_aload_n 0 dX12_after_126 rfl rfl ?_
        refine ga_callVi (z := mX12_fairOf) (As := []) (rest := []) dX12_after_127 wX12_446 qX12_after_X12_fairOf rfl ⟨_, rfl, rfl⟩ rfl rfl (Nat.le_of_ble_eq_true rfl) (gEi_mono h (fun v38 σ36 h r37 => ?_))
        replace h := h r37
        exact ga_iret dX12_after_130 rfl r37 h
      by_cases q76 : x3 = 7
      · refine ga_tableIn (tgt := 131) (v := 7) dX12_after_26 q76 (by decide) rfl (by decide) ?_
        have h := hc66 q76
        refine ga_aload_n 0 dX12_after_131 rfl rfl ?_
        refine ga_callVi (z := mX12_meetsOf) (As := []) (rest := []) dX12_after_132 wX12_449 qX12_after_X12_meetsOf rfl ⟨_, rfl, rfl⟩ rfl rfl (Nat.le_of_ble_eq_true rfl) (gEi_mono h (fun v41 σ39 h r40 => ?_))
        replace h := h r40
        exact ga_iret dX12_after_135 rfl r40 h
      by_cases q77 : x3 = 8
      · refine ga_tableIn (tgt := 136) (v := 8) dX12_after_26 q77 (by decide) rfl (by decide) ?_
        have h := hc67 q77
        refine ga_aload_n 0 dX12_after_136 rfl rfl ?_
        refine ga_callVi (z := mX12_starvedOf) (As := []) (rest := []) dX12_after_137 wX12_452 qX12_after_X12_starvedOf rfl ⟨_, rfl, rfl⟩ rfl rfl (Nat.le_of_ble_eq_true rfl) (gEi_mono h (fun v44 σ42 h r43 => ?_))
        replace h := h r43
        exact ga_iret dX12_after_140 rfl r43 h
      by_cases q78 : x3 = 9
      · refine ga_tableIn (tgt := 141) (v := 9) dX12_after_26 q78 (by decide) rfl (by decide) ?_
        have h := hc68 q78
        refine ga_aload_n 0 dX12_after_141 rfl rfl ?_
        refine ga_callVi (z := mX12_sameOf) (As := []) (rest := []) dX12_after_142 wX12_455 qX12_after_X12_sameOf rfl ⟨_, rfl, rfl⟩ rfl rfl (Nat.le_of_ble_eq_true rfl) (gEi_mono h (fun v47 σ45 h r46 => ?_))
        replace h := h r46
        exact ga_iret dX12_after_145 rfl r46 h
      have hdc : (x3 < 0 ∨ 9 < x3) := by omega
      have h := hd hdc
      refine ga_tableOut (tgt := 146) dX12_after_26 rx3 hdc (by decide) ?_
      refine ga_iload_n 3 dX12_after_146 rfl rfl ?_
      refine ga_bipush dX12_after_147 (by decide) ?_
      refine ga_bipush dX12_after_149 (by decide) ?_
      refine ga_callSz (z := mX12_isIn) (As := [vI x3, vI 10, vI 15]) (rest := []) dX12_after_151 wX12_196 qX12_after_X12_isIn rfl rfl (Nat.le_of_ble_eq_true rfl) (gEz_mono h (fun v50 σ48 h r49 => ?_))
      replace h := h r49
      obtain ⟨ht, hf⟩ := h
      refine ga_if_eq (tgt := 179) dX12_after_154 (by decide) (gR_01 r49) (fun q51 => ?_) (fun q51 => ?_)
      · replace q51 : v50 = 0 := q51
        have h := ht q51
        refine ga_bipush dX12_after_179 (by decide) ?_
        exact ga_iret dX12_after_181 rfl (by decide) h
      · replace q51 : ¬ v50 = 0 := q51
        have h := hf q51
        refine ga_aload_n 0 dX12_after_157 rfl rfl ?_
        refine ga_iload_n 3 dX12_after_158 rfl rfl ?_
        refine ga_bipush dX12_after_159 (by decide) ?_
        refine ga_isub dX12_after_161 ?_
        refine ga_callVz (z := mX12_isPort) (As := [vI (x3 - 10)]) (rest := []) dX12_after_162 wX12_322 qX12_after_X12_isPort rfl ⟨_, rfl, rfl⟩ rfl rfl (Nat.le_of_ble_eq_true rfl) (gEz_mono h (fun v54 σ52 h r53 => ?_))
        replace h := h r53
        obtain ⟨ht, hf⟩ := h
        refine ga_if_eq (tgt := 179) dX12_after_165 (by decide) (gR_01 r53) (fun q55 => ?_) (fun q55 => ?_)
        · replace q55 : v54 = 0 := q55
          have h := ht q55
          refine ga_bipush dX12_after_179 (by decide) ?_
          exact ga_iret dX12_after_181 rfl (by decide) h
        · replace q55 : ¬ v54 = 0 := q55
          have h := hf q55
          refine ga_aload_n 0 dX12_after_168 rfl rfl ?_
          refine ga_iload_n 3 dX12_after_169 rfl rfl ?_
          refine ga_bipush dX12_after_170 (by decide) ?_
          refine ga_isub dX12_after_172 ?_
          refine ga_callVi (z := mX12_turnsOf) (As := [vI (x3 - 10)]) (rest := []) dX12_after_173 wX12_458 qX12_after_X12_turnsOf rfl ⟨_, rfl, rfl⟩ rfl rfl (Nat.le_of_ble_eq_true rfl) (gEi_mono h (fun v58 σ56 h r57 => ?_))
          replace h := h r57
          refine ga_goto (tgt := 181) dX12_after_176 (by decide) ?_
          exact ga_iret dX12_after_181 rfl r57 h
    · replace q8 : v7 = 0 := (Decidable.not_not.mp q8)
      have h := hf q8
      refine ga_bipush dX12_after_16 (by decide) ?_
      exact ga_iret dX12_after_18 rfl (by decide) h
abbrev eX12_isLog (l : Launch) (G : gG) (x1 : Int) (σ : gS) (Q : Int → gS → Prop) : Prop := gEz l G mX12_isLog [.ref (G.2.1 88), vI x1] σ Q
set_option maxRecDepth 100000 in
set_option maxHeartbeats 4000000 in
theorem vX12_isLog {l : Launch} {G : gG} (x1 : Int) (rx1 : gR x1) (σ : gS) (Q : Int → gS → Prop) (h : eX12_isOf l G 2 x1 σ (fun v3 σ1 => (v3 = 0 ∨ v3 = 1) →
  (¬ v3 = 0 → eX12_placeOf l G 2 x1 σ1 (fun v7 σ5 => gR v7 →
    ∀ σ8, σ8 = sI σ5 88 64 v7 →
    Q 1 σ8)) ∧
  (v3 = 0 → Q 0 σ1))) : eX12_isLog l G x1 σ Q := by
  refine ga_entry rfl (Nat.le_of_ble_eq_true rfl) ?_
  show gAt l G mX12_isLog (gQz G Q) 0 [(0, .ref (G.2.1 88)), (1, vI x1)] [] σ
  refine ga_aload_n 0 dX12_isLog_0 rfl rfl ?_
  refine ga_iconst dX12_isLog_1 ?_
  refine ga_iload_n 1 dX12_isLog_2 rfl rfl ?_
  refine ga_callVz (z := mX12_isOf) (As := [vI 2, vI x1]) (rest := []) dX12_isLog_3 wX12_217 qX12_isLog_X12_isOf rfl ⟨_, rfl, rfl⟩ rfl rfl (Nat.le_of_ble_eq_true rfl) (gEz_mono h (fun v3 σ1 h r2 => ?_))
  replace h := h r2
  obtain ⟨ht, hf⟩ := h
  refine ga_if_ne (tgt := 11) dX12_isLog_6 (by decide) (gR_01 r2) (fun q4 => ?_) (fun q4 => ?_)
  · replace q4 : ¬ v3 = 0 := q4
    have h := ht q4
    refine ga_aload_n 0 dX12_isLog_11 rfl rfl ?_
    refine ga_iconst dX12_isLog_12 ?_
    refine ga_iload_n 1 dX12_isLog_13 rfl rfl ?_
    refine ga_callSi (z := mX12_placeOf) (As := [vI 2, vI x1]) (rest := [.ref (G.2.1 88)]) dX12_isLog_14 wX12_233 qX12_isLog_X12_placeOf rfl rfl (Nat.le_of_ble_eq_true rfl) (gEi_mono h (fun v7 σ5 h r6 => ?_))
    replace h := h r6
    obtain ⟨σ8, eσ8⟩ : ∃ z, z = sI σ5 88 64 v7 := ⟨_, rfl⟩
    replace h := h σ8 eσ8
    refine ga_putI (kI := 64) dX12_isLog_17 fX12_461 pX12_64 rfl rfl rfl r6 eσ8 ?_
    refine ga_iconst dX12_isLog_20 ?_
    exact ga_bret dX12_isLog_21 rfl (Or.inr rfl) h
  · replace q4 : v3 = 0 := (Decidable.not_not.mp q4)
    have h := hf q4
    refine ga_iconst dX12_isLog_9 ?_
    exact ga_bret dX12_isLog_10 rfl (Or.inl rfl) h
abbrev eX12_fact (l : Launch) (G : gG) (x1 : Int) (x2 : Int) (x3 : Int) (σ : gS) (Q : Int → gS → Prop) : Prop := gEi l G mX12_fact [.ref (G.2.1 88), vI x1, vI x2, vI x3] σ Q
set_option maxRecDepth 100000 in
set_option maxHeartbeats 4000000 in
theorem vX12_fact {l : Launch} {G : gG} (x1 : Int) (x2 : Int) (x3 : Int) (rx1 : gR x1) (rx2 : gR x2) (rx3 : gR x3) (σ : gS) (Q : Int → gS → Prop) (h : eX12_isLog l G x1 σ (fun v3 σ1 => (v3 = 0 ∨ v3 = 1) →
  (¬ v3 = 0 → (¬ x2 = (-1) → (0 ≤ (gI σ1 88 64) ∧ (gI σ1 88 64) < 3704) ∧ eX12_isIn l G x2 0 ((gI σ1 89 (gI σ1 88 64)) - 1) σ1 (fun v11 σ9 => (v11 = 0 ∨ v11 = 1) →
      (v11 = 0 → Q (-2) σ9) ∧
      (¬ v11 = 0 → eX12_isIn l G x3 0 3 σ9 (fun v15 σ13 => (v15 = 0 ∨ v15 = 1) →
        ((v15 = 0 → True) ∧
        (¬ v15 = 0 → (0 ≤ ((((gI σ13 88 64) + 1) + (4 * x2)) + x3) ∧ ((((gI σ13 88 64) + 1) + (4 * x2)) + x3) < 3704) ∧ True)) ∧
        (∀ v21 : Int, v21 = (if v15 = 0 then (-2) else (gI σ13 89 ((((gI σ13 88 64) + 1) + (4 * x2)) + x3))) →
        Q v21 σ13))))) ∧
    (x2 = (-1) → ((¬ x3 = 0 → True) ∧
      (x3 = 0 → (0 ≤ (gI σ1 88 64) ∧ (gI σ1 88 64) < 3704) ∧ True)) ∧
      (∀ v27 : Int, v27 = (if x3 = 0 then (gI σ1 89 (gI σ1 88 64)) else (-2)) →
      Q v27 σ1))) ∧
  (v3 = 0 → Q (-2) σ1))) : eX12_fact l G x1 x2 x3 σ Q := by
  refine ga_entry rfl (Nat.le_of_ble_eq_true rfl) ?_
  show gAt l G mX12_fact (gQi G Q) 0 [(0, .ref (G.2.1 88)), (1, vI x1), (2, vI x2), (3, vI x3)] [] σ
  refine ga_aload_n 0 dX12_fact_0 rfl rfl ?_
  refine ga_iload_n 1 dX12_fact_1 rfl rfl ?_
  refine ga_callVz (z := mX12_isLog) (As := [vI x1]) (rest := []) dX12_fact_2 wX12_464 qX12_fact_X12_isLog rfl ⟨_, rfl, rfl⟩ rfl rfl (Nat.le_of_ble_eq_true rfl) (gEz_mono h (fun v3 σ1 h r2 => ?_))
  replace h := h r2
  obtain ⟨ht, hf⟩ := h
  refine ga_if_ne (tgt := 11) dX12_fact_5 (by decide) (gR_01 r2) (fun q4 => ?_) (fun q4 => ?_)
  · replace q4 : ¬ v3 = 0 := q4
    have h := ht q4
    refine ga_iload_n 2 dX12_fact_11 rfl rfl ?_
    refine ga_iconst dX12_fact_12 ?_
    obtain ⟨ht, hf⟩ := h
    refine ga_icmp_ne (tgt := 35) dX12_fact_13 (by decide) rx2 (by decide) (fun q5 => ?_) (fun q5 => ?_)
    · replace q5 : ¬ x2 = (-1) := q5
      have h := ht q5
      refine ga_iload_n 2 dX12_fact_35 rfl rfl ?_
      refine ga_iconst dX12_fact_36 ?_
      refine ga_aload_n 0 dX12_fact_37 rfl rfl ?_
      refine ga_getR (kI := 0) (r := 89) dX12_fact_38 fX12_7 rfl rfl (by decide) rfl ?_
      refine ga_aload_n 0 dX12_fact_41 rfl rfl ?_
      refine ga_getI (kI := 64) dX12_fact_42 fX12_461 rfl rfl rfl (fun r6 => ?_)
      obtain ⟨i7, h⟩ := h
      refine ga_iald (nI := 3704) dX12_fact_45 rfl rfl i7 (fun r8 => ?_)
      refine ga_iconst dX12_fact_46 ?_
      refine ga_isub dX12_fact_47 ?_
      refine ga_callSz (z := mX12_isIn) (As := [vI x2, vI 0, vI ((gI σ1 89 (gI σ1 88 64)) - 1)]) (rest := []) dX12_fact_48 wX12_196 qX12_fact_X12_isIn rfl rfl (Nat.le_of_ble_eq_true rfl) (gEz_mono h (fun v11 σ9 h r10 => ?_))
      replace h := h r10
      obtain ⟨ht, hf⟩ := h
      refine ga_if_eq (tgt := 83) dX12_fact_51 (by decide) (gR_01 r10) (fun q12 => ?_) (fun q12 => ?_)
      · replace q12 : v11 = 0 := q12
        have h := ht q12
        refine ga_bipush dX12_fact_83 (by decide) ?_
        exact ga_iret dX12_fact_85 rfl (by decide) h
      · replace q12 : ¬ v11 = 0 := q12
        have h := hf q12
        refine ga_iload_n 3 dX12_fact_54 rfl rfl ?_
        refine ga_iconst dX12_fact_55 ?_
        refine ga_iconst dX12_fact_56 ?_
        refine ga_callSz (z := mX12_isIn) (As := [vI x3, vI 0, vI 3]) (rest := []) dX12_fact_57 wX12_196 qX12_fact_X12_isIn rfl rfl (Nat.le_of_ble_eq_true rfl) (gEz_mono h (fun v15 σ13 h r14 => ?_))
        replace h := h r14
        obtain ⟨hob, h⟩ := h
        have kJ16 : ∀ v21 : Int, gR v21 → v21 = (if v15 = 0 then (-2) else (gI σ13 89 ((((gI σ13 88 64) + 1) + (4 * x2)) + x3))) → gAt l G mX12_fact (gQi G Q) 85 [(0, .ref (G.2.1 88)), (1, vI x1), (2, vI x2), (3, vI x3)] [vI v21] σ13 := by
          intro v21 rv21 ev21
          replace h := h v21 ev21
          exact ga_iret dX12_fact_85 rfl rv21 h
        replace h := hob
        obtain ⟨ht, hf⟩ := h
        refine ga_if_eq (tgt := 83) dX12_fact_60 (by decide) (gR_01 r14) (fun q17 => ?_) (fun q17 => ?_)
        · replace q17 : v15 = 0 := q17
          have h := ht q17
          refine ga_bipush dX12_fact_83 (by decide) ?_
          exact kJ16 (-2) (by decide) (by rw [if_pos q17])
        · replace q17 : ¬ v15 = 0 := q17
          have h := hf q17
          refine ga_aload_n 0 dX12_fact_63 rfl rfl ?_
          refine ga_getR (kI := 0) (r := 89) dX12_fact_64 fX12_7 rfl rfl (by decide) rfl ?_
          refine ga_aload_n 0 dX12_fact_67 rfl rfl ?_
          refine ga_getI (kI := 64) dX12_fact_68 fX12_461 rfl rfl rfl (fun r18 => ?_)
          refine ga_iconst dX12_fact_71 ?_
          refine ga_iadd dX12_fact_72 ?_
          refine ga_iconst dX12_fact_73 ?_
          refine ga_iload_n 2 dX12_fact_74 rfl rfl ?_
          refine ga_imul dX12_fact_75 ?_
          refine ga_iadd dX12_fact_76 ?_
          refine ga_iload_n 3 dX12_fact_77 rfl rfl ?_
          refine ga_iadd dX12_fact_78 ?_
          obtain ⟨i19, h⟩ := h
          refine ga_iald (nI := 3704) dX12_fact_79 rfl rfl i19 (fun r20 => ?_)
          refine ga_goto (tgt := 85) dX12_fact_80 (by decide) ?_
          exact kJ16 (gI σ13 89 ((((gI σ13 88 64) + 1) + (4 * x2)) + x3)) r20 (by rw [if_neg q17])
    · replace q5 : x2 = (-1) := (Decidable.not_not.mp q5)
      have h := hf q5
      refine ga_iload_n 3 dX12_fact_16 rfl rfl ?_
      obtain ⟨hob, h⟩ := h
      have kJ22 : ∀ v27 : Int, gR v27 → v27 = (if x3 = 0 then (gI σ1 89 (gI σ1 88 64)) else (-2)) → gAt l G mX12_fact (gQi G Q) 34 [(0, .ref (G.2.1 88)), (1, vI x1), (2, vI x2), (3, vI x3)] [vI v27] σ1 := by
        intro v27 rv27 ev27
        replace h := h v27 ev27
        exact ga_iret dX12_fact_34 rfl rv27 h
      replace h := hob
      obtain ⟨ht, hf⟩ := h
      refine ga_if_ne (tgt := 32) dX12_fact_17 (by decide) rx3 (fun q23 => ?_) (fun q23 => ?_)
      · replace q23 : ¬ x3 = 0 := q23
        have h := ht q23
        refine ga_bipush dX12_fact_32 (by decide) ?_
        exact kJ22 (-2) (by decide) (by rw [if_neg q23])
      · replace q23 : x3 = 0 := (Decidable.not_not.mp q23)
        have h := hf q23
        refine ga_aload_n 0 dX12_fact_20 rfl rfl ?_
        refine ga_getR (kI := 0) (r := 89) dX12_fact_21 fX12_7 rfl rfl (by decide) rfl ?_
        refine ga_aload_n 0 dX12_fact_24 rfl rfl ?_
        refine ga_getI (kI := 64) dX12_fact_25 fX12_461 rfl rfl rfl (fun r24 => ?_)
        obtain ⟨i25, h⟩ := h
        refine ga_iald (nI := 3704) dX12_fact_28 rfl rfl i25 (fun r26 => ?_)
        refine ga_goto (tgt := 34) dX12_fact_29 (by decide) ?_
        exact kJ22 (gI σ1 89 (gI σ1 88 64)) r26 (by rw [if_pos q23])
  · replace q4 : v3 = 0 := (Decidable.not_not.mp q4)
    have h := hf q4
    refine ga_bipush dX12_fact_8 (by decide) ?_
    exact ga_iret dX12_fact_10 rfl (by decide) h
abbrev eX12_factsAreSo (l : Launch) (G : gG)  (σ : gS) (Q : Int → gS → Prop) : Prop := gEz l G mX12_factsAreSo [.ref (G.2.1 88)] σ Q
abbrev kX12_factsAreSo_2 (l : Launch) (G : gG)  (x1 : Int) (σ : gS) (Q : Int → gS → Prop) : Prop := gAt l G mX12_factsAreSo (gQz G Q) 2 [(0, .ref (G.2.1 88)), (1, vI x1)] [] σ
set_option maxRecDepth 100000 in
set_option maxHeartbeats 4000000 in
theorem vX12_factsAreSo {l : Launch} {G : gG}  (σ : gS) (Q : Int → gS → Prop) (h : kX12_factsAreSo_2 l G  0 σ Q) : eX12_factsAreSo l G  σ Q := by
  refine ga_entry rfl (Nat.le_of_ble_eq_true rfl) ?_
  show gAt l G mX12_factsAreSo (gQz G Q) 0 [(0, .ref (G.2.1 88))] [] σ
  refine ga_iconst dX12_factsAreSo_0 ?_
  refine ga_istore_n (ls' := [(1, vI 0), (0, .ref (G.2.1 88))]) dX12_factsAreSo_1 rfl (by decide) rfl ?_
  exact ga_sub [1, 0] rfl h
set_option maxRecDepth 100000 in
set_option maxHeartbeats 4000000 in
theorem vX12_factsAreSo_2 {l : Launch} {G : gG}  (x1 : Int) (rx1 : gR x1) (σ : gS) (Q : Int → gS → Prop) (h : (0 ≤ (gI σ 88 64) ∧ (gI σ 88 64) < 3704) ∧ ((gI σ 89 (gI σ 88 64)) ≤ x1 → Q 1 σ) ∧
  (x1 < (gI σ 89 (gI σ 88 64)) → (0 ≤ ((((gI σ 88 64) + 1) + (4 * x1)) + 1) ∧ ((((gI σ 88 64) + 1) + (4 * x1)) + 1) < 3704) ∧ ((gI σ 88 24) ≤ (gI σ 89 ((((gI σ 88 64) + 1) + (4 * x1)) + 1)) → (0 ≤ (((gI σ 88 64) + 1) + (4 * x1)) ∧ (((gI σ 88 64) + 1) + (4 * x1)) < 3704) ∧ (∀ v14 : Int, v14 = (if (gI σ 89 (((gI σ 88 64) + 1) + (4 * x1))) = 1 then 1 else 0) →
      (0 = v14 → kX12_factsAreSo_2 l G  (x1 + 1) σ Q) ∧
        (¬ 0 = v14 → Q 0 σ))) ∧
    ((gI σ 89 ((((gI σ 88 64) + 1) + (4 * x1)) + 1)) < (gI σ 88 24) → (0 ≤ ((((gI σ 88 64) + 1) + (4 * x1)) + 2) ∧ ((((gI σ 88 64) + 1) + (4 * x1)) + 2) < 3704) ∧ eX12_isPort l G (gI σ 89 ((((gI σ 88 64) + 1) + (4 * x1)) + 2)) σ (fun v20 σ18 => (v20 = 0 ∨ v20 = 1) →
      (v20 = 0 → (0 ≤ (((gI σ 88 64) + 1) + (4 * x1)) ∧ (((gI σ 88 64) + 1) + (4 * x1)) < 3704) ∧ (∀ v26 : Int, v26 = (if (gI σ18 89 (((gI σ 88 64) + 1) + (4 * x1))) = 1 then 1 else 0) →
        (0 = v26 → kX12_factsAreSo_2 l G  (x1 + 1) σ18 Q) ∧
          (¬ 0 = v26 → Q 0 σ18))) ∧
      (¬ v20 = 0 → (0 ≤ ((((gI σ 88 64) + 1) + (4 * x1)) + 3) ∧ ((((gI σ 88 64) + 1) + (4 * x1)) + 3) < 3704) ∧ eX12_isPort l G (gI σ18 89 ((((gI σ 88 64) + 1) + (4 * x1)) + 3)) σ18 (fun v32 σ30 => (v32 = 0 ∨ v32 = 1) →
        ((v32 = 0 → True) ∧
        (¬ v32 = 0 → (0 ≤ ((6 * (gI σ30 89 ((((gI σ 88 64) + 1) + (4 * x1)) + 1))) + (gI σ30 89 ((((gI σ 88 64) + 1) + (4 * x1)) + 3))) ∧ ((6 * (gI σ30 89 ((((gI σ 88 64) + 1) + (4 * x1)) + 1))) + (gI σ30 89 ((((gI σ 88 64) + 1) + (4 * x1)) + 3))) < 2520) ∧ (¬ (gI σ30 109 ((6 * (gI σ30 89 ((((gI σ 88 64) + 1) + (4 * x1)) + 1))) + (gI σ30 89 ((((gI σ 88 64) + 1) + (4 * x1)) + 3)))) = (gI σ30 89 ((((gI σ 88 64) + 1) + (4 * x1)) + 2)) → True) ∧
          ((gI σ30 109 ((6 * (gI σ30 89 ((((gI σ 88 64) + 1) + (4 * x1)) + 1))) + (gI σ30 89 ((((gI σ 88 64) + 1) + (4 * x1)) + 3)))) = (gI σ30 89 ((((gI σ 88 64) + 1) + (4 * x1)) + 2)) → True))) ∧
        (∀ v41 : Int, v41 = (if v32 = 0 then 0 else (if (gI σ30 109 ((6 * (gI σ30 89 ((((gI σ 88 64) + 1) + (4 * x1)) + 1))) + (gI σ30 89 ((((gI σ 88 64) + 1) + (4 * x1)) + 3)))) = (gI σ30 89 ((((gI σ 88 64) + 1) + (4 * x1)) + 2)) then 1 else 0)) →
        (0 ≤ (((gI σ 88 64) + 1) + (4 * x1)) ∧ (((gI σ 88 64) + 1) + (4 * x1)) < 3704) ∧ (∀ v46 : Int, v46 = (if (gI σ30 89 (((gI σ 88 64) + 1) + (4 * x1))) = 1 then 1 else 0) →
          (v41 = v46 → kX12_factsAreSo_2 l G  (x1 + 1) σ30 Q) ∧
            (¬ v41 = v46 → Q 0 σ30))))))))) : kX12_factsAreSo_2 l G  x1 σ Q := by
  refine ga_iload_n 1 dX12_factsAreSo_2 rfl rfl ?_
  refine ga_aload_n 0 dX12_factsAreSo_3 rfl rfl ?_
  refine ga_getR (kI := 0) (r := 89) dX12_factsAreSo_4 fX12_7 rfl rfl (by decide) rfl ?_
  refine ga_aload_n 0 dX12_factsAreSo_7 rfl rfl ?_
  refine ga_getI (kI := 64) dX12_factsAreSo_8 fX12_461 rfl rfl rfl (fun r1 => ?_)
  obtain ⟨i2, h⟩ := h
  refine ga_iald (nI := 3704) dX12_factsAreSo_11 rfl rfl i2 (fun r3 => ?_)
  obtain ⟨ht, hf⟩ := h
  refine ga_icmp_ge (tgt := 140) dX12_factsAreSo_12 (by decide) rx1 r3 (fun q4 => ?_) (fun q4 => ?_)
  · replace q4 : (gI σ 89 (gI σ 88 64)) ≤ x1 := q4
    have h := ht q4
    refine ga_iconst dX12_factsAreSo_140 ?_
    exact ga_bret dX12_factsAreSo_141 rfl (Or.inr rfl) h
  · replace q4 : x1 < (gI σ 89 (gI σ 88 64)) := (Int.not_le.mp q4)
    have h := hf q4
    refine ga_aload_n 0 dX12_factsAreSo_15 rfl rfl ?_
    refine ga_getI (kI := 64) dX12_factsAreSo_16 fX12_461 rfl rfl rfl (fun r5 => ?_)
    refine ga_iconst dX12_factsAreSo_19 ?_
    refine ga_iadd dX12_factsAreSo_20 ?_
    refine ga_iconst dX12_factsAreSo_21 ?_
    refine ga_iload_n 1 dX12_factsAreSo_22 rfl rfl ?_
    refine ga_imul dX12_factsAreSo_23 ?_
    refine ga_iadd dX12_factsAreSo_24 ?_
    refine ga_istore_n (ls' := [(2, vI (((gI σ 88 64) + 1) + (4 * x1))), (0, .ref (G.2.1 88)), (1, vI x1)]) dX12_factsAreSo_25 rfl (by decide) rfl ?_
    refine ga_aload_n 1 dX12_factsAreSo_26 rfl rfl ?_
    refine ga_getR (kI := 0) (r := 89) dX12_factsAreSo_27 fX12_7 rfl rfl (by decide) rfl ?_
    refine ga_iload_n 0 dX12_factsAreSo_30 rfl rfl ?_
    refine ga_iconst dX12_factsAreSo_31 ?_
    refine ga_iadd dX12_factsAreSo_32 ?_
    obtain ⟨i6, h⟩ := h
    refine ga_iald (nI := 3704) dX12_factsAreSo_33 rfl rfl i6 (fun r7 => ?_)
    refine ga_aload_n 1 dX12_factsAreSo_34 rfl rfl ?_
    refine ga_getI (kI := 24) dX12_factsAreSo_35 fX12_257 rfl rfl rfl (fun r8 => ?_)
    obtain ⟨ht, hf⟩ := h
    refine ga_icmp_ge (tgt := 111) dX12_factsAreSo_38 (by decide) r7 r8 (fun q9 => ?_) (fun q9 => ?_)
    · replace q9 : (gI σ 88 24) ≤ (gI σ 89 ((((gI σ 88 64) + 1) + (4 * x1)) + 1)) := q9
      have h := ht q9
      refine ga_iconst dX12_factsAreSo_111 ?_
      refine ga_istore_n (ls' := [(3, vI 0), (2, vI (((gI σ 88 64) + 1) + (4 * x1))), (0, .ref (G.2.1 88)), (1, vI x1)]) dX12_factsAreSo_112 rfl (by decide) rfl ?_
      refine ga_iload_n 0 dX12_factsAreSo_113 rfl rfl ?_
      refine ga_aload_n 2 dX12_factsAreSo_114 rfl rfl ?_
      refine ga_getR (kI := 0) (r := 89) dX12_factsAreSo_115 fX12_7 rfl rfl (by decide) rfl ?_
      refine ga_iload_n 1 dX12_factsAreSo_118 rfl rfl ?_
      obtain ⟨i10, h⟩ := h
      refine ga_iald (nI := 3704) dX12_factsAreSo_119 rfl rfl i10 (fun r11 => ?_)
      refine ga_iconst dX12_factsAreSo_120 ?_
      have kJ12 : ∀ v14 : Int, gR v14 → (v14 = 0 ∨ v14 = 1) → v14 = (if (gI σ 89 (((gI σ 88 64) + 1) + (4 * x1))) = 1 then 1 else 0) → gAt l G mX12_factsAreSo (gQz G Q) 129 [(3, vI 0), (2, vI (((gI σ 88 64) + 1) + (4 * x1))), (0, .ref (G.2.1 88)), (1, vI x1)] [vI v14, vI 0] σ := by
        intro v14 rv14 bv14 ev14
        replace h := h v14 ev14
        obtain ⟨ht, hf⟩ := h
        refine ga_icmp_eq (tgt := 134) dX12_factsAreSo_129 (by decide) (by decide) rv14 (fun q15 => ?_) (fun q15 => ?_)
        · replace q15 : 0 = v14 := q15
          have h := ht q15
          refine ga_iinc (ls' := [(1, vI (x1 + 1)), (3, vI 0), (2, vI (((gI σ 88 64) + 1) + (4 * x1))), (0, .ref (G.2.1 88))]) 3 dX12_factsAreSo_134 rfl (by decide) rfl ?_
          refine ga_goto (tgt := 2) dX12_factsAreSo_137 (by decide) ?_
          exact ga_sub [3, 0] rfl h
        · replace q15 : ¬ 0 = v14 := q15
          have h := hf q15
          refine ga_iconst dX12_factsAreSo_132 ?_
          exact ga_bret dX12_factsAreSo_133 rfl (Or.inl rfl) h
      replace h : (¬ (gI σ 89 (((gI σ 88 64) + 1) + (4 * x1))) = 1 → True) ∧
      ((gI σ 89 (((gI σ 88 64) + 1) + (4 * x1))) = 1 → True) := by repeat (first | exact True.intro | apply And.intro | intro _)
      obtain ⟨ht, hf⟩ := h
      refine ga_icmp_ne (tgt := 128) dX12_factsAreSo_121 (by decide) r11 (by decide) (fun q13 => ?_) (fun q13 => ?_)
      · replace q13 : ¬ (gI σ 89 (((gI σ 88 64) + 1) + (4 * x1))) = 1 := q13
        have h := ht q13
        refine ga_iconst dX12_factsAreSo_128 ?_
        exact kJ12 0 (by decide) (Or.inl rfl) (by rw [if_neg q13])
      · replace q13 : (gI σ 89 (((gI σ 88 64) + 1) + (4 * x1))) = 1 := (Decidable.not_not.mp q13)
        have h := hf q13
        refine ga_iconst dX12_factsAreSo_124 ?_
        refine ga_goto (tgt := 129) dX12_factsAreSo_125 (by decide) ?_
        exact kJ12 1 (by decide) (Or.inr rfl) (by rw [if_pos q13])
    · replace q9 : (gI σ 89 ((((gI σ 88 64) + 1) + (4 * x1)) + 1)) < (gI σ 88 24) := (Int.not_le.mp q9)
      have h := hf q9
      refine ga_aload_n 1 dX12_factsAreSo_41 rfl rfl ?_
      refine ga_aload_n 1 dX12_factsAreSo_42 rfl rfl ?_
      refine ga_getR (kI := 0) (r := 89) dX12_factsAreSo_43 fX12_7 rfl rfl (by decide) rfl ?_
      refine ga_iload_n 0 dX12_factsAreSo_46 rfl rfl ?_
      refine ga_iconst dX12_factsAreSo_47 ?_
      refine ga_iadd dX12_factsAreSo_48 ?_
      obtain ⟨i16, h⟩ := h
      refine ga_iald (nI := 3704) dX12_factsAreSo_49 rfl rfl i16 (fun r17 => ?_)
      refine ga_callVz (z := mX12_isPort) (As := [vI (gI σ 89 ((((gI σ 88 64) + 1) + (4 * x1)) + 2))]) (rest := []) dX12_factsAreSo_50 wX12_322 qX12_factsAreSo_X12_isPort rfl ⟨_, rfl, rfl⟩ rfl rfl (Nat.le_of_ble_eq_true rfl) (gEz_mono h (fun v20 σ18 h r19 => ?_))
      replace h := h r19
      obtain ⟨ht, hf⟩ := h
      refine ga_if_eq (tgt := 111) dX12_factsAreSo_53 (by decide) (gR_01 r19) (fun q21 => ?_) (fun q21 => ?_)
      · replace q21 : v20 = 0 := q21
        have h := ht q21
        refine ga_iconst dX12_factsAreSo_111 ?_
        refine ga_istore_n (ls' := [(3, vI 0), (2, vI (((gI σ 88 64) + 1) + (4 * x1))), (0, .ref (G.2.1 88)), (1, vI x1)]) dX12_factsAreSo_112 rfl (by decide) rfl ?_
        refine ga_iload_n 0 dX12_factsAreSo_113 rfl rfl ?_
        refine ga_aload_n 2 dX12_factsAreSo_114 rfl rfl ?_
        refine ga_getR (kI := 0) (r := 89) dX12_factsAreSo_115 fX12_7 rfl rfl (by decide) rfl ?_
        refine ga_iload_n 1 dX12_factsAreSo_118 rfl rfl ?_
        obtain ⟨i22, h⟩ := h
        refine ga_iald (nI := 3704) dX12_factsAreSo_119 rfl rfl i22 (fun r23 => ?_)
        refine ga_iconst dX12_factsAreSo_120 ?_
        have kJ24 : ∀ v26 : Int, gR v26 → (v26 = 0 ∨ v26 = 1) → v26 = (if (gI σ18 89 (((gI σ 88 64) + 1) + (4 * x1))) = 1 then 1 else 0) → gAt l G mX12_factsAreSo (gQz G Q) 129 [(3, vI 0), (2, vI (((gI σ 88 64) + 1) + (4 * x1))), (0, .ref (G.2.1 88)), (1, vI x1)] [vI v26, vI 0] σ18 := by
          intro v26 rv26 bv26 ev26
          replace h := h v26 ev26
          obtain ⟨ht, hf⟩ := h
          refine ga_icmp_eq (tgt := 134) dX12_factsAreSo_129 (by decide) (by decide) rv26 (fun q27 => ?_) (fun q27 => ?_)
          · replace q27 : 0 = v26 := q27
            have h := ht q27
            refine ga_iinc (ls' := [(1, vI (x1 + 1)), (3, vI 0), (2, vI (((gI σ 88 64) + 1) + (4 * x1))), (0, .ref (G.2.1 88))]) 3 dX12_factsAreSo_134 rfl (by decide) rfl ?_
            refine ga_goto (tgt := 2) dX12_factsAreSo_137 (by decide) ?_
            exact ga_sub [3, 0] rfl h
          · replace q27 : ¬ 0 = v26 := q27
            have h := hf q27
            refine ga_iconst dX12_factsAreSo_132 ?_
            exact ga_bret dX12_factsAreSo_133 rfl (Or.inl rfl) h
        replace h : (¬ (gI σ18 89 (((gI σ 88 64) + 1) + (4 * x1))) = 1 → True) ∧
        ((gI σ18 89 (((gI σ 88 64) + 1) + (4 * x1))) = 1 → True) := by repeat (first | exact True.intro | apply And.intro | intro _)
        obtain ⟨ht, hf⟩ := h
        refine ga_icmp_ne (tgt := 128) dX12_factsAreSo_121 (by decide) r23 (by decide) (fun q25 => ?_) (fun q25 => ?_)
        · replace q25 : ¬ (gI σ18 89 (((gI σ 88 64) + 1) + (4 * x1))) = 1 := q25
          have h := ht q25
          refine ga_iconst dX12_factsAreSo_128 ?_
          exact kJ24 0 (by decide) (Or.inl rfl) (by rw [if_neg q25])
        · replace q25 : (gI σ18 89 (((gI σ 88 64) + 1) + (4 * x1))) = 1 := (Decidable.not_not.mp q25)
          have h := hf q25
          refine ga_iconst dX12_factsAreSo_124 ?_
          refine ga_goto (tgt := 129) dX12_factsAreSo_125 (by decide) ?_
          exact kJ24 1 (by decide) (Or.inr rfl) (by rw [if_pos q25])
      · replace q21 : ¬ v20 = 0 := q21
        have h := hf q21
        refine ga_aload_n 1 dX12_factsAreSo_56 rfl rfl ?_
        refine ga_aload_n 1 dX12_factsAreSo_57 rfl rfl ?_
        refine ga_getR (kI := 0) (r := 89) dX12_factsAreSo_58 fX12_7 rfl rfl (by decide) rfl ?_
        refine ga_iload_n 0 dX12_factsAreSo_61 rfl rfl ?_
        refine ga_iconst dX12_factsAreSo_62 ?_
        refine ga_iadd dX12_factsAreSo_63 ?_
        obtain ⟨i28, h⟩ := h
        refine ga_iald (nI := 3704) dX12_factsAreSo_64 rfl rfl i28 (fun r29 => ?_)
        refine ga_callVz (z := mX12_isPort) (As := [vI (gI σ18 89 ((((gI σ 88 64) + 1) + (4 * x1)) + 3))]) (rest := []) dX12_factsAreSo_65 wX12_322 qX12_factsAreSo_X12_isPort rfl ⟨_, rfl, rfl⟩ rfl rfl (Nat.le_of_ble_eq_true rfl) (gEz_mono h (fun v32 σ30 h r31 => ?_))
        replace h := h r31
        obtain ⟨hob, h⟩ := h
        have kJ33 : ∀ v41 : Int, gR v41 → (v41 = 0 ∨ v41 = 1) → v41 = (if v32 = 0 then 0 else (if (gI σ30 109 ((6 * (gI σ30 89 ((((gI σ 88 64) + 1) + (4 * x1)) + 1))) + (gI σ30 89 ((((gI σ 88 64) + 1) + (4 * x1)) + 3)))) = (gI σ30 89 ((((gI σ 88 64) + 1) + (4 * x1)) + 2)) then 1 else 0)) → gAt l G mX12_factsAreSo (gQz G Q) 112 [(2, vI (((gI σ 88 64) + 1) + (4 * x1))), (0, .ref (G.2.1 88)), (1, vI x1)] [vI v41] σ30 := by
          intro v41 rv41 bv41 ev41
          replace h := h v41 ev41
          refine ga_istore_n (ls' := [(3, vI v41), (2, vI (((gI σ 88 64) + 1) + (4 * x1))), (0, .ref (G.2.1 88)), (1, vI x1)]) dX12_factsAreSo_112 rfl (by decide) rfl ?_
          refine ga_iload_n 0 dX12_factsAreSo_113 rfl rfl ?_
          refine ga_aload_n 2 dX12_factsAreSo_114 rfl rfl ?_
          refine ga_getR (kI := 0) (r := 89) dX12_factsAreSo_115 fX12_7 rfl rfl (by decide) rfl ?_
          refine ga_iload_n 1 dX12_factsAreSo_118 rfl rfl ?_
          obtain ⟨i42, h⟩ := h
          refine ga_iald (nI := 3704) dX12_factsAreSo_119 rfl rfl i42 (fun r43 => ?_)
          refine ga_iconst dX12_factsAreSo_120 ?_
          have kJ44 : ∀ v46 : Int, gR v46 → (v46 = 0 ∨ v46 = 1) → v46 = (if (gI σ30 89 (((gI σ 88 64) + 1) + (4 * x1))) = 1 then 1 else 0) → gAt l G mX12_factsAreSo (gQz G Q) 129 [(3, vI v41), (2, vI (((gI σ 88 64) + 1) + (4 * x1))), (0, .ref (G.2.1 88)), (1, vI x1)] [vI v46, vI v41] σ30 := by
            intro v46 rv46 bv46 ev46
            replace h := h v46 ev46
            obtain ⟨ht, hf⟩ := h
            refine ga_icmp_eq (tgt := 134) dX12_factsAreSo_129 (by decide) rv41 rv46 (fun q47 => ?_) (fun q47 => ?_)
            · replace q47 : v41 = v46 := q47
              have h := ht q47
              refine ga_iinc (ls' := [(1, vI (x1 + 1)), (3, vI v41), (2, vI (((gI σ 88 64) + 1) + (4 * x1))), (0, .ref (G.2.1 88))]) 3 dX12_factsAreSo_134 rfl (by decide) rfl ?_
              refine ga_goto (tgt := 2) dX12_factsAreSo_137 (by decide) ?_
              exact ga_sub [3, 0] rfl h
            · replace q47 : ¬ v41 = v46 := q47
              have h := hf q47
              refine ga_iconst dX12_factsAreSo_132 ?_
              exact ga_bret dX12_factsAreSo_133 rfl (Or.inl rfl) h
          replace h : (¬ (gI σ30 89 (((gI σ 88 64) + 1) + (4 * x1))) = 1 → True) ∧
          ((gI σ30 89 (((gI σ 88 64) + 1) + (4 * x1))) = 1 → True) := by repeat (first | exact True.intro | apply And.intro | intro _)
          obtain ⟨ht, hf⟩ := h
          refine ga_icmp_ne (tgt := 128) dX12_factsAreSo_121 (by decide) r43 (by decide) (fun q45 => ?_) (fun q45 => ?_)
          · replace q45 : ¬ (gI σ30 89 (((gI σ 88 64) + 1) + (4 * x1))) = 1 := q45
            have h := ht q45
            refine ga_iconst dX12_factsAreSo_128 ?_
            exact kJ44 0 (by decide) (Or.inl rfl) (by rw [if_neg q45])
          · replace q45 : (gI σ30 89 (((gI σ 88 64) + 1) + (4 * x1))) = 1 := (Decidable.not_not.mp q45)
            have h := hf q45
            refine ga_iconst dX12_factsAreSo_124 ?_
            refine ga_goto (tgt := 129) dX12_factsAreSo_125 (by decide) ?_
            exact kJ44 1 (by decide) (Or.inr rfl) (by rw [if_pos q45])
        replace h := hob
        obtain ⟨ht, hf⟩ := h
        refine ga_if_eq (tgt := 111) dX12_factsAreSo_68 (by decide) (gR_01 r31) (fun q34 => ?_) (fun q34 => ?_)
        · replace q34 : v32 = 0 := q34
          have h := ht q34
          refine ga_iconst dX12_factsAreSo_111 ?_
          exact kJ33 0 (by decide) (Or.inl rfl) (by rw [if_pos q34])
        · replace q34 : ¬ v32 = 0 := q34
          have h := hf q34
          refine ga_aload_n 1 dX12_factsAreSo_71 rfl rfl ?_
          refine ga_getR (kI := 39) (r := 109) dX12_factsAreSo_72 fX12_71 rfl rfl (by decide) rfl ?_
          refine ga_bipush dX12_factsAreSo_75 (by decide) ?_
          refine ga_aload_n 1 dX12_factsAreSo_77 rfl rfl ?_
          refine ga_getR (kI := 0) (r := 89) dX12_factsAreSo_78 fX12_7 rfl rfl (by decide) rfl ?_
          refine ga_iload_n 0 dX12_factsAreSo_81 rfl rfl ?_
          refine ga_iconst dX12_factsAreSo_82 ?_
          refine ga_iadd dX12_factsAreSo_83 ?_
          refine ga_iald (nI := 3704) dX12_factsAreSo_84 rfl rfl i6 (fun r35 => ?_)
          refine ga_imul dX12_factsAreSo_85 ?_
          refine ga_aload_n 1 dX12_factsAreSo_86 rfl rfl ?_
          refine ga_getR (kI := 0) (r := 89) dX12_factsAreSo_87 fX12_7 rfl rfl (by decide) rfl ?_
          refine ga_iload_n 0 dX12_factsAreSo_90 rfl rfl ?_
          refine ga_iconst dX12_factsAreSo_91 ?_
          refine ga_iadd dX12_factsAreSo_92 ?_
          refine ga_iald (nI := 3704) dX12_factsAreSo_93 rfl rfl i28 (fun r36 => ?_)
          refine ga_iadd dX12_factsAreSo_94 ?_
          obtain ⟨i37, h⟩ := h
          refine ga_iald (nI := 2520) dX12_factsAreSo_95 rfl rfl i37 (fun r38 => ?_)
          refine ga_aload_n 1 dX12_factsAreSo_96 rfl rfl ?_
          refine ga_getR (kI := 0) (r := 89) dX12_factsAreSo_97 fX12_7 rfl rfl (by decide) rfl ?_
          refine ga_iload_n 0 dX12_factsAreSo_100 rfl rfl ?_
          refine ga_iconst dX12_factsAreSo_101 ?_
          refine ga_iadd dX12_factsAreSo_102 ?_
          refine ga_iald (nI := 3704) dX12_factsAreSo_103 rfl rfl i16 (fun r39 => ?_)
          obtain ⟨ht, hf⟩ := h
          refine ga_icmp_ne (tgt := 111) dX12_factsAreSo_104 (by decide) r38 r39 (fun q40 => ?_) (fun q40 => ?_)
          · replace q40 : ¬ (gI σ30 109 ((6 * (gI σ30 89 ((((gI σ 88 64) + 1) + (4 * x1)) + 1))) + (gI σ30 89 ((((gI σ 88 64) + 1) + (4 * x1)) + 3)))) = (gI σ30 89 ((((gI σ 88 64) + 1) + (4 * x1)) + 2)) := q40
            have h := ht q40
            refine ga_iconst dX12_factsAreSo_111 ?_
            exact kJ33 0 (by decide) (Or.inl rfl) (by rw [if_neg q34, if_neg q40])
          · replace q40 : (gI σ30 109 ((6 * (gI σ30 89 ((((gI σ 88 64) + 1) + (4 * x1)) + 1))) + (gI σ30 89 ((((gI σ 88 64) + 1) + (4 * x1)) + 3)))) = (gI σ30 89 ((((gI σ 88 64) + 1) + (4 * x1)) + 2)) := (Decidable.not_not.mp q40)
            have h := hf q40
            refine ga_iconst dX12_factsAreSo_107 ?_
            refine ga_goto (tgt := 112) dX12_factsAreSo_108 (by decide) ?_
            exact kJ33 1 (by decide) (Or.inr rfl) (by rw [if_neg q34, if_pos q40])
abbrev eX12_laysFits (l : Launch) (G : gG)  (σ : gS) (Q : gS → Prop) : Prop := gEv l G mX12_laysFits [.ref (G.2.1 88)] σ Q
abbrev kX12_laysFits_7 (l : Launch) (G : gG)  (x1 : Int) (σ : gS) (Q : gS → Prop) : Prop := gAt l G mX12_laysFits (gQv G Q) 7 [(0, .ref (G.2.1 88)), (1, vI x1)] [] σ
abbrev kX12_laysFits_14 (l : Launch) (G : gG)  (x1 : Int) (x2 : Int) (σ : gS) (Q : gS → Prop) : Prop := gAt l G mX12_laysFits (gQv G Q) 14 [(0, .ref (G.2.1 88)), (1, vI x1), (2, vI x2)] [] σ
abbrev kX12_laysFits_65 (l : Launch) (G : gG)  (x1 : Int) (x2 : Int) (x3 : Int) (σ : gS) (Q : gS → Prop) : Prop := gAt l G mX12_laysFits (gQv G Q) 65 [(0, .ref (G.2.1 88)), (1, vI x1), (2, vI x2), (3, vI x3)] [] σ
set_option maxRecDepth 100000 in
set_option maxHeartbeats 4000000 in
theorem vX12_laysFits {l : Launch} {G : gG}  (σ : gS) (Q : gS → Prop) (h : ∀ σ1, σ1 = sI σ 88 65 0 →
  kX12_laysFits_7 l G  1 σ1 Q) : eX12_laysFits l G  σ Q := by
  refine ga_entry rfl (Nat.le_of_ble_eq_true rfl) ?_
  show gAt l G mX12_laysFits (gQv G Q) 0 [(0, .ref (G.2.1 88))] [] σ
  refine ga_aload_n 0 dX12_laysFits_0 rfl rfl ?_
  refine ga_iconst dX12_laysFits_1 ?_
  obtain ⟨σ1, eσ1⟩ : ∃ z, z = sI σ 88 65 0 := ⟨_, rfl⟩
  replace h := h σ1 eσ1
  refine ga_putI (kI := 65) dX12_laysFits_2 fX12_467 pX12_65 rfl rfl rfl (by decide) eσ1 ?_
  refine ga_iconst dX12_laysFits_5 ?_
  refine ga_istore_n (ls' := [(1, vI 1), (0, .ref (G.2.1 88))]) dX12_laysFits_6 rfl (by decide) rfl ?_
  exact ga_sub [1, 0] rfl h
set_option maxRecDepth 100000 in
set_option maxHeartbeats 4000000 in
theorem vX12_laysFits_7 {l : Launch} {G : gG}  (x1 : Int) (rx1 : gR x1) (σ : gS) (Q : gS → Prop) (h : (4 < x1 → Q σ) ∧
  (x1 ≤ 4 → kX12_laysFits_14 l G  x1 0 σ Q)) : kX12_laysFits_7 l G  x1 σ Q := by
  refine ga_iload_n 1 dX12_laysFits_7 rfl rfl ?_
  refine ga_iconst dX12_laysFits_8 ?_
  obtain ⟨ht, hf⟩ := h
  refine ga_icmp_gt (tgt := 125) dX12_laysFits_9 (by decide) rx1 (by decide) (fun q2 => ?_) (fun q2 => ?_)
  · replace q2 : 4 < x1 := q2
    have h := ht q2
    exact ga_vret dX12_laysFits_125 rfl h
  · replace q2 : x1 ≤ 4 := (Int.not_lt.mp q2)
    have h := hf q2
    refine ga_iconst dX12_laysFits_12 ?_
    refine ga_istore_n (ls' := [(2, vI 0), (0, .ref (G.2.1 88)), (1, vI x1)]) dX12_laysFits_13 rfl (by decide) rfl ?_
    exact ga_sub [1, 2, 0] rfl h
set_option maxRecDepth 100000 in
set_option maxHeartbeats 4000000 in
theorem vX12_laysFits_14 {l : Launch} {G : gG}  (x1 : Int) (x2 : Int) (rx1 : gR x1) (rx2 : gR x2) (σ : gS) (Q : gS → Prop) (h : ((gI σ 88 10) ≤ x2 → kX12_laysFits_7 l G  (x1 + 1) σ Q) ∧
  (x2 < (gI σ 88 10) → ∀ σ5, σ5 = sI σ 88 11 x1 →
    ∀ σ6, σ6 = sI σ5 88 13 x2 →
    eX12_goes l G 40 σ6 (fun σ7 =>
    eX12_factsAreSo l G  σ7 (fun v11 σ9 => (v11 = 0 ∨ v11 = 1) →
    (¬ v11 = 0 → (0 ≤ (gI σ9 88 65) ∧ (gI σ9 88 65) < 24) ∧ (gR ((10 * x1) + x2)) ∧ ∀ σ15, σ15 = sI σ9 130 (gI σ9 88 65) ((10 * x1) + x2) →
      kX12_laysFits_65 l G  x1 x2 0 σ15 Q) ∧
    (v11 = 0 → kX12_laysFits_14 l G  x1 (x2 + 1) σ9 Q))))) : kX12_laysFits_14 l G  x1 x2 σ Q := by
  refine ga_iload_n 2 dX12_laysFits_14 rfl rfl ?_
  refine ga_aload_n 0 dX12_laysFits_15 rfl rfl ?_
  refine ga_getI (kI := 10) dX12_laysFits_16 fX12_236 rfl rfl rfl (fun r3 => ?_)
  obtain ⟨ht, hf⟩ := h
  refine ga_icmp_ge (tgt := 119) dX12_laysFits_19 (by decide) rx2 r3 (fun q4 => ?_) (fun q4 => ?_)
  · replace q4 : (gI σ 88 10) ≤ x2 := q4
    have h := ht q4
    refine ga_iinc (ls' := [(1, vI (x1 + 1)), (0, .ref (G.2.1 88)), (2, vI x2)]) 1 dX12_laysFits_119 rfl (by decide) rfl ?_
    refine ga_goto (tgt := 7) dX12_laysFits_122 (by decide) ?_
    exact ga_sub [1, 0] rfl h
  · replace q4 : x2 < (gI σ 88 10) := (Int.not_le.mp q4)
    have h := hf q4
    refine ga_aload_n 0 dX12_laysFits_22 rfl rfl ?_
    refine ga_iload_n 1 dX12_laysFits_23 rfl rfl ?_
    obtain ⟨σ5, eσ5⟩ : ∃ z, z = sI σ 88 11 x1 := ⟨_, rfl⟩
    replace h := h σ5 eσ5
    refine ga_putI (kI := 11) dX12_laysFits_24 fX12_239 pX12_11 rfl rfl rfl rx1 eσ5 ?_
    refine ga_aload_n 0 dX12_laysFits_27 rfl rfl ?_
    refine ga_iload_n 2 dX12_laysFits_28 rfl rfl ?_
    obtain ⟨σ6, eσ6⟩ : ∃ z, z = sI σ5 88 13 x2 := ⟨_, rfl⟩
    replace h := h σ6 eσ6
    refine ga_putI (kI := 13) dX12_laysFits_29 fX12_245 pX12_13 rfl rfl rfl rx2 eσ6 ?_
    refine ga_aload_n 0 dX12_laysFits_32 rfl rfl ?_
    refine ga_bipush dX12_laysFits_33 (by decide) ?_
    refine ga_callVv (z := mX12_goes) (As := [vI 40]) (rest := []) dX12_laysFits_35 wX12_347 qX12_laysFits_X12_goes rfl ⟨_, rfl, rfl⟩ rfl rfl (Nat.le_of_ble_eq_true rfl) (gEv_mono h (fun σ7 h => ?_))
    refine ga_aload_n 0 dX12_laysFits_38 rfl rfl ?_
    refine ga_callVz (z := mX12_factsAreSo) (As := []) (rest := []) dX12_laysFits_39 wX12_470 qX12_laysFits_X12_factsAreSo rfl ⟨_, rfl, rfl⟩ rfl rfl (Nat.le_of_ble_eq_true rfl) (gEz_mono h (fun v11 σ9 h r10 => ?_))
    replace h := h r10
    obtain ⟨ht, hf⟩ := h
    refine ga_if_ne (tgt := 48) dX12_laysFits_42 (by decide) (gR_01 r10) (fun q12 => ?_) (fun q12 => ?_)
    · replace q12 : ¬ v11 = 0 := q12
      have h := ht q12
      refine ga_aload_n 0 dX12_laysFits_48 rfl rfl ?_
      refine ga_getR (kI := 66) (r := 130) dX12_laysFits_49 fX12_134 rfl rfl (by decide) rfl ?_
      refine ga_aload_n 0 dX12_laysFits_52 rfl rfl ?_
      refine ga_getI (kI := 65) dX12_laysFits_53 fX12_467 rfl rfl rfl (fun r13 => ?_)
      refine ga_bipush dX12_laysFits_56 (by decide) ?_
      refine ga_iload_n 1 dX12_laysFits_58 rfl rfl ?_
      refine ga_imul dX12_laysFits_59 ?_
      refine ga_iload_n 2 dX12_laysFits_60 rfl rfl ?_
      refine ga_iadd dX12_laysFits_61 ?_
      obtain ⟨i14, h⟩ := h
      obtain ⟨r16, h⟩ := h
      obtain ⟨σ15, eσ15⟩ : ∃ z, z = sI σ9 130 (gI σ9 88 65) ((10 * x1) + x2) := ⟨_, rfl⟩
      replace h := h σ15 eσ15
      refine ga_iast (nI := 24) dX12_laysFits_62 rfl rfl i14 r16 eσ15 ?_
      refine ga_iconst dX12_laysFits_63 ?_
      refine ga_istore_n (ls' := [(3, vI 0), (0, .ref (G.2.1 88)), (1, vI x1), (2, vI x2)]) dX12_laysFits_64 rfl (by decide) rfl ?_
      exact ga_sub [1, 2, 3, 0] rfl h
    · replace q12 : v11 = 0 := (Decidable.not_not.mp q12)
      have h := hf q12
      refine ga_goto (tgt := 113) dX12_laysFits_45 (by decide) ?_
      refine ga_iinc (ls' := [(2, vI (x2 + 1)), (0, .ref (G.2.1 88)), (1, vI x1)]) 2 dX12_laysFits_113 rfl (by decide) rfl ?_
      refine ga_goto (tgt := 14) dX12_laysFits_116 (by decide) ?_
      exact ga_sub [1, 2, 0] rfl h
set_option maxRecDepth 100000 in
set_option maxHeartbeats 4000000 in
theorem vX12_laysFits_65 {l : Launch} {G : gG}  (x1 : Int) (x2 : Int) (x3 : Int) (rx1 : gR x1) (rx2 : gR x2) (rx3 : gR x3) (σ : gS) (Q : gS → Prop) (h : (gR (6 * (gI σ 88 24))) ∧ ((6 * (gI σ 88 24)) ≤ x3 → (gR ((gI σ 88 65) + 1)) ∧ ∀ σ21, σ21 = sI σ 88 65 ((gI σ 88 65) + 1) →
    kX12_laysFits_14 l G  x1 (x2 + 1) σ21 Q) ∧
  (x3 < (6 * (gI σ 88 24)) → (0 ≤ x3 ∧ x3 < 2520) ∧ (0 ≤ ((2520 * (gI σ 88 65)) + x3) ∧ ((2520 * (gI σ 88 65)) + x3) < 60480) ∧ ∀ σ27, σ27 = sI σ 131 ((2520 * (gI σ 88 65)) + x3) (gI σ 109 x3) →
    kX12_laysFits_65 l G  x1 x2 (x3 + 1) σ27 Q)) : kX12_laysFits_65 l G  x1 x2 x3 σ Q := by
  refine ga_iload_n 3 dX12_laysFits_65 rfl rfl ?_
  refine ga_bipush dX12_laysFits_66 (by decide) ?_
  refine ga_aload_n 0 dX12_laysFits_68 rfl rfl ?_
  refine ga_getI (kI := 24) dX12_laysFits_69 fX12_257 rfl rfl rfl (fun r17 => ?_)
  refine ga_imul dX12_laysFits_72 ?_
  obtain ⟨r18, h⟩ := h
  obtain ⟨ht, hf⟩ := h
  refine ga_icmp_ge (tgt := 103) dX12_laysFits_73 (by decide) rx3 r18 (fun q19 => ?_) (fun q19 => ?_)
  · replace q19 : (6 * (gI σ 88 24)) ≤ x3 := q19
    have h := ht q19
    refine ga_aload_n 0 dX12_laysFits_103 rfl rfl ?_
    refine ga_dup dX12_laysFits_104 rfl ?_
    refine ga_getI (kI := 65) dX12_laysFits_105 fX12_467 rfl rfl rfl (fun r20 => ?_)
    refine ga_iconst dX12_laysFits_108 ?_
    refine ga_iadd dX12_laysFits_109 ?_
    obtain ⟨r22, h⟩ := h
    obtain ⟨σ21, eσ21⟩ : ∃ z, z = sI σ 88 65 ((gI σ 88 65) + 1) := ⟨_, rfl⟩
    replace h := h σ21 eσ21
    refine ga_putI (kI := 65) dX12_laysFits_110 fX12_467 pX12_65 rfl rfl rfl r22 eσ21 ?_
    refine ga_iinc (ls' := [(2, vI (x2 + 1)), (0, .ref (G.2.1 88)), (1, vI x1), (3, vI x3)]) 2 dX12_laysFits_113 rfl (by decide) rfl ?_
    refine ga_goto (tgt := 14) dX12_laysFits_116 (by decide) ?_
    exact ga_sub [1, 2, 0] rfl h
  · replace q19 : x3 < (6 * (gI σ 88 24)) := (Int.not_le.mp q19)
    have h := hf q19
    refine ga_aload_n 0 dX12_laysFits_76 rfl rfl ?_
    refine ga_getR (kI := 67) (r := 131) dX12_laysFits_77 fX12_138 rfl rfl (by decide) rfl ?_
    refine ga_sipush dX12_laysFits_80 (by decide) ?_
    refine ga_aload_n 0 dX12_laysFits_83 rfl rfl ?_
    refine ga_getI (kI := 65) dX12_laysFits_84 fX12_467 rfl rfl rfl (fun r23 => ?_)
    refine ga_imul dX12_laysFits_87 ?_
    refine ga_iload_n 3 dX12_laysFits_88 rfl rfl ?_
    refine ga_iadd dX12_laysFits_89 ?_
    refine ga_aload_n 0 dX12_laysFits_90 rfl rfl ?_
    refine ga_getR (kI := 39) (r := 109) dX12_laysFits_91 fX12_71 rfl rfl (by decide) rfl ?_
    refine ga_iload_n 3 dX12_laysFits_94 rfl rfl ?_
    obtain ⟨i24, h⟩ := h
    refine ga_iald (nI := 2520) dX12_laysFits_95 rfl rfl i24 (fun r25 => ?_)
    obtain ⟨i26, h⟩ := h
    obtain ⟨σ27, eσ27⟩ : ∃ z, z = sI σ 131 ((2520 * (gI σ 88 65)) + x3) (gI σ 109 x3) := ⟨_, rfl⟩
    replace h := h σ27 eσ27
    refine ga_iast (nI := 60480) dX12_laysFits_96 rfl rfl i26 r25 eσ27 ?_
    refine ga_iinc (ls' := [(3, vI (x3 + 1)), (0, .ref (G.2.1 88)), (1, vI x1), (2, vI x2)]) 3 dX12_laysFits_97 rfl (by decide) rfl ?_
    refine ga_goto (tgt := 65) dX12_laysFits_100 (by decide) ?_
    exact ga_sub [1, 2, 3, 0] rfl h
abbrev eX12_sureOf (l : Launch) (G : gG) (x1 : Int) (σ : gS) (Q : Int → gS → Prop) : Prop := gEi l G mX12_sureOf [.ref (G.2.1 88), vI x1] σ Q
abbrev kX12_sureOf_5 (l : Launch) (G : gG)  (x1 : Int) (x2 : Int) (x3 : Int) (σ : gS) (Q : Int → gS → Prop) : Prop := gAt l G mX12_sureOf (gQi G Q) 5 [(0, .ref (G.2.1 88)), (1, vI x1), (2, vI x2), (3, vI x3)] [] σ
set_option maxRecDepth 100000 in
set_option maxHeartbeats 4000000 in
theorem vX12_sureOf {l : Launch} {G : gG} (x1 : Int) (rx1 : gR x1) (σ : gS) (Q : Int → gS → Prop) (h : kX12_sureOf_5 l G  x1 (-2) 0 σ Q) : eX12_sureOf l G x1 σ Q := by
  refine ga_entry rfl (Nat.le_of_ble_eq_true rfl) ?_
  show gAt l G mX12_sureOf (gQi G Q) 0 [(0, .ref (G.2.1 88)), (1, vI x1)] [] σ
  refine ga_bipush dX12_sureOf_0 (by decide) ?_
  refine ga_istore_n (ls' := [(2, vI (-2)), (0, .ref (G.2.1 88)), (1, vI x1)]) dX12_sureOf_2 rfl (by decide) rfl ?_
  refine ga_iconst dX12_sureOf_3 ?_
  refine ga_istore_n (ls' := [(3, vI 0), (2, vI (-2)), (0, .ref (G.2.1 88)), (1, vI x1)]) dX12_sureOf_4 rfl (by decide) rfl ?_
  exact ga_sub [2, 3, 1, 0] rfl h
set_option maxRecDepth 100000 in
set_option maxHeartbeats 4000000 in
theorem vX12_sureOf_5 {l : Launch} {G : gG}  (x1 : Int) (x2 : Int) (x3 : Int) (rx1 : gR x1) (rx2 : gR x2) (rx3 : gR x3) (σ : gS) (Q : Int → gS → Prop) (h : ((gI σ 88 65) ≤ x3 → (∀ v5 : Int, v5 = (if x2 = (-2) then (-1) else x2) →
    Q v5 σ)) ∧
  (x3 < (gI σ 88 65) → ((x1 = 0 → (0 ≤ x3 ∧ x3 < 24) ∧ True) ∧
    (¬ x1 = 0 → (0 ≤ x3 ∧ x3 < 24) ∧ True)) ∧
    (∀ v14 : Int, v14 = (if x1 = 0 then (grem (gI σ 130 x3) 10) else (gdiv (gI σ 130 x3) 10)) →
    (∀ v18 : Int, v18 = (if x2 = (-2) then v14 else (if x2 = v14 then v14 else (-1))) →
      kX12_sureOf_5 l G  x1 v18 (x3 + 1) σ Q)))) : kX12_sureOf_5 l G  x1 x2 x3 σ Q := by
  refine ga_iload_n 3 dX12_sureOf_5 rfl rfl ?_
  refine ga_aload_n 0 dX12_sureOf_6 rfl rfl ?_
  refine ga_getI (kI := 65) dX12_sureOf_7 fX12_467 rfl rfl rfl (fun r1 => ?_)
  obtain ⟨ht, hf⟩ := h
  refine ga_icmp_ge (tgt := 65) dX12_sureOf_10 (by decide) rx3 r1 (fun q2 => ?_) (fun q2 => ?_)
  · replace q2 : (gI σ 88 65) ≤ x3 := q2
    have h := ht q2
    refine ga_iload_n 2 dX12_sureOf_65 rfl rfl ?_
    refine ga_bipush dX12_sureOf_66 (by decide) ?_
    have kJ3 : ∀ v5 : Int, gR v5 → v5 = (if x2 = (-2) then (-1) else x2) → gAt l G mX12_sureOf (gQi G Q) 76 [(0, .ref (G.2.1 88)), (1, vI x1), (2, vI x2), (3, vI x3)] [vI v5] σ := by
      intro v5 rv5 ev5
      replace h := h v5 ev5
      exact ga_iret dX12_sureOf_76 rfl rv5 h
    replace h : (¬ x2 = (-2) → True) ∧
    (x2 = (-2) → True) := by repeat (first | exact True.intro | apply And.intro | intro _)
    obtain ⟨ht, hf⟩ := h
    refine ga_icmp_ne (tgt := 75) dX12_sureOf_68 (by decide) rx2 (by decide) (fun q4 => ?_) (fun q4 => ?_)
    · replace q4 : ¬ x2 = (-2) := q4
      have h := ht q4
      refine ga_iload_n 2 dX12_sureOf_75 rfl rfl ?_
      exact kJ3 x2 rx2 (by rw [if_neg q4])
    · replace q4 : x2 = (-2) := (Decidable.not_not.mp q4)
      have h := hf q4
      refine ga_iconst dX12_sureOf_71 ?_
      refine ga_goto (tgt := 76) dX12_sureOf_72 (by decide) ?_
      exact kJ3 (-1) (by decide) (by rw [if_pos q4])
  · replace q2 : x3 < (gI σ 88 65) := (Int.not_le.mp q2)
    have h := hf q2
    refine ga_iload_n 1 dX12_sureOf_13 rfl rfl ?_
    obtain ⟨hob, h⟩ := h
    have kJ6 : ∀ v14 : Int, gR v14 → v14 = (if x1 = 0 then (grem (gI σ 130 x3) 10) else (gdiv (gI σ 130 x3) 10)) → gAt l G mX12_sureOf (gQi G Q) 38 [(0, .ref (G.2.1 88)), (1, vI x1), (2, vI x2), (3, vI x3)] [vI v14] σ := by
      intro v14 rv14 ev14
      replace h := h v14 ev14
      refine ga_istore (ls' := [(4, vI v14), (0, .ref (G.2.1 88)), (1, vI x1), (2, vI x2), (3, vI x3)]) dX12_sureOf_38 (by decide) rfl ?_
      refine ga_iload_n 3 dX12_sureOf_40 rfl rfl ?_
      refine ga_bipush dX12_sureOf_41 (by decide) ?_
      have kJ15 : ∀ v18 : Int, gR v18 → v18 = (if x2 = (-2) then v14 else (if x2 = v14 then v14 else (-1))) → gAt l G mX12_sureOf (gQi G Q) 58 [(4, vI v14), (0, .ref (G.2.1 88)), (1, vI x1), (2, vI x2), (3, vI x3)] [vI v18] σ := by
        intro v18 rv18 ev18
        replace h := h v18 ev18
        refine ga_istore_n (ls' := [(2, vI v18), (4, vI v14), (0, .ref (G.2.1 88)), (1, vI x1), (3, vI x3)]) dX12_sureOf_58 rfl (by decide) rfl ?_
        refine ga_iinc (ls' := [(3, vI (x3 + 1)), (2, vI v18), (4, vI v14), (0, .ref (G.2.1 88)), (1, vI x1)]) 4 dX12_sureOf_59 rfl (by decide) rfl ?_
        refine ga_goto (tgt := 5) dX12_sureOf_62 (by decide) ?_
        exact ga_sub [3, 4, 1, 0] rfl h
      replace h : (x2 = (-2) → True) ∧
      (¬ x2 = (-2) → (¬ x2 = v14 → True) ∧
        (x2 = v14 → True)) := by repeat (first | exact True.intro | apply And.intro | intro _)
      obtain ⟨ht, hf⟩ := h
      refine ga_icmp_eq (tgt := 52) dX12_sureOf_43 (by decide) rx2 (by decide) (fun q16 => ?_) (fun q16 => ?_)
      · replace q16 : x2 = (-2) := q16
        have h := ht q16
        refine ga_iload 0 dX12_sureOf_52 rfl ?_
        refine ga_goto (tgt := 58) dX12_sureOf_54 (by decide) ?_
        exact kJ15 v14 rv14 (by rw [if_pos q16])
      · replace q16 : ¬ x2 = (-2) := q16
        have h := hf q16
        refine ga_iload_n 3 dX12_sureOf_46 rfl rfl ?_
        refine ga_iload 0 dX12_sureOf_47 rfl ?_
        obtain ⟨ht, hf⟩ := h
        refine ga_icmp_ne (tgt := 57) dX12_sureOf_49 (by decide) rx2 rv14 (fun q17 => ?_) (fun q17 => ?_)
        · replace q17 : ¬ x2 = v14 := q17
          have h := ht q17
          refine ga_iconst dX12_sureOf_57 ?_
          exact kJ15 (-1) (by decide) (by rw [if_neg q16, if_neg q17])
        · replace q17 : x2 = v14 := (Decidable.not_not.mp q17)
          have h := hf q17
          refine ga_iload 0 dX12_sureOf_52 rfl ?_
          refine ga_goto (tgt := 58) dX12_sureOf_54 (by decide) ?_
          exact kJ15 v14 rv14 (by rw [if_neg q16, if_pos q17])
    replace h := hob
    obtain ⟨ht, hf⟩ := h
    refine ga_if_eq (tgt := 29) dX12_sureOf_14 (by decide) rx1 (fun q7 => ?_) (fun q7 => ?_)
    · replace q7 : x1 = 0 := q7
      have h := ht q7
      refine ga_aload_n 0 dX12_sureOf_29 rfl rfl ?_
      refine ga_getR (kI := 66) (r := 130) dX12_sureOf_30 fX12_134 rfl rfl (by decide) rfl ?_
      refine ga_iload_n 3 dX12_sureOf_33 rfl rfl ?_
      obtain ⟨i8, h⟩ := h
      refine ga_iald (nI := 24) dX12_sureOf_34 rfl rfl i8 (fun r9 => ?_)
      refine ga_bipush dX12_sureOf_35 (by decide) ?_
      refine ga_irem dX12_sureOf_37 (by decide) (by decide) (fun r10 => ?_)
      exact kJ6 (grem (gI σ 130 x3) 10) r10 (by rw [if_pos q7])
    · replace q7 : ¬ x1 = 0 := q7
      have h := hf q7
      refine ga_aload_n 0 dX12_sureOf_17 rfl rfl ?_
      refine ga_getR (kI := 66) (r := 130) dX12_sureOf_18 fX12_134 rfl rfl (by decide) rfl ?_
      refine ga_iload_n 3 dX12_sureOf_21 rfl rfl ?_
      obtain ⟨i11, h⟩ := h
      refine ga_iald (nI := 24) dX12_sureOf_22 rfl rfl i11 (fun r12 => ?_)
      refine ga_bipush dX12_sureOf_23 (by decide) ?_
      refine ga_idiv dX12_sureOf_25 (by decide) (by decide) (fun r13 => ?_)
      refine ga_goto (tgt := 38) dX12_sureOf_26 (by decide) ?_
      exact kJ6 (gdiv (gI σ 130 x3) 10) r13 (by rw [if_neg q7])
abbrev eX12_askOf (l : Launch) (G : gG)  (σ : gS) (Q : Int → gS → Prop) : Prop := gEi l G mX12_askOf [.ref (G.2.1 88)] σ Q
abbrev kX12_askOf_8 (l : Launch) (G : gG)  (x1 : Int) (x2 : Int) (x3 : Int) (σ : gS) (Q : Int → gS → Prop) : Prop := gAt l G mX12_askOf (gQi G Q) 8 [(0, .ref (G.2.1 88)), (1, vI x1), (2, vI x2), (3, vI x3)] [] σ
abbrev kX12_askOf_32 (l : Launch) (G : gG)  (x1 : Int) (x2 : Int) (x3 : Int) (x4 : Int) (x5 : Int) (σ : gS) (Q : Int → gS → Prop) : Prop := gAt l G mX12_askOf (gQi G Q) 32 [(0, .ref (G.2.1 88)), (1, vI x1), (2, vI x2), (3, vI x3), (4, vI x4), (5, vI x5)] [] σ
abbrev kX12_askOf_45 (l : Launch) (G : gG)  (x1 : Int) (x2 : Int) (x3 : Int) (x4 : Int) (x5 : Int) (x6 : Int) (x7 : Int) (σ : gS) (Q : Int → gS → Prop) : Prop := gAt l G mX12_askOf (gQi G Q) 45 [(0, .ref (G.2.1 88)), (1, vI x1), (2, vI x2), (3, vI x3), (4, vI x4), (5, vI x5), (6, vI x6), (7, vI x7)] [] σ
set_option maxRecDepth 100000 in
set_option maxHeartbeats 4000000 in
theorem vX12_askOf {l : Launch} {G : gG}  (σ : gS) (Q : Int → gS → Prop) (h : kX12_askOf_8 l G  (-1) 999 0 σ Q) : eX12_askOf l G  σ Q := by
  refine ga_entry rfl (Nat.le_of_ble_eq_true rfl) ?_
  show gAt l G mX12_askOf (gQi G Q) 0 [(0, .ref (G.2.1 88))] [] σ
  refine ga_iconst dX12_askOf_0 ?_
  refine ga_istore_n (ls' := [(1, vI (-1)), (0, .ref (G.2.1 88))]) dX12_askOf_1 rfl (by decide) rfl ?_
  refine ga_sipush dX12_askOf_2 (by decide) ?_
  refine ga_istore_n (ls' := [(2, vI 999), (1, vI (-1)), (0, .ref (G.2.1 88))]) dX12_askOf_5 rfl (by decide) rfl ?_
  refine ga_iconst dX12_askOf_6 ?_
  refine ga_istore_n (ls' := [(3, vI 0), (2, vI 999), (1, vI (-1)), (0, .ref (G.2.1 88))]) dX12_askOf_7 rfl (by decide) rfl ?_
  exact ga_sub [3, 2, 1, 0] rfl h
set_option maxRecDepth 100000 in
set_option maxHeartbeats 4000000 in
theorem vX12_askOf_8 {l : Launch} {G : gG}  (x1 : Int) (x2 : Int) (x3 : Int) (rx1 : gR x1) (rx2 : gR x2) (rx3 : gR x3) (σ : gS) (Q : Int → gS → Prop) (h : (gR (6 * (gI σ 88 24))) ∧ ((6 * (gI σ 88 24)) ≤ x3 → Q x1 σ) ∧
  (x3 < (6 * (gI σ 88 24)) → ((gI σ 88 65) ≤ 0 → Q x1 σ) ∧
    (0 < (gI σ 88 65) → kX12_askOf_32 l G  x1 x2 x3 0 (-1) σ Q))) : kX12_askOf_8 l G  x1 x2 x3 σ Q := by
  refine ga_iload_n 3 dX12_askOf_8 rfl rfl ?_
  refine ga_bipush dX12_askOf_9 (by decide) ?_
  refine ga_aload_n 0 dX12_askOf_11 rfl rfl ?_
  refine ga_getI (kI := 24) dX12_askOf_12 fX12_257 rfl rfl rfl (fun r1 => ?_)
  refine ga_imul dX12_askOf_15 ?_
  obtain ⟨r2, h⟩ := h
  obtain ⟨ht, hf⟩ := h
  refine ga_icmp_ge (tgt := 152) dX12_askOf_16 (by decide) rx3 r2 (fun q3 => ?_) (fun q3 => ?_)
  · replace q3 : (6 * (gI σ 88 24)) ≤ x3 := q3
    have h := ht q3
    refine ga_iload_n 1 dX12_askOf_152 rfl rfl ?_
    exact ga_iret dX12_askOf_153 rfl rx1 h
  · replace q3 : x3 < (6 * (gI σ 88 24)) := (Int.not_le.mp q3)
    have h := hf q3
    refine ga_aload_n 0 dX12_askOf_19 rfl rfl ?_
    refine ga_getI (kI := 65) dX12_askOf_20 fX12_467 rfl rfl rfl (fun r4 => ?_)
    obtain ⟨ht, hf⟩ := h
    refine ga_if_le (tgt := 152) dX12_askOf_23 (by decide) r4 (fun q5 => ?_) (fun q5 => ?_)
    · replace q5 : (gI σ 88 65) ≤ 0 := q5
      have h := ht q5
      refine ga_iload_n 1 dX12_askOf_152 rfl rfl ?_
      exact ga_iret dX12_askOf_153 rfl rx1 h
    · replace q5 : 0 < (gI σ 88 65) := (Int.not_le.mp q5)
      have h := hf q5
      refine ga_iconst dX12_askOf_26 ?_
      refine ga_istore (ls' := [(4, vI 0), (0, .ref (G.2.1 88)), (1, vI x1), (2, vI x2), (3, vI x3)]) dX12_askOf_27 (by decide) rfl ?_
      refine ga_iconst dX12_askOf_29 ?_
      refine ga_istore (ls' := [(5, vI (-1)), (4, vI 0), (0, .ref (G.2.1 88)), (1, vI x1), (2, vI x2), (3, vI x3)]) dX12_askOf_30 (by decide) rfl ?_
      exact ga_sub [2, 3, 4, 5, 1, 0] rfl h
set_option maxRecDepth 100000 in
set_option maxHeartbeats 4000000 in
theorem vX12_askOf_32 {l : Launch} {G : gG}  (x1 : Int) (x2 : Int) (x3 : Int) (x4 : Int) (x5 : Int) (rx1 : gR x1) (rx2 : gR x2) (rx3 : gR x3) (rx4 : gR x4) (rx5 : gR x5) (σ : gS) (Q : Int → gS → Prop) (h : (6 ≤ x5 → ((gI σ 88 10) ≤ (grem x3 6) → kX12_askOf_8 l G  x1 x2 (x3 + 1) σ Q) ∧
    ((grem x3 6) < (gI σ 88 10) → (x4 < x2 → kX12_askOf_8 l G  ((10 * (gdiv x3 6)) + (grem x3 6)) x4 (x3 + 1) σ Q) ∧
      (x2 ≤ x4 → kX12_askOf_8 l G  x1 x2 (x3 + 1) σ Q))) ∧
  (x5 < 6 → kX12_askOf_45 l G  x1 x2 x3 x4 x5 0 0 σ Q)) : kX12_askOf_32 l G  x1 x2 x3 x4 x5 σ Q := by
  refine ga_iload 5 dX12_askOf_32 rfl ?_
  refine ga_bipush dX12_askOf_34 (by decide) ?_
  obtain ⟨ht, hf⟩ := h
  refine ga_icmp_ge (tgt := 110) dX12_askOf_36 (by decide) rx5 (by decide) (fun q6 => ?_) (fun q6 => ?_)
  · replace q6 : 6 ≤ x5 := q6
    have h := ht q6
    refine ga_iload_n 3 dX12_askOf_110 rfl rfl ?_
    refine ga_bipush dX12_askOf_111 (by decide) ?_
    refine ga_irem dX12_askOf_113 (by decide) (by decide) (fun r7 => ?_)
    refine ga_aload_n 0 dX12_askOf_114 rfl rfl ?_
    refine ga_getI (kI := 10) dX12_askOf_115 fX12_236 rfl rfl rfl (fun r8 => ?_)
    obtain ⟨ht, hf⟩ := h
    refine ga_icmp_ge (tgt := 146) dX12_askOf_118 (by decide) r7 r8 (fun q9 => ?_) (fun q9 => ?_)
    · replace q9 : (gI σ 88 10) ≤ (grem x3 6) := q9
      have h := ht q9
      refine ga_iinc (ls' := [(3, vI (x3 + 1)), (0, .ref (G.2.1 88)), (1, vI x1), (2, vI x2), (4, vI x4), (5, vI x5)]) 3 dX12_askOf_146 rfl (by decide) rfl ?_
      refine ga_goto (tgt := 8) dX12_askOf_149 (by decide) ?_
      exact ga_sub [1, 2, 3, 0] rfl h
    · replace q9 : (grem x3 6) < (gI σ 88 10) := (Int.not_le.mp q9)
      have h := hf q9
      refine ga_iload 4 dX12_askOf_121 rfl ?_
      refine ga_iload_n 2 dX12_askOf_123 rfl rfl ?_
      obtain ⟨ht, hf⟩ := h
      refine ga_icmp_lt (tgt := 130) dX12_askOf_124 (by decide) rx4 rx2 (fun q10 => ?_) (fun q10 => ?_)
      · replace q10 : x4 < x2 := q10
        have h := ht q10
        refine ga_bipush dX12_askOf_130 (by decide) ?_
        refine ga_iload_n 3 dX12_askOf_132 rfl rfl ?_
        refine ga_bipush dX12_askOf_133 (by decide) ?_
        refine ga_idiv dX12_askOf_135 (by decide) (by decide) (fun r11 => ?_)
        refine ga_imul dX12_askOf_136 ?_
        refine ga_iload_n 3 dX12_askOf_137 rfl rfl ?_
        refine ga_bipush dX12_askOf_138 (by decide) ?_
        refine ga_irem dX12_askOf_140 (by decide) (by decide) (fun r12 => ?_)
        refine ga_iadd dX12_askOf_141 ?_
        refine ga_istore_n (ls' := [(1, vI ((10 * (gdiv x3 6)) + (grem x3 6))), (0, .ref (G.2.1 88)), (2, vI x2), (3, vI x3), (4, vI x4), (5, vI x5)]) dX12_askOf_142 rfl (by decide) rfl ?_
        refine ga_iload 4 dX12_askOf_143 rfl ?_
        refine ga_istore_n (ls' := [(2, vI x4), (1, vI ((10 * (gdiv x3 6)) + (grem x3 6))), (0, .ref (G.2.1 88)), (3, vI x3), (4, vI x4), (5, vI x5)]) dX12_askOf_145 rfl (by decide) rfl ?_
        refine ga_iinc (ls' := [(3, vI (x3 + 1)), (2, vI x4), (1, vI ((10 * (gdiv x3 6)) + (grem x3 6))), (0, .ref (G.2.1 88)), (4, vI x4), (5, vI x5)]) 3 dX12_askOf_146 rfl (by decide) rfl ?_
        refine ga_goto (tgt := 8) dX12_askOf_149 (by decide) ?_
        exact ga_sub [3, 2, 1, 0] rfl h
      · replace q10 : x2 ≤ x4 := (Int.not_lt.mp q10)
        have h := hf q10
        refine ga_goto (tgt := 146) dX12_askOf_127 (by decide) ?_
        refine ga_iinc (ls' := [(3, vI (x3 + 1)), (0, .ref (G.2.1 88)), (1, vI x1), (2, vI x2), (4, vI x4), (5, vI x5)]) 3 dX12_askOf_146 rfl (by decide) rfl ?_
        refine ga_goto (tgt := 8) dX12_askOf_149 (by decide) ?_
        exact ga_sub [1, 2, 3, 0] rfl h
  · replace q6 : x5 < 6 := (Int.not_le.mp q6)
    have h := hf q6
    refine ga_iconst dX12_askOf_39 ?_
    refine ga_istore (ls' := [(6, vI 0), (0, .ref (G.2.1 88)), (1, vI x1), (2, vI x2), (3, vI x3), (4, vI x4), (5, vI x5)]) dX12_askOf_40 (by decide) rfl ?_
    refine ga_iconst dX12_askOf_42 ?_
    refine ga_istore (ls' := [(7, vI 0), (6, vI 0), (0, .ref (G.2.1 88)), (1, vI x1), (2, vI x2), (3, vI x3), (4, vI x4), (5, vI x5)]) dX12_askOf_43 (by decide) rfl ?_
    exact ga_sub [2, 3, 4, 5, 6, 7, 1, 0] rfl h
set_option maxRecDepth 100000 in
set_option maxHeartbeats 4000000 in
theorem vX12_askOf_45 {l : Launch} {G : gG}  (x1 : Int) (x2 : Int) (x3 : Int) (x4 : Int) (x5 : Int) (x6 : Int) (x7 : Int) (rx1 : gR x1) (rx2 : gR x2) (rx3 : gR x3) (rx4 : gR x4) (rx5 : gR x5) (rx6 : gR x6) (rx7 : gR x7) (σ : gS) (Q : Int → gS → Prop) (h : ((gI σ 88 65) ≤ x7 → (∀ v17 : Int, v17 = (if x6 ≤ x4 then x4 else x6) →
    kX12_askOf_32 l G  x1 x2 x3 v17 (x5 + 1) σ Q)) ∧
  (x7 < (gI σ 88 65) → (0 ≤ ((2520 * x7) + x3) ∧ ((2520 * x7) + x3) < 60480) ∧ (∀ v22 : Int, v22 = (if (gI σ 131 ((2520 * x7) + x3)) = x5 then 1 else 0) →
    kX12_askOf_45 l G  x1 x2 x3 x4 x5 (x6 + v22) (x7 + 1) σ Q))) : kX12_askOf_45 l G  x1 x2 x3 x4 x5 x6 x7 σ Q := by
  refine ga_iload 7 dX12_askOf_45 rfl ?_
  refine ga_aload_n 0 dX12_askOf_47 rfl rfl ?_
  refine ga_getI (kI := 65) dX12_askOf_48 fX12_467 rfl rfl rfl (fun r13 => ?_)
  obtain ⟨ht, hf⟩ := h
  refine ga_icmp_ge (tgt := 88) dX12_askOf_51 (by decide) rx7 r13 (fun q14 => ?_) (fun q14 => ?_)
  · replace q14 : (gI σ 88 65) ≤ x7 := q14
    have h := ht q14
    refine ga_iload 6 dX12_askOf_88 rfl ?_
    refine ga_iload 4 dX12_askOf_90 rfl ?_
    have kJ15 : ∀ v17 : Int, gR v17 → v17 = (if x6 ≤ x4 then x4 else x6) → gAt l G mX12_askOf (gQi G Q) 102 [(0, .ref (G.2.1 88)), (1, vI x1), (2, vI x2), (3, vI x3), (4, vI x4), (5, vI x5), (6, vI x6), (7, vI x7)] [vI v17] σ := by
      intro v17 rv17 ev17
      replace h := h v17 ev17
      refine ga_istore (ls' := [(4, vI v17), (0, .ref (G.2.1 88)), (1, vI x1), (2, vI x2), (3, vI x3), (5, vI x5), (6, vI x6), (7, vI x7)]) dX12_askOf_102 (by decide) rfl ?_
      refine ga_iinc (ls' := [(5, vI (x5 + 1)), (4, vI v17), (0, .ref (G.2.1 88)), (1, vI x1), (2, vI x2), (3, vI x3), (6, vI x6), (7, vI x7)]) 5 dX12_askOf_104 rfl (by decide) rfl ?_
      refine ga_goto (tgt := 32) dX12_askOf_107 (by decide) ?_
      exact ga_sub [2, 3, 4, 5, 1, 0] rfl h
    replace h : (x6 ≤ x4 → True) ∧
    (x4 < x6 → True) := by repeat (first | exact True.intro | apply And.intro | intro _)
    obtain ⟨ht, hf⟩ := h
    refine ga_icmp_le (tgt := 100) dX12_askOf_92 (by decide) rx6 rx4 (fun q16 => ?_) (fun q16 => ?_)
    · replace q16 : x6 ≤ x4 := q16
      have h := ht q16
      refine ga_iload 4 dX12_askOf_100 rfl ?_
      exact kJ15 x4 rx4 (by rw [if_pos q16])
    · replace q16 : x4 < x6 := (Int.not_le.mp q16)
      have h := hf q16
      refine ga_iload 6 dX12_askOf_95 rfl ?_
      refine ga_goto (tgt := 102) dX12_askOf_97 (by decide) ?_
      exact kJ15 x6 rx6 (by rw [if_neg (Int.not_le.mpr q16)])
  · replace q14 : x7 < (gI σ 88 65) := (Int.not_le.mp q14)
    have h := hf q14
    refine ga_iload 6 dX12_askOf_54 rfl ?_
    refine ga_aload_n 0 dX12_askOf_56 rfl rfl ?_
    refine ga_getR (kI := 67) (r := 131) dX12_askOf_57 fX12_138 rfl rfl (by decide) rfl ?_
    refine ga_sipush dX12_askOf_60 (by decide) ?_
    refine ga_iload 7 dX12_askOf_63 rfl ?_
    refine ga_imul dX12_askOf_65 ?_
    refine ga_iload_n 3 dX12_askOf_66 rfl rfl ?_
    refine ga_iadd dX12_askOf_67 ?_
    obtain ⟨i18, h⟩ := h
    refine ga_iald (nI := 60480) dX12_askOf_68 rfl rfl i18 (fun r19 => ?_)
    refine ga_iload 5 dX12_askOf_69 rfl ?_
    have kJ20 : ∀ v22 : Int, gR v22 → (v22 = 0 ∨ v22 = 1) → v22 = (if (gI σ 131 ((2520 * x7) + x3)) = x5 then 1 else 0) → gAt l G mX12_askOf (gQi G Q) 79 [(0, .ref (G.2.1 88)), (1, vI x1), (2, vI x2), (3, vI x3), (4, vI x4), (5, vI x5), (6, vI x6), (7, vI x7)] [vI v22, vI x6] σ := by
      intro v22 rv22 bv22 ev22
      replace h := h v22 ev22
      refine ga_iadd dX12_askOf_79 ?_
      refine ga_istore (ls' := [(6, vI (x6 + v22)), (0, .ref (G.2.1 88)), (1, vI x1), (2, vI x2), (3, vI x3), (4, vI x4), (5, vI x5), (7, vI x7)]) dX12_askOf_80 (by decide) rfl ?_
      refine ga_iinc (ls' := [(7, vI (x7 + 1)), (6, vI (x6 + v22)), (0, .ref (G.2.1 88)), (1, vI x1), (2, vI x2), (3, vI x3), (4, vI x4), (5, vI x5)]) 7 dX12_askOf_82 rfl (by decide) rfl ?_
      refine ga_goto (tgt := 45) dX12_askOf_85 (by decide) ?_
      exact ga_sub [2, 3, 4, 5, 6, 7, 1, 0] rfl h
    replace h : (¬ (gI σ 131 ((2520 * x7) + x3)) = x5 → True) ∧
    ((gI σ 131 ((2520 * x7) + x3)) = x5 → True) := by repeat (first | exact True.intro | apply And.intro | intro _)
    obtain ⟨ht, hf⟩ := h
    refine ga_icmp_ne (tgt := 78) dX12_askOf_71 (by decide) r19 rx5 (fun q21 => ?_) (fun q21 => ?_)
    · replace q21 : ¬ (gI σ 131 ((2520 * x7) + x3)) = x5 := q21
      have h := ht q21
      refine ga_iconst dX12_askOf_78 ?_
      exact kJ20 0 (by decide) (Or.inl rfl) (by rw [if_neg q21])
    · replace q21 : (gI σ 131 ((2520 * x7) + x3)) = x5 := (Decidable.not_not.mp q21)
      have h := hf q21
      refine ga_iconst dX12_askOf_74 ?_
      refine ga_goto (tgt := 79) dX12_askOf_75 (by decide) ?_
      exact kJ20 1 (by decide) (Or.inr rfl) (by rw [if_pos q21])
abbrev eX12_fits (l : Launch) (G : gG) (x1 : Int) (x2 : Int) (x3 : Int) (x4 : Int) (σ : gS) (Q : Int → gS → Prop) : Prop := gEi l G mX12_fits [.ref (G.2.1 88), vI x1, vI x2, vI x3, vI x4] σ Q
set_option maxRecDepth 100000 in
set_option maxHeartbeats 4000000 in
theorem vX12_fits {l : Launch} {G : gG} (x1 : Int) (x2 : Int) (x3 : Int) (x4 : Int) (rx1 : gR x1) (rx2 : gR x2) (rx3 : gR x3) (rx4 : gR x4) (σ : gS) (Q : Int → gS → Prop) (h : eX12_isCrossbar l G x1 σ (fun v3 σ1 => (v3 = 0 ∨ v3 = 1) →
  (v3 = 0 → Q (-2) σ1) ∧
  (¬ v3 = 0 → eX12_isTraffic l G x2 σ1 (fun v7 σ5 => (v7 = 0 ∨ v7 = 1) →
    (v7 = 0 → Q (-2) σ5) ∧
    (¬ v7 = 0 → eX12_isLog l G x3 σ5 (fun v11 σ9 => (v11 = 0 ∨ v11 = 1) →
      (v11 = 0 → Q (-2) σ9) ∧
      (¬ v11 = 0 → (x4 < 0 → Q (-2) σ9) ∧
        (0 ≤ x4 → eX12_isIn l G x4 4 9 σ9 (fun v16 σ14 => (v16 = 0 ∨ v16 = 1) →
          (v16 = 0 → eX12_laysFits l G  σ14 (fun σ18 =>
            (x4 = 0 → Q (gI σ18 88 65) σ18) ∧
            (x4 = 1 → (∀ v23 : Int, v23 = (if x4 = 1 then 1 else 0) →
              eX12_sureOf l G v23 σ18 (fun v26 σ24 => gR v26 →
                Q v26 σ24))) ∧
            (x4 = 2 → (∀ v29 : Int, v29 = (if x4 = 1 then 1 else 0) →
              eX12_sureOf l G v29 σ18 (fun v32 σ30 => gR v32 →
                Q v32 σ30))) ∧
            (x4 = 3 → eX12_askOf l G  σ18 (fun v35 σ33 => gR v35 →
              Q v35 σ33)) ∧
            ((x4 < 0 ∨ 3 < x4) → ((gR (x4 - 10)) ∧ ((gI σ18 88 65) ≤ (x4 - 10) → True) ∧
              ((x4 - 10) < (gI σ18 88 65) → (0 ≤ (x4 - 10) ∧ (x4 - 10) < 24) ∧ True)) ∧
              (∀ v42 : Int, v42 = (if (gI σ18 88 65) ≤ (x4 - 10) then (-2) else (gI σ18 130 (x4 - 10))) →
              Q v42 σ18)))) ∧
          (¬ v16 = 0 → Q (-2) σ14)))))))))) : eX12_fits l G x1 x2 x3 x4 σ Q := by
  refine ga_entry rfl (Nat.le_of_ble_eq_true rfl) ?_
  show gAt l G mX12_fits (gQi G Q) 0 [(0, .ref (G.2.1 88)), (1, vI x1), (2, vI x2), (3, vI x3), (4, vI x4)] [] σ
  refine ga_aload_n 0 dX12_fits_0 rfl rfl ?_
  refine ga_iload_n 1 dX12_fits_1 rfl rfl ?_
  refine ga_callVz (z := mX12_isCrossbar) (As := [vI x1]) (rest := []) dX12_fits_2 wX12_344 qX12_fits_X12_isCrossbar rfl ⟨_, rfl, rfl⟩ rfl rfl (Nat.le_of_ble_eq_true rfl) (gEz_mono h (fun v3 σ1 h r2 => ?_))
  replace h := h r2
  obtain ⟨ht, hf⟩ := h
  refine ga_if_eq (tgt := 40) dX12_fits_5 (by decide) (gR_01 r2) (fun q4 => ?_) (fun q4 => ?_)
  · replace q4 : v3 = 0 := q4
    have h := ht q4
    refine ga_bipush dX12_fits_40 (by decide) ?_
    exact ga_iret dX12_fits_42 rfl (by decide) h
  · replace q4 : ¬ v3 = 0 := q4
    have h := hf q4
    refine ga_aload_n 0 dX12_fits_8 rfl rfl ?_
    refine ga_iload_n 2 dX12_fits_9 rfl rfl ?_
    refine ga_callVz (z := mX12_isTraffic) (As := [vI x2]) (rest := []) dX12_fits_10 wX12_251 qX12_fits_X12_isTraffic rfl ⟨_, rfl, rfl⟩ rfl rfl (Nat.le_of_ble_eq_true rfl) (gEz_mono h (fun v7 σ5 h r6 => ?_))
    replace h := h r6
    obtain ⟨ht, hf⟩ := h
    refine ga_if_eq (tgt := 40) dX12_fits_13 (by decide) (gR_01 r6) (fun q8 => ?_) (fun q8 => ?_)
    · replace q8 : v7 = 0 := q8
      have h := ht q8
      refine ga_bipush dX12_fits_40 (by decide) ?_
      exact ga_iret dX12_fits_42 rfl (by decide) h
    · replace q8 : ¬ v7 = 0 := q8
      have h := hf q8
      refine ga_aload_n 0 dX12_fits_16 rfl rfl ?_
      refine ga_iload_n 3 dX12_fits_17 rfl rfl ?_
      refine ga_callVz (z := mX12_isLog) (As := [vI x3]) (rest := []) dX12_fits_18 wX12_464 qX12_fits_X12_isLog rfl ⟨_, rfl, rfl⟩ rfl rfl (Nat.le_of_ble_eq_true rfl) (gEz_mono h (fun v11 σ9 h r10 => ?_))
      replace h := h r10
      obtain ⟨ht, hf⟩ := h
      refine ga_if_eq (tgt := 40) dX12_fits_21 (by decide) (gR_01 r10) (fun q12 => ?_) (fun q12 => ?_)
      · replace q12 : v11 = 0 := q12
        have h := ht q12
        refine ga_bipush dX12_fits_40 (by decide) ?_
        exact ga_iret dX12_fits_42 rfl (by decide) h
      · replace q12 : ¬ v11 = 0 := q12
        have h := hf q12
        refine ga_iload 4 dX12_fits_24 rfl ?_
        obtain ⟨ht, hf⟩ := h
        refine ga_if_lt (tgt := 40) dX12_fits_26 (by decide) rx4 (fun q13 => ?_) (fun q13 => ?_)
        · replace q13 : x4 < 0 := q13
          have h := ht q13
          refine ga_bipush dX12_fits_40 (by decide) ?_
          exact ga_iret dX12_fits_42 rfl (by decide) h
        · replace q13 : 0 ≤ x4 := (Int.not_lt.mp q13)
          have h := hf q13
          refine ga_iload 4 dX12_fits_29 rfl ?_
          refine ga_iconst dX12_fits_31 ?_
          refine ga_bipush dX12_fits_32 (by decide) ?_
          refine ga_callSz (z := mX12_isIn) (As := [vI x4, vI 4, vI 9]) (rest := []) dX12_fits_34 wX12_196 qX12_fits_X12_isIn rfl rfl (Nat.le_of_ble_eq_true rfl) (gEz_mono h (fun v16 σ14 h r15 => ?_))
          replace h := h r15
          obtain ⟨ht, hf⟩ := h
          refine ga_if_eq (tgt := 43) dX12_fits_37 (by decide) (gR_01 r15) (fun q17 => ?_) (fun q17 => ?_)
          · replace q17 : v16 = 0 := q17
            have h := ht q17
            refine ga_aload_n 0 dX12_fits_43 rfl rfl ?_
            refine ga_callVv (z := mX12_laysFits) (As := []) (rest := []) dX12_fits_44 wX12_474 qX12_fits_X12_laysFits rfl ⟨_, rfl, rfl⟩ rfl rfl (Nat.le_of_ble_eq_true rfl) (gEv_mono h (fun σ18 h => ?_))
            refine ga_iload 4 dX12_fits_47 rfl ?_
            obtain ⟨hc43, hc44, hc45, hc46, hd⟩ := h
            by_cases q47 : x4 = 0
            · refine ga_tableIn (tgt := 80) (v := 0) dX12_fits_49 q47 (by decide) rfl (by decide) ?_
              have h := hc43 q47
              refine ga_aload_n 0 dX12_fits_80 rfl rfl ?_
              refine ga_getI (kI := 65) dX12_fits_81 fX12_467 rfl rfl rfl (fun r20 => ?_)
              exact ga_iret dX12_fits_84 rfl r20 h
            by_cases q48 : x4 = 1
            · refine ga_tableIn (tgt := 85) (v := 1) dX12_fits_49 q48 (by decide) rfl (by decide) ?_
              have h := hc44 q48
              refine ga_aload_n 0 dX12_fits_85 rfl rfl ?_
              refine ga_iload 4 dX12_fits_86 rfl ?_
              refine ga_iconst dX12_fits_88 ?_
              have kJ21 : ∀ v23 : Int, gR v23 → (v23 = 0 ∨ v23 = 1) → v23 = (if x4 = 1 then 1 else 0) → gAt l G mX12_fits (gQi G Q) 97 [(0, .ref (G.2.1 88)), (1, vI x1), (2, vI x2), (3, vI x3), (4, vI x4)] [vI v23, .ref (G.2.1 88)] σ18 := by
                intro v23 rv23 bv23 ev23
                replace h := h v23 ev23
                refine ga_callVi (z := mX12_sureOf) (As := [vI v23]) (rest := []) dX12_fits_97 wX12_477 qX12_fits_X12_sureOf rfl ⟨_, rfl, rfl⟩ rfl rfl (Nat.le_of_ble_eq_true rfl) (gEi_mono h (fun v26 σ24 h r25 => ?_))
                replace h := h r25
                exact ga_iret dX12_fits_100 rfl r25 h
              replace h : (¬ x4 = 1 → True) ∧
              (x4 = 1 → True) := by repeat (first | exact True.intro | apply And.intro | intro _)
              obtain ⟨ht, hf⟩ := h
              refine ga_icmp_ne (tgt := 96) dX12_fits_89 (by decide) rx4 (by decide) (fun q22 => ?_) (fun q22 => ?_)
              · replace q22 : ¬ x4 = 1 := q22
                have h := ht q22
                refine ga_iconst dX12_fits_96 ?_
                exact kJ21 0 (by decide) (Or.inl rfl) (by rw [if_neg q22])
              · replace q22 : x4 = 1 := (Decidable.not_not.mp q22)
                have h := hf q22
                refine ga_iconst dX12_fits_92 ?_
                refine ga_goto (tgt := 97) dX12_fits_93 (by decide) ?_
                exact kJ21 1 (by decide) (Or.inr rfl) (by rw [if_pos q22])
            by_cases q49 : x4 = 2
            · refine ga_tableIn (tgt := 85) (v := 2) dX12_fits_49 q49 (by decide) rfl (by decide) ?_
              have h := hc45 q49
              refine ga_aload_n 0 dX12_fits_85 rfl rfl ?_
              refine ga_iload 4 dX12_fits_86 rfl ?_
              refine ga_iconst dX12_fits_88 ?_
              have kJ27 : ∀ v29 : Int, gR v29 → (v29 = 0 ∨ v29 = 1) → v29 = (if x4 = 1 then 1 else 0) → gAt l G mX12_fits (gQi G Q) 97 [(0, .ref (G.2.1 88)), (1, vI x1), (2, vI x2), (3, vI x3), (4, vI x4)] [vI v29, .ref (G.2.1 88)] σ18 := by
                intro v29 rv29 bv29 ev29
                replace h := h v29 ev29
                refine ga_callVi (z := mX12_sureOf) (As := [vI v29]) (rest := []) dX12_fits_97 wX12_477 qX12_fits_X12_sureOf rfl ⟨_, rfl, rfl⟩ rfl rfl (Nat.le_of_ble_eq_true rfl) (gEi_mono h (fun v32 σ30 h r31 => ?_))
                replace h := h r31
                exact ga_iret dX12_fits_100 rfl r31 h
              replace h : (¬ x4 = 1 → True) ∧
              (x4 = 1 → True) := by repeat (first | exact True.intro | apply And.intro | intro _)
              obtain ⟨ht, hf⟩ := h
              refine ga_icmp_ne (tgt := 96) dX12_fits_89 (by decide) rx4 (by decide) (fun q28 => ?_) (fun q28 => ?_)
              · replace q28 : ¬ x4 = 1 := q28
                have h := ht q28
                refine ga_iconst dX12_fits_96 ?_
                exact kJ27 0 (by decide) (Or.inl rfl) (by rw [if_neg q28])
              · replace q28 : x4 = 1 := (Decidable.not_not.mp q28)
                have h := hf q28
                refine ga_iconst dX12_fits_92 ?_
                refine ga_goto (tgt := 97) dX12_fits_93 (by decide) ?_
                exact kJ27 1 (by decide) (Or.inr rfl) (by rw [if_pos q28])
            by_cases q50 : x4 = 3
            · refine ga_tableIn (tgt := 101) (v := 3) dX12_fits_49 q50 (by decide) rfl (by decide) ?_
              have h := hc46 q50
              refine ga_aload_n 0 dX12_fits_101 rfl rfl ?_
              refine ga_callVi (z := mX12_askOf) (As := []) (rest := []) dX12_fits_102 wX12_481 qX12_fits_X12_askOf rfl ⟨_, rfl, rfl⟩ rfl rfl (Nat.le_of_ble_eq_true rfl) (gEi_mono h (fun v35 σ33 h r34 => ?_))
              replace h := h r34
              exact ga_iret dX12_fits_105 rfl r34 h
            have hdc : (x4 < 0 ∨ 3 < x4) := by omega
            have h := hd hdc
            refine ga_tableOut (tgt := 106) dX12_fits_49 rx4 hdc (by decide) ?_
            refine ga_iload 4 dX12_fits_106 rfl ?_
            refine ga_bipush dX12_fits_108 (by decide) ?_
            refine ga_isub dX12_fits_110 ?_
            refine ga_aload_n 0 dX12_fits_111 rfl rfl ?_
            refine ga_getI (kI := 65) dX12_fits_112 fX12_467 rfl rfl rfl (fun r36 => ?_)
            obtain ⟨hob, h⟩ := h
            have kJ37 : ∀ v42 : Int, gR v42 → v42 = (if (gI σ18 88 65) ≤ (x4 - 10) then (-2) else (gI σ18 130 (x4 - 10))) → gAt l G mX12_fits (gQi G Q) 133 [(0, .ref (G.2.1 88)), (1, vI x1), (2, vI x2), (3, vI x3), (4, vI x4)] [vI v42] σ18 := by
              intro v42 rv42 ev42
              replace h := h v42 ev42
              exact ga_iret dX12_fits_133 rfl rv42 h
            replace h := hob
            obtain ⟨r38, h⟩ := h
            obtain ⟨ht, hf⟩ := h
            refine ga_icmp_ge (tgt := 131) dX12_fits_115 (by decide) r38 r36 (fun q39 => ?_) (fun q39 => ?_)
            · replace q39 : (gI σ18 88 65) ≤ (x4 - 10) := q39
              have h := ht q39
              refine ga_bipush dX12_fits_131 (by decide) ?_
              exact kJ37 (-2) (by decide) (by rw [if_pos q39])
            · replace q39 : (x4 - 10) < (gI σ18 88 65) := (Int.not_le.mp q39)
              have h := hf q39
              refine ga_aload_n 0 dX12_fits_118 rfl rfl ?_
              refine ga_getR (kI := 66) (r := 130) dX12_fits_119 fX12_134 rfl rfl (by decide) rfl ?_
              refine ga_iload 4 dX12_fits_122 rfl ?_
              refine ga_bipush dX12_fits_124 (by decide) ?_
              refine ga_isub dX12_fits_126 ?_
              obtain ⟨i40, h⟩ := h
              refine ga_iald (nI := 24) dX12_fits_127 rfl rfl i40 (fun r41 => ?_)
              refine ga_goto (tgt := 133) dX12_fits_128 (by decide) ?_
              exact kJ37 (gI σ18 130 (x4 - 10)) r41 (by rw [if_neg (Int.not_le.mpr q39)])
          · replace q17 : ¬ v16 = 0 := q17
            have h := hf q17
            refine ga_bipush dX12_fits_40 (by decide) ?_
            exact ga_iret dX12_fits_42 rfl (by decide) h
abbrev eX12_below (l : Launch) (G : gG) (x1 : Int) (σ : gS) (Q : Int → gS → Prop) : Prop := gEi l G mX12_below [.ref (G.2.1 88), vI x1] σ Q
set_option maxRecDepth 100000 in
set_option maxHeartbeats 4000000 in
theorem vX12_below {l : Launch} {G : gG} (x1 : Int) (rx1 : gR x1) (σ : gS) (Q : Int → gS → Prop) (h : (gR (((gI σ 88 68) * 1103515245) + 12345)) ∧ ∀ σ2, σ2 = sI σ 88 68 (((gI σ 88 68) * 1103515245) + 12345) →
  (x1 ≠ 0) ∧ Q (grem (gushr (gI σ2 88 68) 16) x1) σ2) : eX12_below l G x1 σ Q := by
  refine ga_entry rfl (Nat.le_of_ble_eq_true rfl) ?_
  show gAt l G mX12_below (gQi G Q) 0 [(0, .ref (G.2.1 88)), (1, vI x1)] [] σ
  refine ga_aload_n 0 dX12_below_0 rfl rfl ?_
  refine ga_aload_n 0 dX12_below_1 rfl rfl ?_
  refine ga_getI (kI := 68) dX12_below_2 fX12_484 rfl rfl rfl (fun r1 => ?_)
  refine ga_ldcw (n := 1103515245) dX12_below_5 wX12_487 (by decide) ?_
  refine ga_imul dX12_below_8 ?_
  refine ga_sipush dX12_below_9 (by decide) ?_
  refine ga_iadd dX12_below_12 ?_
  obtain ⟨r3, h⟩ := h
  obtain ⟨σ2, eσ2⟩ : ∃ z, z = sI σ 88 68 (((gI σ 88 68) * 1103515245) + 12345) := ⟨_, rfl⟩
  replace h := h σ2 eσ2
  refine ga_putI (kI := 68) dX12_below_13 fX12_484 pX12_68 rfl rfl rfl r3 eσ2 ?_
  refine ga_aload_n 0 dX12_below_16 rfl rfl ?_
  refine ga_getI (kI := 68) dX12_below_17 fX12_484 rfl rfl rfl (fun r4 => ?_)
  refine ga_bipush dX12_below_20 (by decide) ?_
  refine ga_iushr dX12_below_22 (fun r5 => ?_)
  refine ga_iload_n 1 dX12_below_23 rfl rfl ?_
  obtain ⟨o6, h⟩ := h
  refine ga_irem dX12_below_24 rx1 o6 (fun r7 => ?_)
  exact ga_iret dX12_below_25 rfl r7 h
abbrev eX12_draws (l : Launch) (G : gG)  (σ : gS) (Q : gS → Prop) : Prop := gEv l G mX12_draws [.ref (G.2.1 88)] σ Q
set_option maxRecDepth 100000 in
set_option maxHeartbeats 4000000 in
theorem vX12_draws {l : Launch} {G : gG}  (σ : gS) (Q : gS → Prop) (h : eX12_below l G 8 σ (fun v3 σ1 => gR v3 →
  (v3 ≤ 5 → eX12_below l G (gI σ1 88 10) σ1 (fun v8 σ6 => gR v8 →
    ((4 ≤ v3 → (gR (v3 - 1)) ∧ True) ∧
    (v3 < 4 → True)) ∧
    (∀ v12 : Int, v12 = (if 4 ≤ v3 then (v3 - 1) else 2) →
    (4 ≤ v3 → eX12_below l G ((gshl 1 (gI σ6 88 10)) - 1) σ6 (fun v18 σ16 => gR v18 →
        eX12_can l G v12 v8 (1 + v18) σ16 (fun v21 σ19 => (v21 = 0 ∨ v21 = 1) →
        (v21 = 0 → Q σ19) ∧
        (¬ v21 = 0 → eX12_does l G v12 v8 (1 + v18) σ19 (fun σ23 =>
          Q σ23))))) ∧
      (v3 < 4 → eX12_below l G (gI σ6 88 10) σ6 (fun v28 σ26 => gR v28 →
        eX12_can l G v12 v8 v28 σ26 (fun v31 σ29 => (v31 = 0 ∨ v31 = 1) →
        (v31 = 0 → Q σ29) ∧
        (¬ v31 = 0 → eX12_does l G v12 v8 v28 σ29 (fun σ33 =>
          Q σ33)))))))) ∧
  (5 < v3 → eX12_does l G 0 (-1) (-1) σ1 (fun σ35 =>
    Q σ35)))) : eX12_draws l G  σ Q := by
  refine ga_entry rfl (Nat.le_of_ble_eq_true rfl) ?_
  show gAt l G mX12_draws (gQv G Q) 0 [(0, .ref (G.2.1 88))] [] σ
  refine ga_aload_n 0 dX12_draws_0 rfl rfl ?_
  refine ga_bipush dX12_draws_1 (by decide) ?_
  refine ga_callVi (z := mX12_below) (As := [vI 8]) (rest := []) dX12_draws_3 wX12_488 qX12_draws_X12_below rfl ⟨_, rfl, rfl⟩ rfl rfl (Nat.le_of_ble_eq_true rfl) (gEi_mono h (fun v3 σ1 h r2 => ?_))
  replace h := h r2
  refine ga_istore_n (ls' := [(1, vI v3), (0, .ref (G.2.1 88))]) dX12_draws_6 rfl (by decide) rfl ?_
  refine ga_iload_n 0 dX12_draws_7 rfl rfl ?_
  refine ga_iconst dX12_draws_8 ?_
  obtain ⟨ht, hf⟩ := h
  refine ga_icmp_le (tgt := 20) dX12_draws_9 (by decide) r2 (by decide) (fun q4 => ?_) (fun q4 => ?_)
  · replace q4 : v3 ≤ 5 := q4
    have h := ht q4
    refine ga_aload_n 1 dX12_draws_20 rfl rfl ?_
    refine ga_aload_n 1 dX12_draws_21 rfl rfl ?_
    refine ga_getI (kI := 10) dX12_draws_22 fX12_236 rfl rfl rfl (fun r5 => ?_)
    refine ga_callVi (z := mX12_below) (As := [vI (gI σ1 88 10)]) (rest := []) dX12_draws_25 wX12_488 qX12_draws_X12_below rfl ⟨_, rfl, rfl⟩ rfl rfl (Nat.le_of_ble_eq_true rfl) (gEi_mono h (fun v8 σ6 h r7 => ?_))
    replace h := h r7
    refine ga_istore_n (ls' := [(2, vI v8), (1, vI v3), (0, .ref (G.2.1 88))]) dX12_draws_28 rfl (by decide) rfl ?_
    refine ga_iload_n 1 dX12_draws_29 rfl rfl ?_
    refine ga_iconst dX12_draws_30 ?_
    obtain ⟨hob, h⟩ := h
    have kJ9 : ∀ v12 : Int, gR v12 → v12 = (if 4 ≤ v3 then (v3 - 1) else 2) → gAt l G mX12_draws (gQv G Q) 41 [(2, vI v8), (1, vI v3), (0, .ref (G.2.1 88))] [vI v12] σ6 := by
      intro v12 rv12 ev12
      replace h := h v12 ev12
      refine ga_istore_n (ls' := [(3, vI v12), (2, vI v8), (1, vI v3), (0, .ref (G.2.1 88))]) dX12_draws_41 rfl (by decide) rfl ?_
      refine ga_iload_n 2 dX12_draws_42 rfl rfl ?_
      refine ga_iconst dX12_draws_43 ?_
      obtain ⟨ht, hf⟩ := h
      refine ga_icmp_ge (tgt := 58) dX12_draws_44 (by decide) r2 (by decide) (fun q13 => ?_) (fun q13 => ?_)
      · replace q13 : 4 ≤ v3 := q13
        have h := ht q13
        refine ga_iconst dX12_draws_58 ?_
        refine ga_aload_n 3 dX12_draws_59 rfl rfl ?_
        refine ga_iconst dX12_draws_60 ?_
        refine ga_aload_n 3 dX12_draws_61 rfl rfl ?_
        refine ga_getI (kI := 10) dX12_draws_62 fX12_236 rfl rfl rfl (fun r14 => ?_)
        refine ga_ishl dX12_draws_65 (fun r15 => ?_)
        refine ga_iconst dX12_draws_66 ?_
        refine ga_isub dX12_draws_67 ?_
        refine ga_callVi (z := mX12_below) (As := [vI ((gshl 1 (gI σ6 88 10)) - 1)]) (rest := [vI 1]) dX12_draws_68 wX12_488 qX12_draws_X12_below rfl ⟨_, rfl, rfl⟩ rfl rfl (Nat.le_of_ble_eq_true rfl) (gEi_mono h (fun v18 σ16 h r17 => ?_))
        replace h := h r17
        refine ga_iadd dX12_draws_71 ?_
        refine ga_istore (ls' := [(4, vI (1 + v18)), (3, vI v12), (2, vI v8), (1, vI v3), (0, .ref (G.2.1 88))]) dX12_draws_72 (by decide) rfl ?_
        refine ga_aload_n 4 dX12_draws_74 rfl rfl ?_
        refine ga_iload_n 1 dX12_draws_75 rfl rfl ?_
        refine ga_iload_n 2 dX12_draws_76 rfl rfl ?_
        refine ga_iload 0 dX12_draws_77 rfl ?_
        refine ga_callVz (z := mX12_can) (As := [vI v12, vI v8, vI (1 + v18)]) (rest := []) dX12_draws_79 wX12_337 qX12_draws_X12_can rfl ⟨_, rfl, rfl⟩ rfl rfl (Nat.le_of_ble_eq_true rfl) (gEz_mono h (fun v21 σ19 h r20 => ?_))
        replace h := h r20
        obtain ⟨ht, hf⟩ := h
        refine ga_if_eq (tgt := 93) dX12_draws_82 (by decide) (gR_01 r20) (fun q22 => ?_) (fun q22 => ?_)
        · replace q22 : v21 = 0 := q22
          have h := ht q22
          exact ga_vret dX12_draws_93 rfl h
        · replace q22 : ¬ v21 = 0 := q22
          have h := hf q22
          refine ga_aload_n 4 dX12_draws_85 rfl rfl ?_
          refine ga_iload_n 1 dX12_draws_86 rfl rfl ?_
          refine ga_iload_n 2 dX12_draws_87 rfl rfl ?_
          refine ga_iload 0 dX12_draws_88 rfl ?_
          refine ga_callVv (z := mX12_does) (As := [vI v12, vI v8, vI (1 + v18)]) (rest := []) dX12_draws_90 wX12_340 qX12_draws_X12_does rfl ⟨_, rfl, rfl⟩ rfl rfl (Nat.le_of_ble_eq_true rfl) (gEv_mono h (fun σ23 h => ?_))
          exact ga_vret dX12_draws_93 rfl h
      · replace q13 : v3 < 4 := (Int.not_le.mp q13)
        have h := hf q13
        refine ga_aload_n 3 dX12_draws_47 rfl rfl ?_
        refine ga_aload_n 3 dX12_draws_48 rfl rfl ?_
        refine ga_getI (kI := 10) dX12_draws_49 fX12_236 rfl rfl rfl (fun r25 => ?_)
        refine ga_callVi (z := mX12_below) (As := [vI (gI σ6 88 10)]) (rest := []) dX12_draws_52 wX12_488 qX12_draws_X12_below rfl ⟨_, rfl, rfl⟩ rfl rfl (Nat.le_of_ble_eq_true rfl) (gEi_mono h (fun v28 σ26 h r27 => ?_))
        replace h := h r27
        refine ga_goto (tgt := 72) dX12_draws_55 (by decide) ?_
        refine ga_istore (ls' := [(4, vI v28), (3, vI v12), (2, vI v8), (1, vI v3), (0, .ref (G.2.1 88))]) dX12_draws_72 (by decide) rfl ?_
        refine ga_aload_n 4 dX12_draws_74 rfl rfl ?_
        refine ga_iload_n 1 dX12_draws_75 rfl rfl ?_
        refine ga_iload_n 2 dX12_draws_76 rfl rfl ?_
        refine ga_iload 0 dX12_draws_77 rfl ?_
        refine ga_callVz (z := mX12_can) (As := [vI v12, vI v8, vI v28]) (rest := []) dX12_draws_79 wX12_337 qX12_draws_X12_can rfl ⟨_, rfl, rfl⟩ rfl rfl (Nat.le_of_ble_eq_true rfl) (gEz_mono h (fun v31 σ29 h r30 => ?_))
        replace h := h r30
        obtain ⟨ht, hf⟩ := h
        refine ga_if_eq (tgt := 93) dX12_draws_82 (by decide) (gR_01 r30) (fun q32 => ?_) (fun q32 => ?_)
        · replace q32 : v31 = 0 := q32
          have h := ht q32
          exact ga_vret dX12_draws_93 rfl h
        · replace q32 : ¬ v31 = 0 := q32
          have h := hf q32
          refine ga_aload_n 4 dX12_draws_85 rfl rfl ?_
          refine ga_iload_n 1 dX12_draws_86 rfl rfl ?_
          refine ga_iload_n 2 dX12_draws_87 rfl rfl ?_
          refine ga_iload 0 dX12_draws_88 rfl ?_
          refine ga_callVv (z := mX12_does) (As := [vI v12, vI v8, vI v28]) (rest := []) dX12_draws_90 wX12_340 qX12_draws_X12_does rfl ⟨_, rfl, rfl⟩ rfl rfl (Nat.le_of_ble_eq_true rfl) (gEv_mono h (fun σ33 h => ?_))
          exact ga_vret dX12_draws_93 rfl h
    replace h := hob
    obtain ⟨ht, hf⟩ := h
    refine ga_icmp_ge (tgt := 38) dX12_draws_31 (by decide) r2 (by decide) (fun q10 => ?_) (fun q10 => ?_)
    · replace q10 : 4 ≤ v3 := q10
      have h := ht q10
      refine ga_iload_n 1 dX12_draws_38 rfl rfl ?_
      refine ga_iconst dX12_draws_39 ?_
      refine ga_isub dX12_draws_40 ?_
      obtain ⟨r11, h⟩ := h
      exact kJ9 (v3 - 1) r11 (by rw [if_pos q10])
    · replace q10 : v3 < 4 := (Int.not_le.mp q10)
      have h := hf q10
      refine ga_iconst dX12_draws_34 ?_
      refine ga_goto (tgt := 41) dX12_draws_35 (by decide) ?_
      exact kJ9 2 (by decide) (by rw [if_neg (Int.not_le.mpr q10)])
  · replace q4 : 5 < v3 := (Int.not_le.mp q4)
    have h := hf q4
    refine ga_aload_n 1 dX12_draws_12 rfl rfl ?_
    refine ga_iconst dX12_draws_13 ?_
    refine ga_iconst dX12_draws_14 ?_
    refine ga_iconst dX12_draws_15 ?_
    refine ga_callVv (z := mX12_does) (As := [vI 0, vI (-1), vI (-1)]) (rest := []) dX12_draws_16 wX12_340 qX12_draws_X12_does rfl ⟨_, rfl, rfl⟩ rfl rfl (Nat.le_of_ble_eq_true rfl) (gEv_mono h (fun σ35 h => ?_))
    exact ga_vret dX12_draws_19 rfl h
abbrev eX12_drawn (l : Launch) (G : gG) (x1 : Int) (x2 : Int) (x3 : Int) (x4 : Int) (σ : gS) (Q : Int → gS → Prop) : Prop := gEi l G mX12_drawn [.ref (G.2.1 88), vI x1, vI x2, vI x3, vI x4] σ Q
abbrev kX12_drawn_38 (l : Launch) (G : gG)  (x1 : Int) (x2 : Int) (x3 : Int) (x4 : Int) (x5 : Int) (σ : gS) (Q : Int → gS → Prop) : Prop := gAt l G mX12_drawn (gQi G Q) 38 [(0, .ref (G.2.1 88)), (1, vI x1), (2, vI x2), (3, vI x3), (4, vI x4), (5, vI x5)] [] σ
set_option maxRecDepth 100000 in
set_option maxHeartbeats 4000000 in
theorem vX12_drawn {l : Launch} {G : gG} (x1 : Int) (x2 : Int) (x3 : Int) (x4 : Int) (rx1 : gR x1) (rx2 : gR x2) (rx3 : gR x3) (rx4 : gR x4) (σ : gS) (Q : Int → gS → Prop) (h : eX12_isCrossbar l G x1 σ (fun v3 σ1 => (v3 = 0 ∨ v3 = 1) →
  (v3 = 0 → Q (-2) σ1) ∧
  (¬ v3 = 0 → eX12_isIn l G x3 0 60 σ1 (fun v7 σ5 => (v7 = 0 ∨ v7 = 1) →
    (v7 = 0 → Q (-2) σ5) ∧
    (¬ v7 = 0 → (0 ≤ x4 → eX12_begins l G  σ5 (fun σ10 =>
        ∀ σ12, σ12 = sI σ10 88 68 x2 →
        kX12_drawn_38 l G  x1 x2 x3 x4 0 σ12 Q)) ∧
      (x4 < 0 → Q (-2) σ5)))))) : eX12_drawn l G x1 x2 x3 x4 σ Q := by
  refine ga_entry rfl (Nat.le_of_ble_eq_true rfl) ?_
  show gAt l G mX12_drawn (gQi G Q) 0 [(0, .ref (G.2.1 88)), (1, vI x1), (2, vI x2), (3, vI x3), (4, vI x4)] [] σ
  refine ga_aload_n 0 dX12_drawn_0 rfl rfl ?_
  refine ga_iload_n 1 dX12_drawn_1 rfl rfl ?_
  refine ga_callVz (z := mX12_isCrossbar) (As := [vI x1]) (rest := []) dX12_drawn_2 wX12_344 qX12_drawn_X12_isCrossbar rfl ⟨_, rfl, rfl⟩ rfl rfl (Nat.le_of_ble_eq_true rfl) (gEz_mono h (fun v3 σ1 h r2 => ?_))
  replace h := h r2
  obtain ⟨ht, hf⟩ := h
  refine ga_if_eq (tgt := 23) dX12_drawn_5 (by decide) (gR_01 r2) (fun q4 => ?_) (fun q4 => ?_)
  · replace q4 : v3 = 0 := q4
    have h := ht q4
    refine ga_bipush dX12_drawn_23 (by decide) ?_
    exact ga_iret dX12_drawn_25 rfl (by decide) h
  · replace q4 : ¬ v3 = 0 := q4
    have h := hf q4
    refine ga_iload_n 3 dX12_drawn_8 rfl rfl ?_
    refine ga_iconst dX12_drawn_9 ?_
    refine ga_bipush dX12_drawn_10 (by decide) ?_
    refine ga_callSz (z := mX12_isIn) (As := [vI x3, vI 0, vI 60]) (rest := []) dX12_drawn_12 wX12_196 qX12_drawn_X12_isIn rfl rfl (Nat.le_of_ble_eq_true rfl) (gEz_mono h (fun v7 σ5 h r6 => ?_))
    replace h := h r6
    obtain ⟨ht, hf⟩ := h
    refine ga_if_eq (tgt := 23) dX12_drawn_15 (by decide) (gR_01 r6) (fun q8 => ?_) (fun q8 => ?_)
    · replace q8 : v7 = 0 := q8
      have h := ht q8
      refine ga_bipush dX12_drawn_23 (by decide) ?_
      exact ga_iret dX12_drawn_25 rfl (by decide) h
    · replace q8 : ¬ v7 = 0 := q8
      have h := hf q8
      refine ga_iload 4 dX12_drawn_18 rfl ?_
      obtain ⟨ht, hf⟩ := h
      refine ga_if_ge (tgt := 26) dX12_drawn_20 (by decide) rx4 (fun q9 => ?_) (fun q9 => ?_)
      · replace q9 : 0 ≤ x4 := q9
        have h := ht q9
        refine ga_aload_n 0 dX12_drawn_26 rfl rfl ?_
        refine ga_callVv (z := mX12_begins) (As := []) (rest := []) dX12_drawn_27 wX12_334 qX12_drawn_X12_begins rfl ⟨_, rfl, rfl⟩ rfl rfl (Nat.le_of_ble_eq_true rfl) (gEv_mono h (fun σ10 h => ?_))
        refine ga_aload_n 0 dX12_drawn_30 rfl rfl ?_
        refine ga_iload_n 2 dX12_drawn_31 rfl rfl ?_
        obtain ⟨σ12, eσ12⟩ : ∃ z, z = sI σ10 88 68 x2 := ⟨_, rfl⟩
        replace h := h σ12 eσ12
        refine ga_putI (kI := 68) dX12_drawn_32 fX12_484 pX12_68 rfl rfl rfl rx2 eσ12 ?_
        refine ga_iconst dX12_drawn_35 ?_
        refine ga_istore (ls' := [(5, vI 0), (0, .ref (G.2.1 88)), (1, vI x1), (2, vI x2), (3, vI x3), (4, vI x4)]) dX12_drawn_36 (by decide) rfl ?_
        exact ga_sub [1, 2, 3, 4, 5, 0] rfl h
      · replace q9 : x4 < 0 := (Int.not_le.mp q9)
        have h := hf q9
        refine ga_bipush dX12_drawn_23 (by decide) ?_
        exact ga_iret dX12_drawn_25 rfl (by decide) h
set_option maxRecDepth 100000 in
set_option maxHeartbeats 4000000 in
theorem vX12_drawn_38 {l : Launch} {G : gG}  (x1 : Int) (x2 : Int) (x3 : Int) (x4 : Int) (x5 : Int) (rx1 : gR x1) (rx2 : gR x2) (rx3 : gR x3) (rx4 : gR x4) (rx5 : gR x5) (σ : gS) (Q : Int → gS → Prop) (h : (x3 ≤ x5 → eX12_nowOf l G x4 σ (fun v16 σ14 => gR v16 →
    Q v16 σ14)) ∧
  (x5 < x3 → eX12_draws l G  σ (fun σ17 =>
    kX12_drawn_38 l G  x1 x2 x3 x4 (x5 + 1) σ17 Q))) : kX12_drawn_38 l G  x1 x2 x3 x4 x5 σ Q := by
  refine ga_iload 5 dX12_drawn_38 rfl ?_
  refine ga_iload_n 3 dX12_drawn_40 rfl rfl ?_
  obtain ⟨ht, hf⟩ := h
  refine ga_icmp_ge (tgt := 54) dX12_drawn_41 (by decide) rx5 rx3 (fun q13 => ?_) (fun q13 => ?_)
  · replace q13 : x3 ≤ x5 := q13
    have h := ht q13
    refine ga_aload_n 0 dX12_drawn_54 rfl rfl ?_
    refine ga_iload 4 dX12_drawn_55 rfl ?_
    refine ga_callVi (z := mX12_nowOf) (As := [vI x4]) (rest := []) dX12_drawn_57 wX12_354 qX12_drawn_X12_nowOf rfl ⟨_, rfl, rfl⟩ rfl rfl (Nat.le_of_ble_eq_true rfl) (gEi_mono h (fun v16 σ14 h r15 => ?_))
    replace h := h r15
    exact ga_iret dX12_drawn_60 rfl r15 h
  · replace q13 : x5 < x3 := (Int.not_le.mp q13)
    have h := hf q13
    refine ga_aload_n 0 dX12_drawn_44 rfl rfl ?_
    refine ga_callVv (z := mX12_draws) (As := []) (rest := []) dX12_drawn_45 wX12_491 qX12_drawn_X12_draws rfl ⟨_, rfl, rfl⟩ rfl rfl (Nat.le_of_ble_eq_true rfl) (gEv_mono h (fun σ17 h => ?_))
    refine ga_iinc (ls' := [(5, vI (x5 + 1)), (0, .ref (G.2.1 88)), (1, vI x1), (2, vI x2), (3, vI x3), (4, vI x4)]) 5 dX12_drawn_48 rfl (by decide) rfl ?_
    refine ga_goto (tgt := 38) dX12_drawn_51 (by decide) ?_
    exact ga_sub [1, 2, 3, 4, 5, 0] rfl h
abbrev eX12_count (l : Launch) (G : gG) (x1 : Int) (σ : gS) (Q : Int → gS → Prop) : Prop := gEi l G mX12_count [.ref (G.2.1 88), vI x1] σ Q
set_option maxRecDepth 100000 in
set_option maxHeartbeats 4000000 in
theorem vX12_count {l : Launch} {G : gG} (x1 : Int) (rx1 : gR x1) (σ : gS) (Q : Int → gS → Prop) (h : eX12_isIn l G x1 0 2 σ (fun v3 σ1 => (v3 = 0 ∨ v3 = 1) →
  ((v3 = 0 → True) ∧
  (¬ v3 = 0 → (0 ≤ x1 ∧ x1 < 3704) ∧ True)) ∧
  (∀ v8 : Int, v8 = (if v3 = 0 then (-2) else (gI σ1 89 x1)) →
  Q v8 σ1))) : eX12_count l G x1 σ Q := by
  refine ga_entry rfl (Nat.le_of_ble_eq_true rfl) ?_
  show gAt l G mX12_count (gQi G Q) 0 [(0, .ref (G.2.1 88)), (1, vI x1)] [] σ
  refine ga_iload_n 1 dX12_count_0 rfl rfl ?_
  refine ga_iconst dX12_count_1 ?_
  refine ga_iconst dX12_count_2 ?_
  refine ga_callSz (z := mX12_isIn) (As := [vI x1, vI 0, vI 2]) (rest := []) dX12_count_3 wX12_196 qX12_count_X12_isIn rfl rfl (Nat.le_of_ble_eq_true rfl) (gEz_mono h (fun v3 σ1 h r2 => ?_))
  replace h := h r2
  obtain ⟨hob, h⟩ := h
  have kJ4 : ∀ v8 : Int, gR v8 → v8 = (if v3 = 0 then (-2) else (gI σ1 89 x1)) → gAt l G mX12_count (gQi G Q) 20 [(0, .ref (G.2.1 88)), (1, vI x1)] [vI v8] σ1 := by
    intro v8 rv8 ev8
    replace h := h v8 ev8
    exact ga_iret dX12_count_20 rfl rv8 h
  replace h := hob
  obtain ⟨ht, hf⟩ := h
  refine ga_if_eq (tgt := 18) dX12_count_6 (by decide) (gR_01 r2) (fun q5 => ?_) (fun q5 => ?_)
  · replace q5 : v3 = 0 := q5
    have h := ht q5
    refine ga_bipush dX12_count_18 (by decide) ?_
    exact kJ4 (-2) (by decide) (by rw [if_pos q5])
  · replace q5 : ¬ v3 = 0 := q5
    have h := hf q5
    refine ga_aload_n 0 dX12_count_9 rfl rfl ?_
    refine ga_getR (kI := 0) (r := 89) dX12_count_10 fX12_7 rfl rfl (by decide) rfl ?_
    refine ga_iload_n 1 dX12_count_13 rfl rfl ?_
    obtain ⟨i6, h⟩ := h
    refine ga_iald (nI := 3704) dX12_count_14 rfl rfl i6 (fun r7 => ?_)
    refine ga_goto (tgt := 20) dX12_count_15 (by decide) ?_
    exact kJ4 (gI σ1 89 x1) r7 (by rw [if_neg q5])
abbrev eX12_image (l : Launch) (G : gG) (x1 : Int) (σ : gS) (Q : Int → gS → Prop) : Prop := gEz l G mX12_image [.ref (G.2.1 88), vI x1] σ Q
abbrev kX12_image_20 (l : Launch) (G : gG)  (x1 : Int) (x2 : Int) (σ : gS) (Q : Int → gS → Prop) : Prop := gAt l G mX12_image (gQz G Q) 20 [(0, .ref (G.2.1 88)), (1, vI x1), (2, vI x2)] [] σ
set_option maxRecDepth 100000 in
set_option maxHeartbeats 4000000 in
theorem vX12_image {l : Launch} {G : gG} (x1 : Int) (rx1 : gR x1) (σ : gS) (Q : Int → gS → Prop) (h : eX12_isIn l G x1 0 2 σ (fun v3 σ1 => (v3 = 0 ∨ v3 = 1) →
  (¬ v3 = 0 → (0 ≤ x1 ∧ x1 < 3) ∧ ∀ σ6, σ6 = sI σ1 90 x1 1 →
    kX12_image_20 l G  x1 0 σ6 Q) ∧
  (v3 = 0 → Q 0 σ1))) : eX12_image l G x1 σ Q := by
  refine ga_entry rfl (Nat.le_of_ble_eq_true rfl) ?_
  show gAt l G mX12_image (gQz G Q) 0 [(0, .ref (G.2.1 88)), (1, vI x1)] [] σ
  refine ga_iload_n 1 dX12_image_0 rfl rfl ?_
  refine ga_iconst dX12_image_1 ?_
  refine ga_iconst dX12_image_2 ?_
  refine ga_callSz (z := mX12_isIn) (As := [vI x1, vI 0, vI 2]) (rest := []) dX12_image_3 wX12_196 qX12_image_X12_isIn rfl rfl (Nat.le_of_ble_eq_true rfl) (gEz_mono h (fun v3 σ1 h r2 => ?_))
  replace h := h r2
  obtain ⟨ht, hf⟩ := h
  refine ga_if_ne (tgt := 11) dX12_image_6 (by decide) (gR_01 r2) (fun q4 => ?_) (fun q4 => ?_)
  · replace q4 : ¬ v3 = 0 := q4
    have h := ht q4
    refine ga_aload_n 0 dX12_image_11 rfl rfl ?_
    refine ga_getR (kI := 1) (r := 90) dX12_image_12 fX12_13 rfl rfl (by decide) rfl ?_
    refine ga_iload_n 1 dX12_image_15 rfl rfl ?_
    refine ga_iconst dX12_image_16 ?_
    obtain ⟨i5, h⟩ := h
    obtain ⟨σ6, eσ6⟩ : ∃ z, z = sI σ1 90 x1 1 := ⟨_, rfl⟩
    replace h := h σ6 eσ6
    refine ga_zast (nI := 3) dX12_image_17 rfl rfl i5 (Or.inr rfl) eσ6 ?_
    refine ga_iconst dX12_image_18 ?_
    refine ga_istore_n (ls' := [(2, vI 0), (0, .ref (G.2.1 88)), (1, vI x1)]) dX12_image_19 rfl (by decide) rfl ?_
    exact ga_sub [1, 2, 0] rfl h
  · replace q4 : v3 = 0 := (Decidable.not_not.mp q4)
    have h := hf q4
    refine ga_iconst dX12_image_9 ?_
    exact ga_bret dX12_image_10 rfl (Or.inl rfl) h
set_option maxRecDepth 100000 in
set_option maxHeartbeats 4000000 in
theorem vX12_image_20 {l : Launch} {G : gG}  (x1 : Int) (x2 : Int) (rx1 : gR x1) (rx2 : gR x2) (σ : gS) (Q : Int → gS → Prop) (h : (926 ≤ x2 → Q 1 σ) ∧
  (x2 < 926 → (0 ≤ x2 ∧ x2 < 3704) ∧ (0 ≤ ((926 * (x1 + 1)) + x2) ∧ ((926 * (x1 + 1)) + x2) < 3704) ∧ ∀ σ11, σ11 = sI σ 89 ((926 * (x1 + 1)) + x2) (gI σ 89 x2) →
    kX12_image_20 l G  x1 (x2 + 1) σ11 Q)) : kX12_image_20 l G  x1 x2 σ Q := by
  refine ga_iload_n 2 dX12_image_20 rfl rfl ?_
  refine ga_sipush dX12_image_21 (by decide) ?_
  obtain ⟨ht, hf⟩ := h
  refine ga_icmp_ge (tgt := 53) dX12_image_24 (by decide) rx2 (by decide) (fun q7 => ?_) (fun q7 => ?_)
  · replace q7 : 926 ≤ x2 := q7
    have h := ht q7
    refine ga_iconst dX12_image_53 ?_
    exact ga_bret dX12_image_54 rfl (Or.inr rfl) h
  · replace q7 : x2 < 926 := (Int.not_le.mp q7)
    have h := hf q7
    refine ga_aload_n 0 dX12_image_27 rfl rfl ?_
    refine ga_getR (kI := 0) (r := 89) dX12_image_28 fX12_7 rfl rfl (by decide) rfl ?_
    refine ga_sipush dX12_image_31 (by decide) ?_
    refine ga_iload_n 1 dX12_image_34 rfl rfl ?_
    refine ga_iconst dX12_image_35 ?_
    refine ga_iadd dX12_image_36 ?_
    refine ga_imul dX12_image_37 ?_
    refine ga_iload_n 2 dX12_image_38 rfl rfl ?_
    refine ga_iadd dX12_image_39 ?_
    refine ga_aload_n 0 dX12_image_40 rfl rfl ?_
    refine ga_getR (kI := 0) (r := 89) dX12_image_41 fX12_7 rfl rfl (by decide) rfl ?_
    refine ga_iload_n 2 dX12_image_44 rfl rfl ?_
    obtain ⟨i8, h⟩ := h
    refine ga_iald (nI := 3704) dX12_image_45 rfl rfl i8 (fun r9 => ?_)
    obtain ⟨i10, h⟩ := h
    obtain ⟨σ11, eσ11⟩ : ∃ z, z = sI σ 89 ((926 * (x1 + 1)) + x2) (gI σ 89 x2) := ⟨_, rfl⟩
    replace h := h σ11 eσ11
    refine ga_iast (nI := 3704) dX12_image_46 rfl rfl i10 r9 eσ11 ?_
    refine ga_iinc (ls' := [(2, vI (x2 + 1)), (0, .ref (G.2.1 88)), (1, vI x1)]) 2 dX12_image_47 rfl (by decide) rfl ?_
    refine ga_goto (tgt := 20) dX12_image_50 (by decide) ?_
    exact ga_sub [1, 2, 0] rfl h
abbrev eX12_again (l : Launch) (G : gG) (x1 : Int) (σ : gS) (Q : Int → gS → Prop) : Prop := gEz l G mX12_again [.ref (G.2.1 88), vI x1] σ Q
abbrev kX12_again_22 (l : Launch) (G : gG)  (x1 : Int) (x2 : Int) (σ : gS) (Q : Int → gS → Prop) : Prop := gAt l G mX12_again (gQz G Q) 22 [(0, .ref (G.2.1 88)), (1, vI x1), (2, vI x2)] [] σ
set_option maxRecDepth 100000 in
set_option maxHeartbeats 4000000 in
theorem vX12_again {l : Launch} {G : gG} (x1 : Int) (rx1 : gR x1) (σ : gS) (Q : Int → gS → Prop) (h : eX12_isIn l G x1 0 2 σ (fun v3 σ1 => (v3 = 0 ∨ v3 = 1) →
  (v3 = 0 → Q 0 σ1) ∧
  (¬ v3 = 0 → (0 ≤ x1 ∧ x1 < 3) ∧ (¬ (gI σ1 90 x1) = 0 → kX12_again_22 l G  x1 0 σ1 Q) ∧
    ((gI σ1 90 x1) = 0 → Q 0 σ1)))) : eX12_again l G x1 σ Q := by
  refine ga_entry rfl (Nat.le_of_ble_eq_true rfl) ?_
  show gAt l G mX12_again (gQz G Q) 0 [(0, .ref (G.2.1 88)), (1, vI x1)] [] σ
  refine ga_iload_n 1 dX12_again_0 rfl rfl ?_
  refine ga_iconst dX12_again_1 ?_
  refine ga_iconst dX12_again_2 ?_
  refine ga_callSz (z := mX12_isIn) (As := [vI x1, vI 0, vI 2]) (rest := []) dX12_again_3 wX12_196 qX12_again_X12_isIn rfl rfl (Nat.le_of_ble_eq_true rfl) (gEz_mono h (fun v3 σ1 h r2 => ?_))
  replace h := h r2
  obtain ⟨ht, hf⟩ := h
  refine ga_if_eq (tgt := 18) dX12_again_6 (by decide) (gR_01 r2) (fun q4 => ?_) (fun q4 => ?_)
  · replace q4 : v3 = 0 := q4
    have h := ht q4
    refine ga_iconst dX12_again_18 ?_
    exact ga_bret dX12_again_19 rfl (Or.inl rfl) h
  · replace q4 : ¬ v3 = 0 := q4
    have h := hf q4
    refine ga_aload_n 0 dX12_again_9 rfl rfl ?_
    refine ga_getR (kI := 1) (r := 90) dX12_again_10 fX12_13 rfl rfl (by decide) rfl ?_
    refine ga_iload_n 1 dX12_again_13 rfl rfl ?_
    obtain ⟨i5, h⟩ := h
    refine ga_zald (nI := 3) dX12_again_14 rfl rfl i5 (fun r6 => ?_)
    obtain ⟨ht, hf⟩ := h
    refine ga_if_ne (tgt := 20) dX12_again_15 (by decide) r6 (fun q7 => ?_) (fun q7 => ?_)
    · replace q7 : ¬ (gI σ1 90 x1) = 0 := q7
      have h := ht q7
      refine ga_iconst dX12_again_20 ?_
      refine ga_istore_n (ls' := [(2, vI 0), (0, .ref (G.2.1 88)), (1, vI x1)]) dX12_again_21 rfl (by decide) rfl ?_
      exact ga_sub [1, 2, 0] rfl h
    · replace q7 : (gI σ1 90 x1) = 0 := (Decidable.not_not.mp q7)
      have h := hf q7
      refine ga_iconst dX12_again_18 ?_
      exact ga_bret dX12_again_19 rfl (Or.inl rfl) h
set_option maxRecDepth 100000 in
set_option maxHeartbeats 4000000 in
theorem vX12_again_22 {l : Launch} {G : gG}  (x1 : Int) (x2 : Int) (rx1 : gR x1) (rx2 : gR x2) (σ : gS) (Q : Int → gS → Prop) (h : (926 ≤ x2 → Q 1 σ) ∧
  (x2 < 926 → (0 ≤ ((926 * (x1 + 1)) + x2) ∧ ((926 * (x1 + 1)) + x2) < 3704) ∧ (0 ≤ x2 ∧ x2 < 3704) ∧ ∀ σ12, σ12 = sI σ 89 x2 (gI σ 89 ((926 * (x1 + 1)) + x2)) →
    kX12_again_22 l G  x1 (x2 + 1) σ12 Q)) : kX12_again_22 l G  x1 x2 σ Q := by
  refine ga_iload_n 2 dX12_again_22 rfl rfl ?_
  refine ga_sipush dX12_again_23 (by decide) ?_
  obtain ⟨ht, hf⟩ := h
  refine ga_icmp_ge (tgt := 55) dX12_again_26 (by decide) rx2 (by decide) (fun q8 => ?_) (fun q8 => ?_)
  · replace q8 : 926 ≤ x2 := q8
    have h := ht q8
    refine ga_iconst dX12_again_55 ?_
    exact ga_bret dX12_again_56 rfl (Or.inr rfl) h
  · replace q8 : x2 < 926 := (Int.not_le.mp q8)
    have h := hf q8
    refine ga_aload_n 0 dX12_again_29 rfl rfl ?_
    refine ga_getR (kI := 0) (r := 89) dX12_again_30 fX12_7 rfl rfl (by decide) rfl ?_
    refine ga_iload_n 2 dX12_again_33 rfl rfl ?_
    refine ga_aload_n 0 dX12_again_34 rfl rfl ?_
    refine ga_getR (kI := 0) (r := 89) dX12_again_35 fX12_7 rfl rfl (by decide) rfl ?_
    refine ga_sipush dX12_again_38 (by decide) ?_
    refine ga_iload_n 1 dX12_again_41 rfl rfl ?_
    refine ga_iconst dX12_again_42 ?_
    refine ga_iadd dX12_again_43 ?_
    refine ga_imul dX12_again_44 ?_
    refine ga_iload_n 2 dX12_again_45 rfl rfl ?_
    refine ga_iadd dX12_again_46 ?_
    obtain ⟨i9, h⟩ := h
    refine ga_iald (nI := 3704) dX12_again_47 rfl rfl i9 (fun r10 => ?_)
    obtain ⟨i11, h⟩ := h
    obtain ⟨σ12, eσ12⟩ : ∃ z, z = sI σ 89 x2 (gI σ 89 ((926 * (x1 + 1)) + x2)) := ⟨_, rfl⟩
    replace h := h σ12 eσ12
    refine ga_iast (nI := 3704) dX12_again_48 rfl rfl i11 r10 eσ12 ?_
    refine ga_iinc (ls' := [(2, vI (x2 + 1)), (0, .ref (G.2.1 88)), (1, vI x1)]) 2 dX12_again_49 rfl (by decide) rfl ?_
    refine ga_goto (tgt := 22) dX12_again_52 (by decide) ?_
    exact ga_sub [1, 2, 0] rfl h
