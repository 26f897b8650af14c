section GU
variable {l : Launch} {G : gG}
theorem j_letters (w : Int) (hw : 0 ≤ w ∧ w ≤ 10) (σ : gS) (Q : Nat → gS → Prop) (hq : Q w.toNat σ) : gE l G mX7_letters [vI w] σ (gQr G Q) := by
  refine ga_entry rfl (Nat.le_of_ble_eq_true rfl) ?_
  show gAt l G mX7_letters (gQr G Q) 0 [(0, vI w)] [] σ
  refine ga_iload_n 0 dX7_letters_0 rfl rfl ?_
  rcases (show w = 0 ∨ w = 1 ∨ w = 2 ∨ w = 3 ∨ w = 4 ∨ w = 5 ∨ w = 6 ∨ w = 7 ∨ w = 8 ∨ w = 9 ∨ w = 10 by omega) with e | e | e | e | e | e | e | e | e | e | e <;> subst e
  · refine ga_tableIn (v := 0) (off := 55) (tgt := 56) dX7_letters_1 rfl (by decide) rfl (by decide) ?_
    refine ga_ldcS (k := 0) dX7_letters_56 rfl rfl ?_
    exact ga_aret (k := 0) dX7_letters_58 rfl hq
  · refine ga_tableIn (v := 1) (off := 58) (tgt := 59) dX7_letters_1 rfl (by decide) rfl (by decide) ?_
    refine ga_ldcS (k := 1) dX7_letters_59 rfl rfl ?_
    exact ga_aret (k := 1) dX7_letters_61 rfl hq
  · refine ga_tableIn (v := 2) (off := 61) (tgt := 62) dX7_letters_1 rfl (by decide) rfl (by decide) ?_
    refine ga_ldcS (k := 2) dX7_letters_62 rfl rfl ?_
    exact ga_aret (k := 2) dX7_letters_64 rfl hq
  · refine ga_tableIn (v := 3) (off := 64) (tgt := 65) dX7_letters_1 rfl (by decide) rfl (by decide) ?_
    refine ga_ldcS (k := 3) dX7_letters_65 rfl rfl ?_
    exact ga_aret (k := 3) dX7_letters_67 rfl hq
  · refine ga_tableIn (v := 4) (off := 67) (tgt := 68) dX7_letters_1 rfl (by decide) rfl (by decide) ?_
    refine ga_ldcS (k := 4) dX7_letters_68 rfl rfl ?_
    exact ga_aret (k := 4) dX7_letters_70 rfl hq
  · refine ga_tableIn (v := 5) (off := 70) (tgt := 71) dX7_letters_1 rfl (by decide) rfl (by decide) ?_
    refine ga_ldcS (k := 5) dX7_letters_71 rfl rfl ?_
    exact ga_aret (k := 5) dX7_letters_73 rfl hq
  · refine ga_tableIn (v := 6) (off := 73) (tgt := 74) dX7_letters_1 rfl (by decide) rfl (by decide) ?_
    refine ga_ldcS (k := 6) dX7_letters_74 rfl rfl ?_
    exact ga_aret (k := 6) dX7_letters_76 rfl hq
  · refine ga_tableIn (v := 7) (off := 76) (tgt := 77) dX7_letters_1 rfl (by decide) rfl (by decide) ?_
    refine ga_ldcS (k := 7) dX7_letters_77 rfl rfl ?_
    exact ga_aret (k := 7) dX7_letters_79 rfl hq
  · refine ga_tableIn (v := 8) (off := 79) (tgt := 80) dX7_letters_1 rfl (by decide) rfl (by decide) ?_
    refine ga_ldcS (k := 8) dX7_letters_80 rfl rfl ?_
    exact ga_aret (k := 8) dX7_letters_82 rfl hq
  · refine ga_tableIn (v := 9) (off := 82) (tgt := 83) dX7_letters_1 rfl (by decide) rfl (by decide) ?_
    refine ga_ldcS (k := 9) dX7_letters_83 rfl rfl ?_
    exact ga_aret (k := 9) dX7_letters_85 rfl hq
  · refine ga_tableOut (tgt := 86) dX7_letters_1 (by decide) (Or.inr (by decide)) (by decide) ?_
    refine ga_ldcS (k := 10) dX7_letters_86 rfl rfl ?_
    exact ga_aret (k := 10) dX7_letters_88 rfl hq
/-- text k stands at s .. e -/
def spT (σ : gS) (k : Nat) (s e : Int) : Prop := e - s = sLn k ∧ ∀ j : Nat, j < sLn k → gI σ 2 (s + j) = sBt k j
theorem j_isHere (k : Nat) (hk : k < 11) (σ : gS) (hT : σ.2.2 = 2) (hs : 0 ≤ gI σ 27 10 ∧ gI σ 27 10 ≤ gI σ 27 8 ∧ gI σ 27 8 ≤ 600) (Q : Int → gS → Prop) (hq : ∀ v, (v = 0 ∧ ¬ spT σ k (gI σ 27 10) (gI σ 27 8)) ∨ (v = 1 ∧ spT σ k (gI σ 27 10) (gI σ 27 8)) → Q v σ) : gEi l G mX7_isHere [.ref (G.2.1 27), .ref (gsK G k)] σ Q := by
  have b := sLn_ok k hk
  have rk : gR (sLn k : Int) := ⟨by omega, by omega⟩
  refine ga_entry rfl (Nat.le_of_ble_eq_true rfl) ?_
  show gAt l G mX7_isHere (gQi G Q) 0 [(0, .ref (G.2.1 27)), (1, .ref (gsK G k))] [] σ
  refine ga_aload_n 0 dX7_isHere_0 rfl rfl ?_
  refine ga_getI (kI := 8) dX7_isHere_1 fX7_37 rfl rfl rfl (fun r1 => ?_)
  refine ga_aload_n 0 dX7_isHere_4 rfl rfl ?_
  refine ga_getI (kI := 10) dX7_isHere_5 fX7_99 rfl rfl rfl (fun r2 => ?_)
  refine ga_isub dX7_isHere_8 ?_
  refine ga_aload_n 1 dX7_isHere_9 rfl rfl ?_
  refine ga_scall (z := mJ0_length_8abf5) (As := []) (rest := [vI (gI σ 27 8 - gI σ 27 10)]) dX7_isHere_10 wX7_113 qX7_isHere_J0_length_8abf5 hk rfl rfl rfl (Nat.le_of_ble_eq_true rfl) (j_length k hk σ _ (fun _ => ?_))
  refine ga_icmp_eq (tgt := 18) dX7_isHere_13 (by decide) ⟨by omega, by omega⟩ rk (fun q => ?_) (fun q => ?_)
  · refine ga_iconst dX7_isHere_18 ?_
    refine ga_istore_n (ls' := [(2, vI 0), (0, .ref (G.2.1 27)), (1, .ref (gsK G k))]) dX7_isHere_19 rfl (by decide) rfl ?_
    have loop : ∀ (m j : Nat), j + m = sLn k → (∀ i : Nat, i < j → gI σ 2 (gI σ 27 10 + i) = sBt k i) → gAt l G mX7_isHere (gQi G Q) 20 [(2, vI (j : Int)), (0, .ref (G.2.1 27)), (1, .ref (gsK G k))] [] σ := by
      intro m
      induction m with
      | zero =>
        intro j hj hp
        refine ga_iload_n 0 dX7_isHere_20 rfl rfl ?_
        refine ga_aload_n 2 dX7_isHere_21 rfl rfl ?_
        refine ga_scall (z := mJ0_length_8abf5) (As := []) (rest := [vI (j : Int)]) dX7_isHere_22 wX7_113 qX7_isHere_J0_length_8abf5 hk rfl rfl rfl (Nat.le_of_ble_eq_true rfl) (j_length k hk σ _ (fun _ => ?_))
        refine ga_icmp_ge (tgt := 55) dX7_isHere_25 (by decide) ⟨by omega, by omega⟩ rk (fun _ => ?_) (fun n => absurd n (by omega))
        refine ga_iconst dX7_isHere_55 ?_
        exact ga_nret (ty := .boolean) dX7_isHere_56 rfl (by decide) (by decide) (hq 1 (Or.inr ⟨rfl, q, fun i hi => hp i (by omega)⟩))
      | succ m ih =>
        intro j hj hp
        have hjl : j < sLn k := by omega
        have c := sBt_ok k hk j hjl
        refine ga_iload_n 0 dX7_isHere_20 rfl rfl ?_
        refine ga_aload_n 2 dX7_isHere_21 rfl rfl ?_
        refine ga_scall (z := mJ0_length_8abf5) (As := []) (rest := [vI (j : Int)]) dX7_isHere_22 wX7_113 qX7_isHere_J0_length_8abf5 hk rfl rfl rfl (Nat.le_of_ble_eq_true rfl) (j_length k hk σ _ (fun _ => ?_))
        refine ga_icmp_ge (tgt := 55) dX7_isHere_25 (by decide) ⟨by omega, by omega⟩ rk (fun n => absurd n (by omega)) (fun _ => ?_)
        refine ga_aload_n 1 dX7_isHere_28 rfl rfl ?_
        refine ga_getT2 (t := 2) (kI := 6) dX7_isHere_29 fX7_23 rfl rfl rfl hT ?_
        refine ga_aload_n 1 dX7_isHere_32 rfl rfl ?_
        refine ga_getI (kI := 10) dX7_isHere_33 fX7_99 rfl rfl rfl (fun _ => ?_)
        refine ga_iload_n 0 dX7_isHere_36 rfl rfl ?_
        refine ga_iadd dX7_isHere_37 ?_
        refine ga_bald (nI := 600) dX7_isHere_38 rfl rfl ⟨by omega, by omega⟩ (fun r3 => ?_)
        refine ga_aload_n 2 dX7_isHere_39 rfl rfl ?_
        refine ga_iload_n 0 dX7_isHere_40 rfl rfl ?_
        refine ga_scall (z := mJ0_charAt_5068e) (As := [vI (j : Int)]) (rest := [vI (gI σ 2 (gI σ 27 10 + j))]) dX7_isHere_41 wX7_118 qX7_isHere_J0_charAt_5068e hk rfl rfl rfl (Nat.le_of_ble_eq_true rfl) (j_char k j hk hjl σ _ (fun _ => ?_))
        refine ga_icmp_eq (tgt := 49) dX7_isHere_44 (by decide) r3 ⟨by omega, by omega⟩ (fun q2 => ?_) (fun q2 => ?_)
        · refine ga_iinc (ls' := [(2, vI ((j : Int) + 1)), (0, .ref (G.2.1 27)), (1, .ref (gsK G k))]) 0 dX7_isHere_49 rfl (by decide) rfl ?_
          refine ga_goto (tgt := 20) dX7_isHere_52 (by decide) ?_
          refine ih (j + 1) (by omega) (fun i hi => ?_)
          by_cases z : i = j
          · rw [z]; exact q2
          · exact hp i (by omega)
        · refine ga_iconst dX7_isHere_47 ?_
          exact ga_nret (ty := .boolean) dX7_isHere_48 rfl (by decide) (by decide) (hq 0 (Or.inl ⟨rfl, fun y => q2 (y.2 j hjl)⟩))
    exact loop (sLn k) 0 (by omega) (fun i hi => by omega)
  · refine ga_iconst dX7_isHere_16 ?_
    exact ga_nret (ty := .boolean) dX7_isHere_17 rfl (by decide) (by decide) (hq 0 (Or.inl ⟨rfl, fun y => q y.1⟩))
end GU
