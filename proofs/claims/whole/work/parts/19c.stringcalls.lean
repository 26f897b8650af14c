section GT
variable {l : Launch} {G : gG}
theorem j_check3 (i n : Int) (h : 0 ≤ i ∧ i < n) (ri : gR i) (rn : gR n) (v : Value) (hv : v = .null ∨ ∃ t, v = .ref t) (σ : gS) (Q : Int → gS → Prop) (hq : Q i σ) : gEi l G mJ3_checkIndex_8e157 [vI i, vI n, v] σ Q := by
  rcases hv with rfl | ⟨t, rfl⟩
  · refine ga_entry rfl (Nat.le_of_ble_eq_true rfl) ?_
    show gAt l G mJ3_checkIndex_8e157 (gQi G Q) 0 [(0, vI i), (1, vI n), (2, .null)] [] σ
    refine ga_iload_n 0 dJ3_checkIndex_8e157_0 rfl rfl ?_
    refine ga_if_lt (tgt := 9) dJ3_checkIndex_8e157_1 (by decide) ri (fun q => absurd q (by omega)) (fun _ => ?_)
    refine ga_iload_n 0 dJ3_checkIndex_8e157_4 rfl rfl ?_
    refine ga_iload_n 1 dJ3_checkIndex_8e157_5 rfl rfl ?_
    refine ga_icmp_lt (tgt := 16) dJ3_checkIndex_8e157_6 (by decide) ri rn (fun _ => ?_) (fun q => absurd h.2 q)
    refine ga_iload_n 0 dJ3_checkIndex_8e157_16 rfl rfl ?_
    exact ga_iret dJ3_checkIndex_8e157_17 rfl ri hq
  · refine ga_entry rfl (Nat.le_of_ble_eq_true rfl) ?_
    show gAt l G mJ3_checkIndex_8e157 (gQi G Q) 0 [(0, vI i), (1, vI n), (2, .ref t)] [] σ
    refine ga_iload_n 0 dJ3_checkIndex_8e157_0 rfl rfl ?_
    refine ga_if_lt (tgt := 9) dJ3_checkIndex_8e157_1 (by decide) ri (fun q => absurd q (by omega)) (fun _ => ?_)
    refine ga_iload_n 0 dJ3_checkIndex_8e157_4 rfl rfl ?_
    refine ga_iload_n 1 dJ3_checkIndex_8e157_5 rfl rfl ?_
    refine ga_icmp_lt (tgt := 16) dJ3_checkIndex_8e157_6 (by decide) ri rn (fun _ => ?_) (fun q => absurd h.2 q)
    refine ga_iload_n 0 dJ3_checkIndex_8e157_16 rfl rfl ?_
    exact ga_iret dJ3_checkIndex_8e157_17 rfl ri hq
theorem j_check2 (i n : Int) (h : 0 ≤ i ∧ i < n) (ri : gR i) (rn : gR n) (σ : gS) (Q : gS → Prop) (hq : Q σ) : gEv l G mJ0_checkIndex_df160 [vI i, vI n] σ Q := by
  refine ga_entry rfl (Nat.le_of_ble_eq_true rfl) ?_
  show gAt l G mJ0_checkIndex_df160 (gQv G Q) 0 [(0, vI i), (1, vI n)] [] σ
  refine ga_iload_n 0 dJ0_checkIndex_df160_0 rfl rfl ?_
  refine ga_iload_n 1 dJ0_checkIndex_df160_1 rfl rfl ?_
  refine ga_form dJ0_checkIndex_df160_2 wJ0_1053 (fun v hv => ?_)
  refine ga_callSi (z := mJ3_checkIndex_8e157) (As := [vI i, vI n, v]) (rest := []) dJ0_checkIndex_df160_5 wJ0_1059 qJ0_checkIndex_df160_J3_checkIndex_8e157 rfl rfl (Nat.le_of_ble_eq_true rfl) (j_check3 i n h ri rn v hv σ _ (fun _ => ?_))
  refine ga_pop dJ0_checkIndex_df160_8 rfl ?_
  exact ga_vret dJ0_checkIndex_df160_9 rfl hq
/-- length and bytes of text k -/
def sLn (k : Nat) : Nat := gstrLen.getD k 0
def sBt (k j : Nat) : Int := ((gstrByt.getD k []).getD j 0).toInt
theorem sLn_ok : ∀ k, k < 11 → Int32.ofNat (gstrLen.getD k 0) = i32 (sLn k) ∧ sLn k ≤ 7 ∧ gshr (sLn k) 0 = sLn k := by decide +kernel
theorem sBt_ok : ∀ k, k < 11 → ∀ j, j < sLn k → (gstrByt.getD k []).getD j 0 = i32 (sBt k j) ∧ (97 ≤ sBt k j ∧ sBt k j ≤ 122) ∧ gand (sBt k j) 255 = sBt k j ∧ ((i32 (sBt k j)).toUInt32 % 65536).toInt32 = i32 (sBt k j) ∧ narrow .char (vI (sBt k j)) = vI (sBt k j) := by decide +kernel
theorem j_coder (k : Nat) (hk : k < 11) (σ : gS) (Q : Int → gS → Prop) (hq : Q 0 σ) : gEi l G mJ0_coder_7d493 [.ref (gsK G k)] σ Q := by
  refine ga_entry rfl (Nat.le_of_ble_eq_true rfl) ?_
  show gAt l G mJ0_coder_7d493 (gQi G Q) 0 [(0, .ref (gsK G k))] [] σ
  refine ga_comp dJ0_coder_7d493_0 wJ0_38 ?_
  refine ga_if_eq (tgt := 13) dJ0_coder_7d493_3 (by decide) (by decide) (fun q => absurd q (by decide)) (fun _ => ?_)
  refine ga_aload_n 0 dJ0_coder_7d493_6 rfl rfl ?_
  refine ga_scod dJ0_coder_7d493_7 hk wJ0_15 ?_
  refine ga_goto (tgt := 14) dJ0_coder_7d493_10 (by decide) ?_
  exact ga_nret (ty := .byte) dJ0_coder_7d493_14 rfl (by decide) (by decide) hq
theorem j_latin (k : Nat) (hk : k < 11) (σ : gS) (Q : Int → gS → Prop) (hq : Q 1 σ) : gEi l G mJ0_isLatin1_aae02 [.ref (gsK G k)] σ Q := by
  refine ga_entry rfl (Nat.le_of_ble_eq_true rfl) ?_
  show gAt l G mJ0_isLatin1_aae02 (gQi G Q) 0 [(0, .ref (gsK G k))] [] σ
  refine ga_comp dJ0_isLatin1_aae02_0 wJ0_38 ?_
  refine ga_if_eq (tgt := 17) dJ0_isLatin1_aae02_3 (by decide) (by decide) (fun q => absurd q (by decide)) (fun _ => ?_)
  refine ga_aload_n 0 dJ0_isLatin1_aae02_6 rfl rfl ?_
  refine ga_scod dJ0_isLatin1_aae02_7 hk wJ0_15 ?_
  refine ga_if_ne (tgt := 17) dJ0_isLatin1_aae02_10 (by decide) (by decide) (fun q => absurd rfl q) (fun _ => ?_)
  refine ga_iconst dJ0_isLatin1_aae02_13 ?_
  refine ga_goto (tgt := 18) dJ0_isLatin1_aae02_14 (by decide) ?_
  exact ga_nret (ty := .boolean) dJ0_isLatin1_aae02_18 rfl (by decide) (by decide) hq
theorem j_length (k : Nat) (hk : k < 11) (σ : gS) (Q : Int → gS → Prop) (hq : Q (sLn k) σ) : gEi l G mJ0_length_8abf5 [.ref (gsK G k)] σ Q := by
  have b := sLn_ok k hk
  have rk : gR (sLn k : Int) := ⟨by omega, by omega⟩
  refine ga_entry rfl (Nat.le_of_ble_eq_true rfl) ?_
  show gAt l G mJ0_length_8abf5 (gQi G Q) 0 [(0, .ref (gsK G k))] [] σ
  refine ga_aload_n 0 dJ0_length_8abf5_0 rfl rfl ?_
  refine ga_sval dJ0_length_8abf5_1 hk wJ0_9 ?_
  refine ga_slen dJ0_length_8abf5_4 hk b.1 ?_
  refine ga_aload_n 0 dJ0_length_8abf5_5 rfl rfl ?_
  refine ga_scall (z := mJ0_coder_7d493) (As := []) (rest := [vI (sLn k)]) dJ0_length_8abf5_6 wJ0_335 qJ0_length_8abf5_J0_coder_7d493 hk rfl rfl rfl (Nat.le_of_ble_eq_true rfl) (j_coder k hk σ _ (fun _ => ?_))
  refine ga_ishr dJ0_length_8abf5_9 (fun _ => ?_)
  rw [b.2.2]
  exact ga_iret dJ0_length_8abf5_10 rfl rk hq
theorem j_lchar (k j : Nat) (hk : k < 11) (hj : j < sLn k) (σ : gS) (Q : Int → gS → Prop) (hq : Q (sBt k j) σ) : gEi l G mJ1_charAt_3b067 [.ref (gsV G k), vI (j : Int)] σ Q := by
  have b := sLn_ok k hk
  have c := sBt_ok k hk j hj
  have rk : gR (sLn k : Int) := ⟨by omega, by omega⟩
  have rj : gR (j : Int) := ⟨by omega, by omega⟩
  refine ga_entry rfl (Nat.le_of_ble_eq_true rfl) ?_
  show gAt l G mJ1_charAt_3b067 (gQi G Q) 0 [(0, .ref (gsV G k)), (1, vI (j : Int))] [] σ
  refine ga_iload_n 1 dJ1_charAt_3b067_0 rfl rfl ?_
  refine ga_aload_n 0 dJ1_charAt_3b067_1 rfl rfl ?_
  refine ga_slen dJ1_charAt_3b067_2 hk b.1 ?_
  refine ga_callSv (z := mJ0_checkIndex_df160) (As := [vI (j : Int), vI (sLn k)]) (rest := []) dJ1_charAt_3b067_3 wJ1_9 qJ1_charAt_3b067_J0_checkIndex_df160 rfl rfl (Nat.le_of_ble_eq_true rfl) (j_check2 j (sLn k) ⟨by omega, by omega⟩ rj rk σ _ ?_)
  refine ga_aload_n 0 dJ1_charAt_3b067_6 rfl rfl ?_
  refine ga_iload_n 1 dJ1_charAt_3b067_7 rfl rfl ?_
  refine ga_sbal (b := sBt k j) dJ1_charAt_3b067_8 hk ⟨by omega, by show (j : Int) < (sLn k : Nat); omega⟩ (by show sLn k < _; omega) (by rw [Int.toNat_natCast]; exact c.1) ?_
  refine ga_sipush dJ1_charAt_3b067_9 (by decide) ?_
  refine ga_iand dJ1_charAt_3b067_12 (fun _ => ?_)
  rw [c.2.2.1]
  refine ga_i2c dJ1_charAt_3b067_13 c.2.2.2.1 ?_
  exact ga_nret (ty := .char) dJ1_charAt_3b067_14 rfl c.2.2.2.2 ⟨by omega, by omega⟩ hq
theorem j_char (k j : Nat) (hk : k < 11) (hj : j < sLn k) (σ : gS) (Q : Int → gS → Prop) (hq : Q (sBt k j) σ) : gEi l G mJ0_charAt_5068e [.ref (gsK G k), vI (j : Int)] σ Q := by
  have c := sBt_ok k hk j hj
  refine ga_entry rfl (Nat.le_of_ble_eq_true rfl) ?_
  show gAt l G mJ0_charAt_5068e (gQi G Q) 0 [(0, .ref (gsK G k)), (1, vI (j : Int))] [] σ
  refine ga_aload_n 0 dJ0_charAt_5068e_0 rfl rfl ?_
  refine ga_scall (z := mJ0_isLatin1_aae02) (As := []) (rest := []) dJ0_charAt_5068e_1 wJ0_492 qJ0_charAt_5068e_J0_isLatin1_aae02 hk rfl rfl rfl (Nat.le_of_ble_eq_true rfl) (j_latin k hk σ _ (fun _ => ?_))
  refine ga_if_eq (tgt := 16) dJ0_charAt_5068e_4 (by decide) (by decide) (fun q => absurd q (by decide)) (fun _ => ?_)
  refine ga_aload_n 0 dJ0_charAt_5068e_7 rfl rfl ?_
  refine ga_sval dJ0_charAt_5068e_8 hk wJ0_9 ?_
  refine ga_iload_n 1 dJ0_charAt_5068e_11 rfl rfl ?_
  refine ga_callSi (z := mJ1_charAt_3b067) (As := [.ref (gsV G k), vI (j : Int)]) (rest := []) dJ0_charAt_5068e_12 wJ0_495 qJ0_charAt_5068e_J1_charAt_3b067 rfl rfl (Nat.le_of_ble_eq_true rfl) (j_lchar k j hk hj σ _ (fun _ => ?_))
  exact ga_nret (ty := .char) dJ0_charAt_5068e_15 rfl c.2.2.2.2 ⟨by omega, by omega⟩ hq
end GT
