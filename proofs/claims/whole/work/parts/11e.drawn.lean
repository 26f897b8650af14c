/-- an int that has gone round -/
def wrp (a : Int) : Int := (i32 a).toInt
theorem wrp_r (a : Int) : gR (wrp a) := gR_toInt _
theorem vI_wrp (a : Int) : vI a = vI (wrp a) := by
  show Value.int (i32 a) = Value.int (i32 (i32 a).toInt)
  rw [i32_of]
def drw (x : Int) : Int := wrp (x * 1103515245 + 12345)
def dval (x n : Int) : Int := grem (gushr x 16) n
theorem gushr16 (a : Int) : 0 ≤ gushr a 16 ∧ gushr a 16 < 65536 := by
  have h0 : ((i32 16).toUInt32 &&& Int32.toUInt32 31).toNat % 32 = 16 := by decide
  have h : ((i32 a).toUInt32 >>> ((i32 16).toUInt32 &&& Int32.toUInt32 31)).toNat < 65536 := by
    rw [UInt32.toNat_shiftRight, h0, Nat.shiftRight_eq_div_pow]
    have := UInt32.toNat_lt (i32 a).toUInt32
    omega
  unfold gushr
  generalize (i32 a).toUInt32 >>> ((i32 16).toUInt32 &&& Int32.toUInt32 31) = u at h
  have e : u.toInt32.toInt = (u.toNat : Int) := i32_int u.toInt32 (by show u.toNat < 2147483648; omega)
  rw [e]
  omega
theorem dval_r (x n : Int) (hn : 0 < n ∧ n < 100) : 0 ≤ dval x n ∧ dval x n < n := by
  have h := gushr16 x
  unfold dval
  rw [grem_pos _ n (by omega) (by omega)]
  exact ⟨Int.emod_nonneg _ (by omega), Int.emod_lt_of_pos _ hn.1⟩
/-- one draw -/
noncomputable def zDraw (S : RS) : RS :=
  if 5 < dval (drw (S 88 68)) 8 then zSlot (uS S 88 68 (drw (S 88 68)))
  else @ite _ (zCan (if 4 ≤ dval (drw (S 88 68)) 8 then dval (drw (S 88 68)) 8 - 1 else 2) (dval (drw (drw (S 88 68))) (S 88 10)) (if 4 ≤ dval (drw (S 88 68)) 8 then 1 + dval (drw (drw (drw (S 88 68)))) (gshl 1 (S 88 10) - 1) else dval (drw (drw (drw (S 88 68)))) (S 88 10)) (uS S 88 68 (drw (drw (drw (S 88 68)))))) (Classical.propDecidable _)
    (zBring (if 4 ≤ dval (drw (S 88 68)) 8 then dval (drw (S 88 68)) 8 - 1 else 2) (dval (drw (drw (S 88 68))) (S 88 10)) (if 4 ≤ dval (drw (S 88 68)) 8 then 1 + dval (drw (drw (drw (S 88 68)))) (gshl 1 (S 88 10) - 1) else dval (drw (drw (drw (S 88 68)))) (S 88 10)) (uS S 88 68 (drw (drw (drw (S 88 68))))))
    (uS S 88 68 (drw (drw (drw (S 88 68)))))
theorem zDraw_s {S : RS} (h : 5 < dval (drw (S 88 68)) 8) : zDraw S = zSlot (uS S 88 68 (drw (S 88 68))) := by unfold zDraw; rw [if_pos h]
theorem zDraw_y {S : RS} {k i b : Int} {T : RS} (h : ¬ 5 < dval (drw (S 88 68)) 8) (hk : k = if 4 ≤ dval (drw (S 88 68)) 8 then dval (drw (S 88 68)) 8 - 1 else 2) (hi : i = dval (drw (drw (S 88 68))) (S 88 10)) (hb : b = if 4 ≤ dval (drw (S 88 68)) 8 then 1 + dval (drw (drw (drw (S 88 68)))) (gshl 1 (S 88 10) - 1) else dval (drw (drw (drw (S 88 68)))) (S 88 10)) (hT : T = uS S 88 68 (drw (drw (drw (S 88 68))))) (hc : zCan k i b T) : zDraw S = zBring k i b T := by
  unfold zDraw; rw [if_neg h, ← hk, ← hi, ← hb, ← hT]; exact @if_pos _ (Classical.propDecidable _) hc _ _ _
theorem zDraw_n {S : RS} {k i b : Int} {T : RS} (h : ¬ 5 < dval (drw (S 88 68)) 8) (hk : k = if 4 ≤ dval (drw (S 88 68)) 8 then dval (drw (S 88 68)) 8 - 1 else 2) (hi : i = dval (drw (drw (S 88 68))) (S 88 10)) (hb : b = if 4 ≤ dval (drw (S 88 68)) 8 then 1 + dval (drw (drw (drw (S 88 68)))) (gshl 1 (S 88 10) - 1) else dval (drw (drw (drw (S 88 68)))) (S 88 10)) (hT : T = uS S 88 68 (drw (drw (drw (S 88 68))))) (hc : ¬ zCan k i b T) : zDraw S = T := by
  unfold zDraw; rw [if_neg h, ← hk, ← hi, ← hb, ← hT]; exact @if_neg _ (Classical.propDecidable _) hc _ _ _
noncomputable def zDraws : Nat → RS → RS
  | 0, S => S
  | n + 1, S => zDraw (zDraws n S)
theorem OKA_68 {S : RS} {v : Int} (h : OKA S) : OKA (uS S 88 68 v) := h
theorem CR_68 {σ : gS} {S : RS} {v : Int} (h : CR σ S) : CR σ (uS S 88 68 v) := h
def OKR (k : Int) (S : RS) : Prop := OKA S ∧ S 88 25 ≤ 6 * k ∧ S 88 24 ≤ k ∧ S 88 23 ≤ 6 * k
theorem pow_full {P : Int} (hP : 1 ≤ P ∧ P ≤ 6) : 1 ≤ gshl 1 P - 1 ∧ gshl 1 P - 1 < 64 ∧ gshl 1 P = 2 ^ P.toNat := by
  have h := two_pow_P hP
  rw [gshl_1 P (by omega)]
  omega
/-- the number, the input, the outputs that a draw brings -/
theorem drawn_r {S : RS} (hP : 1 ≤ S 88 10 ∧ S 88 10 ≤ 6) {k i b : Int} (h : ¬ 5 < dval (drw (S 88 68)) 8) (hk : k = if 4 ≤ dval (drw (S 88 68)) 8 then dval (drw (S 88 68)) 8 - 1 else 2) (hi : i = dval (drw (drw (S 88 68))) (S 88 10)) (hb : b = if 4 ≤ dval (drw (S 88 68)) 8 then 1 + dval (drw (drw (drw (S 88 68)))) (gshl 1 (S 88 10) - 1) else dval (drw (drw (drw (S 88 68)))) (S 88 10)) : (k = 2 ∨ k = 3 ∨ k = 4) ∧ (0 ≤ i ∧ i < 6) ∧ (0 ≤ b ∧ b < 64) ∧ (k = 2 → b < 6) ∧ (k ≠ 2 → 1 ≤ b) := by
  have d := dval_r (drw (S 88 68)) 8 (by decide)
  have di := dval_r (drw (drw (S 88 68))) (S 88 10) (by omega)
  have db := dval_r (drw (drw (drw (S 88 68)))) (S 88 10) (by omega)
  have f := pow_full hP
  have df := dval_r (drw (drw (drw (S 88 68)))) (gshl 1 (S 88 10) - 1) (by omega)
  rw [hi]
  by_cases z : 4 ≤ dval (drw (S 88 68)) 8
  · rw [if_pos z] at hk hb
    omega
  · rw [if_neg z] at hk hb
    omega
theorem zDraw_ok {k : Int} {S : RS} (h : OKR k S) : OKR (k + 1) (zDraw S) ∧ zDraw S 88 10 = S 88 10 := by
  obtain ⟨hA, h25, h24, h23⟩ := h
  have hP := hA.1.1
  by_cases z : 5 < dval (drw (S 88 68)) 8
  · rw [zDraw_s z]
    have hA' : OKA (uS S 88 68 (drw (S 88 68))) := OKA_68 hA
    obtain ⟨f88, f24, f27, f28, fc, f107, f104, f99⟩ := zSlot_f hA'.1
    refine ⟨⟨OKA_slot hA', ?_, ?_, ?_⟩, ?_⟩
    · rw [f88 25 (by omega) (by omega) (by omega), uS_nei (by omega)]; omega
    · rw [f24, uS_nei (by omega)]; omega
    · rw [f88 23 (by omega) (by omega) (by omega), uS_nei (by omega)]; omega
    · rw [f88 10 (by omega) (by omega) (by omega), uS_nei (by omega)]
  · obtain ⟨n1, n2, n3, n4, n5⟩ := drawn_r ⟨hP.1, hP.2.1⟩ z rfl rfl rfl
    have hA' : OKA (uS S 88 68 (drw (drw (drw (S 88 68))))) := OKA_68 hA
    by_cases hc : zCan (if 4 ≤ dval (drw (S 88 68)) 8 then dval (drw (S 88 68)) 8 - 1 else 2) (dval (drw (drw (S 88 68))) (S 88 10)) (if 4 ≤ dval (drw (S 88 68)) 8 then 1 + dval (drw (drw (drw (S 88 68)))) (gshl 1 (S 88 10) - 1) else dval (drw (drw (drw (S 88 68)))) (S 88 10)) (uS S 88 68 (drw (drw (drw (S 88 68)))))
    · rw [zDraw_y z rfl rfl rfl rfl hc]
      obtain ⟨o1, o2, o3, o4, o5⟩ := zBring_ok hA'.1 hc n3.1 n5
      rw [uS_nei (S := S) (by omega)] at o3 o4 o5
      refine ⟨⟨OKA_bring hA' hc n3.1 n5, by omega, ?_, by omega⟩, ?_⟩
      · rw [o2 24 (by omega) (by omega) (by omega), uS_nei (by omega)]; omega
      · rw [o2 10 (by omega) (by omega) (by omega), uS_nei (by omega)]
    · rw [zDraw_n z rfl rfl rfl rfl hc]
      refine ⟨⟨hA', ?_, ?_, ?_⟩, uS_nei (by omega)⟩
      · rw [uS_nei (by omega)]; omega
      · rw [uS_nei (by omega)]; omega
      · rw [uS_nei (by omega)]; omega
theorem zDraws_ok {S : RS} (h : OKR 0 S) : ∀ n : Nat, OKR n (zDraws n S) ∧ zDraws n S 88 10 = S 88 10
  | 0 => ⟨h, rfl⟩
  | n + 1 => by
    obtain ⟨a, b⟩ := zDraws_ok h n
    obtain ⟨c, d⟩ := zDraw_ok a
    refine ⟨?_, d.trans b⟩
    have e : (((n + 1 : Nat)) : Int) = (n : Int) + 1 := by omega
    rw [e]; exact c
section RD
variable {l : Launch} {G : gG}
set_option maxRecDepth 100000 in
set_option maxHeartbeats 4000000 in
theorem wX12_below (x1 : Int) (rx1 : gR x1) (σ : gS) (Q : Int → gS → Prop) (h : ∀ σ2, σ2 = sI σ 88 68 (drw (gI σ 88 68)) → (x1 ≠ 0) ∧ Q (dval (drw (gI σ 88 68)) x1) σ2) : eX12_below l G x1 σ Q := by
  refine ga_entry rfl (Nat.le_of_ble_eq_true rfl) ?_
  show gAt l G mX12_below (gQi G Q) 0 [(0, .ref (G.2.1 88)), (1, vI x1)] [] σ
  refine ga_aload_n 0 dX12_below_0 rfl rfl ?_
  refine ga_aload_n 0 dX12_below_1 rfl rfl ?_
  refine ga_getI (kI := 68) dX12_below_2 fX12_484 rfl rfl rfl (fun r1 => ?_)
  refine ga_ldcw (n := 1103515245) dX12_below_5 wX12_487 (by decide) ?_
  refine ga_imul dX12_below_8 ?_
  refine ga_sipush dX12_below_9 (by decide) ?_
  refine ga_iadd dX12_below_12 ?_
  refine ga_eq (st' := [vI (drw (gI σ 88 68)), .ref (G.2.1 88)]) (by rw [vI_wrp]; rfl) ?_
  obtain ⟨σ2, eσ2⟩ : ∃ z, z = sI σ 88 68 (drw (gI σ 88 68)) := ⟨_, rfl⟩
  replace h := h σ2 eσ2
  have e2 : gI σ2 88 68 = drw (gI σ 88 68) := by rw [eσ2, sI_eq]
  rw [← e2] at h
  refine ga_putI (kI := 68) dX12_below_13 fX12_484 pX12_68 rfl rfl rfl (wrp_r _) eσ2 ?_
  refine ga_aload_n 0 dX12_below_16 rfl rfl ?_
  refine ga_getI (kI := 68) dX12_below_17 fX12_484 rfl rfl rfl (fun r4 => ?_)
  refine ga_bipush dX12_below_20 (by decide) ?_
  refine ga_iushr dX12_below_22 (fun r5 => ?_)
  refine ga_iload_n 1 dX12_below_23 rfl rfl ?_
  obtain ⟨o6, h⟩ := h
  refine ga_irem dX12_below_24 rx1 o6 (fun r7 => ?_)
  exact ga_iret dX12_below_25 rfl r7 h
set_option maxRecDepth 100000 in
set_option maxHeartbeats 4000000 in
theorem wX8_drawBelow (x1 : Int) (rx1 : gR x1) (hx : 0 < x1) (σ : gS) (Q : Int → gS → Prop) (h : ∀ σ2, σ2 = sI σ 32 18 (drw (gI σ 32 18)) → Q (dval (drw (gI σ 32 18)) x1) σ2) : eX8_drawBelow l G x1 σ Q := by
  refine ga_entry rfl (Nat.le_of_ble_eq_true rfl) ?_
  show gAt l G mX8_drawBelow (gQi G Q) 0 [(0, .ref (G.2.1 32)), (1, vI x1)] [] σ
  refine ga_aload_n 0 dX8_drawBelow_0 rfl rfl ?_
  refine ga_aload_n 0 dX8_drawBelow_1 rfl rfl ?_
  refine ga_getI (kI := 18) dX8_drawBelow_2 fX8_203 rfl rfl rfl (fun r1 => ?_)
  refine ga_ldc (n := 1103515245) dX8_drawBelow_5 wX8_209 (by decide) ?_
  refine ga_imul dX8_drawBelow_7 ?_
  refine ga_sipush dX8_drawBelow_8 (by decide) ?_
  refine ga_iadd dX8_drawBelow_11 ?_
  refine ga_eq (st' := [vI (drw (gI σ 32 18)), .ref (G.2.1 32)]) (by rw [vI_wrp]; rfl) ?_
  obtain ⟨σ2, eσ2⟩ : ∃ z, z = sI σ 32 18 (drw (gI σ 32 18)) := ⟨_, rfl⟩
  replace h := h σ2 eσ2
  have e2 : gI σ2 32 18 = drw (gI σ 32 18) := by rw [eσ2, sI_eq]
  rw [← e2] at h
  refine ga_putI (kI := 18) dX8_drawBelow_12 fX8_203 pX8_18 rfl rfl rfl (wrp_r _) eσ2 ?_
  refine ga_iload_n 1 dX8_drawBelow_15 rfl rfl ?_
  refine ga_if_le (tgt := 31) dX8_drawBelow_16 (by decide) rx1 (fun q5 => ?_) (fun q5 => ?_)
  · replace q5 : x1 ≤ 0 := q5
    omega
  · refine ga_aload_n 0 dX8_drawBelow_19 rfl rfl ?_
    refine ga_getI (kI := 18) dX8_drawBelow_20 fX8_203 rfl rfl rfl (fun r6 => ?_)
    refine ga_bipush dX8_drawBelow_23 (by decide) ?_
    refine ga_iushr dX8_drawBelow_25 (fun r7 => ?_)
    refine ga_iload_n 1 dX8_drawBelow_26 rfl rfl ?_
    refine ga_irem dX8_drawBelow_27 rx1 (by omega) (fun r9 => ?_)
    refine ga_goto (tgt := 32) dX8_drawBelow_28 (by decide) ?_
    exact ga_iret dX8_drawBelow_32 rfl r9 h
/-- a draw, by the reference -/
theorem c_draws (σ : gS) (hA : OKA (pS σ)) (h25 : pS σ 88 25 ≤ 354) (h24 : pS σ 88 24 ≤ 400) (h23 : pS σ 88 23 ≤ 100000) (Q : gS → Prop) (h : ∀ τ, pS τ = zDraw (pS σ) → frQ σ τ → Q τ) : eX12_draws l G σ Q := by
  have hP := hA.1.1
  have e68 : gI σ 88 68 = pS σ 88 68 := pS_at (by unfold okC; omega)
  have d := dval_r (drw (pS σ 88 68)) 8 (by decide)
  refine vX12_draws σ Q (wX12_below 8 (by decide) σ _ (fun σ1 e1 => ⟨by decide, fun _ => ?_⟩))
  rw [e68] at e1 ⊢
  have p1 : pS σ1 = uS (pS σ) 88 68 (drw (pS σ 88 68)) := by rw [e1, pS_sI (by unfold okC; omega)]
  have f1 : frQ σ σ1 := by rw [e1]; exact frQ.set (by omega)
  refine ⟨fun e => ?_, fun e => ?_⟩
  · have e10 : gI σ1 88 10 = pS σ 88 10 := by rw [e1, sI_nei (by omega)]; exact pS_at (by unfold okC; omega)
    have e68' : gI σ1 88 68 = drw (pS σ 88 68) := by rw [e1, sI_eq]
    rw [e10]
    refine wX12_below _ ⟨by omega, by omega⟩ σ1 _ (fun σ2 e2 => ⟨by omega, fun _ => ?_⟩)
    rw [e68'] at e2 ⊢
    have f10 : gI σ2 88 10 = pS σ 88 10 := by rw [e2, sI_nei (by omega)]; exact e10
    have f68 : gI σ2 88 68 = drw (drw (pS σ 88 68)) := by rw [e2, sI_eq]
    have p2 : pS σ2 = uS (uS (pS σ) 88 68 (drw (pS σ 88 68))) 88 68 (drw (drw (pS σ 88 68))) := by rw [e2, pS_sI (by unfold okC; omega), p1]
    have f2 : frQ σ σ2 := by rw [e2]; exact f1.trans (frQ.set (by omega))
    -- behind the third number
    have fin : ∀ (σ3 : gS) (k b : Int), σ3 = sI σ2 88 68 (drw (drw (drw (pS σ 88 68)))) → (k = if 4 ≤ dval (drw (pS σ 88 68)) 8 then dval (drw (pS σ 88 68)) 8 - 1 else 2) → (b = if 4 ≤ dval (drw (pS σ 88 68)) 8 then 1 + dval (drw (drw (drw (pS σ 88 68)))) (gshl 1 (pS σ 88 10) - 1) else dval (drw (drw (drw (pS σ 88 68)))) (pS σ 88 10)) → eX12_can l G k (dval (drw (drw (pS σ 88 68))) (pS σ 88 10)) b σ3 (fun v21 σ19 => (v21 = 0 ∨ v21 = 1) → (v21 = 0 → Q σ19) ∧ (¬ v21 = 0 → eX12_does l G k (dval (drw (drw (pS σ 88 68))) (pS σ 88 10)) b σ19 (fun σ23 => Q σ23))) := by
      intro σ3 k b e3 hk hb
      have p3 : pS σ3 = uS (pS σ) 88 68 (drw (drw (drw (pS σ 88 68)))) := by
        rw [e3, pS_sI (by unfold okC; omega), p2]
        funext c i
        rw [uS_at, uS_at, uS_at, uS_at]
        by_cases z : c = 88 ∧ i = 68
        · rw [if_pos z, if_pos z]
        · rw [if_neg z, if_neg z, if_neg z, if_neg z]
      have f3 : frQ σ σ3 := by rw [e3]; exact f2.trans (frQ.set (by omega))
      obtain ⟨n1, n2, n3, n4, n5⟩ := drawn_r ⟨hP.1, hP.2.1⟩ (show ¬ 5 < dval (drw (pS σ 88 68)) 8 by omega) hk rfl hb
      have A3 : OKA (pS σ3) := by rw [p3]; exact OKA_68 hA
      have t : ∀ k, k ≠ 68 → pS σ3 88 k = pS σ 88 k := fun k hk => by rw [p3, uS_nei hk]
      refine c_can k _ b ⟨by omega, by omega⟩ ⟨by omega, by omega⟩ ⟨by omega, by omega⟩ (by omega) (by omega) σ3 A3.1 _ (fun r hr _ => ⟨fun e9 => h σ3 ?_ f3, fun e9 => ?_⟩)
      · have hc : ¬ zCan k (dval (drw (drw (pS σ 88 68))) (pS σ 88 10)) b (pS σ3) := by
          rcases hr with y | y
          · omega
          · exact y.2
        exact (zDraw_n (by omega) hk rfl hb p3 hc).symm
      · have hc : zCan k (dval (drw (drw (pS σ 88 68))) (pS σ 88 10)) b (pS σ3) := by
          rcases hr with y | y
          · exact y.2
          · omega
        refine c_doesZ k _ b ⟨by omega, by omega⟩ ⟨by omega, by omega⟩ ⟨by omega, by omega⟩ σ3 A3 (Or.inr (Or.inr ⟨by omega, by omega, hc, by omega, by omega, n5⟩)) (by rw [t 25 (by omega)]; exact h25) (by rw [t 24 (by omega)]; exact h24) (by rw [t 23 (by omega)]; exact h23) _ (fun υ pu fu => h υ ?_ (f3.trans fu))
        rw [pu, zDraw_y (by omega) hk rfl hb p3 hc]
        unfold zDo
        rw [if_neg (by omega), if_neg (by omega)]
    refine ⟨⟨fun z => ⟨⟨by omega, by omega⟩, trivial⟩, fun _ => trivial⟩, fun k hk => ⟨fun z => ?_, fun z => ?_⟩⟩
    · have fu := pow_full ⟨hP.1, hP.2.1⟩
      rw [f10]
      refine wX12_below _ ⟨by omega, by omega⟩ σ2 _ (fun σ3 e3 => ⟨by omega, fun _ => ?_⟩)
      rw [f68] at e3 ⊢
      exact fin σ3 k _ e3 hk (by rw [if_pos z])
    · rw [f10]
      refine wX12_below _ ⟨by omega, by omega⟩ σ2 _ (fun σ3 e3 => ⟨by omega, fun _ => ?_⟩)
      rw [f68] at e3 ⊢
      exact fin σ3 k _ e3 hk (by rw [if_neg (by omega)])
  · have A1 : OKA (pS σ1) := by rw [p1]; exact OKA_68 hA
    refine c_doesZ 0 (-1) (-1) (by decide) (by decide) (by decide) σ1 A1 (Or.inl rfl) (by rw [p1, uS_nei (by omega)]; exact h25) (by rw [p1, uS_nei (by omega)]; exact h24) (by rw [p1, uS_nei (by omega)]; exact h23) _ (fun υ pu fu => h υ ?_ (f1.trans fu))
    rw [pu, zDraw_s e, ← p1]
    unfold zDo
    rw [if_pos rfl]
/-- draws, by the class -/
theorem c_draw (seed n : Int) (rs : gR seed) (hn : 0 ≤ n ∧ n ≤ 60) (σ : gS) (S : RS) (hC : CR σ S) (hM : isM (gI σ 32 6) (fun i => decide (S 99 i = 1))) (hR : OKR 0 S) (Q : gS → Prop) (h : ∀ τ, CR τ (zDraws n.toNat (uS S 88 68 seed)) → (∀ c k, c < 32 ∨ 57 < c → gI τ c k = gI σ c k) → Q τ) : eX8_draw l G seed n σ Q := by
  have rn : gR n := ⟨by omega, by omega⟩
  have hP := hR.1.1.1
  refine vX8_draw seed n rs rn σ Q (fun σ1 e1 => ?_)
  have R0 : OKR 0 (uS S 88 68 seed) := hR
  refine gloopI (α := gS) 0 n (fun j τ => j ≤ n ∧ CR τ (zDraws j.toNat (uS S 88 68 seed)) ∧ isM (gI τ 32 6) (fun i => decide (zDraws j.toNat (uS S 88 68 seed) 99 i = 1)) ∧ gI τ 32 18 = zDraws j.toNat (uS S 88 68 seed) 88 68 ∧ (∀ c k, c < 32 ∨ 57 < c → gI τ c k = gI σ c k)) (fun j τ => kX8_draw_7 l G seed n j τ Q) ?_ ?_ 0 σ1 (by omega) ⟨by omega, ?_, ?_, ?_, ?_⟩
  · rintro j τ j0 j1 ⟨z0, z1, z2, z3, z4⟩ ih
    obtain ⟨⟨hA, h25, h24, h23⟩, t10⟩ := zDraws_ok R0 j.toNat
    have hS1 : zDraws (j + 1).toNat (uS S 88 68 seed) = zDraw (zDraws j.toNat (uS S 88 68 seed)) := by rw [show (j + 1).toNat = j.toNat + 1 by omega]; rfl
    rw [hS1] at ih
    generalize zDraws j.toNat (uS S 88 68 seed) = T at *
    have hPT := hA.1.1
    have d := dval_r (drw (T 88 68)) 8 (by decide)
    refine vX8_draw_7 seed n j rs rn ⟨by omega, by omega⟩ τ Q ⟨fun e => by omega, fun _ => ?_⟩
    refine wX8_drawBelow 8 (by decide) (by decide) τ _ (fun τ1 e1 _ => ?_)
    rw [z3] at e1 ⊢
    have u1 : ∀ c k, ¬ (c = 32 ∧ k = 18) → gI τ1 c k = gI τ c k := fun c k hc => by rw [e1, sI_at, if_neg hc]
    have cr18 : ∀ (υ ω : gS) (U : RS), CR υ U → (∀ c k, ¬ (c = 32 ∧ k = 18) → gI ω c k = gI υ c k) → CR ω U := by
      intro υ ω U hU hw
      obtain ⟨⟨p1, p2, p3', p4⟩, ⟨s1, s2, s3, s4, s5, s6⟩, d3, d4, d5, d6, d7, d8⟩ := hU
      refine ⟨?_, ?_, fun k k0 k1 => ?_, fun q q0 q1 => ?_, fun q q0 q1 j j0 j1 => ?_, fun k k0 k1 => ?_, fun k k0 k1 => ?_, ?_⟩
      · rw [hw _ _ (by omega), hw _ _ (by omega), hw _ _ (by omega), hw _ _ (by omega)]; exact ⟨p1, p2, p3', p4⟩
      · rw [hw _ _ (by omega), hw _ _ (by omega), hw _ _ (by omega), hw _ _ (by omega), hw _ _ (by omega), hw _ _ (by omega)]; exact ⟨s1, s2, s3, s4, s5, s6⟩
      · rw [hw _ _ (by omega), hw _ _ (by omega), hw _ _ (by omega), hw _ _ (by omega), hw _ _ (by omega)]; exact d3 k k0 k1
      · rw [hw _ _ (by omega)]
        refine ⟨(d4 q q0 q1).1, fun j j0 j1 => ?_⟩
        rw [hw _ _ (by omega)]; exact (d4 q q0 q1).2 j j0 j1
      · rw [hw _ _ (by omega)]; exact d5 q q0 q1 j j0 j1
      · rw [hw _ _ (by omega), hw _ _ (by omega), hw _ _ (by omega), hw _ _ (by omega), hw _ _ (by omega), hw _ _ (by omega), hw _ _ (by omega)]; exact d6 k k0 k1
      · rw [hw _ _ (by omega)]; exact d7 k k0 k1
      · exact d8.keep (fun c hc k => hw c k (by omega)) rfl rfl (fun _ => rfl) (fun _ => rfl)
    refine ⟨fun e => ?_, fun e => ?_⟩
    · have e3 : gI τ1 32 3 = T 88 10 := by rw [u1 _ _ (by omega)]; exact z1.1.1
      have e18 : gI τ1 32 18 = drw (T 88 68) := by rw [e1, sI_eq]
      rw [e3]
      refine wX8_drawBelow _ ⟨by omega, by omega⟩ (by omega) τ1 _ (fun τ2 e2 _ => ?_)
      rw [e18] at e2 ⊢
      have u2 : ∀ c k, ¬ (c = 32 ∧ k = 18) → gI τ2 c k = gI τ c k := fun c k hc => by rw [e2, sI_at, if_neg hc]; exact u1 c k hc
      have f3 : gI τ2 32 3 = T 88 10 := by rw [u2 _ _ (by omega)]; exact z1.1.1
      have f18 : gI τ2 32 18 = drw (drw (T 88 68)) := by rw [e2, sI_eq]
      have fin : ∀ (τ3 : gS) (k b : Int), τ3 = sI τ2 32 18 (drw (drw (drw (T 88 68)))) → (k = if 4 ≤ dval (drw (T 88 68)) 8 then dval (drw (T 88 68)) 8 - 1 else 2) → (b = if 4 ≤ dval (drw (T 88 68)) 8 then 1 + dval (drw (drw (drw (T 88 68)))) (gshl 1 (T 88 10) - 1) else dval (drw (drw (drw (T 88 68)))) (T 88 10)) → eX8_bring l G k (dval (drw (drw (T 88 68))) (T 88 10)) b τ3 (fun v22 σ20 => (v22 = 0 ∨ v22 = 1) → kX8_draw_7 l G seed n (j + 1) σ20 Q) := by
        intro τ3 k b e3 hk hb
        obtain ⟨n1, n2, n3, n4, n5⟩ := drawn_r ⟨hPT.1, hPT.2.1⟩ (show ¬ 5 < dval (drw (T 88 68)) 8 by omega) hk rfl hb
        have u3 : ∀ c k, ¬ (c = 32 ∧ k = 18) → gI τ3 c k = gI τ c k := fun c k hc => by rw [e3, sI_at, if_neg hc]; exact u2 c k hc
        have g18 : gI τ3 32 18 = drw (drw (drw (T 88 68))) := by rw [e3, sI_eq]
        obtain ⟨T3, hT3⟩ : ∃ T3, T3 = uS T 88 68 (drw (drw (drw (T 88 68)))) := ⟨_, rfl⟩
        have C3 : CR τ3 T3 := by rw [hT3]; exact CR_68 (cr18 τ τ3 T z1 u3)
        have A3 : OKA T3 := by rw [hT3]; exact OKA_68 hA
        have M3 : isM (gI τ3 32 6) (fun i => decide (T3 99 i = 1)) := by
          rw [u3 _ _ (by omega), hT3]
          exact isM_congr z2 (fun i _ _ => by rw [uS_ne (by omega)])
        have t : ∀ k, k ≠ 68 → T3 88 k = T 88 k := fun k hk => by rw [hT3, uS_nei hk]
        have t68 : T3 88 68 = drw (drw (drw (T 88 68))) := by rw [hT3, uS_eq]
        refine c_bring k _ b n1 ⟨by omega, by omega⟩ n3 n4 τ3 T3 C3 A3.1 M3 (by rw [t 25 (by omega)]; omega) (by rw [t 23 (by omega)]; omega) n5 _ (fun hno _ => ih τ3 ⟨by omega, ?_⟩) (fun hy υ uC uM uF _ => ih υ ⟨by omega, ?_⟩)
        · rw [zDraw_n (by omega) hk rfl hb hT3 hno]
          exact ⟨C3, M3, by rw [g18, t68], fun c q hc => by rw [u3 c q (by omega)]; exact z4 c q hc⟩
        · rw [zDraw_y (by omega) hk rfl hb hT3 hy]
          refine ⟨uC, uM, ?_, fun c q hc => by rw [uF c q (by omega), u3 c q (by omega)]; exact z4 c q hc⟩
          rw [uF 32 18 (by omega), g18, (zBring_ok A3.1 hy n3.1 n5).2.1 68 (by omega) (by omega) (by omega), t68]
      refine ⟨fun z v14 hv => ?_, fun z => ?_⟩
      · have fu := pow_full ⟨hPT.1, hPT.2.1⟩
        rw [f3]
        refine wX8_drawBelow _ ⟨by omega, by omega⟩ (by omega) τ2 _ (fun τ3 e3 _ => ?_)
        rw [f18] at e3 ⊢
        refine fin τ3 v14 _ e3 ?_ (by rw [if_pos z])
        rw [if_pos z, hv]
        split <;> omega
      · rw [f3]
        refine wX8_drawBelow _ ⟨by omega, by omega⟩ (by omega) τ2 _ (fun τ3 e3 _ => ?_)
        rw [f18] at e3 ⊢
        exact fin τ3 2 _ e3 (by rw [if_neg (by omega)]) (by rw [if_neg (by omega)])
    · obtain ⟨T1, hT1⟩ : ∃ T1, T1 = uS T 88 68 (drw (T 88 68)) := ⟨_, rfl⟩
      have t : ∀ k, k ≠ 68 → T1 88 k = T 88 k := fun k hk => by rw [hT1, uS_nei hk]
      have C1 : CR τ1 T1 := by rw [hT1]; exact CR_68 (cr18 τ τ1 T z1 u1)
      have A1 : OKA T1 := by rw [hT1]; exact OKA_68 hA
      refine c_passSlotA τ1 T1 C1 A1 (by rw [t 25 (by omega)]; omega) (by rw [t 24 (by omega)]; omega) _ (fun υ uC u6 uF => ih υ ⟨by omega, ?_⟩)
      rw [zDraw_s (by omega), ← hT1]
      obtain ⟨f88, f24, f27, f28, fc, f107, f104, f99⟩ := zSlot_f A1.1
      refine ⟨uC, ?_, ?_, fun c q hc => by rw [uF c q (by omega), u1 c q (by omega)]; exact z4 c q hc⟩
      · rw [u6]
        refine isM_congr isM_0 (fun i i0 i1 => ?_)
        rw [f99 i i0 i1]; simp
      · rw [uF 32 18 (by omega), e1, sI_eq, f88 68 (by omega) (by omega) (by omega), hT1, uS_eq]
  · rintro j τ j0 ⟨z0, z1, z2, z3, z4⟩
    have hj : j = n := by omega
    subst hj
    exact vX8_draw_7 seed j j rs rn rn τ Q ⟨fun _ => h τ z1 z4, fun e => by omega⟩
  · show CR σ1 (uS S 88 68 seed)
    refine CR_68 ?_
    obtain ⟨⟨p1, p2, p3', p4⟩, ⟨s1, s2, s3, s4, s5, s6⟩, d3, d4, d5, d6, d7, d8⟩ := hC
    have hw : ∀ c k, ¬ (c = 32 ∧ k = 18) → gI σ1 c k = gI σ c k := fun c k hc => by rw [e1, sI_at, if_neg hc]
    refine ⟨?_, ?_, fun k k0 k1 => ?_, fun q q0 q1 => ?_, fun q q0 q1 j j0 j1 => ?_, fun k k0 k1 => ?_, fun k k0 k1 => ?_, ?_⟩
    · rw [hw _ _ (by omega), hw _ _ (by omega), hw _ _ (by omega), hw _ _ (by omega)]; exact ⟨p1, p2, p3', p4⟩
    · rw [hw _ _ (by omega), hw _ _ (by omega), hw _ _ (by omega), hw _ _ (by omega), hw _ _ (by omega), hw _ _ (by omega)]; exact ⟨s1, s2, s3, s4, s5, s6⟩
    · rw [hw _ _ (by omega), hw _ _ (by omega), hw _ _ (by omega), hw _ _ (by omega), hw _ _ (by omega)]; exact d3 k k0 k1
    · rw [hw _ _ (by omega)]
      refine ⟨(d4 q q0 q1).1, fun j j0 j1 => ?_⟩
      rw [hw _ _ (by omega)]; exact (d4 q q0 q1).2 j j0 j1
    · rw [hw _ _ (by omega)]; exact d5 q q0 q1 j j0 j1
    · rw [hw _ _ (by omega), hw _ _ (by omega), hw _ _ (by omega), hw _ _ (by omega), hw _ _ (by omega), hw _ _ (by omega), hw _ _ (by omega)]; exact d6 k k0 k1
    · rw [hw _ _ (by omega)]; exact d7 k k0 k1
    · exact d8.keep (fun c hc k => hw c k (by omega)) rfl rfl (fun _ => rfl) (fun _ => rfl)
  · show isM (gI σ1 32 6) (fun i => decide (uS S 88 68 seed 99 i = 1))
    rw [e1, sI_nei (by omega)]
    exact isM_congr hM (fun i _ _ => by rw [uS_ne (by omega)])
  · show gI σ1 32 18 = uS S 88 68 seed 88 68
    rw [e1, sI_eq, uS_eq]
  · intro c k hc
    rw [e1, sI_at, if_neg (by omega)]
theorem p_drawn (x1 x2 x3 x4 : Int) (r1 : gR x1) (r2 : gR x2) (r3 : gR x3) (r4 : gR x4) (σ : gS) (hI : tInv σ) : eX11_drawn l G x1 x2 x3 x4 σ (fun r τ => gR r → eX12_drawn l G x1 x2 x3 x4 τ (fun r' υ => gR r' → r = r' ∧ tInv υ)) := by
  obtain ⟨k1, k5, k6, k7⟩ := tTx0 hI
  have b0 := k1 0 (by omega) (by omega)
  have B : ∀ (v : Int) (τ : gS), frC σ τ → (¬ (0 ≤ x1 ∧ x1 < gI σ 89 0 ∧ 0 ≤ x3 ∧ x3 ≤ 60) → v = -2) → (0 ≤ x1 ∧ x1 < gI σ 89 0 ∧ 0 ≤ x3 ∧ x3 ≤ 60 → v = zTell (zDraws x3.toNat (uS (zB0 σ x1 (pS σ)) 88 68 x2)) x4) → eX12_drawn l G x1 x2 x3 x4 τ (fun r' υ => gR r' → v = r' ∧ tInv υ) := by
    intro v τ hF hn hy
    refine vX12_drawn x1 x2 x3 x4 r1 r2 r3 r4 τ _ (c_isCrossbarX x1 r1 σ τ hI hF _ (fun e _ => ⟨fun _ _ => ⟨hn (by omega), tInv.same hF.same hI⟩, fun e => absurd rfl e⟩) (fun e0 e1 τ1 R1 _ => ⟨fun e => absurd e (by decide), fun _ => ?_⟩))
    obtain ⟨a1, a2, a3, a4, a5, a6⟩ := R1
    have i1 := tInv.same a6 hI
    refine c_isIn x3 0 60 r3 (by decide) (by decide) τ1 _ (fun r hr _ => ⟨fun e _ => ⟨hn (by omega), i1⟩, fun e => ⟨fun e4 => ?_, fun e4 _ => ⟨?_, i1⟩⟩⟩)
    · obtain ⟨_, t1, t2, t3, t4, t5⟩ := tBars hI e0 e1
      refine c_beginsZ _ _ _ _ t1 t4 τ1 a1 a2 a3 a4 _ (fun τ2 p2 f2 τ3 e3 => ?_)
      have pz : pS τ2 = zB0 σ x1 (pS σ) := by
        rw [p2]
        unfold zB0
        refine zBeg_congr (fun c i hc => ?_)
        by_cases ho : okC c i
        · rw [pS_y ho, pS_y ho]; exact a5 c i ho hc
        · rw [pS_n ho, pS_n ho]
      have p3 : pS τ3 = uS (zB0 σ x1 (pS σ)) 88 68 x2 := by rw [e3, pS_sI (by unfold okC; omega), pz]
      have s3 : tSame σ τ3 := by rw [e3]; exact (a6.q f2).trans (tSame.set (by omega) (by omega) (by omega))
      have D0 := zB0_d hI e0 e1 (pS σ)
      have R0 : OKR 0 (uS (zB0 σ x1 (pS σ)) 88 68 x2) := by
        have z := zBeg_0 (gI σ 89 (610 + 4 * x1)) (gI σ 89 (610 + 4 * x1 + 1)) (gI σ 89 (610 + 4 * x1 + 2)) (gI σ 89 (610 + 4 * x1 + 3)) (pS σ)
        refine ⟨OKA_68 D0.1, ?_, ?_, ?_⟩
        · rw [uS_nei (by omega)]; have : zB0 σ x1 (pS σ) 88 25 = 0 := z 25 (by omega); omega
        · rw [uS_nei (by omega)]; have : zB0 σ x1 (pS σ) 88 24 = 0 := z 24 (by omega); omega
        · rw [uS_nei (by omega)]; have : zB0 σ x1 (pS σ) 88 23 = 0 := z 23 (by omega); omega
      refine gloopI (α := gS) 0 x3 (fun j υ => j ≤ x3 ∧ pS υ = zDraws j.toNat (uS (zB0 σ x1 (pS σ)) 88 68 x2) ∧ tSame σ υ) (fun j υ => kX12_drawn_38 l G x1 x2 x3 x4 j υ _) ?_ ?_ 0 τ3 (by omega) ⟨by omega, p3, s3⟩
      · rintro j υ j0 j1 ⟨z0, z1, z2⟩ ih
        obtain ⟨⟨hA, h25, h24, h23⟩, t10⟩ := zDraws_ok R0 j.toNat
        refine vX12_drawn_38 x1 x2 x3 x4 j r1 r2 r3 r4 ⟨by omega, by omega⟩ υ _ ⟨fun e => by omega, fun _ => ?_⟩
        refine c_draws υ (by rw [z1]; exact hA) (by rw [z1]; omega) (by rw [z1]; omega) (by rw [z1]; omega) _ (fun w pw fw => ih w ⟨by omega, ?_, z2.q fw⟩)
        rw [pw, z1, show (j + 1).toNat = j.toNat + 1 by omega]; rfl
      · rintro j υ j0 ⟨z0, z1, z2⟩
        have hj : j = x3 := by omega
        subst hj
        obtain ⟨⟨hA, h25, h24, h23⟩, t10⟩ := zDraws_ok R0 j.toNat
        refine vX12_drawn_38 x1 x2 j x4 j r1 r2 r3 r4 r3 υ _ ⟨fun _ => c_nowOf x4 r4 e4 υ (by rw [z1]; exact hA.1) (by rw [z1]; omega) (by rw [z1]; omega) _ (fun _ _ => ⟨?_, tInv.same z2 hI⟩), fun e => by omega⟩
        rw [z1]; exact hy (by omega)
    · rw [hy (by omega)]
      unfold zTell
      rw [if_pos (by omega), if_neg (by omega), if_neg (by omega), if_neg (by omega), if_neg (by omega), if_neg (by omega), if_neg (by omega)]
  refine vX11_drawn x1 x2 x3 x4 r1 r2 r3 r4 σ _ (c_has 0 x1 (by decide) r1 σ _ (fun a ha _ => ⟨fun e _ => B _ σ frC.rfl' (fun _ => rfl) (fun q => by omega), fun e => ⟨fun e1 _ => B _ σ frC.rfl' (fun _ => rfl) (fun q => by omega), fun e1 => ⟨fun e2 => ?_, fun e2 _ => B _ σ frC.rfl' (fun _ => rfl) (fun q => by omega)⟩⟩⟩))
  obtain ⟨⟨w0, w1, w2, w3⟩, t1, t2, t3, t4, t5⟩ := tBars hI (x := x1) (by omega) (by omega)
  refine c_begin0 x1 _ _ _ _ (by omega) t1 t2 t3 t4 σ w0 w1 w2 w3 _ (fun τ hτ fτ => ?_)
  have D0 := zB0_d hI (x := x1) (by omega) (by omega) (pS σ)
  have z := zBeg_0 (gI σ 89 (610 + 4 * x1)) (gI σ 89 (610 + 4 * x1 + 1)) (gI σ 89 (610 + 4 * x1 + 2)) (gI σ 89 (610 + 4 * x1 + 3)) (pS σ)
  have R0 : OKR 0 (zB0 σ x1 (pS σ)) := by
    refine ⟨D0.1, ?_, ?_, ?_⟩
    · have : zB0 σ x1 (pS σ) 88 25 = 0 := z 25 (by omega); omega
    · have : zB0 σ x1 (pS σ) 88 24 = 0 := z 24 (by omega); omega
    · have : zB0 σ x1 (pS σ) 88 23 = 0 := z 23 (by omega); omega
  refine c_draw x2 x3 r2 ⟨e1, e2⟩ τ (zB0 σ x1 (pS σ)) (hτ _).1 (hτ _).2 R0 _ (fun υ uC uF => ?_)
  have R1 : OKR 0 (uS (zB0 σ x1 (pS σ)) 88 68 x2) := R0
  refine c_tellR x4 r4 υ _ uC (zDraws_ok R1 x3.toNat).1.1.1 _ (fun _ _ => B _ υ (fτ.c.trans ⟨fun c hc i => uF c i (by omega), fun c hc i => uF c i (by omega)⟩) (fun q => by omega) (fun _ => rfl))
end RD
