theorem zE1_107 (i : Int) (S : RS) (k : Int) : S 107 k ≤ zE1 i S 107 k ∧ zE1 i S 107 k ≤ S 107 k + 1 := by
  have h : zE1 i S 107 k = if k = S 96 (9 * i) then S 107 k + 1 else S 107 k := by
    unfold zE1
    split
    · rw [zMv_o _ _ _ _ _ _ (by omega), uS_ne (by omega), uS_ne (by omega), uS_ne (by omega), uS_at]
      by_cases hk : k = S 96 (9 * i)
      · rw [if_pos ⟨rfl, hk⟩, if_pos hk, hk]
      · rw [if_neg (fun z => hk z.2), if_neg hk]
    · rw [uS_at]
      by_cases hk : k = S 96 (9 * i)
      · rw [if_pos ⟨rfl, hk⟩, if_pos hk, hk]
      · rw [if_neg (fun z => hk z.2), if_neg hk]
  rw [h]
  split <;> omega
theorem zE1_28 (i : Int) (S : RS) : S 88 28 ≤ zE1 i S 88 28 ∧ zE1 i S 88 28 ≤ S 88 28 + 1 := by
  unfold zE1
  split
  · rw [zMv_o _ _ _ _ _ _ (by omega), uS_ne (by omega), uS_eq]; omega
  · rw [uS_ne (by omega)]; omega
/-- the heads of inputs not yet looked at -/
theorem zE_keep (busy : Int → Bool) : ∀ (n : Nat) (S : RS), n ≤ 6 → (∀ i, 0 ≤ i → i < 6 → S 97 i ≤ 9) →
    (∀ k, k ≠ 28 → zE busy n S 88 k = S 88 k) ∧ (∀ i, (n : Int) ≤ i → zE busy n S 97 i = S 97 i) ∧ (∀ i, 0 ≤ i → i < 6 → zE busy n S 97 i ≤ 9) ∧ (∀ k, 9 * (n : Int) ≤ k → zE busy n S 96 k = S 96 k) ∧ (∀ c k, c ≠ 88 → c ≠ 96 → c ≠ 97 → c ≠ 104 → c ≠ 107 → zE busy n S c k = S c k) ∧ (∀ k, S 107 k ≤ zE busy n S 107 k ∧ zE busy n S 107 k ≤ S 107 k + n) ∧ (S 88 28 ≤ zE busy n S 88 28 ∧ zE busy n S 88 28 ≤ S 88 28 + n)
  | 0, S, _, h97 => ⟨fun _ _ => rfl, fun _ _ => rfl, h97, fun _ _ => rfl, fun _ _ _ _ _ _ _ => rfl, fun k => ⟨Int.le_refl _, by show S 107 k ≤ S 107 k + 0; omega⟩, ⟨Int.le_refl _, by show S 88 28 ≤ S 88 28 + 0; omega⟩⟩
  | n + 1, S, hn, h97 => by
    obtain ⟨a1, a2, a3, a4, a5, a6, a7⟩ := zE_keep busy n S (by omega) h97
    have hn9 := a3 n (by omega) (by omega)
    unfold zE
    split
    · have b7 := zE1_28 n (zE busy n S)
      refine ⟨fun k hk => by rw [zE1_88 _ _ _ hk]; exact a1 k hk, fun i hi => by rw [zE1_97 _ _ _ (by omega)]; exact a2 i (by omega), fun i i0 i1 => ?_, fun k hk => by rw [zE1_96 _ _ hn9 _ (by omega)]; exact a4 k (by omega), fun c k c1 c2 c3 c4 c5 => by rw [zE1_o _ _ _ _ ⟨c1, c2, c3, c4, c5⟩]; exact a5 c k c1 c2 c3 c4 c5, fun k => ?_, by omega⟩
      · by_cases hi : i = n
        · subst hi
          unfold zE1
          split
          · rw [zMv_o _ _ _ _ _ _ (by omega), uS_eq]; omega
          · rw [uS_ne (by omega)]; exact hn9
        · rw [zE1_97 _ _ _ hi]; exact a3 i i0 i1
      · have b6 := zE1_107 n (zE busy n S) k
        have c6 := a6 k
        omega
    · exact ⟨a1, fun i hi => a2 i (by omega), a3, fun k hk => a4 k (by omega), a5, fun k => by have := a6 k; omega, by omega⟩
theorem bz_of (tk : Int → Int) (i : Int) : ∀ n : Nat, bz tk n i = true → ∃ o : Int, 0 ≤ o ∧ o < n ∧ tk o = i
  | 0, h => by cases h
  | n + 1, h => by
    unfold bz at h
    rw [Bool.or_eq_true] at h
    rcases h with h | h
    · obtain ⟨o, o0, o1, o2⟩ := bz_of tk i n h
      exact ⟨o, o0, by omega, o2⟩
    · exact ⟨n, by omega, by omega, by simpa using h⟩
theorem tb0 (k : Int) : tb 0 k = false := by unfold tb; exact Nat.zero_testBit _
section NE
variable {l : Launch} {G : gG}
/-- fans are sent, by the reference -/
theorem c_sendsFans (σ : gS) (hS : OKS (pS σ)) (hk : pS σ 88 25 ≤ 400) (h107 : ∀ k, 0 ≤ k → k < pS σ 88 25 → 0 ≤ pS σ 107 k ∧ pS σ 107 k ≤ 1000000) (h28 : pS σ 88 28 ≤ 1000000) (Q : gS → Prop)
    (h : ∀ τ, pS τ = zSendF (pS σ) → (∀ o, 0 ≤ o → o < 6 → gI τ 112 o = zTk (pS σ) o) → isM (gI τ 88 41) (fun i => bz (zTk (pS σ)) (pS σ 88 10).toNat i) → isM (gI τ 88 42) (fun o => decide (o < pS σ 88 10) && decide (zTk (pS σ) o ≠ -1)) → frQ σ τ → Q τ) : eX12_sendsFans l G σ Q := by
  have hP := hS.1
  have hpw := two_pow_P (P := pS σ 88 10) ⟨hP.1, hP.2.1⟩
  have hL : ∀ i, 0 ≤ i → i < 6 → 0 ≤ zLeft (pS σ) i ∧ zLeft (pS σ) i < 64 := fun i i0 i1 => zLeft_64 hS i ⟨i0, i1⟩
  have hTk := zTk_r (pS σ) hP.1
  have hsv : 0 ≤ zServed (pS σ) ∧ zServed (pS σ) < 64 := by
    have := svF_r (zLeft (pS σ)) (pS σ 88 10) ((2 : Int) ^ (pS σ 88 10).toNat - 1).toNat
    unfold zServed
    omega
  generalize hZ : zSendF (pS σ) = Z at h
  generalize hT : zTk (pS σ) = tk at *
  refine vX12_sendsFans σ Q (c_servedSet σ hS hk _ (fun _ => ?_))
  have tkdef : ∀ o, 0 ≤ o → o < pS σ 88 10 → tk o = tkF (zLeft (pS σ)) (zServed (pS σ)) (pS σ 88 10) o := by
    intro o o0 o1
    rw [← hT]; unfold zTk; rw [if_pos o1]
  have tkhi : ∀ o, pS σ 88 10 ≤ o → tk o = -1 := by
    intro o o1
    rw [← hT]; unfold zTk; rw [if_neg (by omega)]
  have zdef : Z = zE (bz tk (pS σ 88 10).toNat) (pS σ 88 10).toNat (zW tk (pS σ 88 10).toNat (pS σ)) := by
    rw [← hZ]; unfold zSendF; rw [hT]
  generalize hsve : zServed (pS σ) = sv at *
  generalize hSe : pS σ = S at *
  generalize hPe : S 88 10 = P at *
  have rsv : gR sv := ⟨by omega, by omega⟩
  have pe10 : ∀ τ : gS, pS τ = S → gI τ 88 10 = P := fun τ e => by rw [pS_at (by unfold okC; omega), e]; exact hPe
  have okτ : ∀ τ : gS, pS τ = S → OKS (pS τ) := fun τ e => by rw [e]; exact hS
  have left : ∀ (τ : gS) (i : Int), pS τ = S → 0 ≤ i ∧ i < 6 → ∀ K : Int → gS → Prop, K (zLeft S i) τ → eX12_leftOf l G i τ K := fun τ i e hi K hK => c_leftOf i hi τ (okτ τ e) (by rw [e]; exact hk) K (by rw [e]; exact hK)
  -- the last loop: heads that have sent
  have L5 : ∀ τ, pS τ = zW tk P.toNat S → isM (gI τ 88 41) (fun i => bz tk P.toNat i) → isM (gI τ 88 42) (fun o => decide (o < P) && decide (tk o ≠ -1)) → (∀ o, 0 ≤ o → o < 6 → gI τ 112 o = tk o) → frQ σ τ → kX12_sendsFans_242 l G sv 0 τ Q := by
    intro τ0 hτ hbi hbo h112 hF
    generalize hWe : zW tk P.toNat S = W at *
    have W88 : ∀ k, W 88 k = S 88 k := fun k => by rw [← hWe]; exact zW_o _ _ _ _ _ (by omega)
    have W97 : ∀ k, W 97 k = S 97 k := fun k => by rw [← hWe]; exact zW_o _ _ _ _ _ (by omega)
    have W96 : ∀ k, W 96 k = S 96 k := fun k => by rw [← hWe]; exact zW_o _ _ _ _ _ (by omega)
    have W107 : ∀ k, W 107 k = S 107 k := fun k => by rw [← hWe]; exact zW_o _ _ _ _ _ (by omega)
    have hW9 : ∀ i, 0 ≤ i → i < 6 → W 97 i ≤ 9 := fun i i0 i1 => by rw [W97]; have := (hS.2.2.2.1 i i0 i1).2.1; omega
    refine gloopI (α := gS) 0 P (fun i τ => i ≤ P ∧ pS τ = zE (bz tk P.toNat) i.toNat W ∧ gI τ 88 41 = gI τ0 88 41 ∧ gI τ 88 42 = gI τ0 88 42 ∧ (∀ o, gI τ 112 o = gI τ0 112 o) ∧ frQ σ τ) (fun i τ => kX12_sendsFans_242 l G sv i τ Q) ?_ ?_ 0 τ0 (by omega) ⟨by omega, hτ, rfl, rfl, fun _ => rfl, hF⟩
    · rintro i τ i0 i1 ⟨z0, zp, z41, z42, z112, zF⟩ ih
      obtain ⟨a1, a2, a3, a4, a5, a6, a7⟩ := zE_keep (bz tk P.toNat) i.toNat W (by omega) hW9
      have e10 : gI τ 88 10 = P := by rw [pS_at (by unfold okC; omega), zp, a1 10 (by omega), W88]; exact hPe
      have stp : zE (bz tk P.toNat) (i + 1).toNat W = if bz tk P.toNat i = true then zE1 i (zE (bz tk P.toNat) i.toNat W) else zE (bz tk P.toNat) i.toNat W := by
        rw [show (i + 1).toNat = i.toNat + 1 by omega]
        show (if bz tk P.toNat ((i.toNat : Nat) : Int) = true then zE1 ((i.toNat : Nat) : Int) _ else _) = _
        rw [show ((i.toNat : Nat) : Int) = i by omega]
      refine vX12_sendsFans_242 sv i rsv ⟨by omega, by omega⟩ τ Q ?_
      rw [e10, z41, tb_eq _ i (by have := hbi.1; have := hbi.2.1; omega) (by omega), hbi.2.2 i (by omega) (by omega)]
      refine ⟨fun e => by omega, fun _ => ?_⟩
      by_cases hb : bz tk P.toNat i = true
      · rw [if_pos hb]
        rw [if_pos hb] at stp
        refine ⟨fun _ => ?_, fun e => absurd e (by decide)⟩
        -- it has a fan
        obtain ⟨o, o0, o1, o2⟩ := bz_of tk i P.toNat hb
        have hto := hTk o
        have hz : S 97 i ≠ 0 := by
          intro z
          rcases hto with e | ⟨_, _, _, e⟩
          · omega
          · rw [o2, (zLeft_r hS i ⟨by omega, by omega⟩).2.2.mpr z, tb0] at e; cases e
        have f97 : pS τ 97 i = S 97 i := by rw [zp, a2 i (by omega), W97]
        have f96 : pS τ 96 (9 * i) = S 96 (9 * i) := by rw [zp, a4 _ (by omega), W96]
        have h4 := hS.2.2.2.1 i (by omega) (by omega)
        have hk0 := h4.2.2 0 (by omega) (by omega)
        rw [Int.add_zero] at hk0
        have b107 := a6 (S 96 (9 * i))
        have c107 := h107 (S 96 (9 * i)) (by omega) (by omega)
        rw [W107] at b107
        refine c_headOf i (by omega) τ (by rw [f97]; exact hz) _ (fun _ => ?_)
        rw [f96]
        have g107 : gI τ 107 (S 96 (9 * i)) = pS τ 107 (S 96 (9 * i)) := pS_at (by unfold okC; omega)
        have v107 : pS τ 107 (S 96 (9 * i)) = zE (bz tk P.toNat) i.toNat W 107 (S 96 (9 * i)) := by rw [zp]
        rw [g107]
        refine ⟨by omega, ⟨by omega, by omega⟩, fun τ1 e1 => ?_⟩
        have p1 : pS τ1 = uS (pS τ) 107 (S 96 (9 * i)) (pS τ 107 (S 96 (9 * i)) + 1) := by rw [e1, pS_sI (by unfold okC; omega)]
        have g106 : gI τ1 106 (S 96 (9 * i)) = pS τ 106 (S 96 (9 * i)) := by rw [pS_at (by unfold okC; omega), p1, uS_ne (by omega)]
        have k1 : gI τ1 88 41 = gI τ0 88 41 := by rw [e1, sI_ne (by omega)]; exact z41
        have k2 : gI τ1 88 42 = gI τ0 88 42 := by rw [e1, sI_ne (by omega)]; exact z42
        have k3 : ∀ o, gI τ1 112 o = gI τ0 112 o := fun o => by rw [e1, sI_ne (by omega)]; exact z112 o
        have F1 : frQ σ τ1 := by rw [e1]; exact zF.trans (frQ.set (by omega))
        rw [g106]
        refine ⟨fun e9 τ2 e2 => ?_, fun e9 => ih τ1 ⟨by omega, ?_, k1, k2, k3, F1⟩⟩
        · have g24 : gI τ1 88 24 = pS τ 88 24 := by rw [pS_at (by unfold okC; omega), p1, uS_ne (by omega)]
          rw [g24] at e2
          have p2 : pS τ2 = uS (pS τ1) 104 (S 96 (9 * i)) (pS τ 88 24) := by rw [e2, pS_sI (by unfold okC; omega)]
          have g28 : gI τ2 88 28 = pS τ 88 28 := by rw [pS_at (by unfold okC; omega), p2, uS_ne (by omega), p1, uS_ne (by omega)]
          have v28 : pS τ 88 28 = zE (bz tk P.toNat) i.toNat W 88 28 := by rw [zp]
          rw [g28]
          have w28 := W88 28
          have o28 := hS.2.1
          refine ⟨⟨by omega, by omega⟩, fun τ3 e3 => ⟨by omega, ?_⟩⟩
          have p3 : pS τ3 = uS (pS τ2) 88 28 (pS τ 88 28 + 1) := by rw [e3, pS_sI (by unfold okC; omega)]
          have g97 : gI τ3 97 i = S 97 i := by rw [pS_at (by unfold okC; omega), p3, uS_ne (by omega), p2, uS_ne (by omega), p1, uS_ne (by omega)]; exact f97
          rw [g97]
          refine ⟨⟨by omega, by omega⟩, fun τ4 e4 => ?_⟩
          have p4 : pS τ4 = uS (pS τ3) 97 i (S 97 i - 1) := by rw [e4, pS_sI (by unfold okC; omega)]
          have T4 : ∀ o, gI τ4 112 o = gI τ0 112 o := fun o => by rw [e4, sI_ne (by omega), e3, sI_ne (by omega), e2, sI_ne (by omega)]; exact k3 o
          have T41 : gI τ4 88 41 = gI τ0 88 41 := by rw [e4, sI_ne (by omega), e3, sI_nei (by omega), e2, sI_ne (by omega)]; exact k1
          have T42 : gI τ4 88 42 = gI τ0 88 42 := by rw [e4, sI_ne (by omega), e3, sI_nei (by omega), e2, sI_ne (by omega)]; exact k2
          have F4 : frQ σ τ4 := by rw [e4, e3, e2]; exact ((F1.trans (frQ.set (by omega))).trans (frQ.set (by omega))).trans (frQ.set (by omega))
          have e1z : zE1 i (pS τ) = zMv 96 (9 * i) (S 97 i - 1).toNat (pS τ4) := by
            unfold zE1
            rw [f96, if_pos e9, f97, p4, p3, p2, p1]
          -- the row moves up
          refine gloopI (α := gS) 0 (S 97 i - 1) (fun m υ => m ≤ S 97 i - 1 ∧ pS υ = zMv 96 (9 * i) m.toNat (pS τ4) ∧ gI υ 88 41 = gI τ0 88 41 ∧ gI υ 88 42 = gI τ0 88 42 ∧ (∀ o, gI υ 112 o = gI τ0 112 o) ∧ frQ σ υ) (fun m υ => kX12_sendsFans_325 l G sv i (S 96 (9 * i)) m υ Q) ?_ ?_ 0 τ4 (by omega) ⟨by omega, rfl, T41, T42, T4, F4⟩
          · rintro m υ m0 m1 ⟨y0, y1, y2, y3, y4, y5⟩ ih2
            have u97 : gI υ 97 i = S 97 i - 1 := by rw [pS_at (by unfold okC; omega), y1, zMv_o _ _ _ _ _ _ (by omega), p4, uS_eq]
            refine vX12_sendsFans_325 sv i (S 96 (9 * i)) m rsv ⟨by omega, by omega⟩ ⟨by omega, by omega⟩ ⟨by omega, by omega⟩ υ Q ?_
            rw [u97]
            refine ⟨by omega, fun e => by omega, fun _ => ⟨by omega, by omega, fun w ew => ih2 w ⟨by omega, ?_, ?_, ?_, fun o => ?_, ?_⟩⟩⟩
            · have u96 : gI υ 96 (9 * i + m + 1) = pS τ4 96 (9 * i + m + 1) := by rw [pS_at (by unfold okC; omega), y1, zMv_c, if_neg (by omega)]
              rw [ew, pS_sI (by unfold okC; omega), y1, u96, show (m + 1).toNat = m.toNat + 1 by omega]
              show _ = uS (zMv 96 (9 * i) m.toNat (pS τ4)) 96 (9 * i + ((m.toNat : Nat) : Int)) (pS τ4 96 (9 * i + ((m.toNat : Nat) : Int) + 1))
              rw [show ((m.toNat : Nat) : Int) = m by omega]
            · rw [ew, sI_ne (by omega)]; exact y2
            · rw [ew, sI_ne (by omega)]; exact y3
            · rw [ew, sI_ne (by omega)]; exact y4 o
            · rw [ew]; exact y5.trans (frQ.set (by omega))
          · rintro m υ m0 ⟨y0, y1, y2, y3, y4, y5⟩
            have hm : m = S 97 i - 1 := by omega
            have u97 : gI υ 97 i = S 97 i - 1 := by rw [pS_at (by unfold okC; omega), y1, zMv_o _ _ _ _ _ _ (by omega), p4, uS_eq]
            refine vX12_sendsFans_325 sv i (S 96 (9 * i)) m rsv ⟨by omega, by omega⟩ ⟨by omega, by omega⟩ ⟨by omega, by omega⟩ υ Q ?_
            rw [u97]
            refine ⟨by omega, fun _ => ih υ ⟨by omega, ?_, y2, y3, y4, y5⟩, fun e => by omega⟩
            rw [stp, ← zp, e1z, y1, hm]
        · rw [stp, ← zp]
          unfold zE1
          rw [f96, if_neg e9, p1]
      · rw [if_neg hb]
        rw [if_neg hb] at stp
        exact ⟨fun e => absurd rfl e, fun _ => ih τ ⟨by omega, by rw [stp]; exact zp, z41, z42, z112, zF⟩⟩
    · rintro i τ i0 ⟨z0, zp, z41, z42, z112, zF⟩
      have hi : i = P := by omega
      subst hi
      obtain ⟨a1, a2, a3, a4, a5, a6, a7⟩ := zE_keep (bz tk i.toNat) i.toNat W (by omega) hW9
      have e10 : gI τ 88 10 = i := by rw [pS_at (by unfold okC; omega), zp, a1 10 (by omega), W88]; exact hPe
      refine vX12_sendsFans_242 sv i rsv ⟨by omega, by omega⟩ τ Q ?_
      rw [e10]
      refine ⟨fun _ => h τ (by rw [zp, zdef]) (fun o o0 o1 => by rw [z112]; exact h112 o o0 o1) (by rw [z41]; exact hbi) (by rw [z42]; exact hbo) zF, fun e => by omega⟩
  -- what is left, who is busy
  have L4 : ∀ τ, pS τ = S → gI τ 88 41 = 0 → gI τ 88 42 = 0 → (∀ o, 0 ≤ o → o < 6 → gI τ 112 o = tk o) → frQ σ τ → kX12_sendsFans_161 l G sv 0 τ Q := by
    intro τ0 hτ hb1 hb2 h112 hF
    refine gloopI (α := gS) 0 P (fun o τ => o ≤ P ∧ pS τ = zW tk o.toNat S ∧ isM (gI τ 88 41) (fun i => bz tk o.toNat i) ∧ isM (gI τ 88 42) (fun k => decide (k < o) && decide (tk k ≠ -1)) ∧ (∀ k, 0 ≤ k → k < 6 → gI τ 112 k = tk k) ∧ frQ σ τ) (fun o τ => kX12_sendsFans_161 l G sv o τ Q) ?_ ?_ 0 τ0 (by omega) ⟨by omega, hτ, by rw [hb1]; exact isM_0, by rw [hb2]; exact isM_congr isM_0 (fun k k0 k1 => by have q9 : ¬ k < 0 := (by omega); simp [q9]), h112, hF⟩
    · rintro o τ o0 o1 ⟨z0, zp, z41, z42, z112, zF⟩ ih
      have e10 : gI τ 88 10 = P := by rw [pS_at (by unfold okC; omega), zp, zW_o _ _ _ _ _ (by omega)]; exact hPe
      have stp : zW tk (o + 1).toNat S = if tk o = -1 then zW tk o.toNat S else uS (zW tk o.toNat S) 106 (S 96 (9 * tk o)) (gand (zW tk o.toNat S 106 (S 96 (9 * tk o))) (gxor (gshl 1 o) (-1))) := by
        rw [show (o + 1).toNat = o.toNat + 1 by omega]
        show (if tk ((o.toNat : Nat) : Int) = -1 then _ else uS _ 106 (S 96 (9 * tk ((o.toNat : Nat) : Int))) (gand (zW tk o.toNat S 106 (S 96 (9 * tk ((o.toNat : Nat) : Int)))) (gxor (gshl 1 ((o.toNat : Nat) : Int)) (-1)))) = _
        rw [show ((o.toNat : Nat) : Int) = o by omega]
      have sbz : ∀ k, bz tk (o + 1).toNat k = (bz tk o.toNat k || decide (tk o = k)) := by
        intro k
        rw [show (o + 1).toNat = o.toNat + 1 by omega]
        show (bz tk o.toNat k || decide (tk ((o.toNat : Nat) : Int) = k)) = _
        rw [show ((o.toNat : Nat) : Int) = o by omega]
      refine vX12_sendsFans_161 sv o rsv ⟨by omega, by omega⟩ τ Q ?_
      rw [e10, z112 o (by omega) (by omega)]
      refine ⟨fun e => by omega, fun _ => ⟨by omega, fun e9 τ1 e1 τ2 e2 => ?_, fun e9 => ih τ ⟨by omega, by rw [stp, if_pos e9]; exact zp, ?_, ?_, z112, zF⟩⟩⟩
      · have hto := hTk o
        obtain ⟨t0, t1, t2, t3⟩ : 0 ≤ tk o ∧ tk o < P ∧ o < P ∧ tb (zLeft S (tk o)) o = true := by
          rcases hto with e | e
          · exact absurd e e9
          · exact e
        have hz : S 97 (tk o) ≠ 0 := by
          intro z
          rw [(zLeft_r hS (tk o) ⟨by omega, by omega⟩).2.2.mpr z, tb0] at t3; cases t3
        have h4 := hS.2.2.2.1 (tk o) (by omega) (by omega)
        have hk0 := h4.2.2 0 (by omega) (by omega)
        rw [Int.add_zero] at hk0
        have a42 : gI τ1 88 42 = gI τ 88 42 := by rw [e1, sI_nei (by omega)]
        rw [a42] at e2
        have f112 : gI τ2 112 o = tk o := by rw [e2, sI_ne (by omega), e1, sI_ne (by omega)]; exact z112 o (by omega) (by omega)
        have p2 : pS τ2 = zW tk o.toNat S := by rw [e2, pS_no (by unfold okC; omega), e1, pS_no (by unfold okC; omega)]; exact zp
        have f97 : pS τ2 97 (tk o) = S 97 (tk o) := by rw [p2, zW_o _ _ _ _ _ (by omega)]
        have f96 : pS τ2 96 (9 * tk o) = S 96 (9 * tk o) := by rw [p2, zW_o _ _ _ _ _ (by omega)]
        rw [f112]
        refine c_headOf (tk o) (by omega) τ2 (by rw [f97]; exact hz) _ (fun _ => ?_)
        rw [f96]
        have g106 : gI τ2 106 (S 96 (9 * tk o)) = zW tk o.toNat S 106 (S 96 (9 * tk o)) := by rw [pS_at (by unfold okC; omega), p2]
        rw [g106]
        refine ⟨by omega, fun τ3 e3 => ih τ3 ⟨by omega, ?_, ?_, ?_, fun k k0 k1 => ?_, ?_⟩⟩
        · rw [e3, pS_sI (by unfold okC; omega), p2, stp, if_neg e9]
        · rw [e3, sI_ne (by omega), e2, sI_nei (by omega), e1, sI_eq]
          exact isM_congr (isM_set z41 (tk o) (by omega)) (fun k _ _ => by rw [sbz])
        · rw [e3, sI_ne (by omega), e2, sI_eq]
          refine isM_congr (isM_set z42 o (by omega)) (fun k k0 k1 => ?_)
          by_cases hko : k = o
          · subst hko
            have : k < k + 1 := by omega
            simp [this, e9]
          · have h1 : (k < o) = (k < o + 1) := by simp only [eq_iff_iff]; omega
            have h2 : ¬ o = k := fun z => hko z.symm
            simp only [h1, h2, decide_false, Bool.or_false]
        · rw [e3, sI_ne (by omega), e2, sI_ne (by omega), e1, sI_ne (by omega)]; exact z112 k k0 k1
        · rw [e3, e2, e1]; exact ((zF.trans (frQ.set (by omega))).trans (frQ.set (by omega))).trans (frQ.set (by omega))
      · refine isM_congr z41 (fun k k0 k1 => ?_)
        rw [sbz, e9]
        have : ¬ (-1 : Int) = k := by omega
        simp [this]
      · refine isM_congr z42 (fun k k0 k1 => ?_)
        by_cases hko : k = o
        · subst hko
          have n1 : ¬ k < k := by omega
          simp [n1, e9]
        · have h1 : (k < o) = (k < o + 1) := by simp only [eq_iff_iff]; omega
          simp only [h1]
    · rintro o τ o0 ⟨z0, zp, z41, z42, z112, zF⟩
      have ho : o = P := by omega
      subst ho
      have e10 : gI τ 88 10 = o := by rw [pS_at (by unfold okC; omega), zp, zW_o _ _ _ _ _ (by omega)]; exact hPe
      refine vX12_sendsFans_161 sv o rsv ⟨by omega, by omega⟩ τ Q ?_
      rw [e10]
      exact ⟨fun _ => L5 τ zp z41 z42 z112 zF, fun e => by omega⟩
  -- the least that wants what no served one took
  have L3 : ∀ τ, pS τ = S → (∀ o, 0 ≤ o → o < 6 → gI τ 112 o = if o < P then tk1 (zLeft S) sv P.toNat o else -1) → frQ σ τ → kX12_sendsFans_89 l G sv 0 τ Q := by
    intro τ0 hτ h112 hF
    refine gloopI (α := gS) 0 P (fun o τ => o ≤ P ∧ pS τ = S ∧ (∀ k, 0 ≤ k → k < 6 → gI τ 112 k = if k < o then tk k else if k < P then tk1 (zLeft S) sv P.toNat k else -1) ∧ frQ σ τ) (fun o τ => kX12_sendsFans_89 l G sv o τ Q) ?_ ?_ 0 τ0 (by omega) ⟨by omega, hτ, fun k k0 k1 => by rw [if_neg (by omega)]; exact h112 k k0 k1, hF⟩
    · rintro o τ o0 o1 ⟨z0, zp, z112, zF⟩ ih
      refine vX12_sendsFans_89 sv o rsv ⟨by omega, by omega⟩ τ Q ?_
      rw [pe10 τ zp]
      refine ⟨fun e => by omega, fun _ => ?_⟩
      have fin : ∀ υ : gS, pS υ = S → (∀ k, 0 ≤ k → k < 6 → k ≠ o → gI υ 112 k = gI τ 112 k) → gI υ 112 o = tk o → frQ σ υ → kX12_sendsFans_89 l G sv (o + 1) υ Q := by
        intro υ hp hk9 ho9 hF9
        refine ih υ ⟨by omega, hp, fun k k0 k1 => ?_, hF9⟩
        by_cases hko : k = o
        · subst hko; rw [if_pos (by omega)]; exact ho9
        · rw [hk9 k k0 k1 hko, z112 k k0 k1]
          by_cases h1 : k < o
          · rw [if_pos h1, if_pos (by omega)]
          · rw [if_neg h1, if_neg (show ¬ k < o + 1 by omega)]
      have key : ∀ (n : Nat) (i : Int) (υ : gS), i + n = P → 0 ≤ i → pS υ = S → (∀ k, 0 ≤ k → k < 6 → k ≠ o → gI υ 112 k = gI τ 112 k) → ((gI υ 112 o = -1 ∧ f1 (zLeft S) o n i = tk o) ∨ (gI υ 112 o ≠ -1 ∧ gI υ 112 o = tk o)) → frQ σ υ → kX12_sendsFans_99 l G sv o i υ Q := by
        intro n
        induction n with
        | zero =>
          intro i υ e0 e1 hp hk9 hx hF9
          refine vX12_sendsFans_99 sv o i rsv ⟨by omega, by omega⟩ ⟨by omega, by omega⟩ υ Q ?_
          rw [pe10 υ hp]
          refine ⟨fun _ => fin υ hp hk9 ?_ hF9, fun e => by omega⟩
          rcases hx with ⟨x1, x2⟩ | ⟨x1, x2⟩
          · rw [x1]; exact x2
          · exact x2
        | succ n ihn =>
          intro i υ e0 e1 hp hk9 hx hF9
          have hLi := hL i (by omega) (by omega)
          refine vX12_sendsFans_99 sv o i rsv ⟨by omega, by omega⟩ ⟨by omega, by omega⟩ υ Q ?_
          rw [pe10 υ hp]
          refine ⟨fun e => by omega, fun _ => ⟨by omega, fun e9 => ?_, fun e9 => ?_⟩⟩
          · rcases hx with ⟨x1, x2⟩ | ⟨x1, x2⟩
            · exact absurd x1 e9
            · exact fin υ hp hk9 x2 hF9
          · rcases hx with ⟨x1, x2⟩ | ⟨x1, x2⟩
            · refine left υ i hp (by omega) _ (fun _ => ?_)
              rw [tb_eq _ o (by omega) (by omega)]
              unfold f1 at x2
              by_cases ht : tb (zLeft S i) o = true
              · rw [if_pos ht] at x2 ⊢
                refine ⟨fun e => absurd rfl e, fun _ υ1 eu => ?_⟩
                refine ihn (i + 1) υ1 (by omega) (by omega) (by rw [eu, pS_no (by unfold okC; omega)]; exact hp) (fun k k0 k1 hk => by rw [eu, sI_nei hk]; exact hk9 k k0 k1 hk) (Or.inr ?_) (by rw [eu]; exact hF9.trans (frQ.set (by omega)))
                rw [eu, sI_eq]
                exact ⟨by omega, x2⟩
              · rw [if_neg ht] at x2 ⊢
                exact ⟨fun _ => ihn (i + 1) υ (by omega) (by omega) hp hk9 (Or.inl ⟨x1, x2⟩) hF9, fun e => absurd e (by decide)⟩
            · exact absurd e9 x1
      have z9 := z112 o (by omega) (by omega)
      rw [if_neg (by omega), if_pos o1] at z9
      have td := tkdef o (by omega) o1
      unfold tkF at td
      refine key P.toNat 0 τ (by omega) (by omega) zp (fun _ _ _ _ => rfl) ?_ zF
      by_cases h1 : tk1 (zLeft S) sv P.toNat o = -1
      · rw [if_pos h1] at td
        exact Or.inl ⟨by rw [z9]; exact h1, td.symm⟩
      · rw [if_neg h1] at td
        exact Or.inr ⟨by rw [z9]; exact h1, by rw [z9]; exact td.symm⟩
    · rintro o τ o0 ⟨z0, zp, z112, zF⟩
      have ho : o = P := by omega
      subst ho
      refine vX12_sendsFans_89 sv o rsv ⟨by omega, by omega⟩ τ Q ?_
      rw [pe10 τ zp]
      refine ⟨fun _ τ1 e1 τ2 e2 => L4 τ2 ?_ ?_ ?_ (fun k k0 k1 => ?_) ?_, fun e => by omega⟩
      · rw [e2, pS_no (by unfold okC; omega), e1, pS_no (by unfold okC; omega)]; exact zp
      · rw [e2, sI_nei (by omega), e1, sI_eq]
      · rw [e2, sI_eq]
      · rw [e2, sI_ne (by omega), e1, sI_ne (by omega), z112 k k0 k1]
        by_cases h1 : k < o
        · rw [if_pos h1]
        · rw [if_neg h1, if_neg h1, tkhi k (by omega)]
      · rw [e2, e1]; exact (zF.trans (frQ.set (by omega))).trans (frQ.set (by omega))
  -- the served ones
  have L2 : ∀ τ, pS τ = S → (∀ o, 0 ≤ o → o < 6 → gI τ 112 o = -1) → frQ σ τ → kX12_sendsFans_28 l G sv 0 τ Q := by
    intro τ0 hτ h112 hF
    refine gloopI (α := gS) 0 P (fun i τ => i ≤ P ∧ pS τ = S ∧ (∀ k, 0 ≤ k → k < 6 → gI τ 112 k = if k < P then tk1 (zLeft S) sv i.toNat k else -1) ∧ frQ σ τ) (fun i τ => kX12_sendsFans_28 l G sv i τ Q) ?_ ?_ 0 τ0 (by omega) ⟨by omega, hτ, fun k k0 k1 => by rw [h112 k k0 k1]; split <;> rfl, hF⟩
    · rintro i τ i0 i1 ⟨z0, zp, z112, zF⟩ ih
      have hLi := hL i (by omega) (by omega)
      have stp : ∀ k, tk1 (zLeft S) sv (i + 1).toNat k = if tb sv i = true ∧ tb (zLeft S i) k = true then i else tk1 (zLeft S) sv i.toNat k := by
        intro k
        rw [show (i + 1).toNat = i.toNat + 1 by omega]
        show (if tb sv ((i.toNat : Nat) : Int) = true ∧ tb (zLeft S ((i.toNat : Nat) : Int)) k = true then ((i.toNat : Nat) : Int) else _) = _
        rw [show ((i.toNat : Nat) : Int) = i by omega]
      refine vX12_sendsFans_28 sv i rsv ⟨by omega, by omega⟩ τ Q ?_
      rw [pe10 τ zp, tb_eq sv i (by omega) (by omega)]
      refine ⟨fun e => by omega, fun _ => ?_⟩
      by_cases ht : tb sv i = true
      · rw [if_pos ht]
        refine ⟨fun e => absurd rfl e, fun _ => ?_⟩
        refine gloopI (α := gS) 0 P (fun o υ => o ≤ P ∧ pS υ = S ∧ (∀ k, 0 ≤ k → k < 6 → gI υ 112 k = if k < P then (if k < o then tk1 (zLeft S) sv (i + 1).toNat k else tk1 (zLeft S) sv i.toNat k) else -1) ∧ frQ σ υ) (fun o υ => kX12_sendsFans_47 l G sv i o υ Q) ?_ ?_ 0 τ (by omega) ⟨by omega, zp, fun k k0 k1 => by rw [z112 k k0 k1, if_neg (show ¬ k < 0 by omega)], zF⟩
        · rintro o υ o0 o1 ⟨y0, yp, y112, yF⟩ ih2
          refine vX12_sendsFans_47 sv i o rsv ⟨by omega, by omega⟩ ⟨by omega, by omega⟩ υ Q ?_
          rw [pe10 υ yp]
          refine ⟨fun e => by omega, fun _ => left υ i yp (by omega) _ (fun _ => ?_)⟩
          rw [tb_eq _ o (by omega) (by omega)]
          have so := stp o
          by_cases hb : tb (zLeft S i) o = true
          · rw [if_pos hb]
            rw [if_pos ⟨ht, hb⟩] at so
            refine ⟨fun e => absurd rfl e, fun _ => ⟨by omega, fun w ew => ih2 w ⟨by omega, by rw [ew, pS_no (by unfold okC; omega)]; exact yp, fun k k0 k1 => ?_, by rw [ew]; exact yF.trans (frQ.set (by omega))⟩⟩⟩
            by_cases hko : k = o
            · subst hko; rw [ew, sI_eq, if_pos o1, if_pos (by omega)]; exact so.symm
            · rw [ew, sI_nei hko, y112 k k0 k1]
              have h1 : (k < o) = (k < o + 1) := by simp only [eq_iff_iff]; omega
              simp only [h1]
          · rw [if_neg hb]
            rw [if_neg (fun z => hb z.2)] at so
            refine ⟨fun _ => ih2 υ ⟨by omega, yp, fun k k0 k1 => ?_, yF⟩, fun e => absurd e (by decide)⟩
            rw [y112 k k0 k1]
            by_cases hko : k = o
            · subst hko; rw [if_neg (show ¬ k < k by omega), if_pos (show k < k + 1 by omega), so]
            · have h1 : (k < o) = (k < o + 1) := by simp only [eq_iff_iff]; omega
              simp only [h1]
        · rintro o υ o0 ⟨y0, yp, y112, yF⟩
          have ho : o = P := by omega
          subst ho
          refine vX12_sendsFans_47 sv i o rsv ⟨by omega, by omega⟩ ⟨by omega, by omega⟩ υ Q ?_
          rw [pe10 υ yp]
          refine ⟨fun _ => ih υ ⟨by omega, yp, fun k k0 k1 => ?_, yF⟩, fun e => by omega⟩
          rw [y112 k k0 k1]
          by_cases h1 : k < o
          · rw [if_pos h1, if_pos h1, if_pos h1]
          · rw [if_neg h1, if_neg h1]
      · rw [if_neg ht]
        refine ⟨fun _ => ih τ ⟨by omega, zp, fun k k0 k1 => ?_, zF⟩, fun e => absurd e (by decide)⟩
        have e9 := stp k
        rw [if_neg (fun z => ht z.1)] at e9
        rw [z112 k k0 k1, e9]
    · rintro i τ i0 ⟨z0, zp, z112, zF⟩
      have hi : i = P := by omega
      subst hi
      refine vX12_sendsFans_28 sv i rsv ⟨by omega, by omega⟩ τ Q ?_
      rw [pe10 τ zp]
      exact ⟨fun _ => L3 τ zp z112 zF, fun e => by omega⟩
  -- nothing is taken yet
  refine gloopI (α := gS) 0 6 (fun o τ => o ≤ 6 ∧ pS τ = S ∧ (∀ k, 0 ≤ k → k < o → gI τ 112 k = -1) ∧ frQ σ τ) (fun o τ => kX12_sendsFans_7 l G sv o τ Q) ?_ ?_ 0 σ (by omega) ⟨by omega, hSe, fun k k0 k1 => by omega, frQ.rfl'⟩
  · rintro o τ o0 o1 ⟨z0, zp, z112, zF⟩ ih
    refine vX12_sendsFans_7 sv o rsv ⟨by omega, by omega⟩ τ Q ⟨fun e => by omega, fun _ => ⟨by omega, fun υ eu => ih υ ⟨by omega, by rw [eu, pS_no (by unfold okC; omega)]; exact zp, fun k k0 k1 => ?_, by rw [eu]; exact zF.trans (frQ.set (by omega))⟩⟩⟩
    rw [eu, sI_at]
    split
    · rfl
    · rename_i hq; exact z112 k k0 (by omega)
  · rintro o τ o0 ⟨z0, zp, z112, zF⟩
    have ho : o = 6 := by omega
    subst ho
    exact vX12_sendsFans_7 sv 6 rsv (by decide) τ Q ⟨fun _ => L2 τ zp z112 zF, fun e => by omega⟩
end NE
