theorem zBo_ok (i outs : Int) : ∀ (n : Nat) (o op : Int) (S : RS), OKS S → 0 ≤ i ∧ i < S 88 10 → 0 ≤ o → o + n ≤ S 88 10 → 0 ≤ op ∧ op < 64 →
    OKS (zBo i outs n o op S).2 ∧ (∀ k, k ≠ 25 → k ≠ 26 → (zBo i outs n o op S).2 88 k = S 88 k) ∧ S 88 25 ≤ (zBo i outs n o op S).2 88 25 ∧ (zBo i outs n o op S).2 88 25 ≤ S 88 25 + n ∧ (0 ≤ (zBo i outs n o op S).1 ∧ (zBo i outs n o op S).1 < 64)
  | 0, o, op, S, h, hi, h0, h1, h2 => ⟨h, fun _ _ _ => rfl, Int.le_refl _, by show S 88 25 ≤ S 88 25 + 0; omega, h2⟩
  | n + 1, o, op, S, h, hi, h0, h1, h2 => by
    have hP := h.1
    have hor := gor_r op (gshl 1 o) h2 (by rw [gshl_1 o (by omega)]; exact pow6 o (by omega))
    have c10 := zCell_88 i o 0 S 10 (by omega) (by omega)
    have c25 := zCell_25 i o 0 S
    unfold zBo
    split
    · split
      · obtain ⟨a1, a2, a3, a4, a5⟩ := zBo_ok i outs n (o + 1) (gor op (gshl 1 o)) (zCell i o 0 S) (OKS_cell h hi ⟨h0, by omega⟩) (by rw [c10]; exact hi) (by omega) (by rw [c10]; omega) hor
        refine ⟨a1, fun k k1 k2 => (a2 k k1 k2).trans (zCell_88 i o 0 S k k1 k2), by omega, by omega, a5⟩
      · exact ⟨OKS_cell h hi ⟨h0, by omega⟩, fun k k1 k2 => zCell_88 i o 0 S k k1 k2, by show S 88 25 ≤ zCell i o 0 S 88 25; omega, by show zCell i o 0 S 88 25 ≤ S 88 25 + ((n + 1 : Nat) : Int); omega, hor⟩
    · obtain ⟨a1, a2, a3, a4, a5⟩ := zBo_ok i outs n (o + 1) op S h hi (by omega) (by omega) h2
      exact ⟨a1, a2, a3, by omega, a5⟩
theorem zSh_88 (op : Int) : ∀ (n : Nat) (S : RS) (k : Int), k ≠ 23 → zSh op n S 88 k = S 88 k
  | 0, _, _, _ => rfl
  | n + 1, S, k, hk => by
    unfold zSh
    rw [zSh_88 op n _ k hk]
    split
    · rw [uS_ne (by omega), uS_nei hk]
    · rfl
theorem zSh_o (op : Int) : ∀ (n : Nat) (S : RS) (c : Nat) (k : Int), c ≠ 88 → c ≠ 98 → zSh op n S c k = S c k
  | 0, _, _, _, _, _ => rfl
  | n + 1, S, c, k, h1, h2 => by
    unfold zSh
    rw [zSh_o op n _ c k h1 h2]
    split
    · rw [uS_ne h2, uS_ne h1]
    · rfl
theorem zSh_23 (op : Int) : ∀ (n : Nat) (S : RS), S 88 23 ≤ zSh op n S 88 23 ∧ zSh op n S 88 23 ≤ S 88 23 + n
  | 0, S => ⟨Int.le_refl _, by show S 88 23 ≤ S 88 23 + 0; omega⟩
  | n + 1, S => by
    unfold zSh
    have h := zSh_23 op n (if tb op n = true then uS (uS S 88 23 (S 88 23 + 1)) 98 n (S 88 23 + 1) else S)
    have e : S 88 23 ≤ (if tb op n = true then uS (uS S 88 23 (S 88 23 + 1)) 98 n (S 88 23 + 1) else S) 88 23 ∧ (if tb op n = true then uS (uS S 88 23 (S 88 23 + 1)) 98 n (S 88 23 + 1) else S) 88 23 ≤ S 88 23 + 1 := by
      split
      · rw [uS_ne (by omega), uS_eq]; omega
      · omega
    constructor <;> omega
theorem OKS_sh {S T : RS} (h : OKS S) (h1 : ∀ k, k ≠ 23 → T 88 k = S 88 k) (h2 : ∀ c k, c ≠ 88 → c ≠ 98 → T c k = S c k) (h3 : 0 ≤ T 88 23) : OKS T := by
  obtain ⟨a1, a2, a3, a4, a5, a6, a7⟩ := h
  refine ⟨by rw [h1 10 (by omega), h1 11 (by omega), h1 12 (by omega)]; exact a1, ?_, fun q q0 q1 => ?_, fun k k0 k1 => ?_, fun k k0 k1 => ?_, fun k k0 k1 => ?_, fun k k0 k1 => ?_⟩
  · rw [h1 24 (by omega), h1 25 (by omega), h1 26 (by omega), h1 27 (by omega), h1 28 (by omega)]; exact ⟨h3, a2.2⟩
  · rw [h2 95 _ (by omega) (by omega), h1 12 (by omega), h1 25 (by omega)]
    refine ⟨(a3 q q0 q1).1, (a3 q q0 q1).2.1, fun j j0 j1 => ?_⟩
    rw [h2 94 _ (by omega) (by omega)]; exact (a3 q q0 q1).2.2 j j0 j1
  · rw [h2 97 _ (by omega) (by omega), h1 12 (by omega), h1 25 (by omega), h1 10 (by omega)]
    refine ⟨(a4 k k0 k1).1, (a4 k k0 k1).2.1, fun j j0 j1 => ?_⟩
    rw [h2 96 _ (by omega) (by omega), h2 96 _ (by omega) (by omega), h2 100 _ (by omega) (by omega), h2 106 _ (by omega) (by omega), h2 101 _ (by omega) (by omega)]
    exact (a4 k k0 k1).2.2 j j0 j1
  · rw [h2 99 _ (by omega) (by omega)]; exact a5 k k0 k1
  · rw [h1 10 (by omega)] at k1
    rw [h2 92 _ (by omega) (by omega), h2 93 _ (by omega) (by omega), h1 10 (by omega)]; exact a6 k k0 k1
  · rw [h1 10 (by omega)] at k0
    rw [h2 97 _ (by omega) (by omega)]; exact a7 k k0 k1
theorem OKS_burst {S : RS} (h : OKS S) {i outs : Int} (hi : 0 ≤ i ∧ i < S 88 10) : OKS (zBurst i outs S) ∧ (∀ k, k ≠ 23 → k ≠ 25 → k ≠ 26 → zBurst i outs S 88 k = S 88 k) ∧ S 88 25 ≤ zBurst i outs S 88 25 ∧ zBurst i outs S 88 25 ≤ S 88 25 + 6 ∧ zBurst i outs S 88 23 ≤ S 88 23 + 6 := by
  have hP := h.1
  obtain ⟨a1, a2, a3, a4, a5⟩ := zBo_ok i outs (S 88 10).toNat 0 0 S h hi (by omega) (by omega) (by omega)
  have b := zSh_23 (zBo i outs (S 88 10).toNat 0 0 S).1 (S 88 10).toNat (zBo i outs (S 88 10).toNat 0 0 S).2
  have q23 := a2 23 (by omega) (by omega)
  have a23 := h.2.1.1
  unfold zBurst
  refine ⟨OKS_sh a1 (fun k hk => zSh_88 _ _ _ k hk) (fun c k c1 c2 => zSh_o _ _ _ c k c1 c2) (by omega), fun k k1 k2 k3 => by rw [zSh_88 _ _ _ k k1]; exact a2 k k2 k3, ?_, ?_, by omega⟩
  · rw [zSh_88 _ _ _ 25 (by omega)]; exact a3
  · rw [zSh_88 _ _ _ 25 (by omega)]; omega
section MZ
variable {l : Launch} {G : gG}
/-- a burst, by the reference -/
theorem c_bursts (i outs : Int) (ho : 0 ≤ outs ∧ outs < 64) (σ : gS) (hS : OKS (pS σ)) (hi : 0 ≤ i ∧ i < pS σ 88 10) (hk : pS σ 88 25 ≤ 354) (h23 : pS σ 88 23 ≤ 100000) (Q : gS → Prop) (h : ∀ τ, pS τ = zBurst i outs (pS σ) → frQ σ τ → Q τ) : eX12_bursts l G i outs σ Q := by
  have hP := hS.1
  have ri : gR i := ⟨by omega, by omega⟩
  have ro : gR outs := ⟨by omega, by omega⟩
  generalize hPe : pS σ 88 10 = P at *
  refine vX12_bursts i outs ri ro σ Q ?_
  -- shutting
  have L2 : ∀ (n : Nat) (op x4 : Int) (τ : gS), (n : Int) ≤ P → 0 ≤ op ∧ op < 64 → (x4 = 0 ∨ x4 = 1) → 0 ≤ pS τ 88 23 ∧ pS τ 88 23 + n ≤ 200000 → frQ σ τ → (∀ υ, pS υ = zSh op n (pS τ) → frQ σ υ → Q υ) → kX12_bursts_65 l G i outs op x4 ((n : Int) - 1) τ Q := by
    intro n
    induction n with
    | zero =>
      intro op x4 τ h1 h2 h4 h5 hF hq
      exact vX12_bursts_65 i outs op x4 _ ri ro ⟨by omega, by omega⟩ (gR_01 h4) (by decide) τ Q ⟨fun _ => hq τ rfl hF, fun e => absurd e (by decide)⟩
    | succ n ih =>
      intro op x4 τ h1 h2 h4 h5 hF hq
      rw [show ((n + 1 : Nat) : Int) - 1 = (n : Int) by omega]
      refine vX12_bursts_65 i outs op x4 n ri ro ⟨by omega, by omega⟩ (gR_01 h4) ⟨by omega, by omega⟩ τ Q ⟨fun e => by omega, fun _ => ?_⟩
      rw [tb_eq op n (by omega) (by omega)]
      by_cases ht : tb op n = true
      · rw [if_pos ht]
        have e23 : gI τ 88 23 = pS τ 88 23 := pS_at (by unfold okC; omega)
        rw [e23]
        refine ⟨fun _ => ⟨⟨by omega, by omega⟩, fun τ1 e1 => ⟨by omega, fun τ2 e2 => ?_⟩⟩, fun e => absurd e (by decide)⟩
        have f23 : gI τ1 88 23 = pS τ 88 23 + 1 := by rw [e1, sI_eq]
        rw [f23] at e2
        have pe : pS τ2 = uS (uS (pS τ) 88 23 (pS τ 88 23 + 1)) 98 n (pS τ 88 23 + 1) := by rw [e2, pS_sI (by unfold okC; omega), e1, pS_sI (by unfold okC; omega)]
        rw [show (n : Int) + (-1) = (n : Int) - 1 by omega]
        refine ih op x4 τ2 (by omega) h2 h4 ?_ ?_ (fun υ pu fu => hq υ ?_ fu)
        · rw [pe, uS_ne (by omega), uS_eq]; omega
        · rw [e2, e1]; exact (hF.trans (frQ.set (by omega))).trans (frQ.set (by omega))
        · rw [pu, pe]
          show _ = zSh op n (if tb op n = true then _ else _)
          rw [if_pos ht]
      · rw [if_neg ht]
        refine ⟨fun e => absurd rfl e, fun _ => ?_⟩
        rw [show (n : Int) + (-1) = (n : Int) - 1 by omega]
        refine ih op x4 τ (by omega) h2 h4 (by omega) hF (fun υ pu fu => hq υ ?_ fu)
        rw [pu]
        show _ = zSh op n (if tb op n = true then _ else _)
        rw [if_neg ht]
  -- coming
  have L1 : ∀ (n : Nat) (o op : Int) (τ : gS), o + n = P → 0 ≤ o → OKS (pS τ) → pS τ 88 10 = P → pS τ 88 23 = pS σ 88 23 → pS τ 88 25 + n ≤ 360 → 0 ≤ op ∧ op < 64 → frQ σ τ → zSh (zBo i outs n o op (pS τ)).1 P.toNat (zBo i outs n o op (pS τ)).2 = zBurst i outs (pS σ) → kX12_bursts_8 l G i outs op 1 o τ Q := by
    intro n
    have fin : ∀ (op x4 o : Int) (τ : gS), 0 ≤ op ∧ op < 64 → (x4 = 0 ∨ x4 = 1) → 0 ≤ o ∧ o < 100 → (x4 = 0 ∨ P ≤ o) → pS τ 88 10 = P → pS τ 88 23 = pS σ 88 23 → frQ σ τ → zSh op P.toNat (pS τ) = zBurst i outs (pS σ) → kX12_bursts_8 l G i outs op x4 o τ Q := by
      intro op x4 o τ h1 h2 h3 h4 h5 h5' h6 h7
      have a23 := hS.2.1.1
      have e10 : gI τ 88 10 = P := by rw [pS_at (by unfold okC; omega)]; exact h5
      have go : kX12_bursts_65 l G i outs op x4 (P - 1) τ Q := by
        have := L2 P.toNat op x4 τ (by omega) h1 h2 (by omega) h6 (fun υ pu fu => h υ (by rw [pu]; exact h7) fu)
        rw [show ((P.toNat : Nat) : Int) = P by omega] at this
        exact this
      refine vX12_bursts_8 i outs op x4 o ri ro ⟨by omega, by omega⟩ (gR_01 h2) ⟨by omega, by omega⟩ τ Q ?_
      rw [e10]
      refine ⟨fun _ => go, fun e => ⟨fun _ => go, fun e2 => by omega⟩⟩
    induction n with
    | zero =>
      intro o op τ e0 e1 hO h10 h23' h25 hop hF hz
      exact fin op 1 o τ hop (Or.inr rfl) (by omega) (Or.inr (by omega)) h10 h23' hF hz
    | succ n ih =>
      intro o op τ e0 e1 hO h10 h23' h25 hop hF hz
      have e10 : gI τ 88 10 = P := by rw [pS_at (by unfold okC; omega)]; exact h10
      refine vX12_bursts_8 i outs op 1 o ri ro ⟨by omega, by omega⟩ (by decide) ⟨by omega, by omega⟩ τ Q ?_
      rw [e10, tb_eq outs o (by omega) (by omega)]
      refine ⟨fun e => by omega, fun _ => ⟨fun e => absurd e (by decide), fun _ => ?_⟩⟩
      unfold zBo at hz
      by_cases ht : tb outs o = true
      · rw [if_pos ht]
        rw [if_pos ht] at hz
        refine ⟨fun _ => ?_, fun e => absurd e (by decide)⟩
        have hq := hO.2.2.1 (6 * i + o) (by omega) (by omega)
        have hc := hO.2.1
        have hd := hO.1
        refine c_cellComes i o 0 (by omega) (by omega) (Or.inl rfl) τ (by omega) (by omega) hq.1 hd.2.2.2.2.2 _ (fun r υ hr pu fu _ => ?_)
        have u10 : pS υ 88 10 = P := by rw [pu, zCell_88 _ _ _ _ _ (by omega) (by omega)]; exact h10
        have u23 : pS υ 88 23 = pS σ 88 23 := by rw [pu, zCell_88 _ _ _ _ _ (by omega) (by omega)]; exact h23'
        have u25 : pS υ 88 25 = pS τ 88 25 + 1 := by rw [pu]; exact zCell_25 i o 0 (pS τ)
        have hor := gor_r op (gshl 1 o) hop (by rw [gshl_1 o (by omega)]; exact pow6 o (by omega))
        rcases hr with ⟨hr1, hr2⟩ | ⟨hr1, hr2⟩
        · rw [if_pos hr2, ← pu] at hz
          subst hr1
          exact ih (o + 1) _ υ (by omega) (by omega) (by rw [pu]; exact OKS_cell hO (by omega) (by omega)) u10 u23 (by omega) hor (hF.trans fu) hz
        · rw [if_neg hr2, ← pu] at hz
          subst hr1
          exact fin _ 0 (o + 1) υ hor (Or.inl rfl) (by omega) (Or.inl rfl) u10 u23 (hF.trans fu) hz
      · rw [if_neg ht]
        rw [if_neg ht] at hz
        exact ⟨fun e => absurd rfl e, fun _ => ih (o + 1) op τ (by omega) (by omega) hO h10 h23' (by omega) hop hF hz⟩
  refine L1 P.toNat 0 0 σ (by omega) (by omega) hS hPe rfl (by omega) (by omega) frQ.rfl' ?_
  unfold zBurst
  rw [hPe]
/-- a burst, by the class -/
theorem c_takeBurst (i outs : Int) (ho : 0 ≤ outs ∧ outs < 64) (σ : gS) (S : RS) (hC : CR σ S) (hS : OKS S) (hi : 0 ≤ i ∧ i < S 88 10) (hk : S 88 25 ≤ 354) (h23 : S 88 23 ≤ 100000) (Q : gS → Prop) (h : ∀ τ, CR τ (zBurst i outs S) → gI τ 32 6 = gI σ 32 6 → frN σ τ → Q τ) : eX8_takeBurst l G i outs σ Q := by
  have hP := hS.1
  have ri : gR i := ⟨by omega, by omega⟩
  have ro : gR outs := ⟨by omega, by omega⟩
  generalize hPe : S 88 10 = P at *
  refine vX8_takeBurst i outs ri ro σ Q ?_
  have L2 : ∀ (n : Nat) (op x4 : Int) (τ : gS) (T : RS), (n : Int) ≤ P → 0 ≤ op ∧ op < 64 → (x4 = 0 ∨ x4 = 1) → 0 ≤ T 88 23 ∧ T 88 23 + n ≤ 200000 → CR τ T → gI τ 32 6 = gI σ 32 6 → frN σ τ → (∀ υ, CR υ (zSh op n T) → gI υ 32 6 = gI σ 32 6 → frN σ υ → Q υ) → kX8_takeBurst_61 l G i outs op x4 ((n : Int) - 1) τ Q := by
    intro n
    induction n with
    | zero =>
      intro op x4 τ T h1 h2 h4 h5 hT h6 hF hq
      exact vX8_takeBurst_61 i outs op x4 _ ri ro ⟨by omega, by omega⟩ (gR_01 h4) (by decide) τ Q ⟨fun _ => hq τ hT h6 hF, fun e => absurd e (by decide)⟩
    | succ n ih =>
      intro op x4 τ T h1 h2 h4 h5 hT h6 hF hq
      rw [show ((n + 1 : Nat) : Int) - 1 = (n : Int) by omega]
      refine vX8_takeBurst_61 i outs op x4 n ri ro ⟨by omega, by omega⟩ (gR_01 h4) ⟨by omega, by omega⟩ τ Q ⟨fun e => by omega, fun _ => ?_⟩
      refine c_holds op n h2 (by omega) τ _ (fun _ => ?_)
      have hshow : zSh op (n + 1) T = zSh op n (if tb op n = true then uS (uS T 88 23 (T 88 23 + 1)) 98 n (T 88 23 + 1) else T) := rfl
      rw [hshow] at hq
      by_cases ht : tb op n = true
      · rw [if_pos ht]
        rw [if_pos ht] at hq
        obtain ⟨⟨p1, p2, p3, p4⟩, ⟨s1, s2, s3, s4, s5, s6⟩, d3, d4, d5, d6, d7, d8⟩ := hT
        rw [s6]
        refine ⟨fun e => absurd e (by decide), fun _ => ⟨⟨by omega, by omega⟩, fun τ1 e1 => ⟨by omega, fun τ2 e2 => ?_⟩⟩⟩
        have f23 : gI τ1 32 10 = T 88 23 + 1 := by rw [e1, sI_eq]
        rw [f23] at e2
        rw [show (n : Int) + (-1) = (n : Int) - 1 by omega]
        have fr : ∀ c k, ¬ (c = 32 ∧ k = 10) → ¬ (c = 51 ∧ k = (n : Int)) → gI τ2 c k = gI τ c k := fun c k b1 b2 => by rw [e2, sI_at, if_neg b2, e1, sI_at, if_neg b1]
        refine ih op x4 τ2 (uS (uS T 88 23 (T 88 23 + 1)) 98 n (T 88 23 + 1)) (by omega) h2 h4 (by rw [uS_ne (by omega), uS_eq]; omega) ?_ (by rw [fr _ _ (by omega) (by omega)]; exact h6) (fun c k hc => by rw [fr _ _ (by omega) (by omega)]; exact hF c k hc) hq
        have t88 : ∀ k, k ≠ 23 → uS (uS T 88 23 (T 88 23 + 1)) 98 n (T 88 23 + 1) 88 k = T 88 k := fun k hk9 => by rw [uS_ne (by omega), uS_nei hk9]
        have to : ∀ c k, c ≠ 88 → c ≠ 98 → uS (uS T 88 23 (T 88 23 + 1)) 98 n (T 88 23 + 1) c k = T c k := fun c k b1 b2 => by rw [uS_ne b2, uS_ne b1]
        refine ⟨?_, ?_, fun k k0 k1 => ?_, fun q q0 q1 => ?_, fun q q0 q1 j j0 j1 => ?_, fun k k0 k1 => ?_, fun k k0 k1 => ?_, ?_⟩
        · rw [t88 10 (by omega), t88 11 (by omega), t88 12 (by omega), fr _ _ (by omega) (by omega), fr _ _ (by omega) (by omega), fr _ _ (by omega) (by omega), fr _ _ (by omega) (by omega)]
          exact ⟨p1, p2, p3, p4⟩
        · rw [t88 24 (by omega), t88 25 (by omega), t88 26 (by omega), t88 27 (by omega), t88 28 (by omega), fr 41 _ (by omega) (by omega), fr 33 _ (by omega) (by omega), fr 32 7 (by omega) (by omega), fr 32 8 (by omega) (by omega), fr 32 9 (by omega) (by omega)]
          refine ⟨s1, s2, s3, s4, s5, ?_⟩
          rw [uS_ne (by omega), uS_eq, e2, sI_ne (by omega)]; exact f23
        · have zle : zLeft (uS (uS T 88 23 (T 88 23 + 1)) 98 n (T 88 23 + 1)) k = zLeft T k := by
            unfold zLeft
            rw [to 97 _ (by omega) (by omega), to 96 _ (by omega) (by omega), to 106 _ (by omega) (by omega)]
          rw [to 97 _ (by omega) (by omega), to 92 _ (by omega) (by omega), to 93 _ (by omega) (by omega), zle, fr 55 _ (by omega) (by omega), fr 46 _ (by omega) (by omega), fr 47 _ (by omega) (by omega), fr 57 _ (by omega) (by omega)]
          refine ⟨?_, (d3 k k0 k1).2⟩
          rw [e2, sI_at, uS_at]
          by_cases hkn : k = (n : Int)
          · rw [if_pos ⟨rfl, hkn⟩, if_pos ⟨rfl, hkn⟩]
          · rw [if_neg (fun z => hkn z.2), if_neg (fun z => hkn z.2), e1, sI_ne (by omega), uS_ne (by omega)]; exact (d3 k k0 k1).1
        · rw [to 95 _ (by omega) (by omega), fr 53 _ (by omega) (by omega)]
          refine ⟨(d4 q q0 q1).1, fun j j0 j1 => ?_⟩
          rw [to 94 _ (by omega) (by omega), fr 54 _ (by omega) (by omega)]
          exact (d4 q q0 q1).2 j j0 j1
        · rw [to 97 _ (by omega) (by omega)] at j1
          rw [to 96 _ (by omega) (by omega), fr 56 _ (by omega) (by omega)]
          exact d5 q q0 q1 j j0 j1
        · rw [t88 25 (by omega)] at k1
          rw [to 100 _ (by omega) (by omega), to 101 _ (by omega) (by omega), to 102 _ (by omega) (by omega), to 103 _ (by omega) (by omega), to 104 _ (by omega) (by omega), to 105 _ (by omega) (by omega), to 107 _ (by omega) (by omega), fr 34 _ (by omega) (by omega), fr 35 _ (by omega) (by omega), fr 36 _ (by omega) (by omega), fr 37 _ (by omega) (by omega), fr 38 _ (by omega) (by omega), fr 39 _ (by omega) (by omega), fr 40 _ (by omega) (by omega)]
          exact d6 k k0 k1
        · rw [t88 10 (by omega)] at k1 ⊢
          rw [fr 48 _ (by omega) (by omega)]
          refine isM_congr (d7 k k0 k1) (fun a a0 a1 => ?_)
          rw [to 95 _ (by omega) (by omega)]
        · exact d8.keep (fun c hc k => fr c k (by omega) (by omega)) (t88 24 (by omega)) (t88 10 (by omega)) (fun k => to 109 k (by omega) (by omega)) (fun k => to 110 k (by omega) (by omega))
      · rw [if_neg ht]
        rw [if_neg ht] at hq
        refine ⟨fun _ => ?_, fun e => absurd rfl e⟩
        rw [show (n : Int) + (-1) = (n : Int) - 1 by omega]
        exact ih op x4 τ T (by omega) h2 h4 (by omega) hT h6 hF hq
  have L1 : ∀ (n : Nat) (o op : Int) (τ : gS) (T : RS), o + n = P → 0 ≤ o → OKS T → CR τ T → T 88 10 = P → T 88 23 = S 88 23 → T 88 25 + n ≤ 360 → 0 ≤ op ∧ op < 64 → gI τ 32 6 = gI σ 32 6 → frN σ τ → zSh (zBo i outs n o op T).1 P.toNat (zBo i outs n o op T).2 = zBurst i outs S → kX8_takeBurst_8 l G i outs op 1 o τ Q := by
    intro n
    have fin : ∀ (op x4 o : Int) (τ : gS) (T : RS), 0 ≤ op ∧ op < 64 → (x4 = 0 ∨ x4 = 1) → 0 ≤ o ∧ o < 100 → (x4 = 0 ∨ P ≤ o) → CR τ T → T 88 10 = P → T 88 23 = S 88 23 → gI τ 32 6 = gI σ 32 6 → frN σ τ → zSh op P.toNat T = zBurst i outs S → kX8_takeBurst_8 l G i outs op x4 o τ Q := by
      intro op x4 o τ T h1 h2 h3 h4 hT h5 h5' h6 hF h7
      have a23 := hS.2.1.1
      have e10 : gI τ 32 3 = P := by rw [hT.1.1]; exact h5
      have go : kX8_takeBurst_61 l G i outs op x4 (P - 1) τ Q := by
        have := L2 P.toNat op x4 τ T (by omega) h1 h2 (by omega) hT h6 hF (fun υ pu wu fu => h υ (by rw [← h7]; exact pu) wu fu)
        rw [show ((P.toNat : Nat) : Int) = P by omega] at this
        exact this
      refine vX8_takeBurst_8 i outs op x4 o ri ro ⟨by omega, by omega⟩ (gR_01 h2) ⟨by omega, by omega⟩ τ Q ?_
      rw [e10]
      refine ⟨fun _ => go, fun e => ⟨fun _ => go, fun e2 => by omega⟩⟩
    induction n with
    | zero =>
      intro o op τ T e0 e1 hO hT h10 h23' h25 hop h6 hF hz
      exact fin op 1 o τ T hop (Or.inr rfl) (by omega) (Or.inr (by omega)) hT h10 h23' h6 hF hz
    | succ n ih =>
      intro o op τ T e0 e1 hO hT h10 h23' h25 hop h6 hF hz
      have e10 : gI τ 32 3 = P := by rw [hT.1.1]; exact h10
      refine vX8_takeBurst_8 i outs op 1 o ri ro ⟨by omega, by omega⟩ (by decide) ⟨by omega, by omega⟩ τ Q ?_
      rw [e10]
      refine ⟨fun e => by omega, fun _ => ⟨fun e => absurd e (by decide), fun _ => c_holds outs o ho (by omega) τ _ (fun _ => ?_)⟩⟩
      unfold zBo at hz
      by_cases ht : tb outs o = true
      · rw [if_pos ht]
        rw [if_pos ht] at hz
        refine ⟨fun e => absurd e (by decide), fun _ => ?_⟩
        refine c_takeCell i o 0 τ T hT hO (by omega) (by omega) (by omega) _ (fun r υ hr uC u6 fu _ => ?_)
        have u10 : zCell i o 0 T 88 10 = P := by rw [zCell_88 _ _ _ _ _ (by omega) (by omega)]; exact h10
        have u23 : zCell i o 0 T 88 23 = S 88 23 := by rw [zCell_88 _ _ _ _ _ (by omega) (by omega)]; exact h23'
        have u25 := zCell_25 i o 0 T
        have hor := gor_r op (gshl 1 o) hop (by rw [gshl_1 o (by omega)]; exact pow6 o (by omega))
        rcases hr with ⟨hr1, hr2⟩ | ⟨hr1, hr2⟩
        · rw [if_pos hr2] at hz
          subst hr1
          exact ih (o + 1) _ υ (zCell i o 0 T) (by omega) (by omega) (OKS_cell hO (by omega) (by omega)) uC u10 u23 (by omega) hor (u6.trans h6) (hF.trans fu) hz
        · rw [if_neg hr2] at hz
          subst hr1
          exact fin _ 0 (o + 1) υ (zCell i o 0 T) hor (Or.inl rfl) (by omega) (Or.inl rfl) uC u10 u23 (u6.trans h6) (hF.trans fu) hz
      · rw [if_neg ht]
        rw [if_neg ht] at hz
        exact ⟨fun _ => ih (o + 1) op τ T (by omega) (by omega) hO hT h10 h23' (by omega) hop h6 hF hz, fun e => absurd rfl e⟩
  refine L1 P.toNat 0 0 σ S (by omega) (by omega) hS hC hPe rfl (by omega) (by omega) rfl frN.rfl' ?_
  unfold zBurst
  rw [hPe]
end MZ
