section MY
variable {l : Launch} {G : gG}
/-- a fan comes, by the class -/
theorem c_takeFan (i outs : Int) (σ : gS) (S : RS) (hC : CR σ S) (hS : OKS S) (hi : 0 ≤ i ∧ i < S 88 10) (ho : 0 ≤ outs ∧ outs < 64) (hk : S 88 25 < 360) (Q : gS → Prop)
    (h : ∀ τ, CR τ (zFan i outs S) → gI τ 32 6 = gI σ 32 6 → frN σ τ → Q τ) : eX8_takeFan l G i outs σ Q := by
  refine gE_ok (fun hO => ?_)
  obtain ⟨⟨p1, p2, p3, p4⟩, ⟨s1, s2, s3, s4, s5, s6⟩, d3, d4, d5, d6, d7, d8⟩ := hC
  obtain ⟨o1, o2, o3, o4, o5, o6, o7⟩ := id hS
  have hq := o4 i (by omega) (by omega)
  have cq := d3 i (by omega) (by omega)
  have rS : gR (S 88 24) := by rw [← s1]; exact hO.1 41 0
  refine vX8_takeFan i outs ⟨by omega, by omega⟩ ⟨by omega, by omega⟩ σ Q ?_
  rw [cq.2.1, p3, s1]
  refine ⟨by omega, fun v hv => ?_⟩
  have hv01 : v = 0 ∨ v = 1 := by rw [hv]; split <;> omega
  refine c_add i outs 1 (S 88 24) v ⟨by omega, by omega⟩ ⟨by omega, by omega⟩ (Or.inr rfl) rS hv01 σ (by omega) _ (fun τ a0 a1 a2 a3 a4 a5 a6 a7 af _ => ?_)
  rw [s2] at a0 a1 a2 a3 a4 a5 a6 a7 af ⊢
  obtain ⟨n0, n1, n2, n3, n4, n5, n6, n7, n8⟩ := zFan_new i S outs
  have num : ∀ υ : gS, (∀ c k, 34 ≤ c → c ≤ 40 → gI υ c k = gI τ c k) → ∀ k, 0 ≤ k → k < S 88 25 + 1 → gI υ 34 k = zFan i outs S 100 k ∧ gI υ 35 k = zFan i outs S 101 k ∧ gI υ 36 k = zFan i outs S 102 k ∧ gI υ 37 k = zFan i outs S 103 k ∧ gI υ 38 k = zFan i outs S 104 k ∧ gI υ 39 k = zFan i outs S 105 k ∧ gI υ 40 k = zFan i outs S 107 k := by
    intro υ hu k k0 k1
    rw [hu _ _ (by omega) (by omega), hu _ _ (by omega) (by omega), hu _ _ (by omega) (by omega), hu _ _ (by omega) (by omega), hu _ _ (by omega) (by omega), hu _ _ (by omega) (by omega), hu _ _ (by omega) (by omega)]
    by_cases hkk : k = S 88 25
    · subst hkk
      rw [n0, n1, n2, n3, n4, n5, n7]
      refine ⟨a1, a2, a3, a4, a5, ?_, a7⟩
      rw [a6, hv]
    · rw [zFan_k _ _ _ 100 _ (by omega) hkk, zFan_k _ _ _ 101 _ (by omega) hkk, zFan_k _ _ _ 102 _ (by omega) hkk, zFan_k _ _ _ 103 _ (by omega) hkk, zFan_k _ _ _ 104 _ (by omega) hkk, zFan_k _ _ _ 105 _ (by omega) hkk, zFan_k _ _ _ 107 _ (by omega) hkk, af _ _ (by omega) (by omega), af _ _ (by omega) (by omega), af _ _ (by omega) (by omega), af _ _ (by omega) (by omega), af _ _ (by omega) (by omega), af _ _ (by omega) (by omega), af _ _ (by omega) (by omega)]
      exact d6 k k0 (by omega)
  have c10 := zFan_88 i S outs 10 (by omega) (by omega)
  have c11 := zFan_88 i S outs 11 (by omega) (by omega)
  have c12 := zFan_88 i S outs 12 (by omega) (by omega)
  have c23 := zFan_88 i S outs 23 (by omega) (by omega)
  have c24 := zFan_88 i S outs 24 (by omega) (by omega)
  have c25 := zFan_25 i S outs
  have c26 := zFan_26 i S outs
  have c27 := zFan_88 i S outs 27 (by omega) (by omega)
  have c28 := zFan_88 i S outs 28 (by omega) (by omega)
  -- what is left of the heads that were there
  have zl : ∀ k, 0 ≤ k → k < 6 → S 97 k ≠ 0 → zLeft (zFan i outs S) k = zLeft S k := by
    intro k k0 k1 hz
    have b := o4 k k0 k1
    have b2 := b.2.2 0 (by omega) (by omega)
    rw [Int.add_zero] at b2
    unfold zLeft
    rw [zFan_97, zFan_96, if_neg hz, if_neg (show ¬ (9 * k = 9 * i + S 97 i ∧ S 97 i < S 88 12) from fun z => by
      have hki : k = i := by omega
      subst hki; omega)]
    rw [zFan_k _ _ _ 106 _ (by omega) (by omega)]
    rw [if_neg]
    split <;> omega
  have zl0 : ∀ k, 0 ≤ k → k < 6 → k ≠ i → S 97 k = 0 → zLeft (zFan i outs S) k = zLeft S k := by
    intro k k0 k1 hne hz
    unfold zLeft
    have e97 : zFan i outs S 97 k = S 97 k := by rw [zFan_97, if_neg (fun z => hne z.1)]
    rw [e97, if_pos hz, if_pos hz]
  have rest : ∀ υ : gS, (∀ c k, c ≠ 55 → c ≠ 56 → c ≠ 57 → ¬ (c = 32 ∧ k = 7) → gI υ c k = gI τ c k) → (gI υ 32 3 = S 88 10 ∧ gI υ 32 4 = S 88 11 ∧ gI υ 32 5 = S 88 12 ∧ gI υ 45 0 = S 88 10) ∧ gI υ 41 0 = S 88 24 ∧ gI υ 33 0 = S 88 25 + 1 ∧ gI υ 32 8 = S 88 27 ∧ gI υ 32 9 = S 88 28 ∧ gI υ 32 10 = S 88 23 ∧ (∀ k, 0 ≤ k → k < 6 → gI υ 51 k = S 98 k ∧ gI υ 46 k = S 92 k ∧ gI υ 47 k = S 93 k) ∧ (∀ q, 0 ≤ q → q < 36 → gI υ 53 q = S 95 q ∧ ∀ j, 0 ≤ j → j < S 95 q → gI υ 54 (9 * q + j) = S 94 (9 * q + j)) ∧ (∀ k, gI υ 48 k = gI σ 48 k) ∧ CRh υ (zFan i outs S) ∧ gI υ 32 6 = gI σ 32 6 := by
    intro υ hu
    have hh : ∀ c k, c ≠ 55 → c ≠ 56 → c ≠ 57 → ¬ (c = 32 ∧ k = 7) → c ≠ 33 → ¬ (34 ≤ c ∧ c ≤ 40) → gI υ c k = gI σ c k := fun c k b1 b2 b3 b4 b5 b6 => by rw [hu c k b1 b2 b3 b4, af c k (by omega) (by omega)]
    refine ⟨⟨?_, ?_, ?_, ?_⟩, ?_, ?_, ?_, ?_, ?_, fun k k0 k1 => ?_, fun q q0 q1 => ?_, fun k => ?_, ?_, ?_⟩
    · rw [hh _ _ (by omega) (by omega) (by omega) (by omega) (by omega) (by omega)]; exact p1
    · rw [hh _ _ (by omega) (by omega) (by omega) (by omega) (by omega) (by omega)]; exact p2
    · rw [hh _ _ (by omega) (by omega) (by omega) (by omega) (by omega) (by omega)]; exact p3
    · rw [hh _ _ (by omega) (by omega) (by omega) (by omega) (by omega) (by omega)]; exact p4
    · rw [hh _ _ (by omega) (by omega) (by omega) (by omega) (by omega) (by omega)]; exact s1
    · rw [hu _ _ (by omega) (by omega) (by omega) (by omega)]; exact a0
    · rw [hh _ _ (by omega) (by omega) (by omega) (by omega) (by omega) (by omega)]; exact s4
    · rw [hh _ _ (by omega) (by omega) (by omega) (by omega) (by omega) (by omega)]; exact s5
    · rw [hh _ _ (by omega) (by omega) (by omega) (by omega) (by omega) (by omega)]; exact s6
    · rw [hh 51 _ (by omega) (by omega) (by omega) (by omega) (by omega) (by omega), hh 46 _ (by omega) (by omega) (by omega) (by omega) (by omega) (by omega), hh 47 _ (by omega) (by omega) (by omega) (by omega) (by omega) (by omega)]
      exact ⟨(d3 k k0 k1).1, (d3 k k0 k1).2.2.1, (d3 k k0 k1).2.2.2.1⟩
    · rw [hh 53 _ (by omega) (by omega) (by omega) (by omega) (by omega) (by omega)]
      refine ⟨(d4 q q0 q1).1, fun j j0 j1 => ?_⟩
      rw [hh 54 _ (by omega) (by omega) (by omega) (by omega) (by omega) (by omega)]
      exact (d4 q q0 q1).2 j j0 j1
    · exact hh _ _ (by omega) (by omega) (by omega) (by omega) (by omega) (by omega)
    · exact d8.keep (fun c hc k => hh c k (by omega) (by omega) (by omega) (by omega) (by omega) (by omega)) c24 c10 (fun k => zFan_o _ _ _ _ _ (by omega)) (fun k => zFan_o _ _ _ _ _ (by omega))
    · exact hh _ _ (by omega) (by omega) (by omega) (by omega) (by omega) (by omega)
  have frt : ∀ υ : gS, (∀ c k, c ≠ 55 → c ≠ 56 → c ≠ 57 → ¬ (c = 32 ∧ k = 7) → gI υ c k = gI τ c k) → frN σ υ := fun υ hu c k hc => by rw [hu _ _ (by omega) (by omega) (by omega) (by omega), af _ _ (by omega) (by omega)]
  -- the end, with or without room
  have fin : ∀ υ : gS, (∀ c k, c ≠ 55 → c ≠ 56 → c ≠ 57 → ¬ (c = 32 ∧ k = 7) → gI υ c k = gI τ c k) → gI υ 32 7 = zFan i outs S 88 26 → (∀ k, 0 ≤ k → k < 6 → gI υ 55 k = zFan i outs S 97 k ∧ gI υ 57 k = zLeft (zFan i outs S) k) → (∀ q, 0 ≤ q → q < 6 → ∀ j, 0 ≤ j → j < zFan i outs S 97 q → gI υ 56 (9 * q + j) = zFan i outs S 96 (9 * q + j)) → Q υ := by
    intro υ hu h7 h55 h56
    obtain ⟨w1, w2, w3, w4, w5, w6, w7, w8, w9, wh, wa⟩ := rest υ hu
    refine h υ ⟨by rw [c10, c11, c12]; exact w1, ?_, fun k k0 k1 => ?_, fun q q0 q1 => ?_, h56, ?_, fun k k0 k1 => ?_, wh⟩ wa (frt υ hu)
    · rw [c24, c25, c27, c28, c23]
      exact ⟨w2, w3, h7, w4, w5, w6⟩
    · rw [zFan_o _ _ _ 98 _ (by omega), zFan_o _ _ _ 92 _ (by omega), zFan_o _ _ _ 93 _ (by omega)]
      exact ⟨(w7 k k0 k1).1, (h55 k k0 k1).1, (w7 k k0 k1).2.1, (w7 k k0 k1).2.2, (h55 k k0 k1).2⟩
    · rw [zFan_o _ _ _ 95 _ (by omega)]
      refine ⟨(w8 q q0 q1).1, fun j j0 j1 => ?_⟩
      rw [zFan_o _ _ _ 94 _ (by omega)]
      exact (w8 q q0 q1).2 j j0 j1
    · rw [c25]; exact num υ (fun c k b1 b2 => hu c k (by omega) (by omega) (by omega) (by omega))
    · rw [c10] at k1 ⊢
      rw [w9]
      refine isM_congr (d7 k k0 k1) (fun a a0 a1 => ?_)
      rw [zFan_o _ _ _ 95 _ (by omega)]
  have t7 : gI τ 32 7 = S 88 26 := by rw [af _ _ (by omega) (by omega)]; exact s3
  have t55 : ∀ q, gI τ 55 q = gI σ 55 q := fun q => af _ _ (by omega) (by omega)
  have t56 : ∀ q, gI τ 56 q = gI σ 56 q := fun q => af _ _ (by omega) (by omega)
  have t57 : ∀ q, gI τ 57 q = gI σ 57 q := fun q => af _ _ (by omega) (by omega)
  refine ⟨fun hne => ?_, fun he => ⟨fun _ => ?_, fun e => by omega⟩⟩
  · have hroom : ¬ S 97 i < S 88 12 := by
      intro z
      rw [if_pos z] at hv
      exact hne hv
    rw [t7]
    refine ⟨⟨by omega, by omega⟩, fun υ eu => ?_⟩
    have e97 : ∀ k, zFan i outs S 97 k = S 97 k := fun k => by rw [zFan_97, if_neg (fun z => hroom z.2)]
    refine fin υ (fun c k _ _ _ b4 => by rw [eu, sI_at, if_neg b4]) (by rw [eu, sI_eq, c26, if_neg hroom]) (fun k k0 k1 => ?_) (fun q q0 q1 j j0 j1 => ?_)
    · rw [eu, sI_ne (by omega), sI_ne (by omega), t55, t57, e97]
      refine ⟨(d3 k k0 k1).2.1, ?_⟩
      rw [(d3 k k0 k1).2.2.2.2]
      by_cases hz : S 97 k = 0
      · unfold zLeft; rw [e97, if_pos hz, if_pos hz]
      · exact (zl k k0 k1 hz).symm
    · rw [e97] at j1
      rw [eu, sI_ne (by omega), t56, zFan_96, if_neg (fun z => hroom z.2)]
      exact d5 q q0 q1 j j0 j1
  · have hroom : S 97 i < S 88 12 := by
      rcases Int.lt_or_le (S 97 i) (S 88 12) with z | z
      · exact z
      · rw [if_neg (by omega)] at hv; omega
    have f55 : gI τ 55 i = S 97 i := by rw [t55]; exact cq.2.1
    -- the row behind it
    have row : ∀ (υ0 υ : gS), (∀ c k, c ≠ 57 → gI υ0 c k = gI τ c k) → υ = sI (sI υ0 56 (i * 9 + S 97 i) (S 88 25)) 55 i (S 97 i + 1) → (∀ k, 0 ≤ k → k < 6 → gI υ0 57 k = zLeft (zFan i outs S) k) → Q υ := by
      intro υ0 υ h0 eu h57
      refine fin υ (fun c k b1 b2 b3 _ => by rw [eu, sI_ne b1, sI_ne b2]; exact h0 c k b3) ?_ (fun k k0 k1 => ⟨?_, ?_⟩) (fun q q0 q1 j j0 j1 => ?_)
      · rw [eu, sI_ne (by omega), sI_ne (by omega), h0 _ _ (by omega), t7, c26, if_pos hroom]
      · rw [eu, sI_at, zFan_97]
        by_cases hki : k = i
        · rw [if_pos ⟨rfl, hki⟩, if_pos ⟨hki, hroom⟩, hki]
        · rw [if_neg (fun z => hki z.2), if_neg (fun z => hki z.1), sI_ne (by omega), h0 _ _ (by omega), t55]; exact (d3 k k0 k1).2.1
      · rw [eu, sI_ne (by omega), sI_ne (by omega)]; exact h57 k k0 k1
      · rw [zFan_97] at j1
        have b' := o4 q q0 q1
        rw [eu, sI_ne (by omega), sI_at, zFan_96]
        by_cases hp : 9 * q + j = 9 * i + S 97 i
        · rw [if_pos ⟨rfl, by omega⟩, if_pos ⟨hp, hroom⟩]
        · rw [if_neg (fun z => hp (by omega)), if_neg (fun z => hp z.1), h0 _ _ (by omega), t56]
          refine d5 q q0 q1 j j0 ?_
          by_cases hqi : q = i
          · subst hqi
            rw [if_pos ⟨rfl, hroom⟩] at j1
            omega
          · rw [if_neg (fun z => hqi z.1)] at j1; exact j1
    rw [f55]
    refine ⟨fun hnz => ⟨by omega, fun υ1 e1 => ?_⟩, fun hz υ0 e0 => ?_⟩
    · have g55 : gI υ1 55 i = S 97 i := by rw [e1, sI_ne (by omega)]; exact f55
      rw [g55]
      refine ⟨⟨by omega, by omega⟩, fun υ eu => row τ υ (fun _ _ _ => rfl) (by rw [eu, e1]) (fun k k0 k1 => ?_)⟩
      rw [t57, (d3 k k0 k1).2.2.2.2]
      by_cases hkz : S 97 k = 0
      · exact (zl0 k k0 k1 (fun e => by subst e; exact hnz hkz) hkz).symm
      · exact (zl k k0 k1 hkz).symm
    · have g55 : gI υ0 55 i = S 97 i := by rw [e0, sI_ne (by omega)]; exact f55
      rw [g55]
      refine ⟨by omega, fun υ1 e1 => ?_⟩
      have g55' : gI υ1 55 i = S 97 i := by rw [e1, sI_ne (by omega)]; exact g55
      rw [g55']
      refine ⟨⟨by omega, by omega⟩, fun υ eu => row υ0 υ (fun c k b => by rw [e0, sI_ne b]) (by rw [eu, e1]) (fun k k0 k1 => ?_)⟩
      rw [e0, sI_at]
      by_cases hki : k = i
      · rw [if_pos ⟨rfl, hki⟩, hki]
        unfold zLeft
        have e97 : zFan i outs S 97 i = S 97 i + 1 := by rw [zFan_97, if_pos ⟨rfl, hroom⟩]
        have e96 : zFan i outs S 96 (9 * i) = S 88 25 := by rw [zFan_96, if_pos ⟨by omega, hroom⟩]
        rw [e97, if_neg (by omega), e96, n6]
      · rw [if_neg (fun z => hki z.2), t57, (d3 k k0 k1).2.2.2.2]
        by_cases hkz : S 97 k = 0
        · exact (zl0 k k0 k1 hki hkz).symm
        · exact (zl k k0 k1 hkz).symm
end MY
