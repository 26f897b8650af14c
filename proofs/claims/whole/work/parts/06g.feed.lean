section MG
variable {l : Launch} {G : gG}
theorem c_put (x : Int) (rx : gR x) (σ : gS) (hl : 0 ≤ gI σ 1 1 ∧ gI σ 1 1 ≤ 596) (Q : gS → Prop)
    (h : ∀ τ : gS, gI τ 1 1 = gI σ 1 1 + 4 → (∀ j, 0 ≤ j → j < 4 → gI τ 2 (gI σ 1 1 + j) = gi2b (gshr x (24 - 8 * j))) → (∀ c i, ¬ (c = 1 ∧ i = 1) → ¬ (c = 2 ∧ gI σ 1 1 ≤ i ∧ i < gI σ 1 1 + 4) → gI τ c i = gI σ c i) → Q τ) : eX10_put l G x σ Q := by
  refine vX10_put x rx σ Q ?_
  have key := gloopI (α := gS) 0 4 (fun j τ => j ≤ 4 ∧ gI τ 1 1 = gI σ 1 1 + j ∧ (∀ q, 0 ≤ q → q < j → gI τ 2 (gI σ 1 1 + q) = gi2b (gshr x (24 - 8 * q))) ∧ (∀ c i, ¬ (c = 1 ∧ i = 1) → ¬ (c = 2 ∧ gI σ 1 1 ≤ i ∧ i < gI σ 1 1 + j) → gI τ c i = gI σ c i)) (fun j τ => kX10_put_3 l G x (24 - 8 * j) τ Q) ?_ ?_ 0 σ (by omega) ⟨by omega, by omega, fun q h0 h1 => by omega, fun _ _ _ _ => rfl⟩
  · exact key
  · intro j τ h0 h1 ⟨q0, q1, q2, q3⟩ ih
    refine vX10_put_3 x (24 - 8 * j) rx ⟨by omega, by omega⟩ τ Q ⟨fun e => by omega, fun _ => ⟨fun e => by omega, fun _ => ⟨by omega, fun τ1 e1 => ?_⟩⟩⟩
    have f1 : gI τ1 1 1 = gI σ 1 1 + j := by rw [e1, sI_ne (by omega)]; exact q1
    rw [f1]
    refine ⟨⟨by omega, by omega⟩, fun τ2 e2 => ?_⟩
    rw [show 24 - 8 * j + (-8) = 24 - 8 * (j + 1) by omega]
    refine ih τ2 ⟨by omega, by rw [e2, sI_eq]; omega, fun q z0 z1 => ?_, fun c i n1 n2 => ?_⟩
    · rw [e2, sI_ne (by omega), e1]
      by_cases hq : q = j
      · rw [hq, q1, sI_eq]
      · rw [sI_nei (by omega)]; exact q2 q z0 (by omega)
    · rw [e2, sI_at, if_neg n1, e1, sI_at, if_neg (by omega)]
      exact q3 c i n1 (by omega)
  · intro j τ h0 ⟨q0, q1, q2, q3⟩
    have hj : j = 4 := by omega
    subst hj
    exact vX10_put_3 x (24 - 8 * 4) rx (by decide) τ Q ⟨fun _ => h τ q1 q2 q3, fun e => by omega⟩
/-- which of the five numbers byte i is of -/
def fdW (x1 x2 x3 x4 x5 i : Int) : Int := if 4 ≤ i then (if 8 ≤ i then (if 12 ≤ i then (if 16 ≤ i then x5 else x4) else x3) else x2) else x1
theorem fdW_R {x1 x2 x3 x4 x5 : Int} (r1 : gR x1) (r2 : gR x2) (r3 : gR x3) (r4 : gR x4) (r5 : gR x5) (i : Int) : gR (fdW x1 x2 x3 x4 x5 i) := by
  unfold fdW
  repeat (first | assumption | split)
theorem grem_pos (a b : Int) (ha : 0 ≤ a ∧ a < 2147483648) (hb : 0 < b ∧ b < 2147483648) : grem a b = a % b := by
  have ra : gR a := ⟨by omega, by omega⟩
  have rb : gR b := ⟨by omega, by omega⟩
  unfold grem
  have h1 : (i32 a / i32 b).toInt = a / b := by
    rw [Int32.toInt_div, i32_toInt ra, i32_toInt rb, Int.tdiv_eq_ediv_of_nonneg ha.1, Int.bmod_def]
    have h2 : 0 ≤ a / b := Int.ediv_nonneg ha.1 (by omega)
    have h3 : a / b ≤ a := Int.ediv_le_self b ha.1
    rw [Int.emod_eq_of_lt h2 (by omega), if_pos (by omega)]
  have h4 : i32 a / i32 b = i32 (a / b) := by rw [← h1, i32_of]
  rw [h4, ← i32_mul, ← i32_sub]
  have h5 : a - a / b * b = a % b := by
    have := Int.mul_ediv_add_emod a b
    have h6 : a / b * b = b * (a / b) := Int.mul_comm _ _
    omega
  rw [h5, i32_toInt]
  have h7 := Int.emod_nonneg a (show b ≠ 0 by omega)
  have h8 := Int.emod_lt_of_pos a hb.1
  exact ⟨by omega, by omega⟩
theorem p_feed (x1 x2 x3 x4 x5 : Int) (r1 : gR x1) (r2 : gR x2) (r3 : gR x3) (r4 : gR x4) (r5 : gR x5) (σ : gS) (hI : tInv σ) : eX11_feed l G x1 x2 x3 x4 x5 σ (fun r τ => gR r → eX12_feed l G x1 x2 x3 x4 x5 τ (fun r' υ => gR r' → r = r' ∧ tInv υ)) := by
  obtain ⟨k2, k3, k4⟩ := tTp0 hI
  refine vX11_feed x1 x2 x3 x4 x5 r1 r2 r3 r4 r5 σ _ ⟨⟨by omega, by omega⟩, fun h1 => ?_, fun h1 _ => ?_⟩
  · generalize hL : gI σ 1 1 = L at *
    refine c_put x1 r1 σ (by omega) _ (fun σ1 a1 a2 a3 => ?_)
    rw [hL] at a1 a2 a3
    refine c_put x2 r2 σ1 (by omega) _ (fun σ2 b1 b2 b3 => ?_)
    rw [a1] at b1 b2 b3
    refine c_put x3 r3 σ2 (by omega) _ (fun σ3 c1 c2 c3 => ?_)
    rw [b1] at c1 c2 c3
    refine c_put x4 r4 σ3 (by omega) _ (fun σ4 d1 d2 d3 => ?_)
    rw [c1] at d1 d2 d3
    refine c_put x5 r5 σ4 (by omega) _ (fun σ5 m1 m2 m3 _ => ?_)
    rw [d1] at m1 m2 m3
    have g1 : ∀ c i, ¬ (c = 1 ∧ i = 1) → ¬ (c = 2 ∧ L ≤ i ∧ i < L + 20) → gI σ5 c i = gI σ c i := by
      intro c i n1 n2
      rw [m3 c i n1 (by omega), d3 c i n1 (by omega), c3 c i n1 (by omega), b3 c i n1 (by omega), a3 c i n1 (by omega)]
    have g2 : ∀ i, 0 ≤ i → i < 20 → gI σ5 2 (L + i) = gi2b (gshr (fdW x1 x2 x3 x4 x5 i) (24 - 8 * (i % 4))) := by
      intro i i0 i1
      unfold fdW
      by_cases z1 : 4 ≤ i
      · by_cases z2 : 8 ≤ i
        · by_cases z3 : 12 ≤ i
          · by_cases z4 : 16 ≤ i
            · rw [if_pos z1, if_pos z2, if_pos z3, if_pos z4]
              have h9 := m2 (i - 16) (by omega) (by omega)
              rw [show L + 4 + 4 + 4 + 4 + (i - 16) = L + i by omega, show i - 16 = i % 4 by omega] at h9
              exact h9
            · rw [if_pos z1, if_pos z2, if_pos z3, if_neg z4, m3 _ _ (by omega) (by omega)]
              have h9 := d2 (i - 12) (by omega) (by omega)
              rw [show L + 4 + 4 + 4 + (i - 12) = L + i by omega, show i - 12 = i % 4 by omega] at h9
              exact h9
          · rw [if_pos z1, if_pos z2, if_neg z3, m3 _ _ (by omega) (by omega), d3 _ _ (by omega) (by omega)]
            have h9 := c2 (i - 8) (by omega) (by omega)
            rw [show L + 4 + 4 + (i - 8) = L + i by omega, show i - 8 = i % 4 by omega] at h9
            exact h9
        · rw [if_pos z1, if_neg z2, m3 _ _ (by omega) (by omega), d3 _ _ (by omega) (by omega), c3 _ _ (by omega) (by omega)]
          have h9 := b2 (i - 4) (by omega) (by omega)
          rw [show L + 4 + (i - 4) = L + i by omega, show i - 4 = i % 4 by omega] at h9
          exact h9
      · rw [if_neg z1, m3 _ _ (by omega) (by omega), d3 _ _ (by omega) (by omega), c3 _ _ (by omega) (by omega), b3 _ _ (by omega) (by omega)]
        have h9 := a2 i (by omega) (by omega)
        rw [show 24 - 8 * i = 24 - 8 * (i % 4) by omega] at h9
        exact h9
    have g3 : gI σ5 1 1 = L + 20 := by omega
    have g4 : gI σ5 89 4 = L := by rw [g1 _ _ (by omega) (by omega)]; omega
    refine vX12_feed x1 x2 x3 x4 x5 r1 r2 r3 r4 r5 σ5 _ ⟨⟨by omega, by omega⟩, fun _ => ?_, fun h => by omega⟩
    refine gloopI (α := gS) 0 20 (fun j τ => j ≤ 20 ∧ gI τ 89 4 = L + j ∧ (∀ q, 0 ≤ q → q < j → gI τ 89 (10 + (L + q)) = gshr (fdW x1 x2 x3 x4 x5 q) (24 - 8 * (q % 4)) % 256) ∧ (∀ c i, ¬ (c = 89 ∧ i = 4) → ¬ (c = 89 ∧ 10 + L ≤ i ∧ i < 10 + (L + j)) → gI τ c i = gI σ5 c i)) (fun j τ => kX12_feed_20 l G x1 x2 x3 x4 x5 j τ _) ?_ ?_ 0 σ5 (by omega) ⟨by omega, by omega, fun q h0 h1 => by omega, fun _ _ _ _ => rfl⟩
    · intro j τ h0 h2 ⟨q0, q1, q2, q3⟩ ih
      refine vX12_feed_20 x1 x2 x3 x4 x5 j r1 r2 r3 r4 r5 ⟨by omega, by omega⟩ τ _ ⟨fun e => by omega, fun _ v hv => ⟨by omega, fun τ1 e1 => ?_⟩⟩
      have f1 : gI τ1 89 4 = L + j := by rw [e1, sI_nei (by omega)]; exact q1
      rw [f1]
      refine ⟨⟨by omega, by omega⟩, fun τ2 e2 => ih τ2 ⟨by omega, by rw [e2, sI_eq]; omega, fun q z0 z1 => ?_, fun c i n1 n2 => ?_⟩⟩
      · rw [e2, sI_nei (by omega), e1, q1]
        by_cases hq : q = j
        · rw [hq, sI_eq, gand_255, hv, grem_pos j 4 (by omega) (by decide)]
          rfl
        · rw [sI_nei (by omega)]; exact q2 q z0 (by omega)
      · rw [e2, sI_at, if_neg n1, e1, sI_at, if_neg (by omega)]
        exact q3 c i n1 (by omega)
    · intro j τ h0 ⟨q0, q1, q2, q3⟩
      have hj : j = 20 := by omega
      subst hj
      refine vX12_feed_20 x1 x2 x3 x4 x5 20 r1 r2 r3 r4 r5 (by decide) τ _ ⟨fun _ _ => ⟨by omega, ?_⟩, fun e => by omega⟩
      refine tInv.told hI (fun c c1 c2 i => by rw [q3 _ _ (by omega) (by omega), g1 _ _ (by omega) (by omega)]) (fun i i1 => by rw [q3 _ _ (by omega) (by omega), g1 _ _ (by omega) (by omega)]) (fun i => by rw [q3 _ _ (by omega) (by omega), g1 _ _ (by omega) (by omega)]) ⟨tTx.keep (fun c c1 c2 i => by rw [q3 _ _ (by omega) (by omega), g1 _ _ (by omega) (by omega)]) (fun i i1 i2 => by rw [q3 _ _ (by omega) (by omega), g1 _ _ (by omega) (by omega)]) (fun i i1 i2 => by rw [q3 _ _ (by omega) (by omega), g1 _ _ (by omega) (by omega)]) hI.1.1, tTp0.mk ⟨?_, ?_, fun i i0 i1 => ?_⟩⟩
      · rw [q3 _ _ (by omega) (by omega)]; omega
      · rw [q3 _ _ (by omega) (by omega), q3 _ _ (by omega) (by omega), q3 _ _ (by omega) (by omega), q3 _ _ (by omega) (by omega), g1 _ _ (by omega) (by omega), g1 _ _ (by omega) (by omega), g1 _ _ (by omega) (by omega), g1 _ _ (by omega) (by omega)]
        exact k3
      · by_cases hi : L ≤ i ∧ i < L + 20
        · have h8 := g2 (i - L) (by omega) (by omega)
          have h7 := q2 (i - L) (by omega) (by omega)
          rw [show L + (i - L) = i by omega] at h8 h7
          rw [q3 _ _ (by omega) (by omega), h7, h8, gi2b_mod]
          exact ⟨(gi2b_r _).1, (gi2b_r _).2, rfl⟩
        · rw [q3 _ _ (by omega) (by omega), q3 _ _ (by omega) (by omega), g1 _ _ (by omega) (by omega), g1 _ _ (by omega) (by omega)]
          exact k4 i i0 i1
  · exact vX12_feed x1 x2 x3 x4 x5 r1 r2 r3 r4 r5 σ _ ⟨⟨by omega, by omega⟩, fun h => by omega, fun _ _ => ⟨rfl, hI⟩⟩
end MG
