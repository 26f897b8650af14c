def zCan (kind a b : Int) (S : RS) : Prop := 0 ≤ a ∧ a < S 88 10 ∧ S 99 a = 0 ∧ ((kind = 2 ∧ b < S 88 10) ∨ (kind ≠ 2 ∧ b < 2 ^ (S 88 10).toNat))
def zBring (kind a b : Int) (S : RS) : RS := if kind = 2 then zCell a b 1 S else if kind = 3 then zFan a b S else zBurst a b S
theorem zBo_99 (i outs : Int) : ∀ (n : Nat) (o op : Int) (S : RS) (k : Int), (k ≠ i → (zBo i outs n o op S).2 99 k = S 99 k) ∧ (k = i → (S 99 i = 1 ∨ ∃ j, o ≤ j ∧ j < o + n ∧ tb outs j = true) → (zBo i outs n o op S).2 99 k = 1)
  | 0, o, op, S, k => ⟨fun _ => rfl, fun e h => by
      rcases h with h | ⟨j, h1, h2, h3⟩
      · rw [e]; exact h
      · exact absurd h2 (by omega)⟩
  | n + 1, o, op, S, k => by
    unfold zBo
    have z99 : zCell i o 0 S 99 i = 1 := by rw [zCell_99, if_pos rfl]
    split
    · split
      · obtain ⟨a1, a2⟩ := zBo_99 i outs n (o + 1) (gor op (gshl 1 o)) (zCell i o 0 S) k
        refine ⟨fun e => ?_, fun e _ => a2 e (Or.inl z99)⟩
        rw [a1 e, zCell_99, if_neg e]
      · refine ⟨fun e => ?_, fun e _ => ?_⟩
        · show zCell i o 0 S 99 k = _
          rw [zCell_99, if_neg e]
        · show zCell i o 0 S 99 k = _
          rw [e]; exact z99
    · rename_i ht
      obtain ⟨a1, a2⟩ := zBo_99 i outs n (o + 1) op S k
      refine ⟨a1, fun e h => a2 e ?_⟩
      rcases h with h | ⟨j, h1, h2, h3⟩
      · exact Or.inl h
      · refine Or.inr ⟨j, ?_, by omega, h3⟩
        by_cases hj : j = o
        · subst hj; exact absurd h3 ht
        · omega
theorem tb_some {outs P : Int} (h1 : 1 ≤ outs) (hP : 1 ≤ P ∧ P ≤ 6) (h2 : outs < 2 ^ P.toNat) : ∃ j, 0 ≤ j ∧ j < P ∧ tb outs j = true := by
  have h6 : outs < 64 := by
    have : ∀ p : Int, 1 ≤ p → p ≤ 6 → (2 : Int) ^ p.toNat ≤ 64 := by
      intro p p1 p2
      have : p = 1 ∨ p = 2 ∨ p = 3 ∨ p = 4 ∨ p = 5 ∨ p = 6 := by omega
      rcases this with rfl | rfl | rfl | rfl | rfl | rfl <;> decide
    have := this P hP.1 hP.2
    omega
  apply Classical.byContradiction
  intro hn
  have hall : ∀ k, 0 ≤ k → k < 6 → tb outs k = false := by
    intro k k0 k1
    by_cases hk : k < P
    · cases ht : tb outs k with
      | false => rfl
      | true => exact absurd ⟨k, k0, hk, ht⟩ hn
    · unfold tb
      refine Nat.testBit_lt_two_pow (Nat.lt_of_lt_of_le (m := 2 ^ P.toNat) ?_ (Nat.pow_le_pow_right (by decide) (by omega)))
      have : outs.toNat < ((2 : Int) ^ P.toNat).toNat := by omega
      rw [pow2_nat] at this
      exact this
  have := (isM_zero (m := outs) (p := fun k => tb outs k) ⟨by omega, h6, fun _ _ _ => rfl⟩).mpr hall
  omega
theorem zBring_99 {kind a b : Int} {S : RS} (hS : OKS S) (hc : zCan kind a b S) (hb : kind ≠ 2 → 1 ≤ b) (k : Int) : zBring kind a b S 99 k = if k = a then 1 else S 99 k := by
  unfold zBring
  split
  · exact zCell_99 a b 1 S k
  · split
    · exact zFan_99 a S b k
    · rename_i h2 h3
      have hP := hS.1
      have hb2 : b < 2 ^ (S 88 10).toNat := by
        rcases hc.2.2.2 with ⟨e, _⟩ | ⟨_, e⟩
        · exact absurd e h2
        · exact e
      obtain ⟨a1, a2⟩ := zBo_99 a b (S 88 10).toNat 0 0 S k
      unfold zBurst
      rw [zSh_o _ _ _ _ _ (by omega) (by omega)]
      by_cases hk : k = a
      · rw [if_pos hk]
        obtain ⟨j, j0, j1, j2⟩ := tb_some (hb h2) ⟨hP.1, hP.2.1⟩ hb2
        exact a2 hk (Or.inr ⟨j, j0, by omega, j2⟩)
      · rw [if_neg hk]; exact a1 hk
theorem zBring_ok {kind a b : Int} {S : RS} (hS : OKS S) (hc : zCan kind a b S) (hb : 0 ≤ b) (hb1 : kind ≠ 2 → 1 ≤ b) : OKS (zBring kind a b S) ∧ (∀ k, k ≠ 23 → k ≠ 25 → k ≠ 26 → zBring kind a b S 88 k = S 88 k) ∧ S 88 25 ≤ zBring kind a b S 88 25 ∧ zBring kind a b S 88 25 ≤ S 88 25 + 6 ∧ zBring kind a b S 88 23 ≤ S 88 23 + 6 := by
  obtain ⟨c1, c2, c3, c4⟩ := hc
  unfold zBring
  split
  · rename_i h2
    have hb2 : b < S 88 10 := by rcases c4 with ⟨_, e⟩ | ⟨e, _⟩; exact e; exact absurd h2 e
    have e25 := zCell_25 a b 1 S
    have e23 := zCell_88 a b 1 S 23 (by omega) (by omega)
    exact ⟨OKS_cell hS ⟨c1, c2⟩ ⟨hb, hb2⟩, fun k k1 k2 k3 => zCell_88 a b 1 S k k2 k3, by omega, by omega, by omega⟩
  · rename_i h2
    have hb2 : b < 2 ^ (S 88 10).toNat := by rcases c4 with ⟨e, _⟩ | ⟨_, e⟩; exact absurd e h2; exact e
    split
    · have e25 := zFan_25 a S b
      have e23 := zFan_88 a S b 23 (by omega) (by omega)
      exact ⟨OKS_fan hS ⟨c1, c2⟩ ⟨hb1 h2, hb2⟩, fun k k1 k2 k3 => zFan_88 a S b k k2 k3, by omega, by omega, by omega⟩
    · exact OKS_burst hS ⟨c1, c2⟩
section NA
variable {l : Launch} {G : gG}
theorem c_can (kind a b : Int) (rk : gR kind) (ra : gR a) (rb : gR b) (hb : 0 ≤ b) (hk : 2 ≤ kind) (σ : gS) (hS : OKS (pS σ)) (Q : Int → gS → Prop) (h : ∀ r, (r = 1 ∧ zCan kind a b (pS σ)) ∨ (r = 0 ∧ ¬ zCan kind a b (pS σ)) → Q r σ) : eX12_can l G kind a b σ Q := by
  have hP := hS.1
  have e10 : gI σ 88 10 = pS σ 88 10 := pS_at (by unfold okC; omega)
  have h2 : gshl 1 (pS σ 88 10) = 2 ^ (pS σ 88 10).toNat := gshl_1 _ (by omega)
  have hn : ∀ e : ¬ zCan kind a b (pS σ), Q 0 σ := fun e => h 0 (Or.inr ⟨rfl, e⟩)
  refine vX12_can kind a b rk ra rb σ Q ⟨fun _ => ?_, fun e => by omega⟩
  refine c_isPort a ra σ (by rw [e10]; omega) _ (fun r hr _ => ⟨fun e => hn (fun z => ?_), fun e => ?_⟩)
  · rw [e10] at hr
    obtain ⟨z1, z2, z3, z4⟩ := z
    omega
  · rw [e10] at hr ⊢
    have e99 : gI σ 99 a = pS σ 99 a := pS_at (by unfold okC; omega)
    rw [e99, h2]
    refine ⟨by omega, fun e9 => ⟨fun ek v hv => ?_, fun ek => ?_⟩, fun e9 => hn (fun z => e9 z.2.2.1)⟩
    · by_cases hb2 : 2 ^ (pS σ 88 10).toNat ≤ b
      · rw [if_pos hb2] at hv
        rw [hv]
        refine hn (fun z => ?_)
        obtain ⟨z1, z2, z3, z4⟩ := z
        rcases z4 with ⟨z5, z6⟩ | ⟨z5, z6⟩
        · exact ek z5
        · omega
      · rw [if_neg hb2] at hv
        exact h v (Or.inl ⟨hv, by omega, by omega, e9, Or.inr ⟨ek, by omega⟩⟩)
    · refine c_isPort b rb σ (by rw [e10]; omega) _ (fun r2 hr2 _ => h r2 ?_)
      rw [e10] at hr2
      rcases hr2 with ⟨w1, w2, w3⟩ | ⟨w1, w2⟩
      · exact Or.inl ⟨w1, by omega, by omega, e9, Or.inl ⟨ek, w3⟩⟩
      · refine Or.inr ⟨w1, fun z => ?_⟩
        obtain ⟨z1, z2, z3, z4⟩ := z
        rcases z4 with ⟨z5, z6⟩ | ⟨z5, z6⟩
        · omega
        · exact z5 ek
theorem pow_cmp {b P : Int} (hb : 0 ≤ b ∧ b < 6) (hP : 1 ≤ P ∧ P ≤ 6) : (2 : Int) ^ b.toNat < 2 ^ P.toNat ↔ b < P := by
  have h6 : b = 0 ∨ b = 1 ∨ b = 2 ∨ b = 3 ∨ b = 4 ∨ b = 5 := by omega
  have hp : P = 1 ∨ P = 2 ∨ P = 3 ∨ P = 4 ∨ P = 5 ∨ P = 6 := by omega
  rcases h6 with rfl | rfl | rfl | rfl | rfl | rfl <;> rcases hp with rfl | rfl | rfl | rfl | rfl | rfl <;> decide
/-- a deed that brings something, by the class -/
theorem c_bring (kind a b : Int) (hk : kind = 2 ∨ kind = 3 ∨ kind = 4) (ra : gR a) (hb : 0 ≤ b ∧ b < 64) (hb2 : kind = 2 → b < 6) (σ : gS) (S : RS) (hC : CR σ S) (hS : OKS S) (hA : isM (gI σ 32 6) (fun i => decide (S 99 i = 1))) (h25 : S 88 25 ≤ 354) (h23 : S 88 23 ≤ 100000) (hb1 : kind ≠ 2 → 1 ≤ b) (Q : Int → gS → Prop)
    (hno : ¬ zCan kind a b S → Q 0 σ) (h : zCan kind a b S → ∀ τ, CR τ (zBring kind a b S) → isM (gI τ 32 6) (fun i => decide (zBring kind a b S 99 i = 1)) → frN σ τ → Q 1 τ) : eX8_bring l G kind a b σ Q := by
  have hP := hS.1
  have p3 : gI σ 32 3 = S 88 10 := hC.1.1
  have rk : gR kind := ⟨by omega, by omega⟩
  refine vX8_bring kind a b rk ra ⟨by omega, by omega⟩ σ Q (fun v hv => ?_)
  rw [p3]
  have hv2 : v = if kind = 2 then 2 ^ b.toNat else b := by
    rw [hv]
    split
    · rename_i e; have := hb2 e; exact gshl_1 b (by omega)
    · rfl
  have hvr : 0 ≤ v ∧ v < 64 := by
    rw [hv2]
    split
    · rename_i e; exact pow6 b ⟨hb.1, hb2 e⟩
    · exact hb
  have hsh : gshr v (S 88 10) = v / 2 ^ (S 88 10).toNat := gshr_eq v _ ⟨by omega, by omega⟩ (by omega)
  have hpos := (pow2_lt (S 88 10) (by omega)).2
  have hz : gshr v (S 88 10) = 0 ↔ ((kind = 2 ∧ b < S 88 10) ∨ (kind ≠ 2 ∧ b < 2 ^ (S 88 10).toNat)) := by
    rw [hsh]
    have hd : v / 2 ^ (S 88 10).toNat = 0 ↔ v < 2 ^ (S 88 10).toNat := by
      constructor
      · intro e
        have := Int.mul_ediv_add_emod v (2 ^ (S 88 10).toNat)
        have h9 := Int.emod_lt_of_pos v hpos
        rw [e] at this
        omega
      · intro e; exact Int.ediv_eq_zero_of_lt hvr.1 e
    rw [hd, hv2]
    by_cases e : kind = 2
    · rw [if_pos e, pow_cmp ⟨hb.1, hb2 e⟩ ⟨hP.1, hP.2.1⟩]
      constructor
      · intro z; exact Or.inl ⟨e, z⟩
      · rintro (⟨_, z⟩ | ⟨z, _⟩)
        · exact z
        · exact absurd e z
    · rw [if_neg e]
      constructor
      · intro z; exact Or.inr ⟨e, z⟩
      · rintro (⟨z, _⟩ | ⟨_, z⟩)
        · exact absurd z e
        · exact z
  refine ⟨fun e => hno (fun z => by have := z.1; omega), fun e1 => ⟨fun e => hno (fun z => by have := z.2.1; omega), fun e2 => ⟨fun e => hno (fun z => e (hz.mpr z.2.2.2)), fun e3 => ?_⟩⟩⟩
  refine c_holds _ a ⟨hA.1, hA.2.1⟩ (by omega) σ _ (fun _ => ?_)
  have h99 := hS.2.2.2.2.1 a (by omega) (by omega)
  rw [hA.2.2 a (by omega) (by omega)]
  by_cases hs : S 99 a = 1
  · rw [if_pos (by simp [hs])]
    exact ⟨fun e => absurd e (by decide), fun _ => hno (fun z => by have := z.2.2.1; omega)⟩
  · rw [if_neg (by simp [hs])]
    have hcan : zCan kind a b S := ⟨by omega, by omega, by omega, hz.mp e3⟩
    refine ⟨fun _ σ1 eq1 => ?_, fun e => absurd rfl e⟩
    have f6 : gI σ1 32 6 = gor (gI σ 32 6) (gshl 1 a) := by rw [eq1, sI_eq]
    have fo : ∀ c k, ¬ (c = 32 ∧ k = 6) → gI σ1 c k = gI σ c k := fun c k hc => by rw [eq1, sI_at, if_neg hc]
    have F1 : frN σ σ1 := by rw [eq1]; exact frN.set (by omega)
    have C1 : CR σ1 S := by
      obtain ⟨⟨p1, p2, p3', p4⟩, ⟨s1, s2, s3, s4, s5, s6⟩, d3, d4, d5, d6, d7, d8⟩ := hC
      refine ⟨?_, ?_, fun k k0 k1 => ?_, fun q q0 q1 => ?_, fun q q0 q1 j j0 j1 => ?_, fun k k0 k1 => ?_, fun k k0 k1 => ?_, ?_⟩
      · rw [fo _ _ (by omega), fo _ _ (by omega), fo _ _ (by omega), fo _ _ (by omega)]; exact ⟨p1, p2, p3', p4⟩
      · rw [fo _ _ (by omega), fo _ _ (by omega), fo _ _ (by omega), fo _ _ (by omega), fo _ _ (by omega), fo _ _ (by omega)]; exact ⟨s1, s2, s3, s4, s5, s6⟩
      · rw [fo _ _ (by omega), fo _ _ (by omega), fo _ _ (by omega), fo _ _ (by omega), fo _ _ (by omega)]; exact d3 k k0 k1
      · rw [fo _ _ (by omega)]
        refine ⟨(d4 q q0 q1).1, fun j j0 j1 => ?_⟩
        rw [fo _ _ (by omega)]; exact (d4 q q0 q1).2 j j0 j1
      · rw [fo _ _ (by omega)]; exact d5 q q0 q1 j j0 j1
      · rw [fo _ _ (by omega), fo _ _ (by omega), fo _ _ (by omega), fo _ _ (by omega), fo _ _ (by omega), fo _ _ (by omega), fo _ _ (by omega)]; exact d6 k k0 k1
      · rw [fo _ _ (by omega)]; exact d7 k k0 k1
      · exact d8.keep (fun c hc k => fo c k (by omega)) rfl rfl (fun _ => rfl) (fun _ => rfl)
    have M1 : isM (gI σ1 32 6) (fun i => decide (zBring kind a b S 99 i = 1)) := by
      rw [f6]
      refine isM_congr (isM_set hA a (by omega)) (fun k k0 k1 => ?_)
      rw [zBring_99 hS hcan hb1]
      by_cases hk : k = a
      · rw [if_pos hk]; simp [hk]
      · rw [if_neg hk]
        have : ¬ a = k := fun z => hk z.symm
        simp [this]
    refine ⟨fun ek => ⟨fun ek3 => ?_, fun ek3 => ?_⟩, fun ek => ?_⟩
    · refine c_takeBurst a b hb σ1 S C1 hS ⟨by omega, by omega⟩ h25 h23 _ (fun τ tC t6 tF => h hcan τ ?_ ?_ (F1.trans tF))
      · unfold zBring; rw [if_neg ek, if_neg ek3]; exact tC
      · rw [t6]; exact M1
    · refine c_takeFan a b σ1 S C1 hS ⟨by omega, by omega⟩ hb (by omega) _ (fun τ tC t6 tF => h hcan τ ?_ ?_ (F1.trans tF))
      · unfold zBring; rw [if_neg ek, if_pos ek3]; exact tC
      · rw [t6]; exact M1
    · have hbP : b < S 88 10 := by
        rcases hcan.2.2.2 with ⟨_, z⟩ | ⟨z, _⟩
        · exact z
        · exact absurd ek z
      refine c_takeCell a b 1 σ1 S C1 hS ⟨by omega, by omega⟩ ⟨hb.1, hbP⟩ (by omega) _ (fun r τ _ tC t6 tF _ => h hcan τ ?_ ?_ (F1.trans tF))
      · unfold zBring; rw [if_pos ek]; exact tC
      · rw [t6]; exact M1
end NA
