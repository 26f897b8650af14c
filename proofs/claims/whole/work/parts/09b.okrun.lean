section ZC
variable (i o alone : Int) (S : RS)
theorem zCell_88 (k : Int) (h1 : k ≠ 25) (h2 : k ≠ 26) : zCell i o alone S 88 k = S 88 k := by
  unfold zCell zLose
  split
  · rw [uS_ne (by omega), uS_ne (by omega), zCome_88 _ _ _ _ _ _ h1]
  · rw [uS_nei h2, uS_ne (by omega), zCome_88 _ _ _ _ _ _ h1]
theorem zCell_25 : zCell i o alone S 88 25 = S 88 25 + 1 := by
  unfold zCell zLose
  split
  · rw [uS_ne (by omega), uS_ne (by omega), zCome_25]
  · rw [uS_nei (by omega), uS_ne (by omega), zCome_25]
theorem zCell_26 : zCell i o alone S 88 26 = if S 95 (6 * i + o) < S 88 12 then S 88 26 else S 88 26 + 1 := by
  unfold zCell zLose
  split
  · rw [uS_ne (by omega), uS_ne (by omega), zCome_88 _ _ _ _ _ _ (by omega)]
  · rw [uS_eq, zCome_88 _ _ _ _ _ _ (by omega)]
theorem zCell_95 (q : Int) : zCell i o alone S 95 q = if q = 6 * i + o ∧ S 95 (6 * i + o) < S 88 12 then S 95 q + 1 else S 95 q := by
  unfold zCell zLose
  split
  · rename_i hc
    rw [uS_at]
    by_cases hq : q = 6 * i + o
    · rw [if_pos ⟨rfl, hq⟩, if_pos ⟨hq, hc⟩, hq]
    · rw [if_neg (fun z => hq z.2), if_neg (fun z => hq z.1), uS_ne (by omega), zCome_o _ _ _ _ _ _ _ (by omega)]
  · rename_i hc
    rw [if_neg (fun z => hc z.2), uS_ne (by omega), uS_ne (by omega), zCome_o _ _ _ _ _ _ _ (by omega)]
theorem zCell_94 (q : Int) : zCell i o alone S 94 q = if q = 9 * (6 * i + o) + S 95 (6 * i + o) ∧ S 95 (6 * i + o) < S 88 12 then S 88 25 else S 94 q := by
  unfold zCell zLose
  split
  · rename_i hc
    rw [uS_ne (by omega), uS_at]
    by_cases hq : q = 9 * (6 * i + o) + S 95 (6 * i + o)
    · rw [if_pos ⟨rfl, hq⟩, if_pos ⟨hq, hc⟩]
    · rw [if_neg (fun z => hq z.2), if_neg (fun z => hq z.1), zCome_o _ _ _ _ _ _ _ (by omega)]
  · rename_i hc
    rw [if_neg (fun z => hc z.2), uS_ne (by omega), uS_ne (by omega), zCome_o _ _ _ _ _ _ _ (by omega)]
theorem zCell_99 (k : Int) : zCell i o alone S 99 k = if k = i then 1 else S 99 k := by
  unfold zCell zLose
  split
  · rw [uS_ne (by omega), uS_ne (by omega), zCome_99]
  · rw [uS_ne (by omega), uS_ne (by omega), zCome_99]
theorem zCell_o (c : Nat) (k : Int) (h : c ≠ 88 ∧ c ≠ 94 ∧ c ≠ 95 ∧ c ≠ 99 ∧ (c < 100 ∨ 108 < c)) : zCell i o alone S c k = S c k := by
  unfold zCell zLose
  split
  · rw [uS_ne (by omega), uS_ne (by omega), zCome_o _ _ _ _ _ _ _ (by omega)]
  · rw [uS_ne (by omega), uS_ne (by omega), zCome_o _ _ _ _ _ _ _ (by omega)]
theorem zCell_k (c : Nat) (k : Int) (h : 100 ≤ c ∧ c ≤ 108) (hk : k ≠ S 88 25) : zCell i o alone S c k = S c k := by
  unfold zCell zLose
  split
  · rw [uS_ne (by omega), uS_ne (by omega), zCome_k _ _ _ _ _ _ _ h hk]
  · rw [uS_ne (by omega), uS_nei hk, zCome_k _ _ _ _ _ _ _ h hk]
theorem zCell_new : zCell i o alone S 100 (S 88 25) = i ∧ zCell i o alone S 101 (S 88 25) = 2 ^ o.toNat ∧ zCell i o alone S 102 (S 88 25) = 0 ∧ zCell i o alone S 103 (S 88 25) = S 88 24 ∧ zCell i o alone S 104 (S 88 25) = -1 ∧ zCell i o alone S 105 (S 88 25) = (if S 95 (6 * i + o) < S 88 12 then 0 else 1) ∧ zCell i o alone S 106 (S 88 25) = 2 ^ o.toNat ∧ zCell i o alone S 107 (S 88 25) = 0 ∧ zCell i o alone S 108 (S 88 25) = alone := by
  obtain ⟨n0, n1, n2, n3, n4, n5, n6, n7, n8⟩ := zCome_new i (2 ^ o.toNat) 0 alone S
  unfold zCell zLose
  split
  · refine ⟨?_, ?_, ?_, ?_, ?_, ?_, ?_, ?_, ?_⟩ <;> (rw [uS_ne (by omega), uS_ne (by omega)]; assumption)
  · refine ⟨?_, ?_, ?_, ?_, ?_, ?_, ?_, ?_, ?_⟩
    · rw [uS_ne (by omega), uS_ne (by omega)]; exact n0
    · rw [uS_ne (by omega), uS_ne (by omega)]; exact n1
    · rw [uS_ne (by omega), uS_ne (by omega)]; exact n2
    · rw [uS_ne (by omega), uS_ne (by omega)]; exact n3
    · rw [uS_ne (by omega), uS_ne (by omega)]; exact n4
    · rw [uS_ne (by omega), uS_eq]
    · rw [uS_ne (by omega), uS_ne (by omega)]; exact n6
    · rw [uS_ne (by omega), uS_ne (by omega)]; exact n7
    · rw [uS_ne (by omega), uS_ne (by omega)]; exact n8
variable (outs : Int)
theorem zFan_88 (k : Int) (h1 : k ≠ 25) (h2 : k ≠ 26) : zFan i outs S 88 k = S 88 k := by
  unfold zFan zLose
  split
  · rw [uS_ne (by omega), uS_ne (by omega), zCome_88 _ _ _ _ _ _ h1]
  · rw [uS_nei h2, uS_ne (by omega), zCome_88 _ _ _ _ _ _ h1]
theorem zFan_25 : zFan i outs S 88 25 = S 88 25 + 1 := by
  unfold zFan zLose
  split
  · rw [uS_ne (by omega), uS_ne (by omega), zCome_25]
  · rw [uS_nei (by omega), uS_ne (by omega), zCome_25]
theorem zFan_26 : zFan i outs S 88 26 = if S 97 i < S 88 12 then S 88 26 else S 88 26 + 1 := by
  unfold zFan zLose
  split
  · rw [uS_ne (by omega), uS_ne (by omega), zCome_88 _ _ _ _ _ _ (by omega)]
  · rw [uS_eq, zCome_88 _ _ _ _ _ _ (by omega)]
theorem zFan_97 (q : Int) : zFan i outs S 97 q = if q = i ∧ S 97 i < S 88 12 then S 97 q + 1 else S 97 q := by
  unfold zFan zLose
  split
  · rename_i hc
    rw [uS_at]
    by_cases hq : q = i
    · rw [if_pos ⟨rfl, hq⟩, if_pos ⟨hq, hc⟩, hq]
    · rw [if_neg (fun z => hq z.2), if_neg (fun z => hq z.1), uS_ne (by omega), zCome_o _ _ _ _ _ _ _ (by omega)]
  · rename_i hc
    rw [if_neg (fun z => hc z.2), uS_ne (by omega), uS_ne (by omega), zCome_o _ _ _ _ _ _ _ (by omega)]
theorem zFan_96 (q : Int) : zFan i outs S 96 q = if q = 9 * i + S 97 i ∧ S 97 i < S 88 12 then S 88 25 else S 96 q := by
  unfold zFan zLose
  split
  · rename_i hc
    rw [uS_ne (by omega), uS_at]
    by_cases hq : q = 9 * i + S 97 i
    · rw [if_pos ⟨rfl, hq⟩, if_pos ⟨hq, hc⟩]
    · rw [if_neg (fun z => hq z.2), if_neg (fun z => hq z.1), zCome_o _ _ _ _ _ _ _ (by omega)]
  · rename_i hc
    rw [if_neg (fun z => hc z.2), uS_ne (by omega), uS_ne (by omega), zCome_o _ _ _ _ _ _ _ (by omega)]
theorem zFan_99 (k : Int) : zFan i outs S 99 k = if k = i then 1 else S 99 k := by
  unfold zFan zLose
  split
  · rw [uS_ne (by omega), uS_ne (by omega), zCome_99]
  · rw [uS_ne (by omega), uS_ne (by omega), zCome_99]
theorem zFan_o (c : Nat) (k : Int) (h : c ≠ 88 ∧ c ≠ 96 ∧ c ≠ 97 ∧ c ≠ 99 ∧ (c < 100 ∨ 108 < c)) : zFan i outs S c k = S c k := by
  unfold zFan zLose
  split
  · rw [uS_ne (by omega), uS_ne (by omega), zCome_o _ _ _ _ _ _ _ (by omega)]
  · rw [uS_ne (by omega), uS_ne (by omega), zCome_o _ _ _ _ _ _ _ (by omega)]
theorem zFan_k (c : Nat) (k : Int) (h : 100 ≤ c ∧ c ≤ 108) (hk : k ≠ S 88 25) : zFan i outs S c k = S c k := by
  unfold zFan zLose
  split
  · rw [uS_ne (by omega), uS_ne (by omega), zCome_k _ _ _ _ _ _ _ h hk]
  · rw [uS_ne (by omega), uS_nei hk, zCome_k _ _ _ _ _ _ _ h hk]
theorem zFan_new : zFan i outs S 100 (S 88 25) = i ∧ zFan i outs S 101 (S 88 25) = outs ∧ zFan i outs S 102 (S 88 25) = 1 ∧ zFan i outs S 103 (S 88 25) = S 88 24 ∧ zFan i outs S 104 (S 88 25) = -1 ∧ zFan i outs S 105 (S 88 25) = (if S 97 i < S 88 12 then 0 else 1) ∧ zFan i outs S 106 (S 88 25) = outs ∧ zFan i outs S 107 (S 88 25) = 0 ∧ zFan i outs S 108 (S 88 25) = 0 := by
  obtain ⟨n0, n1, n2, n3, n4, n5, n6, n7, n8⟩ := zCome_new i outs 1 0 S
  unfold zFan zLose
  split
  · refine ⟨?_, ?_, ?_, ?_, ?_, ?_, ?_, ?_, ?_⟩ <;> (rw [uS_ne (by omega), uS_ne (by omega)]; assumption)
  · refine ⟨?_, ?_, ?_, ?_, ?_, ?_, ?_, ?_, ?_⟩
    · rw [uS_ne (by omega), uS_ne (by omega)]; exact n0
    · rw [uS_ne (by omega), uS_ne (by omega)]; exact n1
    · rw [uS_ne (by omega), uS_ne (by omega)]; exact n2
    · rw [uS_ne (by omega), uS_ne (by omega)]; exact n3
    · rw [uS_ne (by omega), uS_ne (by omega)]; exact n4
    · rw [uS_ne (by omega), uS_eq]
    · rw [uS_ne (by omega), uS_ne (by omega)]; exact n6
    · rw [uS_ne (by omega), uS_ne (by omega)]; exact n7
    · rw [uS_ne (by omega), uS_ne (by omega)]; exact n8
end ZC
/-- a run's state is in order -/
def OKS (S : RS) : Prop :=
  (1 ≤ S 88 10 ∧ S 88 10 ≤ 6 ∧ 1 ≤ S 88 11 ∧ S 88 11 ≤ 4 ∧ 1 ≤ S 88 12 ∧ S 88 12 ≤ 9) ∧
  (0 ≤ S 88 23 ∧ 0 ≤ S 88 24 ∧ 0 ≤ S 88 25 ∧ 0 ≤ S 88 26 ∧ S 88 26 ≤ S 88 25 ∧ 0 ≤ S 88 27 ∧ 0 ≤ S 88 28) ∧
  (∀ q, 0 ≤ q → q < 36 → 0 ≤ S 95 q ∧ S 95 q ≤ S 88 12 ∧ ∀ j, 0 ≤ j → j < S 95 q → 0 ≤ S 94 (9 * q + j) ∧ S 94 (9 * q + j) < S 88 25) ∧
  (∀ i, 0 ≤ i → i < 6 → 0 ≤ S 97 i ∧ S 97 i ≤ S 88 12 ∧ ∀ j, 0 ≤ j → j < S 97 i → 0 ≤ S 96 (9 * i + j) ∧ S 96 (9 * i + j) < S 88 25 ∧ S 100 (S 96 (9 * i + j)) = i ∧ 1 ≤ S 106 (S 96 (9 * i + j)) ∧ S 106 (S 96 (9 * i + j)) < 2 ^ (S 88 10).toNat ∧ (1 ≤ j → S 106 (S 96 (9 * i + j)) = S 101 (S 96 (9 * i + j)) ∧ S 96 (9 * i + (j - 1)) < S 96 (9 * i + j))) ∧
  (∀ i, 0 ≤ i → i < 6 → S 99 i = 0 ∨ S 99 i = 1) ∧
  (∀ o, 0 ≤ o → o < S 88 10 → 0 ≤ S 92 o ∧ S 92 o < S 88 10 ∧ 0 ≤ S 93 o ∧ S 93 o < S 88 10) ∧
  (∀ i, S 88 10 ≤ i → i < 6 → S 97 i = 0)
theorem OKS_cell {S : RS} (h : OKS S) {i o alone : Int} (hi : 0 ≤ i ∧ i < S 88 10) (ho : 0 ≤ o ∧ o < S 88 10) : OKS (zCell i o alone S) := by
  obtain ⟨h1, h2, h3, h4, h5, h6, h7⟩ := h
  have c10 := zCell_88 i o alone S 10 (by omega) (by omega)
  have c11 := zCell_88 i o alone S 11 (by omega) (by omega)
  have c12 := zCell_88 i o alone S 12 (by omega) (by omega)
  have c23 := zCell_88 i o alone S 23 (by omega) (by omega)
  have c24 := zCell_88 i o alone S 24 (by omega) (by omega)
  have c25 := zCell_25 i o alone S
  have c26 := zCell_26 i o alone S
  have c27 := zCell_88 i o alone S 27 (by omega) (by omega)
  have c28 := zCell_88 i o alone S 28 (by omega) (by omega)
  refine ⟨by rw [c10, c11, c12]; exact h1, ?_, fun q q0 q1 => ?_, fun k k0 k1 => ?_, fun k k0 k1 => ?_, fun k k0 k1 => ?_, fun k k0 k1 => ?_⟩
  · rw [c23, c24, c25, c26, c27, c28]
    split <;> omega
  · obtain ⟨a1, a2, a3⟩ := h3 q q0 q1
    rw [zCell_95, c12, c25]
    by_cases hc : q = 6 * i + o ∧ S 95 (6 * i + o) < S 88 12
    · rw [if_pos hc]
      refine ⟨by omega, by rw [hc.1]; omega, fun j j0 j1 => ?_⟩
      rw [zCell_94]
      split
      · omega
      · rename_i hn
        have hj : j < S 95 q := by
          rcases Int.lt_or_le j (S 95 q) with z | z
          · exact z
          · exfalso; apply hn; refine ⟨?_, hc.2⟩; rw [hc.1] at j1 z ⊢; omega
        have := a3 j j0 hj
        omega
    · rw [if_neg hc]
      refine ⟨a1, a2, fun j j0 j1 => ?_⟩
      rw [zCell_94]
      split
      · omega
      · have := a3 j j0 j1; omega
  · obtain ⟨a1, a2, a3⟩ := h4 k k0 k1
    rw [zCell_o _ _ _ _ _ _ (by omega), c12, c25, c10]
    refine ⟨a1, a2, fun j j0 j1 => ?_⟩
    obtain ⟨b1, b2, b3, b4, b5, b6⟩ := a3 j j0 j1
    rw [zCell_o _ _ _ _ 96 _ (by omega), zCell_o _ _ _ _ 96 (9 * k + (j - 1)) (by omega), zCell_k _ _ _ _ 100 _ (by omega) (by omega), zCell_k _ _ _ _ 106 _ (by omega) (by omega), zCell_k _ _ _ _ 101 _ (by omega) (by omega)]
    exact ⟨b1, by omega, b3, b4, b5, b6⟩
  · rw [zCell_99]
    split
    · exact Or.inr rfl
    · exact h5 k k0 k1
  · rw [c10] at k1
    rw [zCell_o _ _ _ _ 92 _ (by omega), zCell_o _ _ _ _ 93 _ (by omega), c10]
    exact h6 k k0 k1
  · rw [c10] at k0
    rw [zCell_o _ _ _ _ 97 _ (by omega)]
    exact h7 k k0 k1
theorem OKS_fan {S : RS} (h : OKS S) {i outs : Int} (hi : 0 ≤ i ∧ i < S 88 10) (ho : 1 ≤ outs ∧ outs < 2 ^ (S 88 10).toNat) : OKS (zFan i outs S) := by
  obtain ⟨h1, h2, h3, h4, h5, h6, h7⟩ := h
  have c10 := zFan_88 i S outs 10 (by omega) (by omega)
  have c11 := zFan_88 i S outs 11 (by omega) (by omega)
  have c12 := zFan_88 i S outs 12 (by omega) (by omega)
  have c23 := zFan_88 i S outs 23 (by omega) (by omega)
  have c24 := zFan_88 i S outs 24 (by omega) (by omega)
  have c25 := zFan_25 i S outs
  have c26 := zFan_26 i S outs
  have c27 := zFan_88 i S outs 27 (by omega) (by omega)
  have c28 := zFan_88 i S outs 28 (by omega) (by omega)
  obtain ⟨n0, n1, n2, n3, n4, n5, n6, n7, n8⟩ := zFan_new i S outs
  refine ⟨by rw [c10, c11, c12]; exact h1, ?_, fun q q0 q1 => ?_, fun k k0 k1 => ?_, fun k k0 k1 => ?_, fun k k0 k1 => ?_, fun k k0 k1 => ?_⟩
  · rw [c23, c24, c25, c26, c27, c28]
    split <;> omega
  · obtain ⟨a1, a2, a3⟩ := h3 q q0 q1
    rw [zFan_o _ _ _ _ _ (by omega), c12, c25]
    refine ⟨a1, a2, fun j j0 j1 => ?_⟩
    rw [zFan_o _ _ _ _ _ (by omega)]
    have := a3 j j0 j1
    omega
  · obtain ⟨a1, a2, a3⟩ := h4 k k0 k1
    rw [c12, c25, c10]
    -- what was there
    have old : ∀ j, 0 ≤ j → j < S 97 k → zFan i outs S 96 (9 * k + j) = S 96 (9 * k + j) ∧ zFan i outs S 100 (S 96 (9 * k + j)) = S 100 (S 96 (9 * k + j)) ∧ zFan i outs S 106 (S 96 (9 * k + j)) = S 106 (S 96 (9 * k + j)) ∧ zFan i outs S 101 (S 96 (9 * k + j)) = S 101 (S 96 (9 * k + j)) := by
      intro j j0 j1
      have b := a3 j j0 j1
      refine ⟨?_, zFan_k _ _ _ _ _ (by omega) (by omega), zFan_k _ _ _ _ _ (by omega) (by omega), zFan_k _ _ _ _ _ (by omega) (by omega)⟩
      rw [zFan_96, if_neg]
      intro z
      have hi' := h4 i (by omega) (by omega)
      have hk : k = i := by omega
      subst hk
      omega
    have keep : ∀ j, 0 ≤ j → j < S 97 k → 0 ≤ zFan i outs S 96 (9 * k + j) ∧ zFan i outs S 96 (9 * k + j) < S 88 25 + 1 ∧ zFan i outs S 100 (zFan i outs S 96 (9 * k + j)) = k ∧ 1 ≤ zFan i outs S 106 (zFan i outs S 96 (9 * k + j)) ∧ zFan i outs S 106 (zFan i outs S 96 (9 * k + j)) < 2 ^ (S 88 10).toNat ∧ (1 ≤ j → zFan i outs S 106 (zFan i outs S 96 (9 * k + j)) = zFan i outs S 101 (zFan i outs S 96 (9 * k + j)) ∧ zFan i outs S 96 (9 * k + (j - 1)) < zFan i outs S 96 (9 * k + j)) := by
      intro j j0 j1
      obtain ⟨b1, b2, b3, b4, b5, b6⟩ := a3 j j0 j1
      obtain ⟨o1, o2, o3, o4⟩ := old j j0 j1
      rw [o1, o2, o3, o4]
      refine ⟨b1, by omega, b3, b4, b5, fun e => ⟨(b6 e).1, ?_⟩⟩
      rw [(old (j - 1) (by omega) (by omega)).1]; exact (b6 e).2
    rw [zFan_97]
    by_cases hc : k = i ∧ S 97 i < S 88 12
    · rw [if_pos hc]
      obtain ⟨hk, hr⟩ := hc
      subst hk
      refine ⟨by omega, by omega, fun j j0 j1 => ?_⟩
      by_cases hj : j < S 97 k
      · exact keep j j0 hj
      · have hj' : j = S 97 k := by omega
        subst hj'
        have e9 : zFan k outs S 96 (9 * k + S 97 k) = S 88 25 := by rw [zFan_96, if_pos ⟨rfl, hr⟩]
        rw [e9, n0, n6, n1]
        refine ⟨by omega, by omega, rfl, ho.1, ho.2, fun e => ⟨rfl, ?_⟩⟩
        rw [(old (S 97 k - 1) (by omega) (by omega)).1]
        exact (a3 (S 97 k - 1) (by omega) (by omega)).2.1
    · rw [if_neg hc]
      exact ⟨a1, a2, keep⟩
  · rw [zFan_99]
    split
    · exact Or.inr rfl
    · exact h5 k k0 k1
  · rw [c10] at k1
    rw [zFan_o _ _ _ 92 _ (by omega), zFan_o _ _ _ 93 _ (by omega), c10]
    exact h6 k k0 k1
  · rw [c10] at k0
    rw [zFan_97, if_neg (by omega)]
    exact h7 k k0 k1
