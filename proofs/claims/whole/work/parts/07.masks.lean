/-- sets as bits -/
def tb (m k : Int) : Bool := m.toNat.testBit k.toNat
theorem tb_eq (m k : Int) (hm : 0 ≤ m ∧ m < 2147483648) (hk : 0 ≤ k ∧ k < 32) : gand (gshr m k) 1 = if tb m k = true then 1 else 0 := by
  rw [gand_1, gshr_eq m k ⟨by omega, by omega⟩ hk]
  unfold tb
  rw [Nat.testBit_eq_decide_div_mod_eq]
  have h : m / 2 ^ k.toNat = ((m.toNat / 2 ^ k.toNat : Nat) : Int) := by
    rw [Int.natCast_ediv, Int.toNat_of_nonneg hm.1, Int.natCast_pow]
    rfl
  rw [h]
  generalize m.toNat / 2 ^ k.toNat = z
  by_cases hz : z % 2 = 1
  · simp only [hz, decide_true, if_true]; omega
  · simp only [hz, decide_false]; rw [if_neg (by decide)]; omega
theorem pow2_lt (k : Int) (hk : 0 ≤ k ∧ k < 31) : (2 : Int) ^ k.toNat < 2147483648 ∧ 0 < (2 : Int) ^ k.toNat := by
  have h1 : ∀ n : Nat, n < 31 → (2 : Int) ^ n < 2147483648 ∧ 0 < (2 : Int) ^ n := by decide
  exact h1 k.toNat (by omega)
theorem gshl_1 (k : Int) (hk : 0 ≤ k ∧ k < 31) : gshl 1 k = 2 ^ k.toNat := by
  rw [gshl_eq 1 k (by omega) (by decide) (by rw [Int.one_mul]; exact (pow2_lt k hk).1), Int.one_mul]
theorem pow2_nat (k : Int) : ((2 : Int) ^ k.toNat).toNat = 2 ^ k.toNat := by
  have : (2 : Int) ^ k.toNat = ((2 ^ k.toNat : Nat) : Int) := by rw [Int.natCast_pow]; rfl
  rw [this, Int.toNat_natCast]
theorem tb_and (a b k : Int) (hb : 0 ≤ b ∧ b < 2147483648) (ha : 0 ≤ a ∧ a < 2147483648) : tb (gand a b) k = (tb a k && tb b k) := by
  rw [gand_nat a b hb, Int.emod_eq_of_lt ha.1 (by omega)]
  unfold tb
  rw [Int.toNat_natCast, Nat.testBit_and]
theorem tb_or (a b k : Int) (ha : 0 ≤ a ∧ a < 2147483648) (hb : 0 ≤ b ∧ b < 2147483648) : tb (gor a b) k = (tb a k || tb b k) := by
  rw [gor_nat a b ha hb]
  unfold tb
  rw [Int.toNat_natCast, Nat.testBit_or]
theorem tb_pow (i k : Int) (hi : 0 ≤ i ∧ i < 31) (hk : 0 ≤ k) : tb (2 ^ i.toNat) k = decide (i = k) := by
  unfold tb
  rw [pow2_nat, Nat.testBit_two_pow]
  by_cases h : i = k
  · subst h; simp
  · have : ¬ i.toNat = k.toNat := by omega
    simp [this, h]
theorem gand_r (a b : Int) (ha : 0 ≤ a ∧ a < 64) : 0 ≤ gand a b ∧ gand a b < 64 := by
  rw [gand_nat' a b (by omega)]
  have := Nat.and_le_left (n := a.toNat) (m := (b % 4294967296).toNat)
  omega
theorem gand_r' (a b : Int) (hb : 0 ≤ b ∧ b < 64) : 0 ≤ gand a b ∧ gand a b < 64 := by
  rw [gand_nat a b (by omega)]
  have := Nat.and_le_right (n := (a % 4294967296).toNat) (m := b.toNat)
  omega
theorem gor_r (a b : Int) (ha : 0 ≤ a ∧ a < 64) (hb : 0 ≤ b ∧ b < 64) : 0 ≤ gor a b ∧ gor a b < 64 := by
  rw [gor_nat a b (by omega) (by omega)]
  have := Nat.or_lt_two_pow (n := 6) (x := a.toNat) (y := b.toNat) (by omega) (by omega)
  omega
/-- bits taken away -/
theorem tb_clear (m s k : Int) (hm : 0 ≤ m ∧ m < 2147483648) (hs : 0 ≤ s ∧ s < 2147483648) (hk : 0 ≤ k ∧ k < 32) : tb (gand m (gxor s (-1))) k = (tb m k && !tb s k) := by
  rw [gxor_m1 s ⟨by omega, by omega⟩, gand_nat' m _ hm]
  unfold tb
  rw [Int.toNat_natCast, Nat.testBit_and]
  have h : ((-s - 1) % 4294967296).toNat = 2 ^ 32 - (s.toNat + 1) := by omega
  rw [h, Nat.testBit_two_pow_sub_succ (by omega)]
  have : k.toNat < 32 := by omega
  simp [this]
theorem pow6 (i : Int) (hi : 0 ≤ i ∧ i < 6) : 0 ≤ (2 : Int) ^ i.toNat ∧ (2 : Int) ^ i.toNat < 64 := by
  have h1 : ∀ n : Nat, n < 6 → 0 ≤ (2 : Int) ^ n ∧ (2 : Int) ^ n < 64 := by decide
  exact h1 i.toNat (by omega)
/-- a set of numbers below 6 -/
def isM (m : Int) (p : Int → Bool) : Prop := 0 ≤ m ∧ m < 64 ∧ ∀ k, 0 ≤ k → k < 6 → tb m k = p k
theorem isM_clear {m : Int} {p : Int → Bool} (h : isM m p) (i : Int) (hi : 0 ≤ i ∧ i < 6) : isM (gand m (gxor (gshl 1 i) (-1))) (fun k => p k && !decide (i = k)) := by
  obtain ⟨h0, h1, h2⟩ := h
  have h3 := pow6 i hi
  rw [gshl_1 i (by omega)]
  have h4 := gand_r m (gxor (2 ^ i.toNat) (-1)) ⟨h0, h1⟩
  refine ⟨h4.1, h4.2, fun k k0 k1 => ?_⟩
  rw [tb_clear m _ k (by omega) (by omega) (by omega), h2 k k0 k1, tb_pow i k (by omega) k0]
theorem isM_set {m : Int} {p : Int → Bool} (h : isM m p) (i : Int) (hi : 0 ≤ i ∧ i < 6) : isM (gor m (gshl 1 i)) (fun k => p k || decide (i = k)) := by
  obtain ⟨h0, h1, h2⟩ := h
  have h3 := pow6 i hi
  rw [gshl_1 i (by omega)]
  have h4 := gor_r m (2 ^ i.toNat) ⟨h0, h1⟩ h3
  refine ⟨h4.1, h4.2, fun k k0 k1 => ?_⟩
  rw [tb_or m _ k (by omega) (by omega), h2 k k0 k1, tb_pow i k (by omega) k0]
theorem isM_and {m n : Int} {p q : Int → Bool} (h : isM m p) (k : isM n q) : isM (gand m n) (fun i => p i && q i) := by
  obtain ⟨h0, h1, h2⟩ := h
  obtain ⟨k0, k1, k2⟩ := k
  have h4 := gand_r m n ⟨h0, h1⟩
  refine ⟨h4.1, h4.2, fun i i0 i1 => ?_⟩
  rw [tb_and m n i (by omega) (by omega), h2 i i0 i1, k2 i i0 i1]
theorem isM_congr {m : Int} {p q : Int → Bool} (h : isM m p) (e : ∀ k, 0 ≤ k → k < 6 → p k = q k) : isM m q := ⟨h.1, h.2.1, fun k k0 k1 => (h.2.2 k k0 k1).trans (e k k0 k1)⟩
theorem isM_0 : isM 0 (fun _ => false) := ⟨by decide, by decide, fun k _ _ => by unfold tb; exact Nat.zero_testBit _⟩
theorem isM_zero {m : Int} {p : Int → Bool} (h : isM m p) : m = 0 ↔ ∀ k, 0 ≤ k → k < 6 → p k = false := by
  obtain ⟨h0, h1, h2⟩ := h
  constructor
  · intro e k k0 k1
    rw [← h2 k k0 k1, e]
    unfold tb; exact Nat.zero_testBit _
  · intro hp
    have hz : m.toNat = 0 := by
      apply Nat.eq_of_testBit_eq
      intro i
      rw [Nat.zero_testBit]
      by_cases hi : i < 6
      · have := h2 i (by omega) (by omega)
        rw [hp i (by omega) (by omega)] at this
        unfold tb at this
        simpa using this
      · exact Nat.testBit_lt_two_pow (Nat.lt_of_lt_of_le (show m.toNat < 2 ^ 6 by omega) (Nat.pow_le_pow_right (by decide) (by omega)))
    omega
theorem isM_full (P : Int) (hP : 1 ≤ P ∧ P ≤ 6) : isM (gshl 1 P - 1) (fun k => decide (k < P)) := by
  rw [gshl_1 P (by omega)]
  have : P = 1 ∨ P = 2 ∨ P = 3 ∨ P = 4 ∨ P = 5 ∨ P = 6 := by omega
  have h6 : ∀ k : Int, 0 ≤ k → k < 6 → k = 0 ∨ k = 1 ∨ k = 2 ∨ k = 3 ∨ k = 4 ∨ k = 5 := by omega
  rcases this with rfl | rfl | rfl | rfl | rfl | rfl <;> (refine ⟨by decide, by decide, fun k k0 k1 => ?_⟩; rcases h6 k k0 k1 with rfl | rfl | rfl | rfl | rfl | rfl <;> decide)
theorem isM_unique {m n : Int} {p : Int → Bool} (h : isM m p) (k : isM n p) : m = n := by
  have : m.toNat = n.toNat := by
    apply Nat.eq_of_testBit_eq
    intro i
    by_cases hi : i < 6
    · have h1 := h.2.2 i (by omega) (by omega)
      have h2 := k.2.2 i (by omega) (by omega)
      unfold tb at h1 h2
      rw [← h2] at h1
      simpa using h1
    · have a1 := h.1; have a2 := h.2.1; have b1 := k.1; have b2 := k.2.1
      rw [Nat.testBit_lt_two_pow (Nat.lt_of_lt_of_le (show m.toNat < 2 ^ 6 by omega) (Nat.pow_le_pow_right (by decide) (by omega))), Nat.testBit_lt_two_pow (Nat.lt_of_lt_of_le (show n.toNat < 2 ^ 6 by omega) (Nat.pow_le_pow_right (by decide) (by omega)))]
  have a1 := h.1; have b1 := k.1
  omega
