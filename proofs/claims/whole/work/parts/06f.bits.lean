theorem i32_nat (a : Int) : (i32 a).toBitVec.toNat = (a % 4294967296).toNat := by
  show (BitVec.ofInt 32 a).toNat = _
  rw [BitVec.toNat_ofInt]
  rfl
theorem i32_int (x : Int32) (h : x.toBitVec.toNat < 2147483648) : x.toInt = (x.toBitVec.toNat : Int) := by
  show x.toBitVec.toInt = _
  exact BitVec.toInt_eq_toNat_of_lt (by show 2 * x.toBitVec.toNat < 4294967296; omega)
theorem gand_nat (a b : Int) (hb : 0 ≤ b ∧ b < 2147483648) : gand a b = (((a % 4294967296).toNat &&& b.toNat : Nat) : Int) := by
  have h1 : (i32 a &&& i32 b).toBitVec.toNat = (a % 4294967296).toNat &&& b.toNat := by
    rw [Int32.toBitVec_and, BitVec.toNat_and, i32_nat, i32_nat, Int.emod_eq_of_lt hb.1 (by omega)]
  unfold gand
  rw [i32_int _ (by rw [h1]; exact Nat.lt_of_le_of_lt Nat.and_le_right (by omega)), h1]
theorem gand_nat' (a b : Int) (ha : 0 ≤ a ∧ a < 2147483648) : gand a b = ((a.toNat &&& (b % 4294967296).toNat : Nat) : Int) := by
  have h1 : (i32 a &&& i32 b).toBitVec.toNat = a.toNat &&& (b % 4294967296).toNat := by
    rw [Int32.toBitVec_and, BitVec.toNat_and, i32_nat, i32_nat, Int.emod_eq_of_lt ha.1 (by omega)]
  unfold gand
  rw [i32_int _ (by rw [h1]; exact Nat.lt_of_le_of_lt Nat.and_le_left (by omega)), h1]
theorem gor_nat (a b : Int) (ha : 0 ≤ a ∧ a < 2147483648) (hb : 0 ≤ b ∧ b < 2147483648) : gor a b = ((a.toNat ||| b.toNat : Nat) : Int) := by
  have h1 : (i32 a ||| i32 b).toBitVec.toNat = a.toNat ||| b.toNat := by
    rw [Int32.toBitVec_or, BitVec.toNat_or, i32_nat, i32_nat, Int.emod_eq_of_lt ha.1 (by omega), Int.emod_eq_of_lt hb.1 (by omega)]
  unfold gor
  rw [i32_int _ (by rw [h1]; exact Nat.or_lt_two_pow (n := 31) (by omega) (by omega)), h1]
theorem gand_255 (a : Int) : gand a 255 = a % 256 := by
  rw [gand_nat a 255 (by decide)]
  have h : (a % 4294967296).toNat &&& (255 : Int).toNat = (a % 4294967296).toNat % 2 ^ 8 := Nat.and_two_pow_sub_one_eq_mod _ 8
  rw [h]
  omega
theorem gand_1 (a : Int) : gand a 1 = a % 2 := by
  rw [gand_nat a 1 (by decide)]
  have h : (a % 4294967296).toNat &&& (1 : Int).toNat = (a % 4294967296).toNat % 2 ^ 1 := Nat.and_two_pow_sub_one_eq_mod _ 1
  rw [h]
  omega
theorem gand_7 (a : Int) : gand a 7 = a % 8 := by
  rw [gand_nat a 7 (by decide)]
  have h : (a % 4294967296).toNat &&& (7 : Int).toNat = (a % 4294967296).toNat % 2 ^ 3 := Nat.and_two_pow_sub_one_eq_mod _ 3
  rw [h]
  omega
theorem gxor_m1 (a : Int) (ha : gR a) : gxor a (-1) = -a - 1 := by
  unfold gxor
  rw [show i32 (-1) = -1 by decide, Int32.xor_neg_one, Int32.toInt_not, i32_toInt ha, Int.bmod_def]
  obtain ⟨h1, h2⟩ := ha
  split <;> omega
theorem sh_amt : ∀ k : Nat, k < 32 → ((i32 (k : Int) &&& 31).toBitVec.smod 32).toNat = k := by decide +kernel
theorem sh_amt' (k : Int) (hk : 0 ≤ k ∧ k < 32) : ((i32 k &&& 31).toBitVec.smod 32).toNat = k.toNat := by
  have h := sh_amt k.toNat (by omega)
  rw [show ((k.toNat : Nat) : Int) = k by omega] at h
  exact h
theorem gshr_eq (a k : Int) (ha : gR a) (hk : 0 ≤ k ∧ k < 32) : gshr a k = a / 2 ^ k.toNat := by
  show (BitVec.sshiftRight' (i32 a).toBitVec ((i32 k &&& 31).toBitVec.smod 32)).toInt = _
  rw [BitVec.toInt_sshiftRight', sh_amt' k hk]
  show (i32 a).toInt >>> k.toNat = _
  rw [i32_toInt ha, Int.shiftRight_eq_div_pow]
  rfl
theorem gshl_eq (a k : Int) (hk : 0 ≤ k ∧ k < 32) (ha : 0 ≤ a) (h : a * 2 ^ k.toNat < 2147483648) : gshl a k = a * 2 ^ k.toNat := by
  have h00 : (0 : Int) < 2 ^ k.toNat := Int.pow_pos (by decide)
  have h0 : (1 : Int) ≤ 2 ^ k.toNat := by omega
  have h1 : a ≤ a * 2 ^ k.toNat := by
    have := Int.mul_le_mul_of_nonneg_left h0 ha
    omega
  have hr : gR a := ⟨by omega, by omega⟩
  show ((i32 a).toBitVec <<< ((i32 k &&& 31).toBitVec.smod 32)).toInt = _
  rw [BitVec.shiftLeft_eq', BitVec.toInt_shiftLeft, sh_amt' k hk, i32_nat, Int.emod_eq_of_lt ha (by omega), Nat.shiftLeft_eq]
  have h2 : (((a.toNat * 2 ^ k.toNat : Nat)) : Int) = a * 2 ^ k.toNat := by
    rw [Int.natCast_mul, Int.toNat_of_nonneg ha, Int.natCast_pow]
    rfl
  rw [h2, Int.bmod_def]
  have h3 : 0 ≤ a * 2 ^ k.toNat := by omega
  generalize a * 2 ^ k.toNat = z at *
  rw [Int.emod_eq_of_lt h3 (by omega), if_pos (by omega)]
theorem gi2b_mod (y : Int) : gi2b y % 256 = y % 256 := by
  unfold gi2b
  rw [Int8.toInt_toInt32, Int32.toInt_toInt8]
  show (Int32.ofInt y).toInt.bmod (2 ^ 8) % 256 = _
  rw [Int32.toInt_ofInt]
  show (y.bmod 4294967296).bmod 256 % 256 = _
  rw [Int.bmod_def, Int.bmod_def]
  split <;> split <;> omega
theorem pow2_6 : ∀ k : Int, 0 ≤ k → k < 6 → (2 : Int) ^ k.toNat = if k = 0 then 1 else if k = 1 then 2 else if k = 2 then 4 else if k = 3 then 8 else if k = 4 then 16 else 32 := by
  intro k h0 h1
  have : k = 0 ∨ k = 1 ∨ k = 2 ∨ k = 3 ∨ k = 4 ∨ k = 5 := by omega
  rcases this with rfl | rfl | rfl | rfl | rfl | rfl <;> rfl
